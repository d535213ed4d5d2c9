theorem cmp_self {v : Int} (h : j64 v) : lg_cmp (Int64.ofInt v) (Int64.ofInt v) = 0 := by
  rw [o_cmp h h]
  unfold jcmp
  rw [if_neg (Int.lt_irrefl v), if_pos rfl]
  rfl
/-- the five ints of a line are there -/
def vp5 (x4 : Int32) (L : Nat) : Prop := vp_in x4 L ∧ vp_in (x4 + 1) L ∧ vp_in (x4 + 2) L ∧ vp_in (x4 + 3) L ∧ vp_in (x4 + 4) L
section LC
variable {p : Program} {l : Launch} {e : Env} {s : State} {m : MethodId} {below : List Frame} {meth : Method} {c : Code} {Q : State → Prop} {D : va_G} {cA : Nat → ClassId} {ad : Nat → Nat} {b L : Nat} {xs : Nat → Int32} {x4 : Int32} {H : Heap} {locs : List Loc} {cells slots : Nat} {ls : Array Slot} {μ : jM}
set_option maxHeartbeats 1000000 in
theorem lc_sign (C : LCx p l s m c b L xs D cA ad) (hin : vp5 x4 L) (hs : LSt s b D cA ad μ H locs ls x4) (hcs1 : cells + 1 ≤ 601024 ∧ slots + 6 ≤ 7293034) (kk : ∀ (μ2 : jM) (H2 : Heap) (locs2 : List Loc) (ls2 : Array Slot), LSt s b D cA ad μ2 H2 locs2 ls2 x4 → W p l e room_1 s m #[Value.ref b] below meth c H2 locs2 (cells + 1) (slots + 6) Q (F0 m 1690 ls2 [])) : W p l e room_1 s m #[Value.ref b] below meth c H locs cells slots Q (F0 m 244 ls []) := by
  obtain ⟨hSI, hM, hP, hS, hl⟩ := hs
  have hcs : cells ≤ 601024 ∧ slots ≤ 7293034 := by omega
  have hx := C.1
  have hb := C.2.1
  have hl : lv_has ls 7 [(0, .ref b), (1, .ref (ad 0)), (2, .ref (ad 69)), (3, .ref (ad 99)), (4, .int x4)] := hl
  obtain ⟨a1, ha1, ja1⟩ : ∃ a : Int, xs (x4 + 1).toNatClampNeg = Int32.ofInt a ∧ j32 a := ⟨_, (o_t _).symm, o_r32 _⟩
  obtain ⟨v, μ1, μ2, e1, e2, hSI2⟩ := s_sign 998 999 hSI a1 ja1
  refine lv_aload_n hx hb dL_law_244 rfl (lv_at hl 1 rfl) ?_
  refine l_arg C hS hl 0 4 rfl rfl dL_law_245 dL_law_246 dL_law_248 dL_law_249 dL_law_250 rfl hin.2.1 ha1 ?_
  refine l_call C (k := 0) (ci := 11) (r := (RX11, TX11, 16)) (as := [jI a1]) (rest := []) (o := (some (some (jI v)), μ1)) jq_X11_sign rfl dL_law_251 kz_432 e1 (fun z => by cases z) rfl rfl rfl rfl (jokS_c (v := jR 0) (show 0 < 100 by decide) (jokS_c ja1 jokS_n)) hM hP hS hl.1 (Nat.le_of_ble_eq_true rfl) hcs (fun H1 locs1 hok1 hP1 hS => ?_)
  refine lv_aload_n hx hb dL_law_254 rfl (lv_at hl 2 rfl) ?_
  refine l_arg C hS hl 0 4 rfl rfl dL_law_255 dL_law_256 dL_law_258 dL_law_259 dL_law_260 rfl hin.2.1 ha1 ?_
  refine l_call C (k := 69) (ci := 12) (r := (RX12, TX12, 53)) (as := [jI a1]) (rest := [jI v]) (o := (some (some (jI v)), μ2)) jq_X12_sign rfl dL_law_261 kz_1597 e2 (fun z => by cases z) rfl rfl rfl rfl (jokS_c (v := jR 69) (show 69 < 100 by decide) (jokS_c ja1 jokS_n)) hok1.1 hP1 hS hl.1 (Nat.le_of_ble_eq_true rfl) hcs (fun H2 locs2 hok2 hP2 hS => ?_)
  refine lv_icmp_eq (tgt := 1690) hx hb dL_law_264 (by decide) (fun _ => ?_) (fun z => absurd rfl z)
  exact W.widen (k := cells + 1) (n := slots + 6) (Nat.le_succ _) (Nat.le_add_right _ _) (kk μ2 H2 locs2 ls ⟨hSI2, hok2.1, hP2, hS, hl⟩)
set_option maxHeartbeats 1000000 in
theorem lc_end (C : LCx p l s m c b L xs D cA ad) (hin : vp5 x4 L) (hs : LSt s b D cA ad μ H locs ls x4) (hcs1 : cells + 1 ≤ 601024 ∧ slots + 6 ≤ 7293034) (kk : ∀ (μ2 : jM) (H2 : Heap) (locs2 : List Loc) (ls2 : Array Slot), LSt s b D cA ad μ2 H2 locs2 ls2 x4 → W p l e room_1 s m #[Value.ref b] below meth c H2 locs2 (cells + 1) (slots + 6) Q (F0 m 1690 ls2 [])) : W p l e room_1 s m #[Value.ref b] below meth c H locs cells slots Q (F0 m 269 ls []) := by
  obtain ⟨hSI, hM, hP, hS, hl⟩ := hs
  have hcs : cells ≤ 601024 ∧ slots ≤ 7293034 := by omega
  have hx := C.1
  have hb := C.2.1
  have hl : lv_has ls 7 [(0, .ref b), (1, .ref (ad 0)), (2, .ref (ad 69)), (3, .ref (ad 99)), (4, .int x4)] := hl
  obtain ⟨a1, ha1, ja1⟩ : ∃ a : Int, xs (x4 + 1).toNatClampNeg = Int32.ofInt a ∧ j32 a := ⟨_, (o_t _).symm, o_r32 _⟩
  obtain ⟨v, μ1, μ2, e1, e2, hSI2⟩ := s_end 998 998 hSI a1
  refine lv_aload_n hx hb dL_law_269 rfl (lv_at hl 1 rfl) ?_
  refine l_arg C hS hl 0 4 rfl rfl dL_law_270 dL_law_271 dL_law_273 dL_law_274 dL_law_275 rfl hin.2.1 ha1 ?_
  refine l_call C (k := 0) (ci := 11) (r := (RX11, TX11, 16)) (as := [jI a1]) (rest := []) (o := (some (some (jI v)), μ1)) jq_X11_end rfl dL_law_276 kz_444 e1 (fun z => by cases z) rfl rfl rfl rfl (jokS_c (v := jR 0) (show 0 < 100 by decide) (jokS_c ja1 jokS_n)) hM hP hS hl.1 (Nat.le_of_ble_eq_true rfl) hcs (fun H1 locs1 hok1 hP1 hS => ?_)
  refine lv_aload_n hx hb dL_law_279 rfl (lv_at hl 2 rfl) ?_
  refine l_arg C hS hl 0 4 rfl rfl dL_law_280 dL_law_281 dL_law_283 dL_law_284 dL_law_285 rfl hin.2.1 ha1 ?_
  refine l_call C (k := 69) (ci := 12) (r := (RX12, TX12, 53)) (as := [jI a1]) (rest := [jI v]) (o := (some (some (jI v)), μ2)) jq_X12_end rfl dL_law_286 kz_1601 e2 (fun z => by cases z) rfl rfl rfl rfl (jokS_c (v := jR 69) (show 69 < 100 by decide) (jokS_c ja1 jokS_n)) hok1.1 hP1 hS hl.1 (Nat.le_of_ble_eq_true rfl) hcs (fun H2 locs2 hok2 hP2 hS => ?_)
  refine lv_icmp_eq (tgt := 1690) hx hb dL_law_289 (by decide) (fun _ => ?_) (fun z => absurd rfl z)
  exact W.widen (k := cells + 1) (n := slots + 6) (Nat.le_succ _) (Nat.le_add_right _ _) (kk μ2 H2 locs2 ls ⟨hSI2, hok2.1, hP2, hS, hl⟩)
set_option maxHeartbeats 1000000 in
theorem lc_kitchen (C : LCx p l s m c b L xs D cA ad) (hin : vp5 x4 L) (hs : LSt s b D cA ad μ H locs ls x4) (hcs1 : cells + 1 ≤ 601024 ∧ slots + 6 ≤ 7293034) (kk : ∀ (μ2 : jM) (H2 : Heap) (locs2 : List Loc) (ls2 : Array Slot), LSt s b D cA ad μ2 H2 locs2 ls2 x4 → W p l e room_1 s m #[Value.ref b] below meth c H2 locs2 (cells + 1) (slots + 6) Q (F0 m 1690 ls2 [])) : W p l e room_1 s m #[Value.ref b] below meth c H locs cells slots Q (F0 m 294 ls []) := by
  obtain ⟨hSI, hM, hP, hS, hl⟩ := hs
  have hcs : cells ≤ 601024 ∧ slots ≤ 7293034 := by omega
  have hx := C.1
  have hb := C.2.1
  have hl : lv_has ls 7 [(0, .ref b), (1, .ref (ad 0)), (2, .ref (ad 69)), (3, .ref (ad 99)), (4, .int x4)] := hl
  obtain ⟨v, μ1, μ2, e1, e2, hSI2⟩ := s_kitchen 994 995 hSI 
  refine lv_aload_n hx hb dL_law_294 rfl (lv_at hl 1 rfl) ?_
  refine l_call C (k := 0) (ci := 11) (r := (RX11, TX11, 16)) (as := []) (rest := []) (o := (some (some (jI v)), μ1)) jq_X11_kitchen rfl dL_law_295 kz_452 e1 (fun z => by cases z) rfl rfl rfl rfl (jokS_c (v := jR 0) (show 0 < 100 by decide) jokS_n) hM hP hS hl.1 (Nat.le_of_ble_eq_true rfl) hcs (fun H1 locs1 hok1 hP1 hS => ?_)
  refine lv_aload_n hx hb dL_law_298 rfl (lv_at hl 2 rfl) ?_
  refine l_call C (k := 69) (ci := 12) (r := (RX12, TX12, 53)) (as := []) (rest := [jI v]) (o := (some (some (jI v)), μ2)) jq_X12_kitchen rfl dL_law_299 kz_1608 e2 (fun z => by cases z) rfl rfl rfl rfl (jokS_c (v := jR 69) (show 69 < 100 by decide) jokS_n) hok1.1 hP1 hS hl.1 (Nat.le_of_ble_eq_true rfl) hcs (fun H2 locs2 hok2 hP2 hS => ?_)
  refine lv_icmp_eq (tgt := 1690) hx hb dL_law_302 (by decide) (fun _ => ?_) (fun z => absurd rfl z)
  exact W.widen (k := cells + 1) (n := slots + 6) (Nat.le_succ _) (Nat.le_add_right _ _) (kk μ2 H2 locs2 ls ⟨hSI2, hok2.1, hP2, hS, hl⟩)
set_option maxHeartbeats 1000000 in
theorem lc_rule (C : LCx p l s m c b L xs D cA ad) (hin : vp5 x4 L) (hs : LSt s b D cA ad μ H locs ls x4) (hcs1 : cells + 1 ≤ 601024 ∧ slots + 6 ≤ 7293034) (kk : ∀ (μ2 : jM) (H2 : Heap) (locs2 : List Loc) (ls2 : Array Slot), LSt s b D cA ad μ2 H2 locs2 ls2 x4 → W p l e room_1 s m #[Value.ref b] below meth c H2 locs2 (cells + 1) (slots + 6) Q (F0 m 1690 ls2 [])) : W p l e room_1 s m #[Value.ref b] below meth c H locs cells slots Q (F0 m 307 ls []) := by
  obtain ⟨hSI, hM, hP, hS, hl⟩ := hs
  have hcs : cells ≤ 601024 ∧ slots ≤ 7293034 := by omega
  have hx := C.1
  have hb := C.2.1
  have hl : lv_has ls 7 [(0, .ref b), (1, .ref (ad 0)), (2, .ref (ad 69)), (3, .ref (ad 99)), (4, .int x4)] := hl
  obtain ⟨v, μ1, μ2, e1, e2, hSI2⟩ := s_rule 958 750 hSI 
  refine lv_aload_n hx hb dL_law_307 rfl (lv_at hl 1 rfl) ?_
  refine l_call C (k := 0) (ci := 11) (r := (RX11, TX11, 16)) (as := []) (rest := []) (o := (some (some (jI v)), μ1)) jq_X11_rule rfl dL_law_308 kz_514 e1 (fun z => by cases z) rfl rfl rfl rfl (jokS_c (v := jR 0) (show 0 < 100 by decide) jokS_n) hM hP hS hl.1 (Nat.le_of_ble_eq_true rfl) hcs (fun H1 locs1 hok1 hP1 hS => ?_)
  refine lv_aload_n hx hb dL_law_311 rfl (lv_at hl 2 rfl) ?_
  refine l_call C (k := 69) (ci := 12) (r := (RX12, TX12, 53)) (as := []) (rest := [jI v]) (o := (some (some (jI v)), μ2)) jq_X12_rule rfl dL_law_312 kz_1644 e2 (fun z => by cases z) rfl rfl rfl rfl (jokS_c (v := jR 69) (show 69 < 100 by decide) jokS_n) hok1.1 hP1 hS hl.1 (Nat.le_of_ble_eq_true rfl) hcs (fun H2 locs2 hok2 hP2 hS => ?_)
  refine lv_icmp_eq (tgt := 1690) hx hb dL_law_315 (by decide) (fun _ => ?_) (fun z => absurd rfl z)
  exact W.widen (k := cells + 1) (n := slots + 6) (Nat.le_succ _) (Nat.le_add_right _ _) (kk μ2 H2 locs2 ls ⟨hSI2, hok2.1, hP2, hS, hl⟩)
set_option maxHeartbeats 1000000 in
theorem lc_dish (C : LCx p l s m c b L xs D cA ad) (hin : vp5 x4 L) (hs : LSt s b D cA ad μ H locs ls x4) (hcs1 : cells + 1 ≤ 601024 ∧ slots + 6 ≤ 7293034) (kk : ∀ (μ2 : jM) (H2 : Heap) (locs2 : List Loc) (ls2 : Array Slot), LSt s b D cA ad μ2 H2 locs2 ls2 x4 → W p l e room_1 s m #[Value.ref b] below meth c H2 locs2 (cells + 1) (slots + 6) Q (F0 m 1690 ls2 [])) : W p l e room_1 s m #[Value.ref b] below meth c H locs cells slots Q (F0 m 320 ls []) := by
  obtain ⟨hSI, hM, hP, hS, hl⟩ := hs
  have hcs : cells ≤ 601024 ∧ slots ≤ 7293034 := by omega
  have hx := C.1
  have hb := C.2.1
  have hl : lv_has ls 7 [(0, .ref b), (1, .ref (ad 0)), (2, .ref (ad 69)), (3, .ref (ad 99)), (4, .int x4)] := hl
  obtain ⟨a1, ha1, ja1⟩ : ∃ a : Int, xs (x4 + 1).toNatClampNeg = Int32.ofInt a ∧ j32 a := ⟨_, (o_t _).symm, o_r32 _⟩
  obtain ⟨a2, ha2, ja2⟩ : ∃ a : Int, xs (x4 + 2).toNatClampNeg = Int32.ofInt a ∧ j32 a := ⟨_, (o_t _).symm, o_r32 _⟩
  have hinj := C.2.2.2.2.2.2.1
  have htr := C.2.2.2.2.2.2.2.2.2.2.1
  refine lv_aload_n hx hb dL_law_320 rfl (lv_at hl 1 rfl) ?_
  refine l_arg C hS hl 0 4 rfl rfl dL_law_321 dL_law_322 dL_law_324 dL_law_325 dL_law_326 rfl hin.2.1 ha1 ?_
  refine l_arg C hS hl 0 4 rfl rfl dL_law_327 dL_law_328 dL_law_330 dL_law_331 dL_law_332 rfl hin.2.2.1 ha2 ?_
  refine lv_aload_n hx hb dL_law_333 rfl (lv_at hl 3 rfl) ?_
  rcases t_dish 995 748 hSI a1 a2 with ⟨v, μ1, μ2, e1, e2, z0, z9, hSI2⟩ | ⟨v, μ2, e1, e2, z0, hSI2⟩
  · refine l_help (As := [.ref (ad 0), .int (Int32.ofInt a1), .int (Int32.ofInt a2), .ref (ad 99)]) (rest := []) (n := 4) (hd := 0) C (hx_dish l htr D cA ad hinj 1000 (by decide) (μ2 := jup μ1 99 0 v) (o := (some (some (jI v)), μ1)) (r := 0) e1 ja1 ja2 hM (Or.inr ⟨v, rfl, rfl, rfl⟩)) kc_dish kz_104 kz_1326 kz_1327 ⟨by decide, by decide, by decide +kernel⟩ (by decide) rfl hl.1 (by decide) dL_law_334 hP hS hcs1 (fun H1 locs1 hM1 hP1 hS => ?_)
    refine lv_istore (lv' := [(5, .int (Int32.ofInt 0)), (0, .ref b), (1, .ref (ad 0)), (2, .ref (ad 69)), (3, .ref (ad 99)), (4, .int x4)]) hx hb dL_law_337 hl (by decide) rfl (fun ls hl => ?_)
    refine lv_aload_n hx hb dL_law_339 rfl (lv_at hl 3 rfl) ?_
    refine l_arg C hS hl 1 5 rfl rfl dL_law_340 dL_law_341 dL_law_343 dL_law_344 dL_law_345 rfl hin.2.1 ha1 ?_
    refine l_arg C hS hl 1 5 rfl rfl dL_law_346 dL_law_347 dL_law_349 dL_law_350 dL_law_351 rfl hin.2.2.1 ha2 ?_
    refine l_call C (k := 69) (ci := 12) (r := (RX12, TX12, 53)) (as := [jI a1, jI a2]) (rest := []) (o := (some (some (jI v)), μ2)) jq_X12_dish rfl dL_law_352 kz_1669 e2 (fun z => by cases z) rfl rfl rfl rfl (jokS_c (v := jR 69) (show 69 < 100 by decide) (jokS_c ja1 (jokS_c ja2 jokS_n))) hM1 hP1 hS hl.1 (Nat.le_of_ble_eq_true rfl) hcs1 (fun H2 locs2 hok2 hP2 hS => ?_)
    refine lv_istore (lv' := [(6, .int (Int32.ofInt v)), (5, .int (Int32.ofInt 0)), (0, .ref b), (1, .ref (ad 0)), (2, .ref (ad 69)), (3, .ref (ad 99)), (4, .int x4)]) hx hb dL_law_355 hl (by decide) rfl (fun ls hl => ?_)
    refine lv_aload_n hx hb dL_law_357 rfl (lv_at hl 4 rfl) ?_
    have e3 : CL 1000 205 [jR 69] μ2 = some (some (some (jI 0)), μ2) := by
      have h9 := e_X12_thrown 999 μ2
      rw [z0] at h9
      exact h9
    refine l_call C (k := 69) (ci := 12) (r := (RX12, TX12, 53)) (as := []) (rest := []) (o := (some (some (jI 0)), μ2)) jq_X12_thrown rfl dL_law_358 kz_1593 e3 (fun z => by cases z) rfl rfl rfl rfl (jokS_c (v := jR 69) (show 69 < 100 by decide) jokS_n) hok2.1 hP2 hS hl.1 (Nat.le_of_ble_eq_true rfl) hcs1 (fun H3 locs3 hok3 hP3 hS => ?_)
    refine lv_iload hx hb dL_law_361 (lv_at hl 1 rfl) ?_
    refine lv_icmp_eq (tgt := 368) hx hb dL_law_363 (by decide) (fun _ => ?_) (fun z => absurd rfl z)
    refine lv_iload hx hb dL_law_368 (lv_at hl 1 rfl) ?_
    refine lv_if_ne (tgt := 385) hx hb dL_law_370 (by decide) (fun z => absurd (by decide) z) (fun _ => ?_)
    refine lv_aload_n hx hb dL_law_373 rfl (lv_at hl 5 rfl) ?_
    refine lv_iconst (v := Int32.ofInt 0) hx hb dL_law_374 (by decide) ?_
    refine l_out (μ := μ2) C hP3 dL_law_375 ?_
    rw [z9]
    refine lv_iload hx hb dL_law_376 (lv_at hl 0 rfl) ?_
    refine lv_i2l (x := Int32.ofInt v) hx hb dL_law_378 (o_i2l (hok2.2 _ rfl)) ?_
    refine W.lcmp (x := Int64.ofInt v) (y := Int64.ofInt v) (rest := []) hx hb dL_law_379 ?_
    refine lv_if_eq (tgt := 385) hx hb dL_law_380 (by decide) (fun _ => ?_) (fun z => absurd (cmp_self (j64_32 (hok2.2 _ rfl))) z)
    refine lv_goto (tgt := 1690) hx hb dL_law_385 (by decide) ?_
    exact kk μ2 H3 locs3 ls ⟨hSI2, hok3.1, hP3, hS, lv_sub hl [2, 3, 4, 5, 6] rfl⟩
  · refine l_help (As := [.ref (ad 0), .int (Int32.ofInt a1), .int (Int32.ofInt a2), .ref (ad 99)]) (rest := []) (n := 4) (hd := 0) C (hx_dish l htr D cA ad hinj 1000 (by decide) (μ2 := μ) (o := (none, μ)) (r := 1) e1 ja1 ja2 hM (Or.inl ⟨rfl, rfl, rfl⟩)) kc_dish kz_104 kz_1326 kz_1327 ⟨by decide, by decide, by decide +kernel⟩ (by decide) rfl hl.1 (by decide) dL_law_334 hP hS hcs1 (fun H1 locs1 hM1 hP1 hS => ?_)
    refine lv_istore (lv' := [(5, .int (Int32.ofInt 1)), (0, .ref b), (1, .ref (ad 0)), (2, .ref (ad 69)), (3, .ref (ad 99)), (4, .int x4)]) hx hb dL_law_337 hl (by decide) rfl (fun ls hl => ?_)
    refine lv_aload_n hx hb dL_law_339 rfl (lv_at hl 3 rfl) ?_
    refine l_arg C hS hl 1 5 rfl rfl dL_law_340 dL_law_341 dL_law_343 dL_law_344 dL_law_345 rfl hin.2.1 ha1 ?_
    refine l_arg C hS hl 1 5 rfl rfl dL_law_346 dL_law_347 dL_law_349 dL_law_350 dL_law_351 rfl hin.2.2.1 ha2 ?_
    refine l_call C (k := 69) (ci := 12) (r := (RX12, TX12, 53)) (as := [jI a1, jI a2]) (rest := []) (o := (some (some (jI v)), μ2)) jq_X12_dish rfl dL_law_352 kz_1669 e2 (fun z => by cases z) rfl rfl rfl rfl (jokS_c (v := jR 69) (show 69 < 100 by decide) (jokS_c ja1 (jokS_c ja2 jokS_n))) hM1 hP1 hS hl.1 (Nat.le_of_ble_eq_true rfl) hcs1 (fun H2 locs2 hok2 hP2 hS => ?_)
    refine lv_istore (lv' := [(6, .int (Int32.ofInt v)), (5, .int (Int32.ofInt 1)), (0, .ref b), (1, .ref (ad 0)), (2, .ref (ad 69)), (3, .ref (ad 99)), (4, .int x4)]) hx hb dL_law_355 hl (by decide) rfl (fun ls hl => ?_)
    refine lv_aload_n hx hb dL_law_357 rfl (lv_at hl 4 rfl) ?_
    have e3 : CL 1000 205 [jR 69] μ2 = some (some (some (jI 1)), μ2) := by
      have h9 := e_X12_thrown 999 μ2
      rw [z0] at h9
      exact h9
    refine l_call C (k := 69) (ci := 12) (r := (RX12, TX12, 53)) (as := []) (rest := []) (o := (some (some (jI 1)), μ2)) jq_X12_thrown rfl dL_law_358 kz_1593 e3 (fun z => by cases z) rfl rfl rfl rfl (jokS_c (v := jR 69) (show 69 < 100 by decide) jokS_n) hok2.1 hP2 hS hl.1 (Nat.le_of_ble_eq_true rfl) hcs1 (fun H3 locs3 hok3 hP3 hS => ?_)
    refine lv_iload hx hb dL_law_361 (lv_at hl 1 rfl) ?_
    refine lv_icmp_eq (tgt := 368) hx hb dL_law_363 (by decide) (fun _ => ?_) (fun z => absurd rfl z)
    refine lv_iload hx hb dL_law_368 (lv_at hl 1 rfl) ?_
    refine lv_if_ne (tgt := 385) hx hb dL_law_370 (by decide) (fun _ => ?_) (fun z => absurd z (by decide))
    refine lv_goto (tgt := 1690) hx hb dL_law_385 (by decide) ?_
    exact kk μ2 H3 locs3 ls ⟨hSI2, hok3.1, hP3, hS, lv_sub hl [2, 3, 4, 5, 6] rfl⟩
set_option maxHeartbeats 1000000 in
theorem lc_guest (C : LCx p l s m c b L xs D cA ad) (hin : vp5 x4 L) (hs : LSt s b D cA ad μ H locs ls x4) (hcs1 : cells + 1 ≤ 601024 ∧ slots + 6 ≤ 7293034) (kk : ∀ (μ2 : jM) (H2 : Heap) (locs2 : List Loc) (ls2 : Array Slot), LSt s b D cA ad μ2 H2 locs2 ls2 x4 → W p l e room_1 s m #[Value.ref b] below meth c H2 locs2 (cells + 1) (slots + 6) Q (F0 m 1690 ls2 [])) : W p l e room_1 s m #[Value.ref b] below meth c H locs cells slots Q (F0 m 388 ls []) := by
  obtain ⟨hSI, hM, hP, hS, hl⟩ := hs
  have hcs : cells ≤ 601024 ∧ slots ≤ 7293034 := by omega
  have hx := C.1
  have hb := C.2.1
  have hl : lv_has ls 7 [(0, .ref b), (1, .ref (ad 0)), (2, .ref (ad 69)), (3, .ref (ad 99)), (4, .int x4)] := hl
  obtain ⟨a1, ha1, ja1⟩ : ∃ a : Int, xs (x4 + 1).toNatClampNeg = Int32.ofInt a ∧ j32 a := ⟨_, (o_t _).symm, o_r32 _⟩
  obtain ⟨a2, ha2, ja2⟩ : ∃ a : Int, xs (x4 + 2).toNatClampNeg = Int32.ofInt a ∧ j32 a := ⟨_, (o_t _).symm, o_r32 _⟩
  have hinj := C.2.2.2.2.2.2.1
  have htr := C.2.2.2.2.2.2.2.2.2.2.1
  refine lv_aload_n hx hb dL_law_388 rfl (lv_at hl 1 rfl) ?_
  refine l_arg C hS hl 0 4 rfl rfl dL_law_389 dL_law_390 dL_law_392 dL_law_393 dL_law_394 rfl hin.2.1 ha1 ?_
  refine l_arg C hS hl 0 4 rfl rfl dL_law_395 dL_law_396 dL_law_398 dL_law_399 dL_law_400 rfl hin.2.2.1 ha2 ?_
  refine lv_aload_n hx hb dL_law_401 rfl (lv_at hl 3 rfl) ?_
  rcases t_guest 998 997 hSI a1 a2 with ⟨v, μ1, μ2, e1, e2, z0, z9, hSI2⟩ | ⟨v, μ2, e1, e2, z0, hSI2⟩
  · refine l_help (As := [.ref (ad 0), .int (Int32.ofInt a1), .int (Int32.ofInt a2), .ref (ad 99)]) (rest := []) (n := 4) (hd := 0) C (hx_guest l htr D cA ad hinj 1000 (by decide) (μ2 := jup μ1 99 0 v) (o := (some (some (jI v)), μ1)) (r := 0) e1 ja1 ja2 hM (Or.inr ⟨v, rfl, rfl, rfl⟩)) kc_guest kz_104 kz_1398 kz_1399 ⟨by decide, by decide, by decide +kernel⟩ (by decide) rfl hl.1 (by decide) dL_law_402 hP hS hcs1 (fun H1 locs1 hM1 hP1 hS => ?_)
    refine lv_istore (lv' := [(5, .int (Int32.ofInt 0)), (0, .ref b), (1, .ref (ad 0)), (2, .ref (ad 69)), (3, .ref (ad 99)), (4, .int x4)]) hx hb dL_law_405 hl (by decide) rfl (fun ls hl => ?_)
    refine lv_aload_n hx hb dL_law_407 rfl (lv_at hl 3 rfl) ?_
    refine l_arg C hS hl 1 5 rfl rfl dL_law_408 dL_law_409 dL_law_411 dL_law_412 dL_law_413 rfl hin.2.1 ha1 ?_
    refine l_arg C hS hl 1 5 rfl rfl dL_law_414 dL_law_415 dL_law_417 dL_law_418 dL_law_419 rfl hin.2.2.1 ha2 ?_
    refine l_call C (k := 69) (ci := 12) (r := (RX12, TX12, 53)) (as := [jI a1, jI a2]) (rest := []) (o := (some (some (jI v)), μ2)) jq_X12_guest rfl dL_law_420 kz_1695 e2 (fun z => by cases z) rfl rfl rfl rfl (jokS_c (v := jR 69) (show 69 < 100 by decide) (jokS_c ja1 (jokS_c ja2 jokS_n))) hM1 hP1 hS hl.1 (Nat.le_of_ble_eq_true rfl) hcs1 (fun H2 locs2 hok2 hP2 hS => ?_)
    refine lv_istore (lv' := [(6, .int (Int32.ofInt v)), (5, .int (Int32.ofInt 0)), (0, .ref b), (1, .ref (ad 0)), (2, .ref (ad 69)), (3, .ref (ad 99)), (4, .int x4)]) hx hb dL_law_423 hl (by decide) rfl (fun ls hl => ?_)
    refine lv_aload_n hx hb dL_law_425 rfl (lv_at hl 4 rfl) ?_
    have e3 : CL 1000 205 [jR 69] μ2 = some (some (some (jI 0)), μ2) := by
      have h9 := e_X12_thrown 999 μ2
      rw [z0] at h9
      exact h9
    refine l_call C (k := 69) (ci := 12) (r := (RX12, TX12, 53)) (as := []) (rest := []) (o := (some (some (jI 0)), μ2)) jq_X12_thrown rfl dL_law_426 kz_1593 e3 (fun z => by cases z) rfl rfl rfl rfl (jokS_c (v := jR 69) (show 69 < 100 by decide) jokS_n) hok2.1 hP2 hS hl.1 (Nat.le_of_ble_eq_true rfl) hcs1 (fun H3 locs3 hok3 hP3 hS => ?_)
    refine lv_iload hx hb dL_law_429 (lv_at hl 1 rfl) ?_
    refine lv_icmp_eq (tgt := 436) hx hb dL_law_431 (by decide) (fun _ => ?_) (fun z => absurd rfl z)
    refine lv_iload hx hb dL_law_436 (lv_at hl 1 rfl) ?_
    refine lv_if_ne (tgt := 453) hx hb dL_law_438 (by decide) (fun z => absurd (by decide) z) (fun _ => ?_)
    refine lv_aload_n hx hb dL_law_441 rfl (lv_at hl 5 rfl) ?_
    refine lv_iconst (v := Int32.ofInt 0) hx hb dL_law_442 (by decide) ?_
    refine l_out (μ := μ2) C hP3 dL_law_443 ?_
    rw [z9]
    refine lv_iload hx hb dL_law_444 (lv_at hl 0 rfl) ?_
    refine lv_i2l (x := Int32.ofInt v) hx hb dL_law_446 (o_i2l (hok2.2 _ rfl)) ?_
    refine W.lcmp (x := Int64.ofInt v) (y := Int64.ofInt v) (rest := []) hx hb dL_law_447 ?_
    refine lv_if_eq (tgt := 453) hx hb dL_law_448 (by decide) (fun _ => ?_) (fun z => absurd (cmp_self (j64_32 (hok2.2 _ rfl))) z)
    refine lv_goto (tgt := 1690) hx hb dL_law_453 (by decide) ?_
    exact kk μ2 H3 locs3 ls ⟨hSI2, hok3.1, hP3, hS, lv_sub hl [2, 3, 4, 5, 6] rfl⟩
  · refine l_help (As := [.ref (ad 0), .int (Int32.ofInt a1), .int (Int32.ofInt a2), .ref (ad 99)]) (rest := []) (n := 4) (hd := 0) C (hx_guest l htr D cA ad hinj 1000 (by decide) (μ2 := μ) (o := (none, μ)) (r := 1) e1 ja1 ja2 hM (Or.inl ⟨rfl, rfl, rfl⟩)) kc_guest kz_104 kz_1398 kz_1399 ⟨by decide, by decide, by decide +kernel⟩ (by decide) rfl hl.1 (by decide) dL_law_402 hP hS hcs1 (fun H1 locs1 hM1 hP1 hS => ?_)
    refine lv_istore (lv' := [(5, .int (Int32.ofInt 1)), (0, .ref b), (1, .ref (ad 0)), (2, .ref (ad 69)), (3, .ref (ad 99)), (4, .int x4)]) hx hb dL_law_405 hl (by decide) rfl (fun ls hl => ?_)
    refine lv_aload_n hx hb dL_law_407 rfl (lv_at hl 3 rfl) ?_
    refine l_arg C hS hl 1 5 rfl rfl dL_law_408 dL_law_409 dL_law_411 dL_law_412 dL_law_413 rfl hin.2.1 ha1 ?_
    refine l_arg C hS hl 1 5 rfl rfl dL_law_414 dL_law_415 dL_law_417 dL_law_418 dL_law_419 rfl hin.2.2.1 ha2 ?_
    refine l_call C (k := 69) (ci := 12) (r := (RX12, TX12, 53)) (as := [jI a1, jI a2]) (rest := []) (o := (some (some (jI v)), μ2)) jq_X12_guest rfl dL_law_420 kz_1695 e2 (fun z => by cases z) rfl rfl rfl rfl (jokS_c (v := jR 69) (show 69 < 100 by decide) (jokS_c ja1 (jokS_c ja2 jokS_n))) hM1 hP1 hS hl.1 (Nat.le_of_ble_eq_true rfl) hcs1 (fun H2 locs2 hok2 hP2 hS => ?_)
    refine lv_istore (lv' := [(6, .int (Int32.ofInt v)), (5, .int (Int32.ofInt 1)), (0, .ref b), (1, .ref (ad 0)), (2, .ref (ad 69)), (3, .ref (ad 99)), (4, .int x4)]) hx hb dL_law_423 hl (by decide) rfl (fun ls hl => ?_)
    refine lv_aload_n hx hb dL_law_425 rfl (lv_at hl 4 rfl) ?_
    have e3 : CL 1000 205 [jR 69] μ2 = some (some (some (jI 1)), μ2) := by
      have h9 := e_X12_thrown 999 μ2
      rw [z0] at h9
      exact h9
    refine l_call C (k := 69) (ci := 12) (r := (RX12, TX12, 53)) (as := []) (rest := []) (o := (some (some (jI 1)), μ2)) jq_X12_thrown rfl dL_law_426 kz_1593 e3 (fun z => by cases z) rfl rfl rfl rfl (jokS_c (v := jR 69) (show 69 < 100 by decide) jokS_n) hok2.1 hP2 hS hl.1 (Nat.le_of_ble_eq_true rfl) hcs1 (fun H3 locs3 hok3 hP3 hS => ?_)
    refine lv_iload hx hb dL_law_429 (lv_at hl 1 rfl) ?_
    refine lv_icmp_eq (tgt := 436) hx hb dL_law_431 (by decide) (fun _ => ?_) (fun z => absurd rfl z)
    refine lv_iload hx hb dL_law_436 (lv_at hl 1 rfl) ?_
    refine lv_if_ne (tgt := 453) hx hb dL_law_438 (by decide) (fun _ => ?_) (fun z => absurd z (by decide))
    refine lv_goto (tgt := 1690) hx hb dL_law_453 (by decide) ?_
    exact kk μ2 H3 locs3 ls ⟨hSI2, hok3.1, hP3, hS, lv_sub hl [2, 3, 4, 5, 6] rfl⟩
set_option maxHeartbeats 1000000 in
theorem lc_joy (C : LCx p l s m c b L xs D cA ad) (hin : vp5 x4 L) (hs : LSt s b D cA ad μ H locs ls x4) (hcs1 : cells + 1 ≤ 601024 ∧ slots + 6 ≤ 7293034) (kk : ∀ (μ2 : jM) (H2 : Heap) (locs2 : List Loc) (ls2 : Array Slot), LSt s b D cA ad μ2 H2 locs2 ls2 x4 → W p l e room_1 s m #[Value.ref b] below meth c H2 locs2 (cells + 1) (slots + 6) Q (F0 m 1690 ls2 [])) : W p l e room_1 s m #[Value.ref b] below meth c H locs cells slots Q (F0 m 456 ls []) := by
  obtain ⟨hSI, hM, hP, hS, hl⟩ := hs
  have hcs : cells ≤ 601024 ∧ slots ≤ 7293034 := by omega
  have hx := C.1
  have hb := C.2.1
  have hl : lv_has ls 7 [(0, .ref b), (1, .ref (ad 0)), (2, .ref (ad 69)), (3, .ref (ad 99)), (4, .int x4)] := hl
  obtain ⟨a1, ha1, ja1⟩ : ∃ a : Int, xs (x4 + 1).toNatClampNeg = Int32.ofInt a ∧ j32 a := ⟨_, (o_t _).symm, o_r32 _⟩
  obtain ⟨a2, ha2, ja2⟩ : ∃ a : Int, xs (x4 + 2).toNatClampNeg = Int32.ofInt a ∧ j32 a := ⟨_, (o_t _).symm, o_r32 _⟩
  have hinj := C.2.2.2.2.2.2.1
  have htr := C.2.2.2.2.2.2.2.2.2.2.1
  refine lv_aload_n hx hb dL_law_456 rfl (lv_at hl 1 rfl) ?_
  refine l_arg C hS hl 0 4 rfl rfl dL_law_457 dL_law_458 dL_law_460 dL_law_461 dL_law_462 rfl hin.2.1 ha1 ?_
  refine l_arg C hS hl 0 4 rfl rfl dL_law_463 dL_law_464 dL_law_466 dL_law_467 dL_law_468 rfl hin.2.2.1 ha2 ?_
  refine lv_aload_n hx hb dL_law_469 rfl (lv_at hl 3 rfl) ?_
  rcases t_joy 996 749 hSI a1 a2 with ⟨v, μ1, μ2, e1, e2, z0, z9, hSI2⟩ | ⟨v, μ2, e1, e2, z0, hSI2⟩
  · refine l_help (As := [.ref (ad 0), .int (Int32.ofInt a1), .int (Int32.ofInt a2), .ref (ad 99)]) (rest := []) (n := 4) (hd := 0) C (hx_joy l htr D cA ad hinj 1000 (by decide) (μ2 := jup μ1 99 0 v) (o := (some (some (jI v)), μ1)) (r := 0) e1 ja1 ja2 hM (Or.inr ⟨v, rfl, rfl, rfl⟩)) kc_joy kz_104 kz_1407 kz_1408 ⟨by decide, by decide, by decide +kernel⟩ (by decide) rfl hl.1 (by decide) dL_law_470 hP hS hcs1 (fun H1 locs1 hM1 hP1 hS => ?_)
    refine lv_istore (lv' := [(5, .int (Int32.ofInt 0)), (0, .ref b), (1, .ref (ad 0)), (2, .ref (ad 69)), (3, .ref (ad 99)), (4, .int x4)]) hx hb dL_law_473 hl (by decide) rfl (fun ls hl => ?_)
    refine lv_aload_n hx hb dL_law_475 rfl (lv_at hl 3 rfl) ?_
    refine l_arg C hS hl 1 5 rfl rfl dL_law_476 dL_law_477 dL_law_479 dL_law_480 dL_law_481 rfl hin.2.1 ha1 ?_
    refine l_arg C hS hl 1 5 rfl rfl dL_law_482 dL_law_483 dL_law_485 dL_law_486 dL_law_487 rfl hin.2.2.1 ha2 ?_
    refine l_call C (k := 69) (ci := 12) (r := (RX12, TX12, 53)) (as := [jI a1, jI a2]) (rest := []) (o := (some (some (jI v)), μ2)) jq_X12_joy rfl dL_law_488 kz_1703 e2 (fun z => by cases z) rfl rfl rfl rfl (jokS_c (v := jR 69) (show 69 < 100 by decide) (jokS_c ja1 (jokS_c ja2 jokS_n))) hM1 hP1 hS hl.1 (Nat.le_of_ble_eq_true rfl) hcs1 (fun H2 locs2 hok2 hP2 hS => ?_)
    refine lv_istore (lv' := [(6, .int (Int32.ofInt v)), (5, .int (Int32.ofInt 0)), (0, .ref b), (1, .ref (ad 0)), (2, .ref (ad 69)), (3, .ref (ad 99)), (4, .int x4)]) hx hb dL_law_491 hl (by decide) rfl (fun ls hl => ?_)
    refine lv_aload_n hx hb dL_law_493 rfl (lv_at hl 4 rfl) ?_
    have e3 : CL 1000 205 [jR 69] μ2 = some (some (some (jI 0)), μ2) := by
      have h9 := e_X12_thrown 999 μ2
      rw [z0] at h9
      exact h9
    refine l_call C (k := 69) (ci := 12) (r := (RX12, TX12, 53)) (as := []) (rest := []) (o := (some (some (jI 0)), μ2)) jq_X12_thrown rfl dL_law_494 kz_1593 e3 (fun z => by cases z) rfl rfl rfl rfl (jokS_c (v := jR 69) (show 69 < 100 by decide) jokS_n) hok2.1 hP2 hS hl.1 (Nat.le_of_ble_eq_true rfl) hcs1 (fun H3 locs3 hok3 hP3 hS => ?_)
    refine lv_iload hx hb dL_law_497 (lv_at hl 1 rfl) ?_
    refine lv_icmp_eq (tgt := 504) hx hb dL_law_499 (by decide) (fun _ => ?_) (fun z => absurd rfl z)
    refine lv_iload hx hb dL_law_504 (lv_at hl 1 rfl) ?_
    refine lv_if_ne (tgt := 521) hx hb dL_law_506 (by decide) (fun z => absurd (by decide) z) (fun _ => ?_)
    refine lv_aload_n hx hb dL_law_509 rfl (lv_at hl 5 rfl) ?_
    refine lv_iconst (v := Int32.ofInt 0) hx hb dL_law_510 (by decide) ?_
    refine l_out (μ := μ2) C hP3 dL_law_511 ?_
    rw [z9]
    refine lv_iload hx hb dL_law_512 (lv_at hl 0 rfl) ?_
    refine lv_i2l (x := Int32.ofInt v) hx hb dL_law_514 (o_i2l (hok2.2 _ rfl)) ?_
    refine W.lcmp (x := Int64.ofInt v) (y := Int64.ofInt v) (rest := []) hx hb dL_law_515 ?_
    refine lv_if_eq (tgt := 521) hx hb dL_law_516 (by decide) (fun _ => ?_) (fun z => absurd (cmp_self (j64_32 (hok2.2 _ rfl))) z)
    refine lv_goto (tgt := 1690) hx hb dL_law_521 (by decide) ?_
    exact kk μ2 H3 locs3 ls ⟨hSI2, hok3.1, hP3, hS, lv_sub hl [2, 3, 4, 5, 6] rfl⟩
  · refine l_help (As := [.ref (ad 0), .int (Int32.ofInt a1), .int (Int32.ofInt a2), .ref (ad 99)]) (rest := []) (n := 4) (hd := 0) C (hx_joy l htr D cA ad hinj 1000 (by decide) (μ2 := μ) (o := (none, μ)) (r := 1) e1 ja1 ja2 hM (Or.inl ⟨rfl, rfl, rfl⟩)) kc_joy kz_104 kz_1407 kz_1408 ⟨by decide, by decide, by decide +kernel⟩ (by decide) rfl hl.1 (by decide) dL_law_470 hP hS hcs1 (fun H1 locs1 hM1 hP1 hS => ?_)
    refine lv_istore (lv' := [(5, .int (Int32.ofInt 1)), (0, .ref b), (1, .ref (ad 0)), (2, .ref (ad 69)), (3, .ref (ad 99)), (4, .int x4)]) hx hb dL_law_473 hl (by decide) rfl (fun ls hl => ?_)
    refine lv_aload_n hx hb dL_law_475 rfl (lv_at hl 3 rfl) ?_
    refine l_arg C hS hl 1 5 rfl rfl dL_law_476 dL_law_477 dL_law_479 dL_law_480 dL_law_481 rfl hin.2.1 ha1 ?_
    refine l_arg C hS hl 1 5 rfl rfl dL_law_482 dL_law_483 dL_law_485 dL_law_486 dL_law_487 rfl hin.2.2.1 ha2 ?_
    refine l_call C (k := 69) (ci := 12) (r := (RX12, TX12, 53)) (as := [jI a1, jI a2]) (rest := []) (o := (some (some (jI v)), μ2)) jq_X12_joy rfl dL_law_488 kz_1703 e2 (fun z => by cases z) rfl rfl rfl rfl (jokS_c (v := jR 69) (show 69 < 100 by decide) (jokS_c ja1 (jokS_c ja2 jokS_n))) hM1 hP1 hS hl.1 (Nat.le_of_ble_eq_true rfl) hcs1 (fun H2 locs2 hok2 hP2 hS => ?_)
    refine lv_istore (lv' := [(6, .int (Int32.ofInt v)), (5, .int (Int32.ofInt 1)), (0, .ref b), (1, .ref (ad 0)), (2, .ref (ad 69)), (3, .ref (ad 99)), (4, .int x4)]) hx hb dL_law_491 hl (by decide) rfl (fun ls hl => ?_)
    refine lv_aload_n hx hb dL_law_493 rfl (lv_at hl 4 rfl) ?_
    have e3 : CL 1000 205 [jR 69] μ2 = some (some (some (jI 1)), μ2) := by
      have h9 := e_X12_thrown 999 μ2
      rw [z0] at h9
      exact h9
    refine l_call C (k := 69) (ci := 12) (r := (RX12, TX12, 53)) (as := []) (rest := []) (o := (some (some (jI 1)), μ2)) jq_X12_thrown rfl dL_law_494 kz_1593 e3 (fun z => by cases z) rfl rfl rfl rfl (jokS_c (v := jR 69) (show 69 < 100 by decide) jokS_n) hok2.1 hP2 hS hl.1 (Nat.le_of_ble_eq_true rfl) hcs1 (fun H3 locs3 hok3 hP3 hS => ?_)
    refine lv_iload hx hb dL_law_497 (lv_at hl 1 rfl) ?_
    refine lv_icmp_eq (tgt := 504) hx hb dL_law_499 (by decide) (fun _ => ?_) (fun z => absurd rfl z)
    refine lv_iload hx hb dL_law_504 (lv_at hl 1 rfl) ?_
    refine lv_if_ne (tgt := 521) hx hb dL_law_506 (by decide) (fun _ => ?_) (fun z => absurd z (by decide))
    refine lv_goto (tgt := 1690) hx hb dL_law_521 (by decide) ?_
    exact kk μ2 H3 locs3 ls ⟨hSI2, hok3.1, hP3, hS, lv_sub hl [2, 3, 4, 5, 6] rfl⟩
set_option maxHeartbeats 1000000 in
theorem lc_law (C : LCx p l s m c b L xs D cA ad) (hin : vp5 x4 L) (hs : LSt s b D cA ad μ H locs ls x4) (hcs1 : cells + 1 ≤ 601024 ∧ slots + 6 ≤ 7293034) (kk : ∀ (μ2 : jM) (H2 : Heap) (locs2 : List Loc) (ls2 : Array Slot), LSt s b D cA ad μ2 H2 locs2 ls2 x4 → W p l e room_1 s m #[Value.ref b] below meth c H2 locs2 (cells + 1) (slots + 6) Q (F0 m 1690 ls2 [])) : W p l e room_1 s m #[Value.ref b] below meth c H locs cells slots Q (F0 m 524 ls []) := by
  obtain ⟨hSI, hM, hP, hS, hl⟩ := hs
  have hcs : cells ≤ 601024 ∧ slots ≤ 7293034 := by omega
  have hx := C.1
  have hb := C.2.1
  have hl : lv_has ls 7 [(0, .ref b), (1, .ref (ad 0)), (2, .ref (ad 69)), (3, .ref (ad 99)), (4, .int x4)] := hl
  obtain ⟨a1, ha1, ja1⟩ : ∃ a : Int, xs (x4 + 1).toNatClampNeg = Int32.ofInt a ∧ j32 a := ⟨_, (o_t _).symm, o_r32 _⟩
  obtain ⟨a2, ha2, ja2⟩ : ∃ a : Int, xs (x4 + 2).toNatClampNeg = Int32.ofInt a ∧ j32 a := ⟨_, (o_t _).symm, o_r32 _⟩
  obtain ⟨v, μ1, μ2, e1, e2, hSI2⟩ := s_law 998 997 hSI a1 a2
  refine lv_aload_n hx hb dL_law_524 rfl (lv_at hl 1 rfl) ?_
  refine l_arg C hS hl 0 4 rfl rfl dL_law_525 dL_law_526 dL_law_528 dL_law_529 dL_law_530 rfl hin.2.1 ha1 ?_
  refine l_arg C hS hl 0 4 rfl rfl dL_law_531 dL_law_532 dL_law_534 dL_law_535 dL_law_536 rfl hin.2.2.1 ha2 ?_
  refine l_call C (k := 0) (ci := 11) (r := (RX11, TX11, 16)) (as := [jI a1, jI a2]) (rest := []) (o := (some (some (jI v)), μ1)) jq_X11_law rfl dL_law_537 kz_563 e1 (fun z => by cases z) rfl rfl rfl rfl (jokS_c (v := jR 0) (show 0 < 100 by decide) (jokS_c ja1 (jokS_c ja2 jokS_n))) hM hP hS hl.1 (Nat.le_of_ble_eq_true rfl) hcs (fun H1 locs1 hok1 hP1 hS => ?_)
  refine lv_aload_n hx hb dL_law_540 rfl (lv_at hl 2 rfl) ?_
  refine l_arg C hS hl 0 4 rfl rfl dL_law_541 dL_law_542 dL_law_544 dL_law_545 dL_law_546 rfl hin.2.1 ha1 ?_
  refine l_arg C hS hl 0 4 rfl rfl dL_law_547 dL_law_548 dL_law_550 dL_law_551 dL_law_552 rfl hin.2.2.1 ha2 ?_
  refine l_call C (k := 69) (ci := 12) (r := (RX12, TX12, 53)) (as := [jI a1, jI a2]) (rest := [jI v]) (o := (some (some (jI v)), μ2)) jq_X12_law rfl dL_law_553 kz_1707 e2 (fun z => by cases z) rfl rfl rfl rfl (jokS_c (v := jR 69) (show 69 < 100 by decide) (jokS_c ja1 (jokS_c ja2 jokS_n))) hok1.1 hP1 hS hl.1 (Nat.le_of_ble_eq_true rfl) hcs (fun H2 locs2 hok2 hP2 hS => ?_)
  refine lv_icmp_eq (tgt := 1690) hx hb dL_law_556 (by decide) (fun _ => ?_) (fun z => absurd rfl z)
  exact W.widen (k := cells + 1) (n := slots + 6) (Nat.le_succ _) (Nat.le_add_right _ _) (kk μ2 H2 locs2 ls ⟨hSI2, hok2.1, hP2, hS, hl⟩)
set_option maxHeartbeats 1000000 in
theorem lc_store (C : LCx p l s m c b L xs D cA ad) (hin : vp5 x4 L) (hs : LSt s b D cA ad μ H locs ls x4) (hcs1 : cells + 1 ≤ 601024 ∧ slots + 6 ≤ 7293034) (kk : ∀ (μ2 : jM) (H2 : Heap) (locs2 : List Loc) (ls2 : Array Slot), LSt s b D cA ad μ2 H2 locs2 ls2 x4 → W p l e room_1 s m #[Value.ref b] below meth c H2 locs2 (cells + 1) (slots + 6) Q (F0 m 1690 ls2 [])) : W p l e room_1 s m #[Value.ref b] below meth c H locs cells slots Q (F0 m 561 ls []) := by
  obtain ⟨hSI, hM, hP, hS, hl⟩ := hs
  have hcs : cells ≤ 601024 ∧ slots ≤ 7293034 := by omega
  have hx := C.1
  have hb := C.2.1
  have hl : lv_has ls 7 [(0, .ref b), (1, .ref (ad 0)), (2, .ref (ad 69)), (3, .ref (ad 99)), (4, .int x4)] := hl
  obtain ⟨a1, ha1, ja1⟩ : ∃ a : Int, xs (x4 + 1).toNatClampNeg = Int32.ofInt a ∧ j32 a := ⟨_, (o_t _).symm, o_r32 _⟩
  obtain ⟨a2, ha2, ja2⟩ : ∃ a : Int, xs (x4 + 2).toNatClampNeg = Int32.ofInt a ∧ j32 a := ⟨_, (o_t _).symm, o_r32 _⟩
  obtain ⟨v, μ1, μ2, e1, e2, hSI2⟩ := s_store 998 998 hSI a1 a2
  refine lv_aload_n hx hb dL_law_561 rfl (lv_at hl 1 rfl) ?_
  refine l_arg C hS hl 0 4 rfl rfl dL_law_562 dL_law_563 dL_law_565 dL_law_566 dL_law_567 rfl hin.2.1 ha1 ?_
  refine l_arg C hS hl 0 4 rfl rfl dL_law_568 dL_law_569 dL_law_571 dL_law_572 dL_law_573 rfl hin.2.2.1 ha2 ?_
  refine l_call C (k := 0) (ci := 11) (r := (RX11, TX11, 16)) (as := [jI a1, jI a2]) (rest := []) (o := (some (some (jI v)), μ1)) jq_X11_store rfl dL_law_574 kz_574 e1 (fun z => by cases z) rfl rfl rfl rfl (jokS_c (v := jR 0) (show 0 < 100 by decide) (jokS_c ja1 (jokS_c ja2 jokS_n))) hM hP hS hl.1 (Nat.le_of_ble_eq_true rfl) hcs (fun H1 locs1 hok1 hP1 hS => ?_)
  refine lv_aload_n hx hb dL_law_577 rfl (lv_at hl 2 rfl) ?_
  refine l_arg C hS hl 0 4 rfl rfl dL_law_578 dL_law_579 dL_law_581 dL_law_582 dL_law_583 rfl hin.2.1 ha1 ?_
  refine l_arg C hS hl 0 4 rfl rfl dL_law_584 dL_law_585 dL_law_587 dL_law_588 dL_law_589 rfl hin.2.2.1 ha2 ?_
  refine l_call C (k := 69) (ci := 12) (r := (RX12, TX12, 53)) (as := [jI a1, jI a2]) (rest := [jI v]) (o := (some (some (jI v)), μ2)) jq_X12_store rfl dL_law_590 kz_1714 e2 (fun z => by cases z) rfl rfl rfl rfl (jokS_c (v := jR 69) (show 69 < 100 by decide) (jokS_c ja1 (jokS_c ja2 jokS_n))) hok1.1 hP1 hS hl.1 (Nat.le_of_ble_eq_true rfl) hcs (fun H2 locs2 hok2 hP2 hS => ?_)
  refine lv_icmp_eq (tgt := 1690) hx hb dL_law_593 (by decide) (fun _ => ?_) (fun z => absurd rfl z)
  exact W.widen (k := cells + 1) (n := slots + 6) (Nat.le_succ _) (Nat.le_add_right _ _) (kk μ2 H2 locs2 ls ⟨hSI2, hok2.1, hP2, hS, hl⟩)
set_option maxHeartbeats 1000000 in
theorem lc_sheet (C : LCx p l s m c b L xs D cA ad) (hin : vp5 x4 L) (hs : LSt s b D cA ad μ H locs ls x4) (hcs1 : cells + 1 ≤ 601024 ∧ slots + 6 ≤ 7293034) (kk : ∀ (μ2 : jM) (H2 : Heap) (locs2 : List Loc) (ls2 : Array Slot), LSt s b D cA ad μ2 H2 locs2 ls2 x4 → W p l e room_1 s m #[Value.ref b] below meth c H2 locs2 (cells + 1) (slots + 6) Q (F0 m 1690 ls2 [])) : W p l e room_1 s m #[Value.ref b] below meth c H locs cells slots Q (F0 m 598 ls []) := by
  obtain ⟨hSI, hM, hP, hS, hl⟩ := hs
  have hcs : cells ≤ 601024 ∧ slots ≤ 7293034 := by omega
  have hx := C.1
  have hb := C.2.1
  have hl : lv_has ls 7 [(0, .ref b), (1, .ref (ad 0)), (2, .ref (ad 69)), (3, .ref (ad 99)), (4, .int x4)] := hl
  obtain ⟨a1, ha1, ja1⟩ : ∃ a : Int, xs (x4 + 1).toNatClampNeg = Int32.ofInt a ∧ j32 a := ⟨_, (o_t _).symm, o_r32 _⟩
  obtain ⟨a2, ha2, ja2⟩ : ∃ a : Int, xs (x4 + 2).toNatClampNeg = Int32.ofInt a ∧ j32 a := ⟨_, (o_t _).symm, o_r32 _⟩
  obtain ⟨a3, ha3, ja3⟩ : ∃ a : Int, xs (x4 + 3).toNatClampNeg = Int32.ofInt a ∧ j32 a := ⟨_, (o_t _).symm, o_r32 _⟩
  obtain ⟨a4, ha4, ja4⟩ : ∃ a : Int, xs (x4 + 4).toNatClampNeg = Int32.ofInt a ∧ j32 a := ⟨_, (o_t _).symm, o_r32 _⟩
  obtain ⟨v, μ1, μ2, e1, e2, hSI2⟩ := s_sheet 997 998 hSI a1 a2 a3 a4 ja3
  refine lv_aload_n hx hb dL_law_598 rfl (lv_at hl 1 rfl) ?_
  refine l_arg C hS hl 0 4 rfl rfl dL_law_599 dL_law_600 dL_law_602 dL_law_603 dL_law_604 rfl hin.2.1 ha1 ?_
  refine l_arg C hS hl 0 4 rfl rfl dL_law_605 dL_law_606 dL_law_608 dL_law_609 dL_law_610 rfl hin.2.2.1 ha2 ?_
  refine l_arg C hS hl 0 4 rfl rfl dL_law_611 dL_law_612 dL_law_614 dL_law_615 dL_law_616 rfl hin.2.2.2.1 ha3 ?_
  refine l_arg C hS hl 0 4 rfl rfl dL_law_617 dL_law_618 dL_law_620 dL_law_621 dL_law_622 rfl hin.2.2.2.2 ha4 ?_
  refine l_call C (k := 0) (ci := 11) (r := (RX11, TX11, 16)) (as := [jI a1, jI a2, jI a3, jI a4]) (rest := []) (o := (some (some (jI v)), μ1)) jq_X11_sheet rfl dL_law_623 kz_582 e1 (fun z => by cases z) rfl rfl rfl rfl (jokS_c (v := jR 0) (show 0 < 100 by decide) (jokS_c ja1 (jokS_c ja2 (jokS_c ja3 (jokS_c ja4 jokS_n))))) hM hP hS hl.1 (Nat.le_of_ble_eq_true rfl) hcs (fun H1 locs1 hok1 hP1 hS => ?_)
  refine lv_aload_n hx hb dL_law_626 rfl (lv_at hl 2 rfl) ?_
  refine l_arg C hS hl 0 4 rfl rfl dL_law_627 dL_law_628 dL_law_630 dL_law_631 dL_law_632 rfl hin.2.1 ha1 ?_
  refine l_arg C hS hl 0 4 rfl rfl dL_law_633 dL_law_634 dL_law_636 dL_law_637 dL_law_638 rfl hin.2.2.1 ha2 ?_
  refine l_arg C hS hl 0 4 rfl rfl dL_law_639 dL_law_640 dL_law_642 dL_law_643 dL_law_644 rfl hin.2.2.2.1 ha3 ?_
  refine l_arg C hS hl 0 4 rfl rfl dL_law_645 dL_law_646 dL_law_648 dL_law_649 dL_law_650 rfl hin.2.2.2.2 ha4 ?_
  refine l_call C (k := 69) (ci := 12) (r := (RX12, TX12, 53)) (as := [jI a1, jI a2, jI a3, jI a4]) (rest := [jI v]) (o := (some (some (jI v)), μ2)) jq_X12_sheet rfl dL_law_651 kz_1718 e2 (fun z => by cases z) rfl rfl rfl rfl (jokS_c (v := jR 69) (show 69 < 100 by decide) (jokS_c ja1 (jokS_c ja2 (jokS_c ja3 (jokS_c ja4 jokS_n))))) hok1.1 hP1 hS hl.1 (Nat.le_of_ble_eq_true rfl) hcs (fun H2 locs2 hok2 hP2 hS => ?_)
  refine lv_icmp_eq (tgt := 1690) hx hb dL_law_654 (by decide) (fun _ => ?_) (fun z => absurd rfl z)
  exact W.widen (k := cells + 1) (n := slots + 6) (Nat.le_succ _) (Nat.le_add_right _ _) (kk μ2 H2 locs2 ls ⟨hSI2, hok2.1, hP2, hS, hl⟩)
set_option maxHeartbeats 1000000 in
theorem lc_serve (C : LCx p l s m c b L xs D cA ad) (hin : vp5 x4 L) (hs : LSt s b D cA ad μ H locs ls x4) (hcs1 : cells + 1 ≤ 601024 ∧ slots + 6 ≤ 7293034) (kk : ∀ (μ2 : jM) (H2 : Heap) (locs2 : List Loc) (ls2 : Array Slot), LSt s b D cA ad μ2 H2 locs2 ls2 x4 → W p l e room_1 s m #[Value.ref b] below meth c H2 locs2 (cells + 1) (slots + 6) Q (F0 m 1690 ls2 [])) : W p l e room_1 s m #[Value.ref b] below meth c H locs cells slots Q (F0 m 659 ls []) := by
  obtain ⟨hSI, hM, hP, hS, hl⟩ := hs
  have hcs : cells ≤ 601024 ∧ slots ≤ 7293034 := by omega
  have hx := C.1
  have hb := C.2.1
  have hl : lv_has ls 7 [(0, .ref b), (1, .ref (ad 0)), (2, .ref (ad 69)), (3, .ref (ad 99)), (4, .int x4)] := hl
  obtain ⟨a1, ha1, ja1⟩ : ∃ a : Int, xs (x4 + 1).toNatClampNeg = Int32.ofInt a ∧ j32 a := ⟨_, (o_t _).symm, o_r32 _⟩
  obtain ⟨v, μ1, μ2, e1, e2, hSI2⟩ := s_serve 995 996 hSI a1
  refine lv_aload_n hx hb dL_law_659 rfl (lv_at hl 1 rfl) ?_
  refine l_arg C hS hl 0 4 rfl rfl dL_law_660 dL_law_661 dL_law_663 dL_law_664 dL_law_665 rfl hin.2.1 ha1 ?_
  refine l_call C (k := 0) (ci := 11) (r := (RX11, TX11, 16)) (as := [jI a1]) (rest := []) (o := (some (some (jI v)), μ1)) jq_X11_serve rfl dL_law_666 kz_608 e1 (fun z => by cases z) rfl rfl rfl rfl (jokS_c (v := jR 0) (show 0 < 100 by decide) (jokS_c ja1 jokS_n)) hM hP hS hl.1 (Nat.le_of_ble_eq_true rfl) hcs (fun H1 locs1 hok1 hP1 hS => ?_)
  refine lv_aload_n hx hb dL_law_669 rfl (lv_at hl 2 rfl) ?_
  refine l_arg C hS hl 0 4 rfl rfl dL_law_670 dL_law_671 dL_law_673 dL_law_674 dL_law_675 rfl hin.2.1 ha1 ?_
  refine l_call C (k := 69) (ci := 12) (r := (RX12, TX12, 53)) (as := [jI a1]) (rest := [jI v]) (o := (some (some (jI v)), μ2)) jq_X12_serve rfl dL_law_676 kz_1722 e2 (fun z => by cases z) rfl rfl rfl rfl (jokS_c (v := jR 69) (show 69 < 100 by decide) (jokS_c ja1 jokS_n)) hok1.1 hP1 hS hl.1 (Nat.le_of_ble_eq_true rfl) hcs (fun H2 locs2 hok2 hP2 hS => ?_)
  refine lv_icmp_eq (tgt := 1690) hx hb dL_law_679 (by decide) (fun _ => ?_) (fun z => absurd rfl z)
  exact W.widen (k := cells + 1) (n := slots + 6) (Nat.le_succ _) (Nat.le_add_right _ _) (kk μ2 H2 locs2 ls ⟨hSI2, hok2.1, hP2, hS, hl⟩)
set_option maxHeartbeats 1000000 in
theorem lc_back (C : LCx p l s m c b L xs D cA ad) (hin : vp5 x4 L) (hs : LSt s b D cA ad μ H locs ls x4) (hcs1 : cells + 1 ≤ 601024 ∧ slots + 6 ≤ 7293034) (kk : ∀ (μ2 : jM) (H2 : Heap) (locs2 : List Loc) (ls2 : Array Slot), LSt s b D cA ad μ2 H2 locs2 ls2 x4 → W p l e room_1 s m #[Value.ref b] below meth c H2 locs2 (cells + 1) (slots + 6) Q (F0 m 1690 ls2 [])) : W p l e room_1 s m #[Value.ref b] below meth c H locs cells slots Q (F0 m 684 ls []) := by
  obtain ⟨hSI, hM, hP, hS, hl⟩ := hs
  have hcs : cells ≤ 601024 ∧ slots ≤ 7293034 := by omega
  have hx := C.1
  have hb := C.2.1
  have hl : lv_has ls 7 [(0, .ref b), (1, .ref (ad 0)), (2, .ref (ad 69)), (3, .ref (ad 99)), (4, .int x4)] := hl
  obtain ⟨v, μ1, μ2, e1, e2, hSI2⟩ := s_back 997 999 hSI 
  refine lv_aload_n hx hb dL_law_684 rfl (lv_at hl 1 rfl) ?_
  refine l_call C (k := 0) (ci := 11) (r := (RX11, TX11, 16)) (as := []) (rest := []) (o := (some (some (jI v)), μ1)) jq_X11_back rfl dL_law_685 kz_664 e1 (fun z => by cases z) rfl rfl rfl rfl (jokS_c (v := jR 0) (show 0 < 100 by decide) jokS_n) hM hP hS hl.1 (Nat.le_of_ble_eq_true rfl) hcs (fun H1 locs1 hok1 hP1 hS => ?_)
  refine lv_aload_n hx hb dL_law_688 rfl (lv_at hl 2 rfl) ?_
  refine l_call C (k := 69) (ci := 12) (r := (RX12, TX12, 53)) (as := []) (rest := [jI v]) (o := (some (some (jI v)), μ2)) jq_X12_back rfl dL_law_689 kz_1753 e2 (fun z => by cases z) rfl rfl rfl rfl (jokS_c (v := jR 69) (show 69 < 100 by decide) jokS_n) hok1.1 hP1 hS hl.1 (Nat.le_of_ble_eq_true rfl) hcs (fun H2 locs2 hok2 hP2 hS => ?_)
  refine lv_icmp_eq (tgt := 1690) hx hb dL_law_692 (by decide) (fun _ => ?_) (fun z => absurd rfl z)
  exact W.widen (k := cells + 1) (n := slots + 6) (Nat.le_succ _) (Nat.le_add_right _ _) (kk μ2 H2 locs2 ls ⟨hSI2, hok2.1, hP2, hS, hl⟩)
set_option maxHeartbeats 1000000 in
theorem lc_over (C : LCx p l s m c b L xs D cA ad) (hin : vp5 x4 L) (hs : LSt s b D cA ad μ H locs ls x4) (hcs1 : cells + 1 ≤ 601024 ∧ slots + 6 ≤ 7293034) (kk : ∀ (μ2 : jM) (H2 : Heap) (locs2 : List Loc) (ls2 : Array Slot), LSt s b D cA ad μ2 H2 locs2 ls2 x4 → W p l e room_1 s m #[Value.ref b] below meth c H2 locs2 (cells + 1) (slots + 6) Q (F0 m 1690 ls2 [])) : W p l e room_1 s m #[Value.ref b] below meth c H locs cells slots Q (F0 m 697 ls []) := by
  obtain ⟨hSI, hM, hP, hS, hl⟩ := hs
  have hcs : cells ≤ 601024 ∧ slots ≤ 7293034 := by omega
  have hx := C.1
  have hb := C.2.1
  have hl : lv_has ls 7 [(0, .ref b), (1, .ref (ad 0)), (2, .ref (ad 69)), (3, .ref (ad 99)), (4, .int x4)] := hl
  obtain ⟨v, μ1, μ2, e1, e2, hSI2⟩ := s_over 997 998 hSI 
  refine lv_aload_n hx hb dL_law_697 rfl (lv_at hl 1 rfl) ?_
  refine l_call C (k := 0) (ci := 11) (r := (RX11, TX11, 16)) (as := []) (rest := []) (o := (some (some (jI v)), μ1)) jq_X11_over rfl dL_law_698 kz_673 e1 (fun z => by cases z) rfl rfl rfl rfl (jokS_c (v := jR 0) (show 0 < 100 by decide) jokS_n) hM hP hS hl.1 (Nat.le_of_ble_eq_true rfl) hcs (fun H1 locs1 hok1 hP1 hS => ?_)
  refine lv_aload_n hx hb dL_law_701 rfl (lv_at hl 2 rfl) ?_
  refine l_call C (k := 69) (ci := 12) (r := (RX12, TX12, 53)) (as := []) (rest := [jI v]) (o := (some (some (jI v)), μ2)) jq_X12_over rfl dL_law_702 kz_1757 e2 (fun z => by cases z) rfl rfl rfl rfl (jokS_c (v := jR 69) (show 69 < 100 by decide) jokS_n) hok1.1 hP1 hS hl.1 (Nat.le_of_ble_eq_true rfl) hcs (fun H2 locs2 hok2 hP2 hS => ?_)
  refine lv_icmp_eq (tgt := 1690) hx hb dL_law_705 (by decide) (fun _ => ?_) (fun z => absurd rfl z)
  exact W.widen (k := cells + 1) (n := slots + 6) (Nat.le_succ _) (Nat.le_add_right _ _) (kk μ2 H2 locs2 ls ⟨hSI2, hok2.1, hP2, hS, hl⟩)
set_option maxHeartbeats 1000000 in
theorem lc_can (C : LCx p l s m c b L xs D cA ad) (hin : vp5 x4 L) (hs : LSt s b D cA ad μ H locs ls x4) (hcs1 : cells + 1 ≤ 601024 ∧ slots + 6 ≤ 7293034) (kk : ∀ (μ2 : jM) (H2 : Heap) (locs2 : List Loc) (ls2 : Array Slot), LSt s b D cA ad μ2 H2 locs2 ls2 x4 → W p l e room_1 s m #[Value.ref b] below meth c H2 locs2 (cells + 1) (slots + 6) Q (F0 m 1690 ls2 [])) : W p l e room_1 s m #[Value.ref b] below meth c H locs cells slots Q (F0 m 710 ls []) := by
  obtain ⟨hSI, hM, hP, hS, hl⟩ := hs
  have hcs : cells ≤ 601024 ∧ slots ≤ 7293034 := by omega
  have hx := C.1
  have hb := C.2.1
  have hl : lv_has ls 7 [(0, .ref b), (1, .ref (ad 0)), (2, .ref (ad 69)), (3, .ref (ad 99)), (4, .int x4)] := hl
  obtain ⟨v, μ1, μ2, e1, e2, hSI2⟩ := s_can 995 996 hSI 
  refine lv_aload_n hx hb dL_law_710 rfl (lv_at hl 1 rfl) ?_
  refine l_call C (k := 0) (ci := 11) (r := (RX11, TX11, 16)) (as := []) (rest := []) (o := (some (some (jI v)), μ1)) jq_X11_can rfl dL_law_711 kz_686 e1 (fun z => by cases z) rfl rfl rfl rfl (jokS_c (v := jR 0) (show 0 < 100 by decide) jokS_n) hM hP hS hl.1 (Nat.le_of_ble_eq_true rfl) hcs (fun H1 locs1 hok1 hP1 hS => ?_)
  refine lv_aload_n hx hb dL_law_714 rfl (lv_at hl 2 rfl) ?_
  refine l_call C (k := 69) (ci := 12) (r := (RX12, TX12, 53)) (as := []) (rest := [jI v]) (o := (some (some (jI v)), μ2)) jq_X12_can rfl dL_law_715 kz_1761 e2 (fun z => by cases z) rfl rfl rfl rfl (jokS_c (v := jR 69) (show 69 < 100 by decide) jokS_n) hok1.1 hP1 hS hl.1 (Nat.le_of_ble_eq_true rfl) hcs (fun H2 locs2 hok2 hP2 hS => ?_)
  refine lv_icmp_eq (tgt := 1690) hx hb dL_law_718 (by decide) (fun _ => ?_) (fun z => absurd rfl z)
  exact W.widen (k := cells + 1) (n := slots + 6) (Nat.le_succ _) (Nat.le_add_right _ _) (kk μ2 H2 locs2 ls ⟨hSI2, hok2.1, hP2, hS, hl⟩)
set_option maxHeartbeats 1000000 in
theorem lc_menu (C : LCx p l s m c b L xs D cA ad) (hin : vp5 x4 L) (hs : LSt s b D cA ad μ H locs ls x4) (hcs1 : cells + 1 ≤ 601024 ∧ slots + 6 ≤ 7293034) (kk : ∀ (μ2 : jM) (H2 : Heap) (locs2 : List Loc) (ls2 : Array Slot), LSt s b D cA ad μ2 H2 locs2 ls2 x4 → W p l e room_1 s m #[Value.ref b] below meth c H2 locs2 (cells + 1) (slots + 6) Q (F0 m 1690 ls2 [])) : W p l e room_1 s m #[Value.ref b] below meth c H locs cells slots Q (F0 m 723 ls []) := by
  obtain ⟨hSI, hM, hP, hS, hl⟩ := hs
  have hcs : cells ≤ 601024 ∧ slots ≤ 7293034 := by omega
  have hx := C.1
  have hb := C.2.1
  have hl : lv_has ls 7 [(0, .ref b), (1, .ref (ad 0)), (2, .ref (ad 69)), (3, .ref (ad 99)), (4, .int x4)] := hl
  obtain ⟨a1, ha1, ja1⟩ : ∃ a : Int, xs (x4 + 1).toNatClampNeg = Int32.ofInt a ∧ j32 a := ⟨_, (o_t _).symm, o_r32 _⟩
  obtain ⟨v, μ1, μ2, e1, e2, hSI2⟩ := s_menu 997 997 hSI a1
  refine lv_aload_n hx hb dL_law_723 rfl (lv_at hl 1 rfl) ?_
  refine l_arg C hS hl 0 4 rfl rfl dL_law_724 dL_law_725 dL_law_727 dL_law_728 dL_law_729 rfl hin.2.1 ha1 ?_
  refine l_call C (k := 0) (ci := 11) (r := (RX11, TX11, 16)) (as := [jI a1]) (rest := []) (o := (some (some (jI v)), μ1)) jq_X11_menu rfl dL_law_730 kz_690 e1 (fun z => by cases z) rfl rfl rfl rfl (jokS_c (v := jR 0) (show 0 < 100 by decide) (jokS_c ja1 jokS_n)) hM hP hS hl.1 (Nat.le_of_ble_eq_true rfl) hcs (fun H1 locs1 hok1 hP1 hS => ?_)
  refine lv_aload_n hx hb dL_law_733 rfl (lv_at hl 2 rfl) ?_
  refine l_arg C hS hl 0 4 rfl rfl dL_law_734 dL_law_735 dL_law_737 dL_law_738 dL_law_739 rfl hin.2.1 ha1 ?_
  refine l_call C (k := 69) (ci := 12) (r := (RX12, TX12, 53)) (as := [jI a1]) (rest := [jI v]) (o := (some (some (jI v)), μ2)) jq_X12_menu rfl dL_law_740 kz_1765 e2 (fun z => by cases z) rfl rfl rfl rfl (jokS_c (v := jR 69) (show 69 < 100 by decide) (jokS_c ja1 jokS_n)) hok1.1 hP1 hS hl.1 (Nat.le_of_ble_eq_true rfl) hcs (fun H2 locs2 hok2 hP2 hS => ?_)
  refine lv_icmp_eq (tgt := 1690) hx hb dL_law_743 (by decide) (fun _ => ?_) (fun z => absurd rfl z)
  exact W.widen (k := cells + 1) (n := slots + 6) (Nat.le_succ _) (Nat.le_add_right _ _) (kk μ2 H2 locs2 ls ⟨hSI2, hok2.1, hP2, hS, hl⟩)
set_option maxHeartbeats 1000000 in
theorem lc_look (C : LCx p l s m c b L xs D cA ad) (hin : vp5 x4 L) (hs : LSt s b D cA ad μ H locs ls x4) (hcs1 : cells + 1 ≤ 601024 ∧ slots + 6 ≤ 7293034) (kk : ∀ (μ2 : jM) (H2 : Heap) (locs2 : List Loc) (ls2 : Array Slot), LSt s b D cA ad μ2 H2 locs2 ls2 x4 → W p l e room_1 s m #[Value.ref b] below meth c H2 locs2 (cells + 1) (slots + 6) Q (F0 m 1690 ls2 [])) : W p l e room_1 s m #[Value.ref b] below meth c H locs cells slots Q (F0 m 748 ls []) := by
  obtain ⟨hSI, hM, hP, hS, hl⟩ := hs
  have hcs : cells ≤ 601024 ∧ slots ≤ 7293034 := by omega
  have hx := C.1
  have hb := C.2.1
  have hl : lv_has ls 7 [(0, .ref b), (1, .ref (ad 0)), (2, .ref (ad 69)), (3, .ref (ad 99)), (4, .int x4)] := hl
  obtain ⟨a1, ha1, ja1⟩ : ∃ a : Int, xs (x4 + 1).toNatClampNeg = Int32.ofInt a ∧ j32 a := ⟨_, (o_t _).symm, o_r32 _⟩
  obtain ⟨v, μ1, μ2, e1, e2, hSI2⟩ := s_look 993 995 hSI a1
  refine lv_aload_n hx hb dL_law_748 rfl (lv_at hl 1 rfl) ?_
  refine l_arg C hS hl 0 4 rfl rfl dL_law_749 dL_law_750 dL_law_752 dL_law_753 dL_law_754 rfl hin.2.1 ha1 ?_
  refine l_call C (k := 0) (ci := 11) (r := (RX11, TX11, 16)) (as := [jI a1]) (rest := []) (o := (some (some (jI v)), μ1)) jq_X11_look rfl dL_law_755 kz_700 e1 (fun z => by cases z) rfl rfl rfl rfl (jokS_c (v := jR 0) (show 0 < 100 by decide) (jokS_c ja1 jokS_n)) hM hP hS hl.1 (Nat.le_of_ble_eq_true rfl) hcs (fun H1 locs1 hok1 hP1 hS => ?_)
  refine lv_aload_n hx hb dL_law_758 rfl (lv_at hl 2 rfl) ?_
  refine l_arg C hS hl 0 4 rfl rfl dL_law_759 dL_law_760 dL_law_762 dL_law_763 dL_law_764 rfl hin.2.1 ha1 ?_
  refine l_call C (k := 69) (ci := 12) (r := (RX12, TX12, 53)) (as := [jI a1]) (rest := [jI v]) (o := (some (some (jI v)), μ2)) jq_X12_look rfl dL_law_765 kz_1769 e2 (fun z => by cases z) rfl rfl rfl rfl (jokS_c (v := jR 69) (show 69 < 100 by decide) (jokS_c ja1 jokS_n)) hok1.1 hP1 hS hl.1 (Nat.le_of_ble_eq_true rfl) hcs (fun H2 locs2 hok2 hP2 hS => ?_)
  refine lv_icmp_eq (tgt := 1690) hx hb dL_law_768 (by decide) (fun _ => ?_) (fun z => absurd rfl z)
  exact W.widen (k := cells + 1) (n := slots + 6) (Nat.le_succ _) (Nat.le_add_right _ _) (kk μ2 H2 locs2 ls ⟨hSI2, hok2.1, hP2, hS, hl⟩)
set_option maxHeartbeats 1000000 in
theorem lc_swap (C : LCx p l s m c b L xs D cA ad) (hin : vp5 x4 L) (hs : LSt s b D cA ad μ H locs ls x4) (hcs1 : cells + 1 ≤ 601024 ∧ slots + 6 ≤ 7293034) (kk : ∀ (μ2 : jM) (H2 : Heap) (locs2 : List Loc) (ls2 : Array Slot), LSt s b D cA ad μ2 H2 locs2 ls2 x4 → W p l e room_1 s m #[Value.ref b] below meth c H2 locs2 (cells + 1) (slots + 6) Q (F0 m 1690 ls2 [])) : W p l e room_1 s m #[Value.ref b] below meth c H locs cells slots Q (F0 m 773 ls []) := by
  obtain ⟨hSI, hM, hP, hS, hl⟩ := hs
  have hcs : cells ≤ 601024 ∧ slots ≤ 7293034 := by omega
  have hx := C.1
  have hb := C.2.1
  have hl : lv_has ls 7 [(0, .ref b), (1, .ref (ad 0)), (2, .ref (ad 69)), (3, .ref (ad 99)), (4, .int x4)] := hl
  obtain ⟨a1, ha1, ja1⟩ : ∃ a : Int, xs (x4 + 1).toNatClampNeg = Int32.ofInt a ∧ j32 a := ⟨_, (o_t _).symm, o_r32 _⟩
  obtain ⟨a2, ha2, ja2⟩ : ∃ a : Int, xs (x4 + 2).toNatClampNeg = Int32.ofInt a ∧ j32 a := ⟨_, (o_t _).symm, o_r32 _⟩
  obtain ⟨a3, ha3, ja3⟩ : ∃ a : Int, xs (x4 + 3).toNatClampNeg = Int32.ofInt a ∧ j32 a := ⟨_, (o_t _).symm, o_r32 _⟩
  obtain ⟨v, μ1, μ2, e1, e2, hSI2⟩ := s_swap 997 997 hSI a1 a2 a3
  refine lv_aload_n hx hb dL_law_773 rfl (lv_at hl 1 rfl) ?_
  refine l_arg C hS hl 0 4 rfl rfl dL_law_774 dL_law_775 dL_law_777 dL_law_778 dL_law_779 rfl hin.2.1 ha1 ?_
  refine l_arg C hS hl 0 4 rfl rfl dL_law_780 dL_law_781 dL_law_783 dL_law_784 dL_law_785 rfl hin.2.2.1 ha2 ?_
  refine l_arg C hS hl 0 4 rfl rfl dL_law_786 dL_law_787 dL_law_789 dL_law_790 dL_law_791 rfl hin.2.2.2.1 ha3 ?_
  refine l_call C (k := 0) (ci := 11) (r := (RX11, TX11, 16)) (as := [jI a1, jI a2, jI a3]) (rest := []) (o := (some (some (jI v)), μ1)) jq_X11_swap rfl dL_law_792 kz_763 e1 (fun z => by cases z) rfl rfl rfl rfl (jokS_c (v := jR 0) (show 0 < 100 by decide) (jokS_c ja1 (jokS_c ja2 (jokS_c ja3 jokS_n)))) hM hP hS hl.1 (Nat.le_of_ble_eq_true rfl) hcs (fun H1 locs1 hok1 hP1 hS => ?_)
  refine lv_aload_n hx hb dL_law_795 rfl (lv_at hl 2 rfl) ?_
  refine l_arg C hS hl 0 4 rfl rfl dL_law_796 dL_law_797 dL_law_799 dL_law_800 dL_law_801 rfl hin.2.1 ha1 ?_
  refine l_arg C hS hl 0 4 rfl rfl dL_law_802 dL_law_803 dL_law_805 dL_law_806 dL_law_807 rfl hin.2.2.1 ha2 ?_
  refine l_arg C hS hl 0 4 rfl rfl dL_law_808 dL_law_809 dL_law_811 dL_law_812 dL_law_813 rfl hin.2.2.2.1 ha3 ?_
  refine l_call C (k := 69) (ci := 12) (r := (RX12, TX12, 53)) (as := [jI a1, jI a2, jI a3]) (rest := [jI v]) (o := (some (some (jI v)), μ2)) jq_X12_swap rfl dL_law_814 kz_1789 e2 (fun z => by cases z) rfl rfl rfl rfl (jokS_c (v := jR 69) (show 69 < 100 by decide) (jokS_c ja1 (jokS_c ja2 (jokS_c ja3 jokS_n)))) hok1.1 hP1 hS hl.1 (Nat.le_of_ble_eq_true rfl) hcs (fun H2 locs2 hok2 hP2 hS => ?_)
  refine lv_icmp_eq (tgt := 1690) hx hb dL_law_817 (by decide) (fun _ => ?_) (fun z => absurd rfl z)
  exact W.widen (k := cells + 1) (n := slots + 6) (Nat.le_succ _) (Nat.le_add_right _ _) (kk μ2 H2 locs2 ls ⟨hSI2, hok2.1, hP2, hS, hl⟩)
set_option maxHeartbeats 1000000 in
theorem lc_turn (C : LCx p l s m c b L xs D cA ad) (hin : vp5 x4 L) (hs : LSt s b D cA ad μ H locs ls x4) (hcs1 : cells + 1 ≤ 601024 ∧ slots + 6 ≤ 7293034) (kk : ∀ (μ2 : jM) (H2 : Heap) (locs2 : List Loc) (ls2 : Array Slot), LSt s b D cA ad μ2 H2 locs2 ls2 x4 → W p l e room_1 s m #[Value.ref b] below meth c H2 locs2 (cells + 1) (slots + 6) Q (F0 m 1690 ls2 [])) : W p l e room_1 s m #[Value.ref b] below meth c H locs cells slots Q (F0 m 822 ls []) := by
  obtain ⟨hSI, hM, hP, hS, hl⟩ := hs
  have hcs : cells ≤ 601024 ∧ slots ≤ 7293034 := by omega
  have hx := C.1
  have hb := C.2.1
  have hl : lv_has ls 7 [(0, .ref b), (1, .ref (ad 0)), (2, .ref (ad 69)), (3, .ref (ad 99)), (4, .int x4)] := hl
  obtain ⟨a1, ha1, ja1⟩ : ∃ a : Int, xs (x4 + 1).toNatClampNeg = Int32.ofInt a ∧ j32 a := ⟨_, (o_t _).symm, o_r32 _⟩
  obtain ⟨v, μ1, μ2, e1, e2, hSI2⟩ := s_turn 996 997 hSI a1
  refine lv_aload_n hx hb dL_law_822 rfl (lv_at hl 1 rfl) ?_
  refine l_arg C hS hl 0 4 rfl rfl dL_law_823 dL_law_824 dL_law_826 dL_law_827 dL_law_828 rfl hin.2.1 ha1 ?_
  refine l_call C (k := 0) (ci := 11) (r := (RX11, TX11, 16)) (as := [jI a1]) (rest := []) (o := (some (some (jI v)), μ1)) jq_X11_turn rfl dL_law_829 kz_775 e1 (fun z => by cases z) rfl rfl rfl rfl (jokS_c (v := jR 0) (show 0 < 100 by decide) (jokS_c ja1 jokS_n)) hM hP hS hl.1 (Nat.le_of_ble_eq_true rfl) hcs (fun H1 locs1 hok1 hP1 hS => ?_)
  refine lv_aload_n hx hb dL_law_832 rfl (lv_at hl 2 rfl) ?_
  refine l_arg C hS hl 0 4 rfl rfl dL_law_833 dL_law_834 dL_law_836 dL_law_837 dL_law_838 rfl hin.2.1 ha1 ?_
  refine l_call C (k := 69) (ci := 12) (r := (RX12, TX12, 53)) (as := [jI a1]) (rest := [jI v]) (o := (some (some (jI v)), μ2)) jq_X12_turn rfl dL_law_839 kz_1793 e2 (fun z => by cases z) rfl rfl rfl rfl (jokS_c (v := jR 69) (show 69 < 100 by decide) (jokS_c ja1 jokS_n)) hok1.1 hP1 hS hl.1 (Nat.le_of_ble_eq_true rfl) hcs (fun H2 locs2 hok2 hP2 hS => ?_)
  refine lv_icmp_eq (tgt := 1690) hx hb dL_law_842 (by decide) (fun _ => ?_) (fun z => absurd rfl z)
  exact W.widen (k := cells + 1) (n := slots + 6) (Nat.le_succ _) (Nat.le_add_right _ _) (kk μ2 H2 locs2 ls ⟨hSI2, hok2.1, hP2, hS, hl⟩)
set_option maxHeartbeats 1000000 in
theorem lc_joined (C : LCx p l s m c b L xs D cA ad) (hin : vp5 x4 L) (hs : LSt s b D cA ad μ H locs ls x4) (hcs1 : cells + 1 ≤ 601024 ∧ slots + 6 ≤ 7293034) (kk : ∀ (μ2 : jM) (H2 : Heap) (locs2 : List Loc) (ls2 : Array Slot), LSt s b D cA ad μ2 H2 locs2 ls2 x4 → W p l e room_1 s m #[Value.ref b] below meth c H2 locs2 (cells + 1) (slots + 6) Q (F0 m 1690 ls2 [])) : W p l e room_1 s m #[Value.ref b] below meth c H locs cells slots Q (F0 m 847 ls []) := by
  obtain ⟨hSI, hM, hP, hS, hl⟩ := hs
  have hcs : cells ≤ 601024 ∧ slots ≤ 7293034 := by omega
  have hx := C.1
  have hb := C.2.1
  have hl : lv_has ls 7 [(0, .ref b), (1, .ref (ad 0)), (2, .ref (ad 69)), (3, .ref (ad 99)), (4, .int x4)] := hl
  obtain ⟨a1, ha1, ja1⟩ : ∃ a : Int, xs (x4 + 1).toNatClampNeg = Int32.ofInt a ∧ j32 a := ⟨_, (o_t _).symm, o_r32 _⟩
  obtain ⟨a2, ha2, ja2⟩ : ∃ a : Int, xs (x4 + 2).toNatClampNeg = Int32.ofInt a ∧ j32 a := ⟨_, (o_t _).symm, o_r32 _⟩
  obtain ⟨v, μ1, μ2, e1, e2, hSI2⟩ := s_joined 993 995 hSI a1 a2
  refine lv_aload_n hx hb dL_law_847 rfl (lv_at hl 1 rfl) ?_
  refine l_arg C hS hl 0 4 rfl rfl dL_law_848 dL_law_849 dL_law_851 dL_law_852 dL_law_853 rfl hin.2.1 ha1 ?_
  refine l_arg C hS hl 0 4 rfl rfl dL_law_854 dL_law_855 dL_law_857 dL_law_858 dL_law_859 rfl hin.2.2.1 ha2 ?_
  refine l_call C (k := 0) (ci := 11) (r := (RX11, TX11, 16)) (as := [jI a1, jI a2]) (rest := []) (o := (some (some (jI v)), μ1)) jq_X11_joined rfl dL_law_860 kz_784 e1 (fun z => by cases z) rfl rfl rfl rfl (jokS_c (v := jR 0) (show 0 < 100 by decide) (jokS_c ja1 (jokS_c ja2 jokS_n))) hM hP hS hl.1 (Nat.le_of_ble_eq_true rfl) hcs (fun H1 locs1 hok1 hP1 hS => ?_)
  refine lv_aload_n hx hb dL_law_863 rfl (lv_at hl 2 rfl) ?_
  refine l_arg C hS hl 0 4 rfl rfl dL_law_864 dL_law_865 dL_law_867 dL_law_868 dL_law_869 rfl hin.2.1 ha1 ?_
  refine l_arg C hS hl 0 4 rfl rfl dL_law_870 dL_law_871 dL_law_873 dL_law_874 dL_law_875 rfl hin.2.2.1 ha2 ?_
  refine l_call C (k := 69) (ci := 12) (r := (RX12, TX12, 53)) (as := [jI a1, jI a2]) (rest := [jI v]) (o := (some (some (jI v)), μ2)) jq_X12_joined rfl dL_law_876 kz_1797 e2 (fun z => by cases z) rfl rfl rfl rfl (jokS_c (v := jR 69) (show 69 < 100 by decide) (jokS_c ja1 (jokS_c ja2 jokS_n))) hok1.1 hP1 hS hl.1 (Nat.le_of_ble_eq_true rfl) hcs (fun H2 locs2 hok2 hP2 hS => ?_)
  refine lv_icmp_eq (tgt := 1690) hx hb dL_law_879 (by decide) (fun _ => ?_) (fun z => absurd rfl z)
  exact W.widen (k := cells + 1) (n := slots + 6) (Nat.le_succ _) (Nat.le_add_right _ _) (kk μ2 H2 locs2 ls ⟨hSI2, hok2.1, hP2, hS, hl⟩)
set_option maxHeartbeats 1000000 in
theorem lc_falls (C : LCx p l s m c b L xs D cA ad) (hin : vp5 x4 L) (hs : LSt s b D cA ad μ H locs ls x4) (hcs1 : cells + 1 ≤ 601024 ∧ slots + 6 ≤ 7293034) (kk : ∀ (μ2 : jM) (H2 : Heap) (locs2 : List Loc) (ls2 : Array Slot), LSt s b D cA ad μ2 H2 locs2 ls2 x4 → W p l e room_1 s m #[Value.ref b] below meth c H2 locs2 (cells + 1) (slots + 6) Q (F0 m 1690 ls2 [])) : W p l e room_1 s m #[Value.ref b] below meth c H locs cells slots Q (F0 m 884 ls []) := by
  obtain ⟨hSI, hM, hP, hS, hl⟩ := hs
  have hcs : cells ≤ 601024 ∧ slots ≤ 7293034 := by omega
  have hx := C.1
  have hb := C.2.1
  have hl : lv_has ls 7 [(0, .ref b), (1, .ref (ad 0)), (2, .ref (ad 69)), (3, .ref (ad 99)), (4, .int x4)] := hl
  obtain ⟨a1, ha1, ja1⟩ : ∃ a : Int, xs (x4 + 1).toNatClampNeg = Int32.ofInt a ∧ j32 a := ⟨_, (o_t _).symm, o_r32 _⟩
  obtain ⟨a2, ha2, ja2⟩ : ∃ a : Int, xs (x4 + 2).toNatClampNeg = Int32.ofInt a ∧ j32 a := ⟨_, (o_t _).symm, o_r32 _⟩
  obtain ⟨a3, ha3, ja3⟩ : ∃ a : Int, xs (x4 + 3).toNatClampNeg = Int32.ofInt a ∧ j32 a := ⟨_, (o_t _).symm, o_r32 _⟩
  obtain ⟨v, μ1, μ2, e1, e2, hSI2⟩ := s_falls 993 994 hSI a1 a2 a3
  refine lv_aload_n hx hb dL_law_884 rfl (lv_at hl 1 rfl) ?_
  refine l_arg C hS hl 0 4 rfl rfl dL_law_885 dL_law_886 dL_law_888 dL_law_889 dL_law_890 rfl hin.2.1 ha1 ?_
  refine l_arg C hS hl 0 4 rfl rfl dL_law_891 dL_law_892 dL_law_894 dL_law_895 dL_law_896 rfl hin.2.2.1 ha2 ?_
  refine l_arg C hS hl 0 4 rfl rfl dL_law_897 dL_law_898 dL_law_900 dL_law_901 dL_law_902 rfl hin.2.2.2.1 ha3 ?_
  refine l_call C (k := 0) (ci := 11) (r := (RX11, TX11, 16)) (as := [jI a1, jI a2, jI a3]) (rest := []) (o := (some (some (jI v)), μ1)) jq_X11_falls rfl dL_law_903 kz_804 e1 (fun z => by cases z) rfl rfl rfl rfl (jokS_c (v := jR 0) (show 0 < 100 by decide) (jokS_c ja1 (jokS_c ja2 (jokS_c ja3 jokS_n)))) hM hP hS hl.1 (Nat.le_of_ble_eq_true rfl) hcs (fun H1 locs1 hok1 hP1 hS => ?_)
  refine lv_aload_n hx hb dL_law_906 rfl (lv_at hl 2 rfl) ?_
  refine l_arg C hS hl 0 4 rfl rfl dL_law_907 dL_law_908 dL_law_910 dL_law_911 dL_law_912 rfl hin.2.1 ha1 ?_
  refine l_arg C hS hl 0 4 rfl rfl dL_law_913 dL_law_914 dL_law_916 dL_law_917 dL_law_918 rfl hin.2.2.1 ha2 ?_
  refine l_arg C hS hl 0 4 rfl rfl dL_law_919 dL_law_920 dL_law_922 dL_law_923 dL_law_924 rfl hin.2.2.2.1 ha3 ?_
  refine l_call C (k := 69) (ci := 12) (r := (RX12, TX12, 53)) (as := [jI a1, jI a2, jI a3]) (rest := [jI v]) (o := (some (some (jI v)), μ2)) jq_X12_falls rfl dL_law_925 kz_1805 e2 (fun z => by cases z) rfl rfl rfl rfl (jokS_c (v := jR 69) (show 69 < 100 by decide) (jokS_c ja1 (jokS_c ja2 (jokS_c ja3 jokS_n)))) hok1.1 hP1 hS hl.1 (Nat.le_of_ble_eq_true rfl) hcs (fun H2 locs2 hok2 hP2 hS => ?_)
  refine lv_icmp_eq (tgt := 1690) hx hb dL_law_928 (by decide) (fun _ => ?_) (fun z => absurd rfl z)
  exact W.widen (k := cells + 1) (n := slots + 6) (Nat.le_succ _) (Nat.le_add_right _ _) (kk μ2 H2 locs2 ls ⟨hSI2, hok2.1, hP2, hS, hl⟩)
set_option maxHeartbeats 1000000 in
theorem lc_longest (C : LCx p l s m c b L xs D cA ad) (hin : vp5 x4 L) (hs : LSt s b D cA ad μ H locs ls x4) (hcs1 : cells + 1 ≤ 601024 ∧ slots + 6 ≤ 7293034) (kk : ∀ (μ2 : jM) (H2 : Heap) (locs2 : List Loc) (ls2 : Array Slot), LSt s b D cA ad μ2 H2 locs2 ls2 x4 → W p l e room_1 s m #[Value.ref b] below meth c H2 locs2 (cells + 1) (slots + 6) Q (F0 m 1690 ls2 [])) : W p l e room_1 s m #[Value.ref b] below meth c H locs cells slots Q (F0 m 933 ls []) := by
  obtain ⟨hSI, hM, hP, hS, hl⟩ := hs
  have hcs : cells ≤ 601024 ∧ slots ≤ 7293034 := by omega
  have hx := C.1
  have hb := C.2.1
  have hl : lv_has ls 7 [(0, .ref b), (1, .ref (ad 0)), (2, .ref (ad 69)), (3, .ref (ad 99)), (4, .int x4)] := hl
  obtain ⟨v, μ1, μ2, e1, e2, hSI2⟩ := s_longest 993 993 hSI 
  refine lv_aload_n hx hb dL_law_933 rfl (lv_at hl 1 rfl) ?_
  refine l_call C (k := 0) (ci := 11) (r := (RX11, TX11, 16)) (as := []) (rest := []) (o := (some (some (jI v)), μ1)) jq_X11_longest rfl dL_law_934 kz_813 e1 (fun z => by cases z) rfl rfl rfl rfl (jokS_c (v := jR 0) (show 0 < 100 by decide) jokS_n) hM hP hS hl.1 (Nat.le_of_ble_eq_true rfl) hcs (fun H1 locs1 hok1 hP1 hS => ?_)
  refine lv_aload_n hx hb dL_law_937 rfl (lv_at hl 2 rfl) ?_
  refine l_call C (k := 69) (ci := 12) (r := (RX12, TX12, 53)) (as := []) (rest := [jI v]) (o := (some (some (jI v)), μ2)) jq_X12_longest rfl dL_law_938 kz_1813 e2 (fun z => by cases z) rfl rfl rfl rfl (jokS_c (v := jR 69) (show 69 < 100 by decide) jokS_n) hok1.1 hP1 hS hl.1 (Nat.le_of_ble_eq_true rfl) hcs (fun H2 locs2 hok2 hP2 hS => ?_)
  refine lv_icmp_eq (tgt := 1690) hx hb dL_law_941 (by decide) (fun _ => ?_) (fun z => absurd rfl z)
  exact W.widen (k := cells + 1) (n := slots + 6) (Nat.le_succ _) (Nat.le_add_right _ _) (kk μ2 H2 locs2 ls ⟨hSI2, hok2.1, hP2, hS, hl⟩)
set_option maxHeartbeats 1000000 in
theorem lc_ways (C : LCx p l s m c b L xs D cA ad) (hin : vp5 x4 L) (hs : LSt s b D cA ad μ H locs ls x4) (hcs1 : cells + 1 ≤ 601024 ∧ slots + 6 ≤ 7293034) (kk : ∀ (μ2 : jM) (H2 : Heap) (locs2 : List Loc) (ls2 : Array Slot), LSt s b D cA ad μ2 H2 locs2 ls2 x4 → W p l e room_1 s m #[Value.ref b] below meth c H2 locs2 (cells + 1) (slots + 6) Q (F0 m 1690 ls2 [])) : W p l e room_1 s m #[Value.ref b] below meth c H locs cells slots Q (F0 m 946 ls []) := by
  obtain ⟨hSI, hM, hP, hS, hl⟩ := hs
  have hcs : cells ≤ 601024 ∧ slots ≤ 7293034 := by omega
  have hx := C.1
  have hb := C.2.1
  have hl : lv_has ls 7 [(0, .ref b), (1, .ref (ad 0)), (2, .ref (ad 69)), (3, .ref (ad 99)), (4, .int x4)] := hl
  obtain ⟨a1, ha1, ja1⟩ : ∃ a : Int, xs (x4 + 1).toNatClampNeg = Int32.ofInt a ∧ j32 a := ⟨_, (o_t _).symm, o_r32 _⟩
  obtain ⟨v, μ1, μ2, e1, e2, hSI2⟩ := s_ways 994 994 hSI a1
  refine lv_aload_n hx hb dL_law_946 rfl (lv_at hl 1 rfl) ?_
  refine l_arg C hS hl 0 4 rfl rfl dL_law_947 dL_law_948 dL_law_950 dL_law_951 dL_law_952 rfl hin.2.1 ha1 ?_
  refine l_call C (k := 0) (ci := 11) (r := (RX11, TX11, 16)) (as := [jI a1]) (rest := []) (o := (some (some (jL v)), μ1)) jq_X11_ways rfl dL_law_953 kz_953 e1 (fun z => by cases z) rfl rfl rfl rfl (jokS_c (v := jR 0) (show 0 < 100 by decide) (jokS_c ja1 jokS_n)) hM hP hS hl.1 (Nat.le_of_ble_eq_true rfl) hcs (fun H1 locs1 hok1 hP1 hS => ?_)
  refine lv_aload_n hx hb dL_law_956 rfl (lv_at hl 2 rfl) ?_
  refine l_arg C hS hl 0 4 rfl rfl dL_law_957 dL_law_958 dL_law_960 dL_law_961 dL_law_962 rfl hin.2.1 ha1 ?_
  refine l_call C (k := 69) (ci := 12) (r := (RX12, TX12, 53)) (as := [jI a1]) (rest := [jL v]) (o := (some (some (jL v)), μ2)) jq_X12_ways rfl dL_law_963 kz_1851 e2 (fun z => by cases z) rfl rfl rfl rfl (jokS_c (v := jR 69) (show 69 < 100 by decide) (jokS_c ja1 jokS_n)) hok1.1 hP1 hS hl.1 (Nat.le_of_ble_eq_true rfl) hcs (fun H2 locs2 hok2 hP2 hS => ?_)
  refine W.lcmp (x := Int64.ofInt v) (y := Int64.ofInt v) (rest := []) hx hb dL_law_966 ?_
  refine lv_if_eq (tgt := 1690) hx hb dL_law_967 (by decide) (fun _ => ?_) (fun z => absurd (cmp_self (hok2.2 _ rfl)) z)
  exact W.widen (k := cells + 1) (n := slots + 6) (Nat.le_succ _) (Nat.le_add_right _ _) (kk μ2 H2 locs2 ls ⟨hSI2, hok2.1, hP2, hS, hl⟩)
set_option maxHeartbeats 1000000 in
theorem lc_between (C : LCx p l s m c b L xs D cA ad) (hin : vp5 x4 L) (hs : LSt s b D cA ad μ H locs ls x4) (hcs1 : cells + 1 ≤ 601024 ∧ slots + 6 ≤ 7293034) (kk : ∀ (μ2 : jM) (H2 : Heap) (locs2 : List Loc) (ls2 : Array Slot), LSt s b D cA ad μ2 H2 locs2 ls2 x4 → W p l e room_1 s m #[Value.ref b] below meth c H2 locs2 (cells + 1) (slots + 6) Q (F0 m 1690 ls2 [])) : W p l e room_1 s m #[Value.ref b] below meth c H locs cells slots Q (F0 m 972 ls []) := by
  obtain ⟨hSI, hM, hP, hS, hl⟩ := hs
  have hcs : cells ≤ 601024 ∧ slots ≤ 7293034 := by omega
  have hx := C.1
  have hb := C.2.1
  have hl : lv_has ls 7 [(0, .ref b), (1, .ref (ad 0)), (2, .ref (ad 69)), (3, .ref (ad 99)), (4, .int x4)] := hl
  obtain ⟨a1, ha1, ja1⟩ : ∃ a : Int, xs (x4 + 1).toNatClampNeg = Int32.ofInt a ∧ j32 a := ⟨_, (o_t _).symm, o_r32 _⟩
  obtain ⟨a2, ha2, ja2⟩ : ∃ a : Int, xs (x4 + 2).toNatClampNeg = Int32.ofInt a ∧ j32 a := ⟨_, (o_t _).symm, o_r32 _⟩
  obtain ⟨v, μ1, μ2, e1, e2, hSI2⟩ := s_between 993 992 hSI a1 a2
  refine lv_aload_n hx hb dL_law_972 rfl (lv_at hl 1 rfl) ?_
  refine l_arg C hS hl 0 4 rfl rfl dL_law_973 dL_law_974 dL_law_976 dL_law_977 dL_law_978 rfl hin.2.1 ha1 ?_
  refine l_arg C hS hl 0 4 rfl rfl dL_law_979 dL_law_980 dL_law_982 dL_law_983 dL_law_984 rfl hin.2.2.1 ha2 ?_
  refine l_call C (k := 0) (ci := 11) (r := (RX11, TX11, 16)) (as := [jI a1, jI a2]) (rest := []) (o := (some (some (jI v)), μ1)) jq_X11_between rfl dL_law_985 kz_986 e1 (fun z => by cases z) rfl rfl rfl rfl (jokS_c (v := jR 0) (show 0 < 100 by decide) (jokS_c ja1 (jokS_c ja2 jokS_n))) hM hP hS hl.1 (Nat.le_of_ble_eq_true rfl) hcs (fun H1 locs1 hok1 hP1 hS => ?_)
  refine lv_aload_n hx hb dL_law_988 rfl (lv_at hl 2 rfl) ?_
  refine l_arg C hS hl 0 4 rfl rfl dL_law_989 dL_law_990 dL_law_992 dL_law_993 dL_law_994 rfl hin.2.1 ha1 ?_
  refine l_arg C hS hl 0 4 rfl rfl dL_law_995 dL_law_996 dL_law_998 dL_law_999 dL_law_1000 rfl hin.2.2.1 ha2 ?_
  refine l_call C (k := 69) (ci := 12) (r := (RX12, TX12, 53)) (as := [jI a1, jI a2]) (rest := [jI v]) (o := (some (some (jI v)), μ2)) jq_X12_between rfl dL_law_1001 kz_1856 e2 (fun z => by cases z) rfl rfl rfl rfl (jokS_c (v := jR 69) (show 69 < 100 by decide) (jokS_c ja1 (jokS_c ja2 jokS_n))) hok1.1 hP1 hS hl.1 (Nat.le_of_ble_eq_true rfl) hcs (fun H2 locs2 hok2 hP2 hS => ?_)
  refine lv_icmp_eq (tgt := 1690) hx hb dL_law_1004 (by decide) (fun _ => ?_) (fun z => absurd rfl z)
  exact W.widen (k := cells + 1) (n := slots + 6) (Nat.le_succ _) (Nat.le_add_right _ _) (kk μ2 H2 locs2 ls ⟨hSI2, hok2.1, hP2, hS, hl⟩)
set_option maxHeartbeats 1000000 in
theorem lc_shortest (C : LCx p l s m c b L xs D cA ad) (hin : vp5 x4 L) (hs : LSt s b D cA ad μ H locs ls x4) (hcs1 : cells + 1 ≤ 601024 ∧ slots + 6 ≤ 7293034) (kk : ∀ (μ2 : jM) (H2 : Heap) (locs2 : List Loc) (ls2 : Array Slot), LSt s b D cA ad μ2 H2 locs2 ls2 x4 → W p l e room_1 s m #[Value.ref b] below meth c H2 locs2 (cells + 1) (slots + 6) Q (F0 m 1690 ls2 [])) : W p l e room_1 s m #[Value.ref b] below meth c H locs cells slots Q (F0 m 1009 ls []) := by
  obtain ⟨hSI, hM, hP, hS, hl⟩ := hs
  have hcs : cells ≤ 601024 ∧ slots ≤ 7293034 := by omega
  have hx := C.1
  have hb := C.2.1
  have hl : lv_has ls 7 [(0, .ref b), (1, .ref (ad 0)), (2, .ref (ad 69)), (3, .ref (ad 99)), (4, .int x4)] := hl
  obtain ⟨a1, ha1, ja1⟩ : ∃ a : Int, xs (x4 + 1).toNatClampNeg = Int32.ofInt a ∧ j32 a := ⟨_, (o_t _).symm, o_r32 _⟩
  obtain ⟨a2, ha2, ja2⟩ : ∃ a : Int, xs (x4 + 2).toNatClampNeg = Int32.ofInt a ∧ j32 a := ⟨_, (o_t _).symm, o_r32 _⟩
  obtain ⟨v, μ1, μ2, e1, e2, hSI2⟩ := s_shortest 993 992 hSI a1 a2
  refine lv_aload_n hx hb dL_law_1009 rfl (lv_at hl 1 rfl) ?_
  refine l_arg C hS hl 0 4 rfl rfl dL_law_1010 dL_law_1011 dL_law_1013 dL_law_1014 dL_law_1015 rfl hin.2.1 ha1 ?_
  refine l_arg C hS hl 0 4 rfl rfl dL_law_1016 dL_law_1017 dL_law_1019 dL_law_1020 dL_law_1021 rfl hin.2.2.1 ha2 ?_
  refine l_call C (k := 0) (ci := 11) (r := (RX11, TX11, 16)) (as := [jI a1, jI a2]) (rest := []) (o := (some (some (jI v)), μ1)) jq_X11_shortest rfl dL_law_1022 kz_1007 e1 (fun z => by cases z) rfl rfl rfl rfl (jokS_c (v := jR 0) (show 0 < 100 by decide) (jokS_c ja1 (jokS_c ja2 jokS_n))) hM hP hS hl.1 (Nat.le_of_ble_eq_true rfl) hcs (fun H1 locs1 hok1 hP1 hS => ?_)
  refine lv_aload_n hx hb dL_law_1025 rfl (lv_at hl 2 rfl) ?_
  refine l_arg C hS hl 0 4 rfl rfl dL_law_1026 dL_law_1027 dL_law_1029 dL_law_1030 dL_law_1031 rfl hin.2.1 ha1 ?_
  refine l_arg C hS hl 0 4 rfl rfl dL_law_1032 dL_law_1033 dL_law_1035 dL_law_1036 dL_law_1037 rfl hin.2.2.1 ha2 ?_
  refine l_call C (k := 69) (ci := 12) (r := (RX12, TX12, 53)) (as := [jI a1, jI a2]) (rest := [jI v]) (o := (some (some (jI v)), μ2)) jq_X12_shortest rfl dL_law_1038 kz_1868 e2 (fun z => by cases z) rfl rfl rfl rfl (jokS_c (v := jR 69) (show 69 < 100 by decide) (jokS_c ja1 (jokS_c ja2 jokS_n))) hok1.1 hP1 hS hl.1 (Nat.le_of_ble_eq_true rfl) hcs (fun H2 locs2 hok2 hP2 hS => ?_)
  refine lv_icmp_eq (tgt := 1690) hx hb dL_law_1041 (by decide) (fun _ => ?_) (fun z => absurd rfl z)
  exact W.widen (k := cells + 1) (n := slots + 6) (Nat.le_succ _) (Nat.le_add_right _ _) (kk μ2 H2 locs2 ls ⟨hSI2, hok2.1, hP2, hS, hl⟩)
set_option maxHeartbeats 1000000 in
theorem lc_bears (C : LCx p l s m c b L xs D cA ad) (hin : vp5 x4 L) (hs : LSt s b D cA ad μ H locs ls x4) (hcs1 : cells + 1 ≤ 601024 ∧ slots + 6 ≤ 7293034) (kk : ∀ (μ2 : jM) (H2 : Heap) (locs2 : List Loc) (ls2 : Array Slot), LSt s b D cA ad μ2 H2 locs2 ls2 x4 → W p l e room_1 s m #[Value.ref b] below meth c H2 locs2 (cells + 1) (slots + 6) Q (F0 m 1690 ls2 [])) : W p l e room_1 s m #[Value.ref b] below meth c H locs cells slots Q (F0 m 1046 ls []) := by
  obtain ⟨hSI, hM, hP, hS, hl⟩ := hs
  have hcs : cells ≤ 601024 ∧ slots ≤ 7293034 := by omega
  have hx := C.1
  have hb := C.2.1
  have hl : lv_has ls 7 [(0, .ref b), (1, .ref (ad 0)), (2, .ref (ad 69)), (3, .ref (ad 99)), (4, .int x4)] := hl
  obtain ⟨a1, ha1, ja1⟩ : ∃ a : Int, xs (x4 + 1).toNatClampNeg = Int32.ofInt a ∧ j32 a := ⟨_, (o_t _).symm, o_r32 _⟩
  obtain ⟨v, μ1, μ2, e1, e2, hSI2⟩ := s_bears 993 993 hSI a1
  refine lv_aload_n hx hb dL_law_1046 rfl (lv_at hl 1 rfl) ?_
  refine l_arg C hS hl 0 4 rfl rfl dL_law_1047 dL_law_1048 dL_law_1050 dL_law_1051 dL_law_1052 rfl hin.2.1 ha1 ?_
  refine l_call C (k := 0) (ci := 11) (r := (RX11, TX11, 16)) (as := [jI a1]) (rest := []) (o := (some (some (jI v)), μ1)) jq_X11_bears rfl dL_law_1053 kz_1011 e1 (fun z => by cases z) rfl rfl rfl rfl (jokS_c (v := jR 0) (show 0 < 100 by decide) (jokS_c ja1 jokS_n)) hM hP hS hl.1 (Nat.le_of_ble_eq_true rfl) hcs (fun H1 locs1 hok1 hP1 hS => ?_)
  refine lv_aload_n hx hb dL_law_1056 rfl (lv_at hl 2 rfl) ?_
  refine l_arg C hS hl 0 4 rfl rfl dL_law_1057 dL_law_1058 dL_law_1060 dL_law_1061 dL_law_1062 rfl hin.2.1 ha1 ?_
  refine l_call C (k := 69) (ci := 12) (r := (RX12, TX12, 53)) (as := [jI a1]) (rest := [jI v]) (o := (some (some (jI v)), μ2)) jq_X12_bears rfl dL_law_1063 kz_1872 e2 (fun z => by cases z) rfl rfl rfl rfl (jokS_c (v := jR 69) (show 69 < 100 by decide) (jokS_c ja1 jokS_n)) hok1.1 hP1 hS hl.1 (Nat.le_of_ble_eq_true rfl) hcs (fun H2 locs2 hok2 hP2 hS => ?_)
  refine lv_icmp_eq (tgt := 1690) hx hb dL_law_1066 (by decide) (fun _ => ?_) (fun z => absurd rfl z)
  exact W.widen (k := cells + 1) (n := slots + 6) (Nat.le_succ _) (Nat.le_add_right _ _) (kk μ2 H2 locs2 ls ⟨hSI2, hok2.1, hP2, hS, hl⟩)
set_option maxHeartbeats 1000000 in
theorem lc_beside (C : LCx p l s m c b L xs D cA ad) (hin : vp5 x4 L) (hs : LSt s b D cA ad μ H locs ls x4) (hcs1 : cells + 1 ≤ 601024 ∧ slots + 6 ≤ 7293034) (kk : ∀ (μ2 : jM) (H2 : Heap) (locs2 : List Loc) (ls2 : Array Slot), LSt s b D cA ad μ2 H2 locs2 ls2 x4 → W p l e room_1 s m #[Value.ref b] below meth c H2 locs2 (cells + 1) (slots + 6) Q (F0 m 1690 ls2 [])) : W p l e room_1 s m #[Value.ref b] below meth c H locs cells slots Q (F0 m 1071 ls []) := by
  obtain ⟨hSI, hM, hP, hS, hl⟩ := hs
  have hcs : cells ≤ 601024 ∧ slots ≤ 7293034 := by omega
  have hx := C.1
  have hb := C.2.1
  have hl : lv_has ls 7 [(0, .ref b), (1, .ref (ad 0)), (2, .ref (ad 69)), (3, .ref (ad 99)), (4, .int x4)] := hl
  obtain ⟨a1, ha1, ja1⟩ : ∃ a : Int, xs (x4 + 1).toNatClampNeg = Int32.ofInt a ∧ j32 a := ⟨_, (o_t _).symm, o_r32 _⟩
  obtain ⟨v, μ1, μ2, e1, e2, hSI2⟩ := s_beside 996 996 hSI a1
  refine lv_aload_n hx hb dL_law_1071 rfl (lv_at hl 1 rfl) ?_
  refine l_arg C hS hl 0 4 rfl rfl dL_law_1072 dL_law_1073 dL_law_1075 dL_law_1076 dL_law_1077 rfl hin.2.1 ha1 ?_
  refine l_call C (k := 0) (ci := 11) (r := (RX11, TX11, 16)) (as := [jI a1]) (rest := []) (o := (some (some (jI v)), μ1)) jq_X11_beside rfl dL_law_1078 kz_1020 e1 (fun z => by cases z) rfl rfl rfl rfl (jokS_c (v := jR 0) (show 0 < 100 by decide) (jokS_c ja1 jokS_n)) hM hP hS hl.1 (Nat.le_of_ble_eq_true rfl) hcs (fun H1 locs1 hok1 hP1 hS => ?_)
  refine lv_aload_n hx hb dL_law_1081 rfl (lv_at hl 2 rfl) ?_
  refine l_arg C hS hl 0 4 rfl rfl dL_law_1082 dL_law_1083 dL_law_1085 dL_law_1086 dL_law_1087 rfl hin.2.1 ha1 ?_
  refine l_call C (k := 69) (ci := 12) (r := (RX12, TX12, 53)) (as := [jI a1]) (rest := [jI v]) (o := (some (some (jI v)), μ2)) jq_X12_beside rfl dL_law_1088 kz_1876 e2 (fun z => by cases z) rfl rfl rfl rfl (jokS_c (v := jR 69) (show 69 < 100 by decide) (jokS_c ja1 jokS_n)) hok1.1 hP1 hS hl.1 (Nat.le_of_ble_eq_true rfl) hcs (fun H2 locs2 hok2 hP2 hS => ?_)
  refine lv_icmp_eq (tgt := 1690) hx hb dL_law_1091 (by decide) (fun _ => ?_) (fun z => absurd rfl z)
  exact W.widen (k := cells + 1) (n := slots + 6) (Nat.le_succ _) (Nat.le_add_right _ _) (kk μ2 H2 locs2 ls ⟨hSI2, hok2.1, hP2, hS, hl⟩)
set_option maxHeartbeats 1000000 in
theorem lc_parts (C : LCx p l s m c b L xs D cA ad) (hin : vp5 x4 L) (hs : LSt s b D cA ad μ H locs ls x4) (hcs1 : cells + 1 ≤ 601024 ∧ slots + 6 ≤ 7293034) (kk : ∀ (μ2 : jM) (H2 : Heap) (locs2 : List Loc) (ls2 : Array Slot), LSt s b D cA ad μ2 H2 locs2 ls2 x4 → W p l e room_1 s m #[Value.ref b] below meth c H2 locs2 (cells + 1) (slots + 6) Q (F0 m 1690 ls2 [])) : W p l e room_1 s m #[Value.ref b] below meth c H locs cells slots Q (F0 m 1096 ls []) := by
  obtain ⟨hSI, hM, hP, hS, hl⟩ := hs
  have hcs : cells ≤ 601024 ∧ slots ≤ 7293034 := by omega
  have hx := C.1
  have hb := C.2.1
  have hl : lv_has ls 7 [(0, .ref b), (1, .ref (ad 0)), (2, .ref (ad 69)), (3, .ref (ad 99)), (4, .int x4)] := hl
  obtain ⟨v, μ1, μ2, e1, e2, hSI2⟩ := s_parts 995 996 hSI 
  refine lv_aload_n hx hb dL_law_1096 rfl (lv_at hl 1 rfl) ?_
  refine l_call C (k := 0) (ci := 11) (r := (RX11, TX11, 16)) (as := []) (rest := []) (o := (some (some (jI v)), μ1)) jq_X11_parts rfl dL_law_1097 kz_1026 e1 (fun z => by cases z) rfl rfl rfl rfl (jokS_c (v := jR 0) (show 0 < 100 by decide) jokS_n) hM hP hS hl.1 (Nat.le_of_ble_eq_true rfl) hcs (fun H1 locs1 hok1 hP1 hS => ?_)
  refine lv_aload_n hx hb dL_law_1100 rfl (lv_at hl 2 rfl) ?_
  refine l_call C (k := 69) (ci := 12) (r := (RX12, TX12, 53)) (as := []) (rest := [jI v]) (o := (some (some (jI v)), μ2)) jq_X12_parts rfl dL_law_1101 kz_1884 e2 (fun z => by cases z) rfl rfl rfl rfl (jokS_c (v := jR 69) (show 69 < 100 by decide) jokS_n) hok1.1 hP1 hS hl.1 (Nat.le_of_ble_eq_true rfl) hcs (fun H2 locs2 hok2 hP2 hS => ?_)
  refine lv_icmp_eq (tgt := 1690) hx hb dL_law_1104 (by decide) (fun _ => ?_) (fun z => absurd rfl z)
  exact W.widen (k := cells + 1) (n := slots + 6) (Nat.le_succ _) (Nat.le_add_right _ _) (kk μ2 H2 locs2 ls ⟨hSI2, hok2.1, hP2, hS, hl⟩)
set_option maxHeartbeats 1000000 in
theorem lc_rare (C : LCx p l s m c b L xs D cA ad) (hin : vp5 x4 L) (hs : LSt s b D cA ad μ H locs ls x4) (hcs1 : cells + 1 ≤ 601024 ∧ slots + 6 ≤ 7293034) (kk : ∀ (μ2 : jM) (H2 : Heap) (locs2 : List Loc) (ls2 : Array Slot), LSt s b D cA ad μ2 H2 locs2 ls2 x4 → W p l e room_1 s m #[Value.ref b] below meth c H2 locs2 (cells + 1) (slots + 6) Q (F0 m 1690 ls2 [])) : W p l e room_1 s m #[Value.ref b] below meth c H locs cells slots Q (F0 m 1109 ls []) := by
  obtain ⟨hSI, hM, hP, hS, hl⟩ := hs
  have hcs : cells ≤ 601024 ∧ slots ≤ 7293034 := by omega
  have hx := C.1
  have hb := C.2.1
  have hl : lv_has ls 7 [(0, .ref b), (1, .ref (ad 0)), (2, .ref (ad 69)), (3, .ref (ad 99)), (4, .int x4)] := hl
  obtain ⟨v, μ1, μ2, e1, e2, hSI2⟩ := s_rare 998 998 hSI 
  refine lv_aload_n hx hb dL_law_1109 rfl (lv_at hl 1 rfl) ?_
  refine l_call C (k := 0) (ci := 11) (r := (RX11, TX11, 16)) (as := []) (rest := []) (o := (some (some (jI v)), μ1)) jq_X11_rare rfl dL_law_1110 kz_1035 e1 (fun z => by cases z) rfl rfl rfl rfl (jokS_c (v := jR 0) (show 0 < 100 by decide) jokS_n) hM hP hS hl.1 (Nat.le_of_ble_eq_true rfl) hcs (fun H1 locs1 hok1 hP1 hS => ?_)
  refine lv_aload_n hx hb dL_law_1113 rfl (lv_at hl 2 rfl) ?_
  refine l_call C (k := 69) (ci := 12) (r := (RX12, TX12, 53)) (as := []) (rest := [jI v]) (o := (some (some (jI v)), μ2)) jq_X12_rare rfl dL_law_1114 kz_1888 e2 (fun z => by cases z) rfl rfl rfl rfl (jokS_c (v := jR 69) (show 69 < 100 by decide) jokS_n) hok1.1 hP1 hS hl.1 (Nat.le_of_ble_eq_true rfl) hcs (fun H2 locs2 hok2 hP2 hS => ?_)
  refine lv_icmp_eq (tgt := 1690) hx hb dL_law_1117 (by decide) (fun _ => ?_) (fun z => absurd rfl z)
  exact W.widen (k := cells + 1) (n := slots + 6) (Nat.le_succ _) (Nat.le_add_right _ _) (kk μ2 H2 locs2 ls ⟨hSI2, hok2.1, hP2, hS, hl⟩)
set_option maxHeartbeats 1000000 in
theorem lc_round (C : LCx p l s m c b L xs D cA ad) (hin : vp5 x4 L) (hs : LSt s b D cA ad μ H locs ls x4) (hcs1 : cells + 1 ≤ 601024 ∧ slots + 6 ≤ 7293034) (kk : ∀ (μ2 : jM) (H2 : Heap) (locs2 : List Loc) (ls2 : Array Slot), LSt s b D cA ad μ2 H2 locs2 ls2 x4 → W p l e room_1 s m #[Value.ref b] below meth c H2 locs2 (cells + 1) (slots + 6) Q (F0 m 1690 ls2 [])) : W p l e room_1 s m #[Value.ref b] below meth c H locs cells slots Q (F0 m 1122 ls []) := by
  obtain ⟨hSI, hM, hP, hS, hl⟩ := hs
  have hcs : cells ≤ 601024 ∧ slots ≤ 7293034 := by omega
  have hx := C.1
  have hb := C.2.1
  have hl : lv_has ls 7 [(0, .ref b), (1, .ref (ad 0)), (2, .ref (ad 69)), (3, .ref (ad 99)), (4, .int x4)] := hl
  obtain ⟨v, μ1, μ2, e1, e2, hSI2⟩ := s_round 994 993 hSI 
  refine lv_aload_n hx hb dL_law_1122 rfl (lv_at hl 1 rfl) ?_
  refine l_call C (k := 0) (ci := 11) (r := (RX11, TX11, 16)) (as := []) (rest := []) (o := (some (some (jI v)), μ1)) jq_X11_round rfl dL_law_1123 kz_1041 e1 (fun z => by cases z) rfl rfl rfl rfl (jokS_c (v := jR 0) (show 0 < 100 by decide) jokS_n) hM hP hS hl.1 (Nat.le_of_ble_eq_true rfl) hcs (fun H1 locs1 hok1 hP1 hS => ?_)
  refine lv_aload_n hx hb dL_law_1126 rfl (lv_at hl 2 rfl) ?_
  refine l_call C (k := 69) (ci := 12) (r := (RX12, TX12, 53)) (as := []) (rest := [jI v]) (o := (some (some (jI v)), μ2)) jq_X12_round rfl dL_law_1127 kz_1892 e2 (fun z => by cases z) rfl rfl rfl rfl (jokS_c (v := jR 69) (show 69 < 100 by decide) jokS_n) hok1.1 hP1 hS hl.1 (Nat.le_of_ble_eq_true rfl) hcs (fun H2 locs2 hok2 hP2 hS => ?_)
  refine lv_icmp_eq (tgt := 1690) hx hb dL_law_1130 (by decide) (fun _ => ?_) (fun z => absurd rfl z)
  exact W.widen (k := cells + 1) (n := slots + 6) (Nat.le_succ _) (Nat.le_add_right _ _) (kk μ2 H2 locs2 ls ⟨hSI2, hok2.1, hP2, hS, hl⟩)
set_option maxHeartbeats 1000000 in
theorem lc_shut (C : LCx p l s m c b L xs D cA ad) (hin : vp5 x4 L) (hs : LSt s b D cA ad μ H locs ls x4) (hcs1 : cells + 1 ≤ 601024 ∧ slots + 6 ≤ 7293034) (kk : ∀ (μ2 : jM) (H2 : Heap) (locs2 : List Loc) (ls2 : Array Slot), LSt s b D cA ad μ2 H2 locs2 ls2 x4 → W p l e room_1 s m #[Value.ref b] below meth c H2 locs2 (cells + 1) (slots + 6) Q (F0 m 1690 ls2 [])) : W p l e room_1 s m #[Value.ref b] below meth c H locs cells slots Q (F0 m 1135 ls []) := by
  obtain ⟨hSI, hM, hP, hS, hl⟩ := hs
  have hcs : cells ≤ 601024 ∧ slots ≤ 7293034 := by omega
  have hx := C.1
  have hb := C.2.1
  have hl : lv_has ls 7 [(0, .ref b), (1, .ref (ad 0)), (2, .ref (ad 69)), (3, .ref (ad 99)), (4, .int x4)] := hl
  obtain ⟨a1, ha1, ja1⟩ : ∃ a : Int, xs (x4 + 1).toNatClampNeg = Int32.ofInt a ∧ j32 a := ⟨_, (o_t _).symm, o_r32 _⟩
  obtain ⟨v, μ1, μ2, e1, e2, hSI2⟩ := s_shut 994 994 hSI a1
  refine lv_aload_n hx hb dL_law_1135 rfl (lv_at hl 1 rfl) ?_
  refine l_arg C hS hl 0 4 rfl rfl dL_law_1136 dL_law_1137 dL_law_1139 dL_law_1140 dL_law_1141 rfl hin.2.1 ha1 ?_
  refine l_call C (k := 0) (ci := 11) (r := (RX11, TX11, 16)) (as := [jI a1]) (rest := []) (o := (some (some (jI v)), μ1)) jq_X11_shut rfl dL_law_1142 kz_1050 e1 (fun z => by cases z) rfl rfl rfl rfl (jokS_c (v := jR 0) (show 0 < 100 by decide) (jokS_c ja1 jokS_n)) hM hP hS hl.1 (Nat.le_of_ble_eq_true rfl) hcs (fun H1 locs1 hok1 hP1 hS => ?_)
  refine lv_aload_n hx hb dL_law_1145 rfl (lv_at hl 2 rfl) ?_
  refine l_arg C hS hl 0 4 rfl rfl dL_law_1146 dL_law_1147 dL_law_1149 dL_law_1150 dL_law_1151 rfl hin.2.1 ha1 ?_
  refine l_call C (k := 69) (ci := 12) (r := (RX12, TX12, 53)) (as := [jI a1]) (rest := [jI v]) (o := (some (some (jI v)), μ2)) jq_X12_shut rfl dL_law_1152 kz_1896 e2 (fun z => by cases z) rfl rfl rfl rfl (jokS_c (v := jR 69) (show 69 < 100 by decide) (jokS_c ja1 jokS_n)) hok1.1 hP1 hS hl.1 (Nat.le_of_ble_eq_true rfl) hcs (fun H2 locs2 hok2 hP2 hS => ?_)
  refine lv_icmp_eq (tgt := 1690) hx hb dL_law_1155 (by decide) (fun _ => ?_) (fun z => absurd rfl z)
  exact W.widen (k := cells + 1) (n := slots + 6) (Nat.le_succ _) (Nat.le_add_right _ _) (kk μ2 H2 locs2 ls ⟨hSI2, hok2.1, hP2, hS, hl⟩)
set_option maxHeartbeats 1000000 in
theorem lc_best (C : LCx p l s m c b L xs D cA ad) (hin : vp5 x4 L) (hs : LSt s b D cA ad μ H locs ls x4) (hcs1 : cells + 1 ≤ 601024 ∧ slots + 6 ≤ 7293034) (kk : ∀ (μ2 : jM) (H2 : Heap) (locs2 : List Loc) (ls2 : Array Slot), LSt s b D cA ad μ2 H2 locs2 ls2 x4 → W p l e room_1 s m #[Value.ref b] below meth c H2 locs2 (cells + 1) (slots + 6) Q (F0 m 1690 ls2 [])) : W p l e room_1 s m #[Value.ref b] below meth c H locs cells slots Q (F0 m 1160 ls []) := by
  obtain ⟨hSI, hM, hP, hS, hl⟩ := hs
  have hcs : cells ≤ 601024 ∧ slots ≤ 7293034 := by omega
  have hx := C.1
  have hb := C.2.1
  have hl : lv_has ls 7 [(0, .ref b), (1, .ref (ad 0)), (2, .ref (ad 69)), (3, .ref (ad 99)), (4, .int x4)] := hl
  obtain ⟨a1, ha1, ja1⟩ : ∃ a : Int, xs (x4 + 1).toNatClampNeg = Int32.ofInt a ∧ j32 a := ⟨_, (o_t _).symm, o_r32 _⟩
  obtain ⟨a2, ha2, ja2⟩ : ∃ a : Int, xs (x4 + 2).toNatClampNeg = Int32.ofInt a ∧ j32 a := ⟨_, (o_t _).symm, o_r32 _⟩
  obtain ⟨v, μ1, μ2, e1, e2, hSI2⟩ := s_best 993 745 hSI a1 a2
  refine lv_aload_n hx hb dL_law_1160 rfl (lv_at hl 1 rfl) ?_
  refine l_arg C hS hl 0 4 rfl rfl dL_law_1161 dL_law_1162 dL_law_1164 dL_law_1165 dL_law_1166 rfl hin.2.1 ha1 ?_
  refine l_arg C hS hl 0 4 rfl rfl dL_law_1167 dL_law_1168 dL_law_1170 dL_law_1171 dL_law_1172 rfl hin.2.2.1 ha2 ?_
  refine l_call C (k := 0) (ci := 11) (r := (RX11, TX11, 16)) (as := [jI a1, jI a2]) (rest := []) (o := (some (some (jI v)), μ1)) jq_X11_best rfl dL_law_1173 kz_1062 e1 (fun z => by cases z) rfl rfl rfl rfl (jokS_c (v := jR 0) (show 0 < 100 by decide) (jokS_c ja1 (jokS_c ja2 jokS_n))) hM hP hS hl.1 (Nat.le_of_ble_eq_true rfl) hcs (fun H1 locs1 hok1 hP1 hS => ?_)
  refine lv_aload_n hx hb dL_law_1176 rfl (lv_at hl 2 rfl) ?_
  refine l_arg C hS hl 0 4 rfl rfl dL_law_1177 dL_law_1178 dL_law_1180 dL_law_1181 dL_law_1182 rfl hin.2.1 ha1 ?_
  refine l_arg C hS hl 0 4 rfl rfl dL_law_1183 dL_law_1184 dL_law_1186 dL_law_1187 dL_law_1188 rfl hin.2.2.1 ha2 ?_
  refine l_call C (k := 69) (ci := 12) (r := (RX12, TX12, 53)) (as := [jI a1, jI a2]) (rest := [jI v]) (o := (some (some (jI v)), μ2)) jq_X12_best rfl dL_law_1189 kz_1900 e2 (fun z => by cases z) rfl rfl rfl rfl (jokS_c (v := jR 69) (show 69 < 100 by decide) (jokS_c ja1 (jokS_c ja2 jokS_n))) hok1.1 hP1 hS hl.1 (Nat.le_of_ble_eq_true rfl) hcs (fun H2 locs2 hok2 hP2 hS => ?_)
  refine lv_icmp_eq (tgt := 1690) hx hb dL_law_1192 (by decide) (fun _ => ?_) (fun z => absurd rfl z)
  exact W.widen (k := cells + 1) (n := slots + 6) (Nat.le_succ _) (Nat.le_add_right _ _) (kk μ2 H2 locs2 ls ⟨hSI2, hok2.1, hP2, hS, hl⟩)
set_option maxHeartbeats 1000000 in
theorem lc_fair (C : LCx p l s m c b L xs D cA ad) (hin : vp5 x4 L) (hs : LSt s b D cA ad μ H locs ls x4) (hcs1 : cells + 1 ≤ 601024 ∧ slots + 6 ≤ 7293034) (kk : ∀ (μ2 : jM) (H2 : Heap) (locs2 : List Loc) (ls2 : Array Slot), LSt s b D cA ad μ2 H2 locs2 ls2 x4 → W p l e room_1 s m #[Value.ref b] below meth c H2 locs2 (cells + 1) (slots + 6) Q (F0 m 1690 ls2 [])) : W p l e room_1 s m #[Value.ref b] below meth c H locs cells slots Q (F0 m 1197 ls []) := by
  obtain ⟨hSI, hM, hP, hS, hl⟩ := hs
  have hcs : cells ≤ 601024 ∧ slots ≤ 7293034 := by omega
  have hx := C.1
  have hb := C.2.1
  have hl : lv_has ls 7 [(0, .ref b), (1, .ref (ad 0)), (2, .ref (ad 69)), (3, .ref (ad 99)), (4, .int x4)] := hl
  obtain ⟨a1, ha1, ja1⟩ : ∃ a : Int, xs (x4 + 1).toNatClampNeg = Int32.ofInt a ∧ j32 a := ⟨_, (o_t _).symm, o_r32 _⟩
  obtain ⟨a2, ha2, ja2⟩ : ∃ a : Int, xs (x4 + 2).toNatClampNeg = Int32.ofInt a ∧ j32 a := ⟨_, (o_t _).symm, o_r32 _⟩
  obtain ⟨v, μ1, μ2, e1, e2, hSI2⟩ := s_fair 993 745 hSI a1 a2
  refine lv_aload_n hx hb dL_law_1197 rfl (lv_at hl 1 rfl) ?_
  refine l_arg C hS hl 0 4 rfl rfl dL_law_1198 dL_law_1199 dL_law_1201 dL_law_1202 dL_law_1203 rfl hin.2.1 ha1 ?_
  refine l_arg C hS hl 0 4 rfl rfl dL_law_1204 dL_law_1205 dL_law_1207 dL_law_1208 dL_law_1209 rfl hin.2.2.1 ha2 ?_
  refine l_call C (k := 0) (ci := 11) (r := (RX11, TX11, 16)) (as := [jI a1, jI a2]) (rest := []) (o := (some (some (jI v)), μ1)) jq_X11_fair rfl dL_law_1210 kz_1118 e1 (fun z => by cases z) rfl rfl rfl rfl (jokS_c (v := jR 0) (show 0 < 100 by decide) (jokS_c ja1 (jokS_c ja2 jokS_n))) hM hP hS hl.1 (Nat.le_of_ble_eq_true rfl) hcs (fun H1 locs1 hok1 hP1 hS => ?_)
  refine lv_aload_n hx hb dL_law_1213 rfl (lv_at hl 2 rfl) ?_
  refine l_arg C hS hl 0 4 rfl rfl dL_law_1214 dL_law_1215 dL_law_1217 dL_law_1218 dL_law_1219 rfl hin.2.1 ha1 ?_
  refine l_arg C hS hl 0 4 rfl rfl dL_law_1220 dL_law_1221 dL_law_1223 dL_law_1224 dL_law_1225 rfl hin.2.2.1 ha2 ?_
  refine l_call C (k := 69) (ci := 12) (r := (RX12, TX12, 53)) (as := [jI a1, jI a2]) (rest := [jI v]) (o := (some (some (jI v)), μ2)) jq_X12_fair rfl dL_law_1226 kz_1926 e2 (fun z => by cases z) rfl rfl rfl rfl (jokS_c (v := jR 69) (show 69 < 100 by decide) (jokS_c ja1 (jokS_c ja2 jokS_n))) hok1.1 hP1 hS hl.1 (Nat.le_of_ble_eq_true rfl) hcs (fun H2 locs2 hok2 hP2 hS => ?_)
  refine lv_icmp_eq (tgt := 1690) hx hb dL_law_1229 (by decide) (fun _ => ?_) (fun z => absurd rfl z)
  exact W.widen (k := cells + 1) (n := slots + 6) (Nat.le_succ _) (Nat.le_add_right _ _) (kk μ2 H2 locs2 ls ⟨hSI2, hok2.1, hP2, hS, hl⟩)
set_option maxHeartbeats 1000000 in
theorem lc_cheap (C : LCx p l s m c b L xs D cA ad) (hin : vp5 x4 L) (hs : LSt s b D cA ad μ H locs ls x4) (hcs1 : cells + 1 ≤ 601024 ∧ slots + 6 ≤ 7293034) (kk : ∀ (μ2 : jM) (H2 : Heap) (locs2 : List Loc) (ls2 : Array Slot), LSt s b D cA ad μ2 H2 locs2 ls2 x4 → W p l e room_1 s m #[Value.ref b] below meth c H2 locs2 (cells + 1) (slots + 6) Q (F0 m 1690 ls2 [])) : W p l e room_1 s m #[Value.ref b] below meth c H locs cells slots Q (F0 m 1234 ls []) := by
  obtain ⟨hSI, hM, hP, hS, hl⟩ := hs
  have hcs : cells ≤ 601024 ∧ slots ≤ 7293034 := by omega
  have hx := C.1
  have hb := C.2.1
  have hl : lv_has ls 7 [(0, .ref b), (1, .ref (ad 0)), (2, .ref (ad 69)), (3, .ref (ad 99)), (4, .int x4)] := hl
  obtain ⟨a1, ha1, ja1⟩ : ∃ a : Int, xs (x4 + 1).toNatClampNeg = Int32.ofInt a ∧ j32 a := ⟨_, (o_t _).symm, o_r32 _⟩
  obtain ⟨v, μ1, μ2, e1, e2, hSI2⟩ := s_cheap 993 745 hSI a1
  refine lv_aload_n hx hb dL_law_1234 rfl (lv_at hl 1 rfl) ?_
  refine l_arg C hS hl 0 4 rfl rfl dL_law_1235 dL_law_1236 dL_law_1238 dL_law_1239 dL_law_1240 rfl hin.2.1 ha1 ?_
  refine l_call C (k := 0) (ci := 11) (r := (RX11, TX11, 16)) (as := [jI a1]) (rest := []) (o := (some (some (jI v)), μ1)) jq_X11_cheap rfl dL_law_1241 kz_1124 e1 (fun z => by cases z) rfl rfl rfl rfl (jokS_c (v := jR 0) (show 0 < 100 by decide) (jokS_c ja1 jokS_n)) hM hP hS hl.1 (Nat.le_of_ble_eq_true rfl) hcs (fun H1 locs1 hok1 hP1 hS => ?_)
  refine lv_aload_n hx hb dL_law_1244 rfl (lv_at hl 2 rfl) ?_
  refine l_arg C hS hl 0 4 rfl rfl dL_law_1245 dL_law_1246 dL_law_1248 dL_law_1249 dL_law_1250 rfl hin.2.1 ha1 ?_
  refine l_call C (k := 69) (ci := 12) (r := (RX12, TX12, 53)) (as := [jI a1]) (rest := [jI v]) (o := (some (some (jI v)), μ2)) jq_X12_cheap rfl dL_law_1251 kz_1930 e2 (fun z => by cases z) rfl rfl rfl rfl (jokS_c (v := jR 69) (show 69 < 100 by decide) (jokS_c ja1 jokS_n)) hok1.1 hP1 hS hl.1 (Nat.le_of_ble_eq_true rfl) hcs (fun H2 locs2 hok2 hP2 hS => ?_)
  refine lv_icmp_eq (tgt := 1690) hx hb dL_law_1254 (by decide) (fun _ => ?_) (fun z => absurd rfl z)
  exact W.widen (k := cells + 1) (n := slots + 6) (Nat.le_succ _) (Nat.le_add_right _ _) (kk μ2 H2 locs2 ls ⟨hSI2, hok2.1, hP2, hS, hl⟩)
set_option maxHeartbeats 1000000 in
theorem lc_dear (C : LCx p l s m c b L xs D cA ad) (hin : vp5 x4 L) (hs : LSt s b D cA ad μ H locs ls x4) (hcs1 : cells + 1 ≤ 601024 ∧ slots + 6 ≤ 7293034) (kk : ∀ (μ2 : jM) (H2 : Heap) (locs2 : List Loc) (ls2 : Array Slot), LSt s b D cA ad μ2 H2 locs2 ls2 x4 → W p l e room_1 s m #[Value.ref b] below meth c H2 locs2 (cells + 1) (slots + 6) Q (F0 m 1690 ls2 [])) : W p l e room_1 s m #[Value.ref b] below meth c H locs cells slots Q (F0 m 1259 ls []) := by
  obtain ⟨hSI, hM, hP, hS, hl⟩ := hs
  have hcs : cells ≤ 601024 ∧ slots ≤ 7293034 := by omega
  have hx := C.1
  have hb := C.2.1
  have hl : lv_has ls 7 [(0, .ref b), (1, .ref (ad 0)), (2, .ref (ad 69)), (3, .ref (ad 99)), (4, .int x4)] := hl
  obtain ⟨a1, ha1, ja1⟩ : ∃ a : Int, xs (x4 + 1).toNatClampNeg = Int32.ofInt a ∧ j32 a := ⟨_, (o_t _).symm, o_r32 _⟩
  obtain ⟨v, μ1, μ2, e1, e2, hSI2⟩ := s_dear 993 745 hSI a1
  refine lv_aload_n hx hb dL_law_1259 rfl (lv_at hl 1 rfl) ?_
  refine l_arg C hS hl 0 4 rfl rfl dL_law_1260 dL_law_1261 dL_law_1263 dL_law_1264 dL_law_1265 rfl hin.2.1 ha1 ?_
  refine l_call C (k := 0) (ci := 11) (r := (RX11, TX11, 16)) (as := [jI a1]) (rest := []) (o := (some (some (jI v)), μ1)) jq_X11_dear rfl dL_law_1266 kz_1138 e1 (fun z => by cases z) rfl rfl rfl rfl (jokS_c (v := jR 0) (show 0 < 100 by decide) (jokS_c ja1 jokS_n)) hM hP hS hl.1 (Nat.le_of_ble_eq_true rfl) hcs (fun H1 locs1 hok1 hP1 hS => ?_)
  refine lv_aload_n hx hb dL_law_1269 rfl (lv_at hl 2 rfl) ?_
  refine l_arg C hS hl 0 4 rfl rfl dL_law_1270 dL_law_1271 dL_law_1273 dL_law_1274 dL_law_1275 rfl hin.2.1 ha1 ?_
  refine l_call C (k := 69) (ci := 12) (r := (RX12, TX12, 53)) (as := [jI a1]) (rest := [jI v]) (o := (some (some (jI v)), μ2)) jq_X12_dear rfl dL_law_1276 kz_1939 e2 (fun z => by cases z) rfl rfl rfl rfl (jokS_c (v := jR 69) (show 69 < 100 by decide) (jokS_c ja1 jokS_n)) hok1.1 hP1 hS hl.1 (Nat.le_of_ble_eq_true rfl) hcs (fun H2 locs2 hok2 hP2 hS => ?_)
  refine lv_icmp_eq (tgt := 1690) hx hb dL_law_1279 (by decide) (fun _ => ?_) (fun z => absurd rfl z)
  exact W.widen (k := cells + 1) (n := slots + 6) (Nat.le_succ _) (Nat.le_add_right _ _) (kk μ2 H2 locs2 ls ⟨hSI2, hok2.1, hP2, hS, hl⟩)
set_option maxHeartbeats 1000000 in
theorem lc_game (C : LCx p l s m c b L xs D cA ad) (hin : vp5 x4 L) (hs : LSt s b D cA ad μ H locs ls x4) (hcs1 : cells + 1 ≤ 601024 ∧ slots + 6 ≤ 7293034) (kk : ∀ (μ2 : jM) (H2 : Heap) (locs2 : List Loc) (ls2 : Array Slot), LSt s b D cA ad μ2 H2 locs2 ls2 x4 → W p l e room_1 s m #[Value.ref b] below meth c H2 locs2 (cells + 1) (slots + 6) Q (F0 m 1690 ls2 [])) : W p l e room_1 s m #[Value.ref b] below meth c H locs cells slots Q (F0 m 1284 ls []) := by
  obtain ⟨hSI, hM, hP, hS, hl⟩ := hs
  have hcs : cells ≤ 601024 ∧ slots ≤ 7293034 := by omega
  have hx := C.1
  have hb := C.2.1
  have hl : lv_has ls 7 [(0, .ref b), (1, .ref (ad 0)), (2, .ref (ad 69)), (3, .ref (ad 99)), (4, .int x4)] := hl
  obtain ⟨v, μ1, μ2, e1, e2, hSI2⟩ := s_game 994 993 hSI 
  refine lv_aload_n hx hb dL_law_1284 rfl (lv_at hl 1 rfl) ?_
  refine l_call C (k := 0) (ci := 11) (r := (RX11, TX11, 16)) (as := []) (rest := []) (o := (some (some (jI v)), μ1)) jq_X11_game rfl dL_law_1285 kz_1142 e1 (fun z => by cases z) rfl rfl rfl rfl (jokS_c (v := jR 0) (show 0 < 100 by decide) jokS_n) hM hP hS hl.1 (Nat.le_of_ble_eq_true rfl) hcs (fun H1 locs1 hok1 hP1 hS => ?_)
  refine lv_aload_n hx hb dL_law_1288 rfl (lv_at hl 2 rfl) ?_
  refine l_call C (k := 69) (ci := 12) (r := (RX12, TX12, 53)) (as := []) (rest := [jI v]) (o := (some (some (jI v)), μ2)) jq_X12_game rfl dL_law_1289 kz_1943 e2 (fun z => by cases z) rfl rfl rfl rfl (jokS_c (v := jR 69) (show 69 < 100 by decide) jokS_n) hok1.1 hP1 hS hl.1 (Nat.le_of_ble_eq_true rfl) hcs (fun H2 locs2 hok2 hP2 hS => ?_)
  refine lv_icmp_eq (tgt := 1690) hx hb dL_law_1292 (by decide) (fun _ => ?_) (fun z => absurd rfl z)
  exact W.widen (k := cells + 1) (n := slots + 6) (Nat.le_succ _) (Nat.le_add_right _ _) (kk μ2 H2 locs2 ls ⟨hSI2, hok2.1, hP2, hS, hl⟩)
set_option maxHeartbeats 1000000 in
theorem lc_greedy (C : LCx p l s m c b L xs D cA ad) (hin : vp5 x4 L) (hs : LSt s b D cA ad μ H locs ls x4) (hcs1 : cells + 1 ≤ 601024 ∧ slots + 6 ≤ 7293034) (kk : ∀ (μ2 : jM) (H2 : Heap) (locs2 : List Loc) (ls2 : Array Slot), LSt s b D cA ad μ2 H2 locs2 ls2 x4 → W p l e room_1 s m #[Value.ref b] below meth c H2 locs2 (cells + 1) (slots + 6) Q (F0 m 1690 ls2 [])) : W p l e room_1 s m #[Value.ref b] below meth c H locs cells slots Q (F0 m 1297 ls []) := by
  obtain ⟨hSI, hM, hP, hS, hl⟩ := hs
  have hcs : cells ≤ 601024 ∧ slots ≤ 7293034 := by omega
  have hx := C.1
  have hb := C.2.1
  have hl : lv_has ls 7 [(0, .ref b), (1, .ref (ad 0)), (2, .ref (ad 69)), (3, .ref (ad 99)), (4, .int x4)] := hl
  obtain ⟨v, μ1, μ2, e1, e2, hSI2⟩ := s_greedy 993 747 hSI 
  refine lv_aload_n hx hb dL_law_1297 rfl (lv_at hl 1 rfl) ?_
  refine l_call C (k := 0) (ci := 11) (r := (RX11, TX11, 16)) (as := []) (rest := []) (o := (some (some (jI v)), μ1)) jq_X11_greedy rfl dL_law_1298 kz_1159 e1 (fun z => by cases z) rfl rfl rfl rfl (jokS_c (v := jR 0) (show 0 < 100 by decide) jokS_n) hM hP hS hl.1 (Nat.le_of_ble_eq_true rfl) hcs (fun H1 locs1 hok1 hP1 hS => ?_)
  refine lv_aload_n hx hb dL_law_1301 rfl (lv_at hl 2 rfl) ?_
  refine l_call C (k := 69) (ci := 12) (r := (RX12, TX12, 53)) (as := []) (rest := [jI v]) (o := (some (some (jI v)), μ2)) jq_X12_greedy rfl dL_law_1302 kz_1955 e2 (fun z => by cases z) rfl rfl rfl rfl (jokS_c (v := jR 69) (show 69 < 100 by decide) jokS_n) hok1.1 hP1 hS hl.1 (Nat.le_of_ble_eq_true rfl) hcs (fun H2 locs2 hok2 hP2 hS => ?_)
  refine lv_icmp_eq (tgt := 1690) hx hb dL_law_1305 (by decide) (fun _ => ?_) (fun z => absurd rfl z)
  exact W.widen (k := cells + 1) (n := slots + 6) (Nat.le_succ _) (Nat.le_add_right _ _) (kk μ2 H2 locs2 ls ⟨hSI2, hok2.1, hP2, hS, hl⟩)
set_option maxHeartbeats 1000000 in
theorem lc_mend (C : LCx p l s m c b L xs D cA ad) (hin : vp5 x4 L) (hs : LSt s b D cA ad μ H locs ls x4) (hcs1 : cells + 1 ≤ 601024 ∧ slots + 6 ≤ 7293034) (kk : ∀ (μ2 : jM) (H2 : Heap) (locs2 : List Loc) (ls2 : Array Slot), LSt s b D cA ad μ2 H2 locs2 ls2 x4 → W p l e room_1 s m #[Value.ref b] below meth c H2 locs2 (cells + 1) (slots + 6) Q (F0 m 1690 ls2 [])) : W p l e room_1 s m #[Value.ref b] below meth c H locs cells slots Q (F0 m 1310 ls []) := by
  obtain ⟨hSI, hM, hP, hS, hl⟩ := hs
  have hcs : cells ≤ 601024 ∧ slots ≤ 7293034 := by omega
  have hx := C.1
  have hb := C.2.1
  have hl : lv_has ls 7 [(0, .ref b), (1, .ref (ad 0)), (2, .ref (ad 69)), (3, .ref (ad 99)), (4, .int x4)] := hl
  obtain ⟨a1, ha1, ja1⟩ : ∃ a : Int, xs (x4 + 1).toNatClampNeg = Int32.ofInt a ∧ j32 a := ⟨_, (o_t _).symm, o_r32 _⟩
  obtain ⟨a2, ha2, ja2⟩ : ∃ a : Int, xs (x4 + 2).toNatClampNeg = Int32.ofInt a ∧ j32 a := ⟨_, (o_t _).symm, o_r32 _⟩
  obtain ⟨v, μ1, μ2, e1, e2, hSI2⟩ := s_mend 994 994 hSI a1 a2
  refine lv_aload_n hx hb dL_law_1310 rfl (lv_at hl 1 rfl) ?_
  refine l_arg C hS hl 0 4 rfl rfl dL_law_1311 dL_law_1312 dL_law_1314 dL_law_1315 dL_law_1316 rfl hin.2.1 ha1 ?_
  refine l_arg C hS hl 0 4 rfl rfl dL_law_1317 dL_law_1318 dL_law_1320 dL_law_1321 dL_law_1322 rfl hin.2.2.1 ha2 ?_
  refine l_call C (k := 0) (ci := 11) (r := (RX11, TX11, 16)) (as := [jI a1, jI a2]) (rest := []) (o := (some (some (jI v)), μ1)) jq_X11_mend rfl dL_law_1323 kz_1177 e1 (fun z => by cases z) rfl rfl rfl rfl (jokS_c (v := jR 0) (show 0 < 100 by decide) (jokS_c ja1 (jokS_c ja2 jokS_n))) hM hP hS hl.1 (Nat.le_of_ble_eq_true rfl) hcs (fun H1 locs1 hok1 hP1 hS => ?_)
  refine lv_aload_n hx hb dL_law_1326 rfl (lv_at hl 2 rfl) ?_
  refine l_arg C hS hl 0 4 rfl rfl dL_law_1327 dL_law_1328 dL_law_1330 dL_law_1331 dL_law_1332 rfl hin.2.1 ha1 ?_
  refine l_arg C hS hl 0 4 rfl rfl dL_law_1333 dL_law_1334 dL_law_1336 dL_law_1337 dL_law_1338 rfl hin.2.2.1 ha2 ?_
  refine l_call C (k := 69) (ci := 12) (r := (RX12, TX12, 53)) (as := [jI a1, jI a2]) (rest := [jI v]) (o := (some (some (jI v)), μ2)) jq_X12_mend rfl dL_law_1339 kz_1963 e2 (fun z => by cases z) rfl rfl rfl rfl (jokS_c (v := jR 69) (show 69 < 100 by decide) (jokS_c ja1 (jokS_c ja2 jokS_n))) hok1.1 hP1 hS hl.1 (Nat.le_of_ble_eq_true rfl) hcs (fun H2 locs2 hok2 hP2 hS => ?_)
  refine lv_icmp_eq (tgt := 1690) hx hb dL_law_1342 (by decide) (fun _ => ?_) (fun z => absurd rfl z)
  exact W.widen (k := cells + 1) (n := slots + 6) (Nat.le_succ _) (Nat.le_add_right _ _) (kk μ2 H2 locs2 ls ⟨hSI2, hok2.1, hP2, hS, hl⟩)
set_option maxHeartbeats 1000000 in
theorem lc_fills (C : LCx p l s m c b L xs D cA ad) (hin : vp5 x4 L) (hs : LSt s b D cA ad μ H locs ls x4) (hcs1 : cells + 1 ≤ 601024 ∧ slots + 6 ≤ 7293034) (kk : ∀ (μ2 : jM) (H2 : Heap) (locs2 : List Loc) (ls2 : Array Slot), LSt s b D cA ad μ2 H2 locs2 ls2 x4 → W p l e room_1 s m #[Value.ref b] below meth c H2 locs2 (cells + 1) (slots + 6) Q (F0 m 1690 ls2 [])) : W p l e room_1 s m #[Value.ref b] below meth c H locs cells slots Q (F0 m 1347 ls []) := by
  obtain ⟨hSI, hM, hP, hS, hl⟩ := hs
  have hcs : cells ≤ 601024 ∧ slots ≤ 7293034 := by omega
  have hx := C.1
  have hb := C.2.1
  have hl : lv_has ls 7 [(0, .ref b), (1, .ref (ad 0)), (2, .ref (ad 69)), (3, .ref (ad 99)), (4, .int x4)] := hl
  obtain ⟨a1, ha1, ja1⟩ : ∃ a : Int, xs (x4 + 1).toNatClampNeg = Int32.ofInt a ∧ j32 a := ⟨_, (o_t _).symm, o_r32 _⟩
  obtain ⟨v, μ1, μ2, e1, e2, hSI2⟩ := s_fills 993 994 hSI a1
  refine lv_aload_n hx hb dL_law_1347 rfl (lv_at hl 1 rfl) ?_
  refine l_arg C hS hl 0 4 rfl rfl dL_law_1348 dL_law_1349 dL_law_1351 dL_law_1352 dL_law_1353 rfl hin.2.1 ha1 ?_
  refine l_call C (k := 0) (ci := 11) (r := (RX11, TX11, 16)) (as := [jI a1]) (rest := []) (o := (some (some (jL v)), μ1)) jq_X11_fills rfl dL_law_1354 kz_1201 e1 (fun z => by cases z) rfl rfl rfl rfl (jokS_c (v := jR 0) (show 0 < 100 by decide) (jokS_c ja1 jokS_n)) hM hP hS hl.1 (Nat.le_of_ble_eq_true rfl) hcs (fun H1 locs1 hok1 hP1 hS => ?_)
  refine lv_aload_n hx hb dL_law_1357 rfl (lv_at hl 2 rfl) ?_
  refine l_arg C hS hl 0 4 rfl rfl dL_law_1358 dL_law_1359 dL_law_1361 dL_law_1362 dL_law_1363 rfl hin.2.1 ha1 ?_
  refine l_call C (k := 69) (ci := 12) (r := (RX12, TX12, 53)) (as := [jI a1]) (rest := [jL v]) (o := (some (some (jL v)), μ2)) jq_X12_fills rfl dL_law_1364 kz_1975 e2 (fun z => by cases z) rfl rfl rfl rfl (jokS_c (v := jR 69) (show 69 < 100 by decide) (jokS_c ja1 jokS_n)) hok1.1 hP1 hS hl.1 (Nat.le_of_ble_eq_true rfl) hcs (fun H2 locs2 hok2 hP2 hS => ?_)
  refine W.lcmp (x := Int64.ofInt v) (y := Int64.ofInt v) (rest := []) hx hb dL_law_1367 ?_
  refine lv_if_eq (tgt := 1690) hx hb dL_law_1368 (by decide) (fun _ => ?_) (fun z => absurd (cmp_self (hok2.2 _ rfl)) z)
  exact W.widen (k := cells + 1) (n := slots + 6) (Nat.le_succ _) (Nat.le_add_right _ _) (kk μ2 H2 locs2 ls ⟨hSI2, hok2.1, hP2, hS, hl⟩)
set_option maxHeartbeats 1000000 in
theorem lc_sure (C : LCx p l s m c b L xs D cA ad) (hin : vp5 x4 L) (hs : LSt s b D cA ad μ H locs ls x4) (hcs1 : cells + 1 ≤ 601024 ∧ slots + 6 ≤ 7293034) (kk : ∀ (μ2 : jM) (H2 : Heap) (locs2 : List Loc) (ls2 : Array Slot), LSt s b D cA ad μ2 H2 locs2 ls2 x4 → W p l e room_1 s m #[Value.ref b] below meth c H2 locs2 (cells + 1) (slots + 6) Q (F0 m 1690 ls2 [])) : W p l e room_1 s m #[Value.ref b] below meth c H locs cells slots Q (F0 m 1373 ls []) := by
  obtain ⟨hSI, hM, hP, hS, hl⟩ := hs
  have hcs : cells ≤ 601024 ∧ slots ≤ 7293034 := by omega
  have hx := C.1
  have hb := C.2.1
  have hl : lv_has ls 7 [(0, .ref b), (1, .ref (ad 0)), (2, .ref (ad 69)), (3, .ref (ad 99)), (4, .int x4)] := hl
  obtain ⟨a1, ha1, ja1⟩ : ∃ a : Int, xs (x4 + 1).toNatClampNeg = Int32.ofInt a ∧ j32 a := ⟨_, (o_t _).symm, o_r32 _⟩
  obtain ⟨a2, ha2, ja2⟩ : ∃ a : Int, xs (x4 + 2).toNatClampNeg = Int32.ofInt a ∧ j32 a := ⟨_, (o_t _).symm, o_r32 _⟩
  obtain ⟨v, μ1, μ2, e1, e2, hSI2⟩ := s_sure 993 994 hSI a1 a2
  refine lv_aload_n hx hb dL_law_1373 rfl (lv_at hl 1 rfl) ?_
  refine l_arg C hS hl 0 4 rfl rfl dL_law_1374 dL_law_1375 dL_law_1377 dL_law_1378 dL_law_1379 rfl hin.2.1 ha1 ?_
  refine l_arg C hS hl 0 4 rfl rfl dL_law_1380 dL_law_1381 dL_law_1383 dL_law_1384 dL_law_1385 rfl hin.2.2.1 ha2 ?_
  refine l_call C (k := 0) (ci := 11) (r := (RX11, TX11, 16)) (as := [jI a1, jI a2]) (rest := []) (o := (some (some (jI v)), μ1)) jq_X11_sure rfl dL_law_1386 kz_1211 e1 (fun z => by cases z) rfl rfl rfl rfl (jokS_c (v := jR 0) (show 0 < 100 by decide) (jokS_c ja1 (jokS_c ja2 jokS_n))) hM hP hS hl.1 (Nat.le_of_ble_eq_true rfl) hcs (fun H1 locs1 hok1 hP1 hS => ?_)
  refine lv_aload_n hx hb dL_law_1389 rfl (lv_at hl 2 rfl) ?_
  refine l_arg C hS hl 0 4 rfl rfl dL_law_1390 dL_law_1391 dL_law_1393 dL_law_1394 dL_law_1395 rfl hin.2.1 ha1 ?_
  refine l_arg C hS hl 0 4 rfl rfl dL_law_1396 dL_law_1397 dL_law_1399 dL_law_1400 dL_law_1401 rfl hin.2.2.1 ha2 ?_
  refine l_call C (k := 69) (ci := 12) (r := (RX12, TX12, 53)) (as := [jI a1, jI a2]) (rest := [jI v]) (o := (some (some (jI v)), μ2)) jq_X12_sure rfl dL_law_1402 kz_1988 e2 (fun z => by cases z) rfl rfl rfl rfl (jokS_c (v := jR 69) (show 69 < 100 by decide) (jokS_c ja1 (jokS_c ja2 jokS_n))) hok1.1 hP1 hS hl.1 (Nat.le_of_ble_eq_true rfl) hcs (fun H2 locs2 hok2 hP2 hS => ?_)
  refine lv_icmp_eq (tgt := 1690) hx hb dL_law_1405 (by decide) (fun _ => ?_) (fun z => absurd rfl z)
  exact W.widen (k := cells + 1) (n := slots + 6) (Nat.le_succ _) (Nat.le_add_right _ _) (kk μ2 H2 locs2 ls ⟨hSI2, hok2.1, hP2, hS, hl⟩)
set_option maxHeartbeats 1000000 in
theorem lc_hearths (C : LCx p l s m c b L xs D cA ad) (hin : vp5 x4 L) (hs : LSt s b D cA ad μ H locs ls x4) (hcs1 : cells + 1 ≤ 601024 ∧ slots + 6 ≤ 7293034) (kk : ∀ (μ2 : jM) (H2 : Heap) (locs2 : List Loc) (ls2 : Array Slot), LSt s b D cA ad μ2 H2 locs2 ls2 x4 → W p l e room_1 s m #[Value.ref b] below meth c H2 locs2 (cells + 1) (slots + 6) Q (F0 m 1690 ls2 [])) : W p l e room_1 s m #[Value.ref b] below meth c H locs cells slots Q (F0 m 1410 ls []) := by
  obtain ⟨hSI, hM, hP, hS, hl⟩ := hs
  have hcs : cells ≤ 601024 ∧ slots ≤ 7293034 := by omega
  have hx := C.1
  have hb := C.2.1
  have hl : lv_has ls 7 [(0, .ref b), (1, .ref (ad 0)), (2, .ref (ad 69)), (3, .ref (ad 99)), (4, .int x4)] := hl
  obtain ⟨a1, ha1, ja1⟩ : ∃ a : Int, xs (x4 + 1).toNatClampNeg = Int32.ofInt a ∧ j32 a := ⟨_, (o_t _).symm, o_r32 _⟩
  obtain ⟨v, μ1, μ2, e1, e2, hSI2⟩ := s_hearths 996 996 hSI a1
  refine lv_aload_n hx hb dL_law_1410 rfl (lv_at hl 1 rfl) ?_
  refine l_arg C hS hl 0 4 rfl rfl dL_law_1411 dL_law_1412 dL_law_1414 dL_law_1415 dL_law_1416 rfl hin.2.1 ha1 ?_
  refine l_call C (k := 0) (ci := 11) (r := (RX11, TX11, 16)) (as := [jI a1]) (rest := []) (o := (some (some (jI v)), μ1)) jq_X11_hearths rfl dL_law_1417 kz_1219 e1 (fun z => by cases z) rfl rfl rfl rfl (jokS_c (v := jR 0) (show 0 < 100 by decide) (jokS_c ja1 jokS_n)) hM hP hS hl.1 (Nat.le_of_ble_eq_true rfl) hcs (fun H1 locs1 hok1 hP1 hS => ?_)
  refine lv_aload_n hx hb dL_law_1420 rfl (lv_at hl 2 rfl) ?_
  refine l_arg C hS hl 0 4 rfl rfl dL_law_1421 dL_law_1422 dL_law_1424 dL_law_1425 dL_law_1426 rfl hin.2.1 ha1 ?_
  refine l_call C (k := 69) (ci := 12) (r := (RX12, TX12, 53)) (as := [jI a1]) (rest := [jI v]) (o := (some (some (jI v)), μ2)) jq_X12_hearths rfl dL_law_1427 kz_1992 e2 (fun z => by cases z) rfl rfl rfl rfl (jokS_c (v := jR 69) (show 69 < 100 by decide) (jokS_c ja1 jokS_n)) hok1.1 hP1 hS hl.1 (Nat.le_of_ble_eq_true rfl) hcs (fun H2 locs2 hok2 hP2 hS => ?_)
  refine lv_icmp_eq (tgt := 1690) hx hb dL_law_1430 (by decide) (fun _ => ?_) (fun z => absurd rfl z)
  exact W.widen (k := cells + 1) (n := slots + 6) (Nat.le_succ _) (Nat.le_add_right _ _) (kk μ2 H2 locs2 ls ⟨hSI2, hok2.1, hP2, hS, hl⟩)
set_option maxHeartbeats 1000000 in
theorem lc_late (C : LCx p l s m c b L xs D cA ad) (hin : vp5 x4 L) (hs : LSt s b D cA ad μ H locs ls x4) (hcs1 : cells + 1 ≤ 601024 ∧ slots + 6 ≤ 7293034) (kk : ∀ (μ2 : jM) (H2 : Heap) (locs2 : List Loc) (ls2 : Array Slot), LSt s b D cA ad μ2 H2 locs2 ls2 x4 → W p l e room_1 s m #[Value.ref b] below meth c H2 locs2 (cells + 1) (slots + 6) Q (F0 m 1690 ls2 [])) : W p l e room_1 s m #[Value.ref b] below meth c H locs cells slots Q (F0 m 1435 ls []) := by
  obtain ⟨hSI, hM, hP, hS, hl⟩ := hs
  have hcs : cells ≤ 601024 ∧ slots ≤ 7293034 := by omega
  have hx := C.1
  have hb := C.2.1
  have hl : lv_has ls 7 [(0, .ref b), (1, .ref (ad 0)), (2, .ref (ad 69)), (3, .ref (ad 99)), (4, .int x4)] := hl
  obtain ⟨a1, ha1, ja1⟩ : ∃ a : Int, xs (x4 + 1).toNatClampNeg = Int32.ofInt a ∧ j32 a := ⟨_, (o_t _).symm, o_r32 _⟩
  obtain ⟨a2, ha2, ja2⟩ : ∃ a : Int, xs (x4 + 2).toNatClampNeg = Int32.ofInt a ∧ j32 a := ⟨_, (o_t _).symm, o_r32 _⟩
  obtain ⟨v, μ1, μ2, e1, e2, hSI2⟩ := s_late 996 996 hSI a1 a2
  refine lv_aload_n hx hb dL_law_1435 rfl (lv_at hl 1 rfl) ?_
  refine l_arg C hS hl 0 4 rfl rfl dL_law_1436 dL_law_1437 dL_law_1439 dL_law_1440 dL_law_1441 rfl hin.2.1 ha1 ?_
  refine l_arg C hS hl 0 4 rfl rfl dL_law_1442 dL_law_1443 dL_law_1445 dL_law_1446 dL_law_1447 rfl hin.2.2.1 ha2 ?_
  refine l_call C (k := 0) (ci := 11) (r := (RX11, TX11, 16)) (as := [jI a1, jI a2]) (rest := []) (o := (some (some (jI v)), μ1)) jq_X11_late rfl dL_law_1448 kz_1230 e1 (fun z => by cases z) rfl rfl rfl rfl (jokS_c (v := jR 0) (show 0 < 100 by decide) (jokS_c ja1 (jokS_c ja2 jokS_n))) hM hP hS hl.1 (Nat.le_of_ble_eq_true rfl) hcs (fun H1 locs1 hok1 hP1 hS => ?_)
  refine lv_aload_n hx hb dL_law_1451 rfl (lv_at hl 2 rfl) ?_
  refine l_arg C hS hl 0 4 rfl rfl dL_law_1452 dL_law_1453 dL_law_1455 dL_law_1456 dL_law_1457 rfl hin.2.1 ha1 ?_
  refine l_arg C hS hl 0 4 rfl rfl dL_law_1458 dL_law_1459 dL_law_1461 dL_law_1462 dL_law_1463 rfl hin.2.2.1 ha2 ?_
  refine l_call C (k := 69) (ci := 12) (r := (RX12, TX12, 53)) (as := [jI a1, jI a2]) (rest := [jI v]) (o := (some (some (jI v)), μ2)) jq_X12_late rfl dL_law_1464 kz_1996 e2 (fun z => by cases z) rfl rfl rfl rfl (jokS_c (v := jR 69) (show 69 < 100 by decide) (jokS_c ja1 (jokS_c ja2 jokS_n))) hok1.1 hP1 hS hl.1 (Nat.le_of_ble_eq_true rfl) hcs (fun H2 locs2 hok2 hP2 hS => ?_)
  refine lv_icmp_eq (tgt := 1690) hx hb dL_law_1467 (by decide) (fun _ => ?_) (fun z => absurd rfl z)
  exact W.widen (k := cells + 1) (n := slots + 6) (Nat.le_succ _) (Nat.le_add_right _ _) (kk μ2 H2 locs2 ls ⟨hSI2, hok2.1, hP2, hS, hl⟩)
set_option maxHeartbeats 1000000 in
theorem lc_poison (C : LCx p l s m c b L xs D cA ad) (hin : vp5 x4 L) (hs : LSt s b D cA ad μ H locs ls x4) (hcs1 : cells + 1 ≤ 601024 ∧ slots + 6 ≤ 7293034) (kk : ∀ (μ2 : jM) (H2 : Heap) (locs2 : List Loc) (ls2 : Array Slot), LSt s b D cA ad μ2 H2 locs2 ls2 x4 → W p l e room_1 s m #[Value.ref b] below meth c H2 locs2 (cells + 1) (slots + 6) Q (F0 m 1690 ls2 [])) : W p l e room_1 s m #[Value.ref b] below meth c H locs cells slots Q (F0 m 1472 ls []) := by
  obtain ⟨hSI, hM, hP, hS, hl⟩ := hs
  have hcs : cells ≤ 601024 ∧ slots ≤ 7293034 := by omega
  have hx := C.1
  have hb := C.2.1
  have hl : lv_has ls 7 [(0, .ref b), (1, .ref (ad 0)), (2, .ref (ad 69)), (3, .ref (ad 99)), (4, .int x4)] := hl
  obtain ⟨a1, ha1, ja1⟩ : ∃ a : Int, xs (x4 + 1).toNatClampNeg = Int32.ofInt a ∧ j32 a := ⟨_, (o_t _).symm, o_r32 _⟩
  obtain ⟨a2, ha2, ja2⟩ : ∃ a : Int, xs (x4 + 2).toNatClampNeg = Int32.ofInt a ∧ j32 a := ⟨_, (o_t _).symm, o_r32 _⟩
  obtain ⟨v, μ1, μ2, e1, e2, hSI2⟩ := s_poison 995 996 hSI a1 a2 (by have := ja2.2; omega)
  refine lv_aload_n hx hb dL_law_1472 rfl (lv_at hl 1 rfl) ?_
  refine l_arg C hS hl 0 4 rfl rfl dL_law_1473 dL_law_1474 dL_law_1476 dL_law_1477 dL_law_1478 rfl hin.2.1 ha1 ?_
  refine l_arg C hS hl 0 4 rfl rfl dL_law_1479 dL_law_1480 dL_law_1482 dL_law_1483 dL_law_1484 rfl hin.2.2.1 ha2 ?_
  refine l_call C (k := 0) (ci := 11) (r := (RX11, TX11, 16)) (as := [jI a1, jI a2]) (rest := []) (o := (some (some (jI v)), μ1)) jq_X11_poison rfl dL_law_1485 kz_1240 e1 (fun z => by cases z) rfl rfl rfl rfl (jokS_c (v := jR 0) (show 0 < 100 by decide) (jokS_c ja1 (jokS_c ja2 jokS_n))) hM hP hS hl.1 (Nat.le_of_ble_eq_true rfl) hcs (fun H1 locs1 hok1 hP1 hS => ?_)
  refine lv_aload_n hx hb dL_law_1488 rfl (lv_at hl 2 rfl) ?_
  refine l_arg C hS hl 0 4 rfl rfl dL_law_1489 dL_law_1490 dL_law_1492 dL_law_1493 dL_law_1494 rfl hin.2.1 ha1 ?_
  refine l_arg C hS hl 0 4 rfl rfl dL_law_1495 dL_law_1496 dL_law_1498 dL_law_1499 dL_law_1500 rfl hin.2.2.1 ha2 ?_
  refine l_call C (k := 69) (ci := 12) (r := (RX12, TX12, 53)) (as := [jI a1, jI a2]) (rest := [jI v]) (o := (some (some (jI v)), μ2)) jq_X12_poison rfl dL_law_1501 kz_2000 e2 (fun z => by cases z) rfl rfl rfl rfl (jokS_c (v := jR 69) (show 69 < 100 by decide) (jokS_c ja1 (jokS_c ja2 jokS_n))) hok1.1 hP1 hS hl.1 (Nat.le_of_ble_eq_true rfl) hcs (fun H2 locs2 hok2 hP2 hS => ?_)
  refine lv_icmp_eq (tgt := 1690) hx hb dL_law_1504 (by decide) (fun _ => ?_) (fun z => absurd rfl z)
  exact W.widen (k := cells + 1) (n := slots + 6) (Nat.le_succ _) (Nat.le_add_right _ _) (kk μ2 H2 locs2 ls ⟨hSI2, hok2.1, hP2, hS, hl⟩)
set_option maxHeartbeats 1000000 in
theorem lc_eats (C : LCx p l s m c b L xs D cA ad) (hin : vp5 x4 L) (hs : LSt s b D cA ad μ H locs ls x4) (hcs1 : cells + 1 ≤ 601024 ∧ slots + 6 ≤ 7293034) (kk : ∀ (μ2 : jM) (H2 : Heap) (locs2 : List Loc) (ls2 : Array Slot), LSt s b D cA ad μ2 H2 locs2 ls2 x4 → W p l e room_1 s m #[Value.ref b] below meth c H2 locs2 (cells + 1) (slots + 6) Q (F0 m 1690 ls2 [])) : W p l e room_1 s m #[Value.ref b] below meth c H locs cells slots Q (F0 m 1509 ls []) := by
  obtain ⟨hSI, hM, hP, hS, hl⟩ := hs
  have hcs : cells ≤ 601024 ∧ slots ≤ 7293034 := by omega
  have hx := C.1
  have hb := C.2.1
  have hl : lv_has ls 7 [(0, .ref b), (1, .ref (ad 0)), (2, .ref (ad 69)), (3, .ref (ad 99)), (4, .int x4)] := hl
  obtain ⟨a1, ha1, ja1⟩ : ∃ a : Int, xs (x4 + 1).toNatClampNeg = Int32.ofInt a ∧ j32 a := ⟨_, (o_t _).symm, o_r32 _⟩
  obtain ⟨a2, ha2, ja2⟩ : ∃ a : Int, xs (x4 + 2).toNatClampNeg = Int32.ofInt a ∧ j32 a := ⟨_, (o_t _).symm, o_r32 _⟩
  obtain ⟨v, μ1, μ2, e1, e2, hSI2⟩ := s_eats 995 749 hSI a1 a2
  refine lv_aload_n hx hb dL_law_1509 rfl (lv_at hl 1 rfl) ?_
  refine l_arg C hS hl 0 4 rfl rfl dL_law_1510 dL_law_1511 dL_law_1513 dL_law_1514 dL_law_1515 rfl hin.2.1 ha1 ?_
  refine l_arg C hS hl 0 4 rfl rfl dL_law_1516 dL_law_1517 dL_law_1519 dL_law_1520 dL_law_1521 rfl hin.2.2.1 ha2 ?_
  refine l_call C (k := 0) (ci := 11) (r := (RX11, TX11, 16)) (as := [jI a1, jI a2]) (rest := []) (o := (some (some (jI v)), μ1)) jq_X11_eats rfl dL_law_1522 kz_1250 e1 (fun z => by cases z) rfl rfl rfl rfl (jokS_c (v := jR 0) (show 0 < 100 by decide) (jokS_c ja1 (jokS_c ja2 jokS_n))) hM hP hS hl.1 (Nat.le_of_ble_eq_true rfl) hcs (fun H1 locs1 hok1 hP1 hS => ?_)
  refine lv_aload_n hx hb dL_law_1525 rfl (lv_at hl 2 rfl) ?_
  refine l_arg C hS hl 0 4 rfl rfl dL_law_1526 dL_law_1527 dL_law_1529 dL_law_1530 dL_law_1531 rfl hin.2.1 ha1 ?_
  refine l_arg C hS hl 0 4 rfl rfl dL_law_1532 dL_law_1533 dL_law_1535 dL_law_1536 dL_law_1537 rfl hin.2.2.1 ha2 ?_
  refine l_call C (k := 69) (ci := 12) (r := (RX12, TX12, 53)) (as := [jI a1, jI a2]) (rest := [jI v]) (o := (some (some (jI v)), μ2)) jq_X12_eats rfl dL_law_1538 kz_2008 e2 (fun z => by cases z) rfl rfl rfl rfl (jokS_c (v := jR 69) (show 69 < 100 by decide) (jokS_c ja1 (jokS_c ja2 jokS_n))) hok1.1 hP1 hS hl.1 (Nat.le_of_ble_eq_true rfl) hcs (fun H2 locs2 hok2 hP2 hS => ?_)
  refine lv_icmp_eq (tgt := 1690) hx hb dL_law_1541 (by decide) (fun _ => ?_) (fun z => absurd rfl z)
  exact W.widen (k := cells + 1) (n := slots + 6) (Nat.le_succ _) (Nat.le_add_right _ _) (kk μ2 H2 locs2 ls ⟨hSI2, hok2.1, hP2, hS, hl⟩)
set_option maxHeartbeats 1000000 in
theorem lc_made (C : LCx p l s m c b L xs D cA ad) (hin : vp5 x4 L) (hs : LSt s b D cA ad μ H locs ls x4) (hcs1 : cells + 1 ≤ 601024 ∧ slots + 6 ≤ 7293034) (kk : ∀ (μ2 : jM) (H2 : Heap) (locs2 : List Loc) (ls2 : Array Slot), LSt s b D cA ad μ2 H2 locs2 ls2 x4 → W p l e room_1 s m #[Value.ref b] below meth c H2 locs2 (cells + 1) (slots + 6) Q (F0 m 1690 ls2 [])) : W p l e room_1 s m #[Value.ref b] below meth c H locs cells slots Q (F0 m 1546 ls []) := by
  obtain ⟨hSI, hM, hP, hS, hl⟩ := hs
  have hcs : cells ≤ 601024 ∧ slots ≤ 7293034 := by omega
  have hx := C.1
  have hb := C.2.1
  have hl : lv_has ls 7 [(0, .ref b), (1, .ref (ad 0)), (2, .ref (ad 69)), (3, .ref (ad 99)), (4, .int x4)] := hl
  obtain ⟨v, μ1, μ2, e1, e2, hSI2⟩ := s_made 994 996 hSI 
  refine lv_aload_n hx hb dL_law_1546 rfl (lv_at hl 1 rfl) ?_
  refine l_call C (k := 0) (ci := 11) (r := (RX11, TX11, 16)) (as := []) (rest := []) (o := (some (some (jI v)), μ1)) jq_X11_made rfl dL_law_1547 kz_1258 e1 (fun z => by cases z) rfl rfl rfl rfl (jokS_c (v := jR 0) (show 0 < 100 by decide) jokS_n) hM hP hS hl.1 (Nat.le_of_ble_eq_true rfl) hcs (fun H1 locs1 hok1 hP1 hS => ?_)
  refine lv_aload_n hx hb dL_law_1550 rfl (lv_at hl 2 rfl) ?_
  refine l_call C (k := 69) (ci := 12) (r := (RX12, TX12, 53)) (as := []) (rest := [jI v]) (o := (some (some (jI v)), μ2)) jq_X12_made rfl dL_law_1551 kz_2012 e2 (fun z => by cases z) rfl rfl rfl rfl (jokS_c (v := jR 69) (show 69 < 100 by decide) jokS_n) hok1.1 hP1 hS hl.1 (Nat.le_of_ble_eq_true rfl) hcs (fun H2 locs2 hok2 hP2 hS => ?_)
  refine lv_icmp_eq (tgt := 1690) hx hb dL_law_1554 (by decide) (fun _ => ?_) (fun z => absurd rfl z)
  exact W.widen (k := cells + 1) (n := slots + 6) (Nat.le_succ _) (Nat.le_add_right _ _) (kk μ2 H2 locs2 ls ⟨hSI2, hok2.1, hP2, hS, hl⟩)
set_option maxHeartbeats 1000000 in
theorem lc_keep (C : LCx p l s m c b L xs D cA ad) (hin : vp5 x4 L) (hs : LSt s b D cA ad μ H locs ls x4) (hcs1 : cells + 1 ≤ 601024 ∧ slots + 6 ≤ 7293034) (kk : ∀ (μ2 : jM) (H2 : Heap) (locs2 : List Loc) (ls2 : Array Slot), LSt s b D cA ad μ2 H2 locs2 ls2 x4 → W p l e room_1 s m #[Value.ref b] below meth c H2 locs2 (cells + 1) (slots + 6) Q (F0 m 1690 ls2 [])) : W p l e room_1 s m #[Value.ref b] below meth c H locs cells slots Q (F0 m 1559 ls []) := by
  obtain ⟨hSI, hM, hP, hS, hl⟩ := hs
  have hcs : cells ≤ 601024 ∧ slots ≤ 7293034 := by omega
  have hx := C.1
  have hb := C.2.1
  have hl : lv_has ls 7 [(0, .ref b), (1, .ref (ad 0)), (2, .ref (ad 69)), (3, .ref (ad 99)), (4, .int x4)] := hl
  obtain ⟨a1, ha1, ja1⟩ : ∃ a : Int, xs (x4 + 1).toNatClampNeg = Int32.ofInt a ∧ j32 a := ⟨_, (o_t _).symm, o_r32 _⟩
  obtain ⟨v, μ1, μ2, e1, e2, hSI2⟩ := s_keep 998 998 hSI a1
  refine lv_aload_n hx hb dL_law_1559 rfl (lv_at hl 1 rfl) ?_
  refine l_arg C hS hl 0 4 rfl rfl dL_law_1560 dL_law_1561 dL_law_1563 dL_law_1564 dL_law_1565 rfl hin.2.1 ha1 ?_
  refine l_call C (k := 0) (ci := 11) (r := (RX11, TX11, 16)) (as := [jI a1]) (rest := []) (o := (some (some (jI v)), μ1)) jq_X11_keep rfl dL_law_1566 kz_1301 e1 (fun z => by cases z) rfl rfl rfl rfl (jokS_c (v := jR 0) (show 0 < 100 by decide) (jokS_c ja1 jokS_n)) hM hP hS hl.1 (Nat.le_of_ble_eq_true rfl) hcs (fun H1 locs1 hok1 hP1 hS => ?_)
  refine lv_aload_n hx hb dL_law_1569 rfl (lv_at hl 2 rfl) ?_
  refine l_arg C hS hl 0 4 rfl rfl dL_law_1570 dL_law_1571 dL_law_1573 dL_law_1574 dL_law_1575 rfl hin.2.1 ha1 ?_
  refine l_call C (k := 69) (ci := 12) (r := (RX12, TX12, 53)) (as := [jI a1]) (rest := [jI v]) (o := (some (some (jI v)), μ2)) jq_X12_keep rfl dL_law_1576 kz_2020 e2 (fun z => by cases z) rfl rfl rfl rfl (jokS_c (v := jR 69) (show 69 < 100 by decide) (jokS_c ja1 jokS_n)) hok1.1 hP1 hS hl.1 (Nat.le_of_ble_eq_true rfl) hcs (fun H2 locs2 hok2 hP2 hS => ?_)
  refine lv_icmp_eq (tgt := 1690) hx hb dL_law_1579 (by decide) (fun _ => ?_) (fun z => absurd rfl z)
  exact W.widen (k := cells + 1) (n := slots + 6) (Nat.le_succ _) (Nat.le_add_right _ _) (kk μ2 H2 locs2 ls ⟨hSI2, hok2.1, hP2, hS, hl⟩)
set_option maxHeartbeats 1000000 in
theorem lc_again (C : LCx p l s m c b L xs D cA ad) (hin : vp5 x4 L) (hs : LSt s b D cA ad μ H locs ls x4) (hcs1 : cells + 1 ≤ 601024 ∧ slots + 6 ≤ 7293034) (kk : ∀ (μ2 : jM) (H2 : Heap) (locs2 : List Loc) (ls2 : Array Slot), LSt s b D cA ad μ2 H2 locs2 ls2 x4 → W p l e room_1 s m #[Value.ref b] below meth c H2 locs2 (cells + 1) (slots + 6) Q (F0 m 1690 ls2 [])) : W p l e room_1 s m #[Value.ref b] below meth c H locs cells slots Q (F0 m 1584 ls []) := by
  obtain ⟨hSI, hM, hP, hS, hl⟩ := hs
  have hcs : cells ≤ 601024 ∧ slots ≤ 7293034 := by omega
  have hx := C.1
  have hb := C.2.1
  have hl : lv_has ls 7 [(0, .ref b), (1, .ref (ad 0)), (2, .ref (ad 69)), (3, .ref (ad 99)), (4, .int x4)] := hl
  obtain ⟨a1, ha1, ja1⟩ : ∃ a : Int, xs (x4 + 1).toNatClampNeg = Int32.ofInt a ∧ j32 a := ⟨_, (o_t _).symm, o_r32 _⟩
  obtain ⟨v, μ1, μ2, e1, e2, hSI2⟩ := s_again 998 998 hSI a1
  refine lv_aload_n hx hb dL_law_1584 rfl (lv_at hl 1 rfl) ?_
  refine l_arg C hS hl 0 4 rfl rfl dL_law_1585 dL_law_1586 dL_law_1588 dL_law_1589 dL_law_1590 rfl hin.2.1 ha1 ?_
  refine l_call C (k := 0) (ci := 11) (r := (RX11, TX11, 16)) (as := [jI a1]) (rest := []) (o := (some (some (jI v)), μ1)) jq_X11_again rfl dL_law_1591 kz_1310 e1 (fun z => by cases z) rfl rfl rfl rfl (jokS_c (v := jR 0) (show 0 < 100 by decide) (jokS_c ja1 jokS_n)) hM hP hS hl.1 (Nat.le_of_ble_eq_true rfl) hcs (fun H1 locs1 hok1 hP1 hS => ?_)
  refine lv_aload_n hx hb dL_law_1594 rfl (lv_at hl 2 rfl) ?_
  refine l_arg C hS hl 0 4 rfl rfl dL_law_1595 dL_law_1596 dL_law_1598 dL_law_1599 dL_law_1600 rfl hin.2.1 ha1 ?_
  refine l_call C (k := 69) (ci := 12) (r := (RX12, TX12, 53)) (as := [jI a1]) (rest := [jI v]) (o := (some (some (jI v)), μ2)) jq_X12_again rfl dL_law_1601 kz_2024 e2 (fun z => by cases z) rfl rfl rfl rfl (jokS_c (v := jR 69) (show 69 < 100 by decide) (jokS_c ja1 jokS_n)) hok1.1 hP1 hS hl.1 (Nat.le_of_ble_eq_true rfl) hcs (fun H2 locs2 hok2 hP2 hS => ?_)
  refine lv_icmp_eq (tgt := 1690) hx hb dL_law_1604 (by decide) (fun _ => ?_) (fun z => absurd rfl z)
  exact W.widen (k := cells + 1) (n := slots + 6) (Nat.le_succ _) (Nat.le_add_right _ _) (kk μ2 H2 locs2 ls ⟨hSI2, hok2.1, hP2, hS, hl⟩)
set_option maxHeartbeats 1000000 in
theorem lc_count (C : LCx p l s m c b L xs D cA ad) (hin : vp5 x4 L) (hs : LSt s b D cA ad μ H locs ls x4) (hcs1 : cells + 1 ≤ 601024 ∧ slots + 6 ≤ 7293034) (kk : ∀ (μ2 : jM) (H2 : Heap) (locs2 : List Loc) (ls2 : Array Slot), LSt s b D cA ad μ2 H2 locs2 ls2 x4 → W p l e room_1 s m #[Value.ref b] below meth c H2 locs2 (cells + 1) (slots + 6) Q (F0 m 1690 ls2 [])) : W p l e room_1 s m #[Value.ref b] below meth c H locs cells slots Q (F0 m 1609 ls []) := by
  obtain ⟨hSI, hM, hP, hS, hl⟩ := hs
  have hcs : cells ≤ 601024 ∧ slots ≤ 7293034 := by omega
  have hx := C.1
  have hb := C.2.1
  have hl : lv_has ls 7 [(0, .ref b), (1, .ref (ad 0)), (2, .ref (ad 69)), (3, .ref (ad 99)), (4, .int x4)] := hl
  obtain ⟨a1, ha1, ja1⟩ : ∃ a : Int, xs (x4 + 1).toNatClampNeg = Int32.ofInt a ∧ j32 a := ⟨_, (o_t _).symm, o_r32 _⟩
  obtain ⟨v, μ1, μ2, e1, e2, hSI2⟩ := s_count 996 998 hSI a1
  refine lv_aload_n hx hb dL_law_1609 rfl (lv_at hl 1 rfl) ?_
  refine l_arg C hS hl 0 4 rfl rfl dL_law_1610 dL_law_1611 dL_law_1613 dL_law_1614 dL_law_1615 rfl hin.2.1 ha1 ?_
  refine l_call C (k := 0) (ci := 11) (r := (RX11, TX11, 16)) (as := [jI a1]) (rest := []) (o := (some (some (jI v)), μ1)) jq_X11_count rfl dL_law_1616 kz_1314 e1 (fun z => by cases z) rfl rfl rfl rfl (jokS_c (v := jR 0) (show 0 < 100 by decide) (jokS_c ja1 jokS_n)) hM hP hS hl.1 (Nat.le_of_ble_eq_true rfl) hcs (fun H1 locs1 hok1 hP1 hS => ?_)
  refine lv_aload_n hx hb dL_law_1619 rfl (lv_at hl 2 rfl) ?_
  refine l_arg C hS hl 0 4 rfl rfl dL_law_1620 dL_law_1621 dL_law_1623 dL_law_1624 dL_law_1625 rfl hin.2.1 ha1 ?_
  refine l_call C (k := 69) (ci := 12) (r := (RX12, TX12, 53)) (as := [jI a1]) (rest := [jI v]) (o := (some (some (jI v)), μ2)) jq_X12_count rfl dL_law_1626 kz_2028 e2 (fun z => by cases z) rfl rfl rfl rfl (jokS_c (v := jR 69) (show 69 < 100 by decide) (jokS_c ja1 jokS_n)) hok1.1 hP1 hS hl.1 (Nat.le_of_ble_eq_true rfl) hcs (fun H2 locs2 hok2 hP2 hS => ?_)
  refine lv_icmp_eq (tgt := 1690) hx hb dL_law_1629 (by decide) (fun _ => ?_) (fun z => absurd rfl z)
  exact W.widen (k := cells + 1) (n := slots + 6) (Nat.le_succ _) (Nat.le_add_right _ _) (kk μ2 H2 locs2 ls ⟨hSI2, hok2.1, hP2, hS, hl⟩)
set_option maxHeartbeats 1000000 in
theorem lc_row (C : LCx p l s m c b L xs D cA ad) (hin : vp5 x4 L) (hs : LSt s b D cA ad μ H locs ls x4) (hcs1 : cells + 1 ≤ 601024 ∧ slots + 6 ≤ 7293034) (kk : ∀ (μ2 : jM) (H2 : Heap) (locs2 : List Loc) (ls2 : Array Slot), LSt s b D cA ad μ2 H2 locs2 ls2 x4 → W p l e room_1 s m #[Value.ref b] below meth c H2 locs2 (cells + 1) (slots + 6) Q (F0 m 1690 ls2 [])) : W p l e room_1 s m #[Value.ref b] below meth c H locs cells slots Q (F0 m 1634 ls []) := by
  obtain ⟨hSI, hM, hP, hS, hl⟩ := hs
  have hcs : cells ≤ 601024 ∧ slots ≤ 7293034 := by omega
  have hx := C.1
  have hb := C.2.1
  have hl : lv_has ls 7 [(0, .ref b), (1, .ref (ad 0)), (2, .ref (ad 69)), (3, .ref (ad 99)), (4, .int x4)] := hl
  obtain ⟨a1, ha1, ja1⟩ : ∃ a : Int, xs (x4 + 1).toNatClampNeg = Int32.ofInt a ∧ j32 a := ⟨_, (o_t _).symm, o_r32 _⟩
  have hinj := C.2.2.2.2.2.2.1
  have htr := C.2.2.2.2.2.2.2.2.2.2.1
  refine lv_aload_n hx hb dL_law_1634 rfl (lv_at hl 1 rfl) ?_
  refine l_arg C hS hl 0 4 rfl rfl dL_law_1635 dL_law_1636 dL_law_1638 dL_law_1639 dL_law_1640 rfl hin.2.1 ha1 ?_
  refine lv_aload_n hx hb dL_law_1641 rfl (lv_at hl 3 rfl) ?_
  rcases t_row 999 998 hSI a1 with ⟨v, μ1, μ2, e1, e2, z0, z9, hSI2⟩ | ⟨v, μ2, e1, e2, z0, hSI2⟩
  · refine l_help (As := [.ref (ad 0), .int (Int32.ofInt a1), .ref (ad 99)]) (rest := []) (n := 3) (hd := 0) C (hx_row l htr D cA ad hinj 1000 (by decide) (μ2 := jup μ1 99 0 v) (o := (some (some (jI v)), μ1)) (r := 0) e1 ja1 hM (Or.inr ⟨v, rfl, rfl, rfl⟩)) kc_row kz_104 kz_1414 kz_1415 ⟨by decide, by decide, by decide +kernel⟩ (by decide) rfl hl.1 (by decide) dL_law_1642 hP hS hcs1 (fun H1 locs1 hM1 hP1 hS => ?_)
    refine lv_istore (lv' := [(5, .int (Int32.ofInt 0)), (0, .ref b), (1, .ref (ad 0)), (2, .ref (ad 69)), (3, .ref (ad 99)), (4, .int x4)]) hx hb dL_law_1645 hl (by decide) rfl (fun ls hl => ?_)
    refine lv_aload_n hx hb dL_law_1647 rfl (lv_at hl 3 rfl) ?_
    refine l_arg C hS hl 1 5 rfl rfl dL_law_1648 dL_law_1649 dL_law_1651 dL_law_1652 dL_law_1653 rfl hin.2.1 ha1 ?_
    refine l_call C (k := 69) (ci := 12) (r := (RX12, TX12, 53)) (as := [jI a1]) (rest := []) (o := (some (some (jI v)), μ2)) jq_X12_row rfl dL_law_1654 kz_2032 e2 (fun z => by cases z) rfl rfl rfl rfl (jokS_c (v := jR 69) (show 69 < 100 by decide) (jokS_c ja1 jokS_n)) hM1 hP1 hS hl.1 (Nat.le_of_ble_eq_true rfl) hcs1 (fun H2 locs2 hok2 hP2 hS => ?_)
    refine lv_istore (lv' := [(6, .int (Int32.ofInt v)), (5, .int (Int32.ofInt 0)), (0, .ref b), (1, .ref (ad 0)), (2, .ref (ad 69)), (3, .ref (ad 99)), (4, .int x4)]) hx hb dL_law_1657 hl (by decide) rfl (fun ls hl => ?_)
    refine lv_aload_n hx hb dL_law_1659 rfl (lv_at hl 4 rfl) ?_
    have e3 : CL 1000 205 [jR 69] μ2 = some (some (some (jI 0)), μ2) := by
      have h9 := e_X12_thrown 999 μ2
      rw [z0] at h9
      exact h9
    refine l_call C (k := 69) (ci := 12) (r := (RX12, TX12, 53)) (as := []) (rest := []) (o := (some (some (jI 0)), μ2)) jq_X12_thrown rfl dL_law_1660 kz_1593 e3 (fun z => by cases z) rfl rfl rfl rfl (jokS_c (v := jR 69) (show 69 < 100 by decide) jokS_n) hok2.1 hP2 hS hl.1 (Nat.le_of_ble_eq_true rfl) hcs1 (fun H3 locs3 hok3 hP3 hS => ?_)
    refine lv_iload hx hb dL_law_1663 (lv_at hl 1 rfl) ?_
    refine lv_icmp_eq (tgt := 1670) hx hb dL_law_1665 (by decide) (fun _ => ?_) (fun z => absurd rfl z)
    refine lv_iload hx hb dL_law_1670 (lv_at hl 1 rfl) ?_
    refine lv_if_ne (tgt := 1687) hx hb dL_law_1672 (by decide) (fun z => absurd (by decide) z) (fun _ => ?_)
    refine lv_aload_n hx hb dL_law_1675 rfl (lv_at hl 5 rfl) ?_
    refine lv_iconst (v := Int32.ofInt 0) hx hb dL_law_1676 (by decide) ?_
    refine l_out (μ := μ2) C hP3 dL_law_1677 ?_
    rw [z9]
    refine lv_iload hx hb dL_law_1678 (lv_at hl 0 rfl) ?_
    refine lv_i2l (x := Int32.ofInt v) hx hb dL_law_1680 (o_i2l (hok2.2 _ rfl)) ?_
    refine W.lcmp (x := Int64.ofInt v) (y := Int64.ofInt v) (rest := []) hx hb dL_law_1681 ?_
    refine lv_if_eq (tgt := 1687) hx hb dL_law_1682 (by decide) (fun _ => ?_) (fun z => absurd (cmp_self (j64_32 (hok2.2 _ rfl))) z)
    refine lv_goto (tgt := 1690) hx hb dL_law_1687 (by decide) ?_
    exact kk μ2 H3 locs3 ls ⟨hSI2, hok3.1, hP3, hS, lv_sub hl [2, 3, 4, 5, 6] rfl⟩
  · refine l_help (As := [.ref (ad 0), .int (Int32.ofInt a1), .ref (ad 99)]) (rest := []) (n := 3) (hd := 0) C (hx_row l htr D cA ad hinj 1000 (by decide) (μ2 := μ) (o := (none, μ)) (r := 1) e1 ja1 hM (Or.inl ⟨rfl, rfl, rfl⟩)) kc_row kz_104 kz_1414 kz_1415 ⟨by decide, by decide, by decide +kernel⟩ (by decide) rfl hl.1 (by decide) dL_law_1642 hP hS hcs1 (fun H1 locs1 hM1 hP1 hS => ?_)
    refine lv_istore (lv' := [(5, .int (Int32.ofInt 1)), (0, .ref b), (1, .ref (ad 0)), (2, .ref (ad 69)), (3, .ref (ad 99)), (4, .int x4)]) hx hb dL_law_1645 hl (by decide) rfl (fun ls hl => ?_)
    refine lv_aload_n hx hb dL_law_1647 rfl (lv_at hl 3 rfl) ?_
    refine l_arg C hS hl 1 5 rfl rfl dL_law_1648 dL_law_1649 dL_law_1651 dL_law_1652 dL_law_1653 rfl hin.2.1 ha1 ?_
    refine l_call C (k := 69) (ci := 12) (r := (RX12, TX12, 53)) (as := [jI a1]) (rest := []) (o := (some (some (jI v)), μ2)) jq_X12_row rfl dL_law_1654 kz_2032 e2 (fun z => by cases z) rfl rfl rfl rfl (jokS_c (v := jR 69) (show 69 < 100 by decide) (jokS_c ja1 jokS_n)) hM1 hP1 hS hl.1 (Nat.le_of_ble_eq_true rfl) hcs1 (fun H2 locs2 hok2 hP2 hS => ?_)
    refine lv_istore (lv' := [(6, .int (Int32.ofInt v)), (5, .int (Int32.ofInt 1)), (0, .ref b), (1, .ref (ad 0)), (2, .ref (ad 69)), (3, .ref (ad 99)), (4, .int x4)]) hx hb dL_law_1657 hl (by decide) rfl (fun ls hl => ?_)
    refine lv_aload_n hx hb dL_law_1659 rfl (lv_at hl 4 rfl) ?_
    have e3 : CL 1000 205 [jR 69] μ2 = some (some (some (jI 1)), μ2) := by
      have h9 := e_X12_thrown 999 μ2
      rw [z0] at h9
      exact h9
    refine l_call C (k := 69) (ci := 12) (r := (RX12, TX12, 53)) (as := []) (rest := []) (o := (some (some (jI 1)), μ2)) jq_X12_thrown rfl dL_law_1660 kz_1593 e3 (fun z => by cases z) rfl rfl rfl rfl (jokS_c (v := jR 69) (show 69 < 100 by decide) jokS_n) hok2.1 hP2 hS hl.1 (Nat.le_of_ble_eq_true rfl) hcs1 (fun H3 locs3 hok3 hP3 hS => ?_)
    refine lv_iload hx hb dL_law_1663 (lv_at hl 1 rfl) ?_
    refine lv_icmp_eq (tgt := 1670) hx hb dL_law_1665 (by decide) (fun _ => ?_) (fun z => absurd rfl z)
    refine lv_iload hx hb dL_law_1670 (lv_at hl 1 rfl) ?_
    refine lv_if_ne (tgt := 1687) hx hb dL_law_1672 (by decide) (fun _ => ?_) (fun z => absurd z (by decide))
    refine lv_goto (tgt := 1690) hx hb dL_law_1687 (by decide) ?_
    exact kk μ2 H3 locs3 ls ⟨hSI2, hok3.1, hP3, hS, lv_sub hl [2, 3, 4, 5, 6] rfl⟩
end LC
