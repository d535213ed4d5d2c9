theorem and63 (y : Int32) : 0 ≤ (y &&& 63).toInt ∧ (y &&& 63).toInt ≤ 63 := by
  have h : (y &&& 63).toBitVec.toNat ≤ 63 := by
    rw [Int32.toBitVec_and, BitVec.toNat_and]
    exact Nat.and_le_right
  have e : (y &&& 63).toInt = ((y &&& 63).toBitVec.toNat : Int) := BitVec.toInt_eq_toNat_of_lt (by omega)
  rw [e]
  omega
theorem o_nat (n : Nat) : Int32.ofNat n = Int32.ofInt (n : Int) := by
  apply Int32.toBitVec.inj
  simp
theorem vp_at {t L : Nat} (h : t < L) (hL : L ≤ 2560) : vp_in (Int32.ofInt (t : Int)) L := by
  have h1 := o_in (i := (t : Int)) (n := (L : Int)) (by unfold j32; omega) (by omega)
  exact h1
theorem x4_add (t j : Nat) (h : t + j < 3000) : Int32.ofInt (t : Int) + Int32.ofInt (j : Int) = Int32.ofInt ((t + j : Nat) : Int) := by
  rw [o_add, w_id (by omega) (by omega)]
  rfl
theorem vp5_at {t L : Nat} (h : t + 5 ≤ L) (hL : L ≤ 2560) : vp5 (Int32.ofInt (t : Int)) L := by
  refine ⟨vp_at (by omega) hL, ?_, ?_, ?_, ?_⟩
  · have e := x4_add t 1 (by omega)
    have h1 := vp_at (t := t + 1) (L := L) (by omega) hL
    rw [← e] at h1
    exact h1
  · have e := x4_add t 2 (by omega)
    have h1 := vp_at (t := t + 2) (L := L) (by omega) hL
    rw [← e] at h1
    exact h1
  · have e := x4_add t 3 (by omega)
    have h1 := vp_at (t := t + 3) (L := L) (by omega) hL
    rw [← e] at h1
    exact h1
  · have e := x4_add t 4 (by omega)
    have h1 := vp_at (t := t + 4) (L := L) (by omega) hL
    rw [← e] at h1
    exact h1
section LL
variable {p : Program} {l : Launch} {e : Env} {s : State} {m : MethodId} {below : List Frame} {meth : Method} {c : Code} {Q : State → Prop} {D : va_G} {cA : Nat → ClassId} {ad : Nat → Nat} {b L : Nat} {xs : Nat → Int32}
/-- one turn: from the switch to the loop's end -/
theorem law_turn {x4 : Int32} {H : Heap} {locs : List Loc} {cells slots : Nat} {ls : Array Slot} {μ : jM} (C : LCx p l s m c b L xs D cA ad) (hin : vp5 x4 L) (hs : LSt s b D cA ad μ H locs ls x4) (hcs1 : cells + 1 ≤ 601024 ∧ slots + 6 ≤ 7293034) (kk : ∀ (μ2 : jM) (H2 : Heap) (locs2 : List Loc) (ls2 : Array Slot), LSt s b D cA ad μ2 H2 locs2 ls2 x4 → W p l e room_1 s m #[Value.ref b] below meth c H2 locs2 (cells + 1) (slots + 6) Q (F0 m 1690 ls2 [])) : W p l e room_1 s m #[Value.ref b] below meth c H locs cells slots Q (F0 m 32 ls []) := by
  obtain ⟨hSI, hM, hP, hS, hl⟩ := hs
  have hs : LSt s b D cA ad μ H locs ls x4 := ⟨hSI, hM, hP, hS, hl⟩
  have hl : lv_has ls 7 [(0, .ref b), (1, .ref (ad 0)), (2, .ref (ad 69)), (3, .ref (ad 99)), (4, .int x4)] := hl
  have hx := C.1
  have hb := C.2.1
  have hX := C.2.2.2.2.2.2.2.2.1
  have hbl := C.2.2.2.2.2.2.2.2.2.1
  refine lv_aload_n hx hb dL_law_32 rfl (lv_at hl 0 rfl) ?_
  refine lv_iload hx hb dL_law_33 (lv_at hl 4 rfl) ?_
  refine va_sld hx hb hX hbl (by unfold lA; omega) hS hin.1 dL_law_35 ?_
  refine lv_bipush (v := 63) hx hb dL_law_36 (by decide) ?_
  refine lv_iand hx hb dL_law_38 ?_
  obtain ⟨w, hw, h0, h63⟩ : ∃ w : Int, (xs x4.toNatClampNeg &&& 63).toInt = w ∧ 0 ≤ w ∧ w ≤ 63 := ⟨_, rfl, and63 _⟩
  by_cases hgt : 47 < w
  · refine lv_tableOut (tgt := 1690) hx hb dL_law_39 (Or.inr (by rw [hw]; exact hgt)) (by decide) ?_
    exact W.widen (k := cells + 1) (n := slots + 6) (Nat.le_succ _) (Nat.le_add_right _ _) (kk μ H locs ls hs)
  · rcases (show w = 0 ∨ w = 1 ∨ w = 2 ∨ w = 3 ∨ w = 4 ∨ w = 5 ∨ w = 6 ∨ w = 7 ∨ w = 8 ∨ w = 9 ∨ w = 10 ∨ w = 11 ∨ w = 12 ∨ w = 13 ∨ w = 14 ∨ w = 15 ∨ w = 16 ∨ w = 17 ∨ w = 18 ∨ w = 19 ∨ w = 20 ∨ w = 21 ∨ w = 22 ∨ w = 23 ∨ w = 24 ∨ w = 25 ∨ w = 26 ∨ w = 27 ∨ w = 28 ∨ w = 29 ∨ w = 30 ∨ w = 31 ∨ w = 32 ∨ w = 33 ∨ w = 34 ∨ w = 35 ∨ w = 36 ∨ w = 37 ∨ w = 38 ∨ w = 39 ∨ w = 40 ∨ w = 41 ∨ w = 42 ∨ w = 43 ∨ w = 44 ∨ w = 45 ∨ w = 46 ∨ w = 47 by omega) with rfl | rfl | rfl | rfl | rfl | rfl | rfl | rfl | rfl | rfl | rfl | rfl | rfl | rfl | rfl | rfl | rfl | rfl | rfl | rfl | rfl | rfl | rfl | rfl | rfl | rfl | rfl | rfl | rfl | rfl | rfl | rfl | rfl | rfl | rfl | rfl | rfl | rfl | rfl | rfl | rfl | rfl | rfl | rfl | rfl | rfl | rfl | rfl
    · exact lv_tableIn (off := 205) (tgt := 244) hx hb dL_law_39 (by rw [hw]; decide) (by rw [hw]; decide) (by rw [hw]; rfl) (by decide) (lc_sign C hin hs hcs1 kk)
    · exact lv_tableIn (off := 230) (tgt := 269) hx hb dL_law_39 (by rw [hw]; decide) (by rw [hw]; decide) (by rw [hw]; rfl) (by decide) (lc_end C hin hs hcs1 kk)
    · exact lv_tableIn (off := 255) (tgt := 294) hx hb dL_law_39 (by rw [hw]; decide) (by rw [hw]; decide) (by rw [hw]; rfl) (by decide) (lc_kitchen C hin hs hcs1 kk)
    · exact lv_tableIn (off := 268) (tgt := 307) hx hb dL_law_39 (by rw [hw]; decide) (by rw [hw]; decide) (by rw [hw]; rfl) (by decide) (lc_rule C hin hs hcs1 kk)
    · exact lv_tableIn (off := 281) (tgt := 320) hx hb dL_law_39 (by rw [hw]; decide) (by rw [hw]; decide) (by rw [hw]; rfl) (by decide) (lc_dish C hin hs hcs1 kk)
    · exact lv_tableIn (off := 349) (tgt := 388) hx hb dL_law_39 (by rw [hw]; decide) (by rw [hw]; decide) (by rw [hw]; rfl) (by decide) (lc_guest C hin hs hcs1 kk)
    · exact lv_tableIn (off := 417) (tgt := 456) hx hb dL_law_39 (by rw [hw]; decide) (by rw [hw]; decide) (by rw [hw]; rfl) (by decide) (lc_joy C hin hs hcs1 kk)
    · exact lv_tableIn (off := 485) (tgt := 524) hx hb dL_law_39 (by rw [hw]; decide) (by rw [hw]; decide) (by rw [hw]; rfl) (by decide) (lc_law C hin hs hcs1 kk)
    · exact lv_tableIn (off := 522) (tgt := 561) hx hb dL_law_39 (by rw [hw]; decide) (by rw [hw]; decide) (by rw [hw]; rfl) (by decide) (lc_store C hin hs hcs1 kk)
    · exact lv_tableIn (off := 559) (tgt := 598) hx hb dL_law_39 (by rw [hw]; decide) (by rw [hw]; decide) (by rw [hw]; rfl) (by decide) (lc_sheet C hin hs hcs1 kk)
    · exact lv_tableIn (off := 620) (tgt := 659) hx hb dL_law_39 (by rw [hw]; decide) (by rw [hw]; decide) (by rw [hw]; rfl) (by decide) (lc_serve C hin hs hcs1 kk)
    · exact lv_tableIn (off := 645) (tgt := 684) hx hb dL_law_39 (by rw [hw]; decide) (by rw [hw]; decide) (by rw [hw]; rfl) (by decide) (lc_back C hin hs hcs1 kk)
    · exact lv_tableIn (off := 658) (tgt := 697) hx hb dL_law_39 (by rw [hw]; decide) (by rw [hw]; decide) (by rw [hw]; rfl) (by decide) (lc_over C hin hs hcs1 kk)
    · exact lv_tableIn (off := 671) (tgt := 710) hx hb dL_law_39 (by rw [hw]; decide) (by rw [hw]; decide) (by rw [hw]; rfl) (by decide) (lc_can C hin hs hcs1 kk)
    · exact lv_tableIn (off := 684) (tgt := 723) hx hb dL_law_39 (by rw [hw]; decide) (by rw [hw]; decide) (by rw [hw]; rfl) (by decide) (lc_menu C hin hs hcs1 kk)
    · exact lv_tableIn (off := 709) (tgt := 748) hx hb dL_law_39 (by rw [hw]; decide) (by rw [hw]; decide) (by rw [hw]; rfl) (by decide) (lc_look C hin hs hcs1 kk)
    · exact lv_tableIn (off := 734) (tgt := 773) hx hb dL_law_39 (by rw [hw]; decide) (by rw [hw]; decide) (by rw [hw]; rfl) (by decide) (lc_swap C hin hs hcs1 kk)
    · exact lv_tableIn (off := 783) (tgt := 822) hx hb dL_law_39 (by rw [hw]; decide) (by rw [hw]; decide) (by rw [hw]; rfl) (by decide) (lc_turn C hin hs hcs1 kk)
    · exact lv_tableIn (off := 808) (tgt := 847) hx hb dL_law_39 (by rw [hw]; decide) (by rw [hw]; decide) (by rw [hw]; rfl) (by decide) (lc_joined C hin hs hcs1 kk)
    · exact lv_tableIn (off := 845) (tgt := 884) hx hb dL_law_39 (by rw [hw]; decide) (by rw [hw]; decide) (by rw [hw]; rfl) (by decide) (lc_falls C hin hs hcs1 kk)
    · exact lv_tableIn (off := 894) (tgt := 933) hx hb dL_law_39 (by rw [hw]; decide) (by rw [hw]; decide) (by rw [hw]; rfl) (by decide) (lc_longest C hin hs hcs1 kk)
    · exact lv_tableIn (off := 907) (tgt := 946) hx hb dL_law_39 (by rw [hw]; decide) (by rw [hw]; decide) (by rw [hw]; rfl) (by decide) (lc_ways C hin hs hcs1 kk)
    · exact lv_tableIn (off := 933) (tgt := 972) hx hb dL_law_39 (by rw [hw]; decide) (by rw [hw]; decide) (by rw [hw]; rfl) (by decide) (lc_between C hin hs hcs1 kk)
    · exact lv_tableIn (off := 970) (tgt := 1009) hx hb dL_law_39 (by rw [hw]; decide) (by rw [hw]; decide) (by rw [hw]; rfl) (by decide) (lc_shortest C hin hs hcs1 kk)
    · exact lv_tableIn (off := 1007) (tgt := 1046) hx hb dL_law_39 (by rw [hw]; decide) (by rw [hw]; decide) (by rw [hw]; rfl) (by decide) (lc_bears C hin hs hcs1 kk)
    · exact lv_tableIn (off := 1032) (tgt := 1071) hx hb dL_law_39 (by rw [hw]; decide) (by rw [hw]; decide) (by rw [hw]; rfl) (by decide) (lc_beside C hin hs hcs1 kk)
    · exact lv_tableIn (off := 1057) (tgt := 1096) hx hb dL_law_39 (by rw [hw]; decide) (by rw [hw]; decide) (by rw [hw]; rfl) (by decide) (lc_parts C hin hs hcs1 kk)
    · exact lv_tableIn (off := 1070) (tgt := 1109) hx hb dL_law_39 (by rw [hw]; decide) (by rw [hw]; decide) (by rw [hw]; rfl) (by decide) (lc_rare C hin hs hcs1 kk)
    · exact lv_tableIn (off := 1083) (tgt := 1122) hx hb dL_law_39 (by rw [hw]; decide) (by rw [hw]; decide) (by rw [hw]; rfl) (by decide) (lc_round C hin hs hcs1 kk)
    · exact lv_tableIn (off := 1096) (tgt := 1135) hx hb dL_law_39 (by rw [hw]; decide) (by rw [hw]; decide) (by rw [hw]; rfl) (by decide) (lc_shut C hin hs hcs1 kk)
    · exact lv_tableIn (off := 1121) (tgt := 1160) hx hb dL_law_39 (by rw [hw]; decide) (by rw [hw]; decide) (by rw [hw]; rfl) (by decide) (lc_best C hin hs hcs1 kk)
    · exact lv_tableIn (off := 1158) (tgt := 1197) hx hb dL_law_39 (by rw [hw]; decide) (by rw [hw]; decide) (by rw [hw]; rfl) (by decide) (lc_fair C hin hs hcs1 kk)
    · exact lv_tableIn (off := 1195) (tgt := 1234) hx hb dL_law_39 (by rw [hw]; decide) (by rw [hw]; decide) (by rw [hw]; rfl) (by decide) (lc_cheap C hin hs hcs1 kk)
    · exact lv_tableIn (off := 1220) (tgt := 1259) hx hb dL_law_39 (by rw [hw]; decide) (by rw [hw]; decide) (by rw [hw]; rfl) (by decide) (lc_dear C hin hs hcs1 kk)
    · exact lv_tableIn (off := 1245) (tgt := 1284) hx hb dL_law_39 (by rw [hw]; decide) (by rw [hw]; decide) (by rw [hw]; rfl) (by decide) (lc_game C hin hs hcs1 kk)
    · exact lv_tableIn (off := 1258) (tgt := 1297) hx hb dL_law_39 (by rw [hw]; decide) (by rw [hw]; decide) (by rw [hw]; rfl) (by decide) (lc_greedy C hin hs hcs1 kk)
    · exact lv_tableIn (off := 1271) (tgt := 1310) hx hb dL_law_39 (by rw [hw]; decide) (by rw [hw]; decide) (by rw [hw]; rfl) (by decide) (lc_mend C hin hs hcs1 kk)
    · exact lv_tableIn (off := 1308) (tgt := 1347) hx hb dL_law_39 (by rw [hw]; decide) (by rw [hw]; decide) (by rw [hw]; rfl) (by decide) (lc_fills C hin hs hcs1 kk)
    · exact lv_tableIn (off := 1334) (tgt := 1373) hx hb dL_law_39 (by rw [hw]; decide) (by rw [hw]; decide) (by rw [hw]; rfl) (by decide) (lc_sure C hin hs hcs1 kk)
    · exact lv_tableIn (off := 1371) (tgt := 1410) hx hb dL_law_39 (by rw [hw]; decide) (by rw [hw]; decide) (by rw [hw]; rfl) (by decide) (lc_hearths C hin hs hcs1 kk)
    · exact lv_tableIn (off := 1396) (tgt := 1435) hx hb dL_law_39 (by rw [hw]; decide) (by rw [hw]; decide) (by rw [hw]; rfl) (by decide) (lc_late C hin hs hcs1 kk)
    · exact lv_tableIn (off := 1433) (tgt := 1472) hx hb dL_law_39 (by rw [hw]; decide) (by rw [hw]; decide) (by rw [hw]; rfl) (by decide) (lc_poison C hin hs hcs1 kk)
    · exact lv_tableIn (off := 1470) (tgt := 1509) hx hb dL_law_39 (by rw [hw]; decide) (by rw [hw]; decide) (by rw [hw]; rfl) (by decide) (lc_eats C hin hs hcs1 kk)
    · exact lv_tableIn (off := 1507) (tgt := 1546) hx hb dL_law_39 (by rw [hw]; decide) (by rw [hw]; decide) (by rw [hw]; rfl) (by decide) (lc_made C hin hs hcs1 kk)
    · exact lv_tableIn (off := 1520) (tgt := 1559) hx hb dL_law_39 (by rw [hw]; decide) (by rw [hw]; decide) (by rw [hw]; rfl) (by decide) (lc_keep C hin hs hcs1 kk)
    · exact lv_tableIn (off := 1545) (tgt := 1584) hx hb dL_law_39 (by rw [hw]; decide) (by rw [hw]; decide) (by rw [hw]; rfl) (by decide) (lc_again C hin hs hcs1 kk)
    · exact lv_tableIn (off := 1570) (tgt := 1609) hx hb dL_law_39 (by rw [hw]; decide) (by rw [hw]; decide) (by rw [hw]; rfl) (by decide) (lc_count C hin hs hcs1 kk)
    · exact lv_tableIn (off := 1595) (tgt := 1634) hx hb dL_law_39 (by rw [hw]; decide) (by rw [hw]; decide) (by rw [hw]; rfl) (by decide) (lc_row C hin hs hcs1 kk)
/-- the loop -/
theorem law_loop (C : LCx p l s m c b L xs D cA ad) (hL : L ≤ 2560) (kend : ∀ (H : Heap) (locs : List Loc) (ls : Array Slot) (cells slots : Nat), cells ≤ 601024 ∧ slots ≤ 7293034 → va_S (lA s) s.heap H locs → W p l e room_1 s m #[Value.ref b] below meth c H locs cells slots Q (F0 m 1696 ls [])) : ∀ (n k : Nat), k + n = 512 → ∀ (μ : jM) (H : Heap) (locs : List Loc) (ls : Array Slot) (cells slots : Nat), LSt s b D cA ad μ H locs ls (Int32.ofInt (5 * (k : Int))) → cells + n ≤ 601024 ∧ slots + 6 * n ≤ 7293034 → W p l e room_1 s m #[Value.ref b] below meth c H locs cells slots Q (F0 m 23 ls []) := by
  intro n
  induction n with
  | zero =>
    intro k hk μ H locs ls cells slots hs hc
    obtain ⟨hSI, hM, hP, hS, hl⟩ := hs
    have hl : lv_has ls 7 [(0, .ref b), (1, .ref (ad 0)), (2, .ref (ad 69)), (3, .ref (ad 99)), (4, .int (Int32.ofInt (5 * (k : Int))))] := hl
    have hx := C.1
    have hb := C.2.1
    have hX := C.2.2.2.2.2.2.2.2.1
    have hbl := C.2.2.2.2.2.2.2.2.2.1
    have hlt : Int32.ofNat L - 5 < Int32.ofInt (5 * (k : Int)) ↔ (L : Int) - 5 < 5 * (k : Int) := by
      have e1 : Int32.ofNat L - 5 = Int32.ofInt ((L : Int) - 5) := by
        rw [o_nat]
        have e2 := o_sub (L : Int) 5
        rw [w_id (x := (L : Int) - 5) (by omega) (by omega)] at e2
        exact e2
      rw [e1]
      exact o_lt (by unfold j32; omega) (by unfold j32; omega)
    refine lv_iload hx hb dL_law_23 (lv_at hl 4 rfl) ?_
    refine lv_aload_n hx hb dL_law_25 rfl (lv_at hl 0 rfl) ?_
    refine va_slen hx hb hX hbl (by unfold lA; omega) hS dL_law_26 ?_
    refine lv_iconst (v := 5) hx hb dL_law_27 (by decide) ?_
    refine lv_isub hx hb dL_law_28 ?_
    refine lv_icmp_gt (tgt := 1696) hx hb dL_law_29 (by decide) (fun _ => kend H locs ls cells slots (by omega) hS) (fun z => absurd ?_ z)
    rw [hlt]
    omega
  | succ n ih =>
    intro k hk μ H locs ls cells slots hs hc
    obtain ⟨hSI, hM, hP, hS, hl⟩ := hs
    have hl : lv_has ls 7 [(0, .ref b), (1, .ref (ad 0)), (2, .ref (ad 69)), (3, .ref (ad 99)), (4, .int (Int32.ofInt (5 * (k : Int))))] := hl
    have hx := C.1
    have hb := C.2.1
    have hX := C.2.2.2.2.2.2.2.2.1
    have hbl := C.2.2.2.2.2.2.2.2.2.1
    have hlt : Int32.ofNat L - 5 < Int32.ofInt (5 * (k : Int)) ↔ (L : Int) - 5 < 5 * (k : Int) := by
      have e1 : Int32.ofNat L - 5 = Int32.ofInt ((L : Int) - 5) := by
        rw [o_nat]
        have e2 := o_sub (L : Int) 5
        rw [w_id (x := (L : Int) - 5) (by omega) (by omega)] at e2
        exact e2
      rw [e1]
      exact o_lt (by unfold j32; omega) (by unfold j32; omega)
    refine lv_iload hx hb dL_law_23 (lv_at hl 4 rfl) ?_
    refine lv_aload_n hx hb dL_law_25 rfl (lv_at hl 0 rfl) ?_
    refine va_slen hx hb hX hbl (by unfold lA; omega) hS dL_law_26 ?_
    refine lv_iconst (v := 5) hx hb dL_law_27 (by decide) ?_
    refine lv_isub hx hb dL_law_28 ?_
    refine lv_icmp_gt (tgt := 1696) hx hb dL_law_29 (by decide) (fun _ => kend H locs ls cells slots (by omega) hS) (fun z => ?_)
    rw [hlt] at z
    have e5 : (5 * (k : Int)) = ((5 * k : Nat) : Int) := by omega
    have hin : vp5 (Int32.ofInt (5 * (k : Int))) L := by
      rw [e5]
      exact vp5_at (by omega) hL
    refine law_turn C hin ⟨hSI, hM, hP, hS, hl⟩ (by omega) (fun μ2 H2 locs2 ls2 hs2 => ?_)
    obtain ⟨hSI2, hM2, hP2, hS2, hl2⟩ := hs2
    have hl2 : lv_has ls2 7 [(0, .ref b), (1, .ref (ad 0)), (2, .ref (ad 69)), (3, .ref (ad 99)), (4, .int (Int32.ofInt (5 * (k : Int))))] := hl2
    refine lv_iinc (v := Int32.ofInt (5 * ((k + 1 : Nat) : Int))) (lv' := [(4, .int (Int32.ofInt (5 * ((k + 1 : Nat) : Int)))), (0, .ref b), (1, .ref (ad 0)), (2, .ref (ad 69)), (3, .ref (ad 99))]) hx hb dL_law_1690 hl2 (k := 4) rfl ?_ (by decide) rfl (fun ls3 hl3 => ?_)
    · have h1 := x4_add (5 * k) 5 (by omega)
      rw [← e5] at h1
      have e6 : (5 * ((k + 1 : Nat) : Int)) = ((5 * k + 5 : Nat) : Int) := by omega
      rw [e6]
      exact h1
    · refine lv_goto (tgt := 23) hx hb dL_law_1693 (by decide) ?_
      exact ih (k + 1) (by omega) μ2 H2 locs2 ls3 (cells + 1) (slots + 6) ⟨hSI2, hM2, hP2, hS2, lv_sub hl3 [1, 2, 3, 4, 0] rfl⟩ (by omega)
end LL
