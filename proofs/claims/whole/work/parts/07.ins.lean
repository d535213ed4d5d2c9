def jTs : List Jvm.Cond := lw_tbl.filter goodWord
theorem jTs_mem {x : Jvm.Cond} (h : x ∈ lw_tbl) (hg : goodWord x = true) : x ∈ jTs := List.mem_filter.mpr ⟨h, hg⟩
theorem jTs_good {ws : List Jvm.Cond} (h : ∀ x ∈ ws, x ∈ jTs) : GoodIn jTs ws := fun x hx => ⟨h x hx, good_of_word (List.mem_filter.mp (h x hx)).2⟩
theorem jTs_ix {x : Jvm.Cond} (i : Nat) (h : lw_tbl[i]? = some x) (hg : goodWord x = true) : x ∈ jTs := jTs_mem (List.mem_of_getElem? h) hg
/-- is the resolved entry what stands there -/
def jmt (nL : Nat) (i : Instr) (a b : Nat) (raw : Instr) (len : Nat) : Bool := match i with
  | .iconst v => decide (-2147483648 ≤ v ∧ v ≤ 2147483647) && (decide (raw = .iconst v ∧ len = 1) || decide (raw = .bipush v ∧ len = 2 ∧ -128 ≤ v ∧ v ≤ 127) || decide (raw = .sipush v ∧ len = 3 ∧ -32768 ≤ v ∧ v ≤ 32767) || (match raw with
    | .ldc _ => decide (len = 2)
    | .ldc_w _ => decide (len = 3)
    | _ => false))
  | .sipush v => decide (-2147483648 ≤ v ∧ v ≤ 2147483647) && (decide (raw = .lconst (Fin.ofNat 2 v.toNat) ∧ len = 1 ∧ 0 ≤ v ∧ v ≤ 1) || (match raw with
    | .ldc2_w _ => decide (len = 3)
    | _ => false))
  | .iload n => decide (n < nL) && (decide (raw = .iload n ∧ len = 2) || decide (raw = .iload_n (Fin.ofNat 4 n) ∧ len = 1 ∧ n < 4))
  | .lload n => decide (n < nL) && (decide (raw = .lload n ∧ len = 2) || decide (raw = .lload_n (Fin.ofNat 4 n) ∧ len = 1 ∧ n < 4))
  | .aload n => decide (n < nL) && (decide (raw = .aload n ∧ len = 2) || decide (raw = .aload_n (Fin.ofNat 4 n) ∧ len = 1 ∧ n < 4))
  | .istore n => decide (n < nL) && (decide (raw = .istore n ∧ len = 2) || decide (raw = .istore_n (Fin.ofNat 4 n) ∧ len = 1 ∧ n < 4))
  | .astore n => decide (n < nL) && (decide (raw = .astore n ∧ len = 2) || decide (raw = .astore_n (Fin.ofNat 4 n) ∧ len = 1 ∧ n < 4))
  | .lstore n => decide (n + 1 < nL) && (decide (raw = .lstore n ∧ len = 2) || decide (raw = .lstore_n (Fin.ofNat 4 n) ∧ len = 1 ∧ n < 4))
  | .iinc n c => decide (n < nL ∧ raw = .iinc n c ∧ len = 3)
  | .iadd => decide (raw = .iadd ∧ len = 1)
  | .isub => decide (raw = .isub ∧ len = 1)
  | .imul => decide (raw = .imul ∧ len = 1)
  | .ineg => decide (raw = .ineg ∧ len = 1)
  | .idiv => decide (raw = .idiv ∧ len = 1)
  | .irem => decide (raw = .irem ∧ len = 1)
  | .iand => decide (raw = .iand ∧ len = 1)
  | .ior => decide (raw = .ior ∧ len = 1)
  | .ixor => decide (raw = .ixor ∧ len = 1)
  | .ishl => decide (raw = .ishl ∧ len = 1)
  | .ishr => decide (raw = .ishr ∧ len = 1)
  | .iushr => decide (raw = .iushr ∧ len = 1)
  | .i2b => decide (raw = .i2b ∧ len = 1)
  | .i2s => decide (raw = .i2s ∧ len = 1)
  | .i2l => decide (raw = .i2l ∧ len = 1)
  | .ladd => decide (raw = .ladd ∧ len = 1)
  | .lcmp => decide (raw = .lcmp ∧ len = 1)
  | .dup => decide (raw = .dup ∧ len = 1)
  | .dup2 => decide (raw = .dup2 ∧ len = 1)
  | .dup_x1 => decide (raw = .dup_x1 ∧ len = 1)
  | .pop => decide (raw = .pop ∧ len = 1)
  | .iaload => decide (raw = .iaload ∧ len = 1)
  | .laload => decide (raw = .laload ∧ len = 1)
  | .iastore => decide (raw = .iastore ∧ len = 1)
  | .lastore => decide (raw = .lastore ∧ len = 1)
  | .arraylength => decide (raw = .arraylength ∧ len = 1)
  | .baload => decide (raw = .baload ∧ len = 1 ∧ (a = 21 ∨ a = 22))
  | .bastore => decide (raw = .bastore ∧ len = 1 ∧ (a = 21 ∨ a = 22))
  | .aaload => decide (raw = .aaload ∧ len = 1 ∧ 24 ≤ a ∧ a ≤ 27)
  | .getfield _ => (match raw with
    | .getfield _ => decide (len = 3 ∧ a < 13 ∧ b < jNf a)
    | _ => false)
  | .putfield _ => (match raw with
    | .putfield _ => decide (len = 3 ∧ a < 13 ∧ b < jNf a)
    | _ => false)
  | .invokedynamic _ => (match raw with
    | .invokestatic _ => decide (len = 3)
    | _ => false)
  | .lmul => (match raw with
    | .invokestatic _ => decide (len = 3)
    | _ => false)
  | .lsub => (match raw with
    | .invokestatic _ => decide (len = 3)
    | _ => false)
  | .lneg => (match raw with
    | .invokestatic _ => decide (len = 3)
    | _ => false)
  | _ => false
/-- the word of the tables that an entry needs -/
def jwd (own : String) (i : Instr) (a b : Nat) (raw : Instr) : List Jvm.Cond := match raw with
  | .ldc n => (match i with
    | .iconst v => [.constant own n (Int32.ofInt v)]
    | _ => [])
  | .ldc_w n => (match i with
    | .iconst v => [.constant own n (Int32.ofInt v)]
    | _ => [])
  | .ldc2_w n => (match i with
    | .sipush v => [.constantLong own n (Int64.ofInt v)]
    | _ => [])
  | .getfield n => (match vwCl[a]? with
    | some q => [.fieldLink own n (q.2.1 b).1 (q.2.1 b).2.1 (q.2.1 b).2.2.1]
    | none => [])
  | .putfield n => (match vwCl[a]? with
    | some q => [.fieldLink own n (q.2.1 b).1 (q.2.1 b).2.1 (q.2.1 b).2.2.1]
    | none => [])
  | .invokestatic n => (match i with
    | .invokedynamic _ => [.methodLink own n arraycopyName]
    | .lmul => [.methodLink own n Lib.Math.max.name]
    | .lsub => [.methodLink own n Lib.Math.min.name]
    | .lneg => [.methodLink own n Lib.Math.abs.name]
    | _ => [])
  | _ => []
theorem gd_some {c : Prop} [Decidable c] {k : Option jO} {o : jO} (h : gd c k = some o) : c ∧ k = some o := by
  unfold gd at h
  split at h
  · rename_i hc
    exact ⟨hc, h⟩
  · cases h
theorem cd_some {c : Bool} {k : Option jO} {o : jO} (h : (bif c then k else none) = some o) : c = true ∧ k = some o := by
  cases c
  · cases h
  · exact ⟨rfl, h⟩
theorem jokS_c {v : jV} {st : jSt} (h1 : jok v) (h2 : jokS st) : jokS (v :: st) := fun x hx => by
  rcases List.mem_cons.mp hx with rfl | hx
  · exact h1
  · exact h2 x hx
theorem jokS_h {v : jV} {st : jSt} (h : jokS (v :: st)) : jok v := h v List.mem_cons_self
theorem jokS_t {v : jV} {st : jSt} (h : jokS (v :: st)) : jokS st := fun x hx => h x (List.mem_cons_of_mem _ hx)
theorem RF_lt (p : Nat) (i : Int) : RF p i < 100 := by
  have h : ∀ l ∈ jRl, ∀ x ∈ l, x < 100 := by decide +kernel
  unfold RF
  rw [List.getD_eq_getElem?_getD, List.getD_eq_getElem?_getD]
  cases h1 : jRl[p]? with
  | none =>
    show (([] : List Nat)[i.toNat]?).getD 0 < 100
    simp
  | some l =>
    have hl := h l (List.mem_of_getElem? h1)
    show (l[i.toNat]?).getD 0 < 100
    cases h2 : l[i.toNat]? with
    | none => decide
    | some x => exact hl x (List.mem_of_getElem? h2)
theorem LN_ok (p : Nat) : 0 ≤ LN p ∧ LN p ≤ 22528 := by
  have h : ∀ x ∈ jLl, x ≤ 22528 := by decide +kernel
  unfold LN
  rw [List.getD_eq_getElem?_getD]
  cases h1 : jLl[p]? with
  | none => decide
  | some x =>
    have := h x (List.mem_of_getElem? h1)
    show 0 ≤ ((x : Nat) : Int) ∧ ((x : Nat) : Int) ≤ 22528
    omega
theorem jtys_at (cA : Nat → ClassId) {k : Nat} (h1 : 20 ≤ k) (h2 : k ≤ 27) : ∃ ty, (jtys cA)[k - 20]? = some (cA k, ty) := by
  have h : k = 20 ∨ k = 21 ∨ k = 22 ∨ k = 23 ∨ k = 24 ∨ k = 25 ∨ k = 26 ∨ k = 27 := by omega
  rcases h with rfl | rfl | rfl | rfl | rfl | rfl | rfl | rfl <;> exact ⟨_, rfl⟩
/-- a class's own facts -/
def jclP (a : Nat) : Prop := ∃ (C : String) (T : u_T) (N : Nat) (ty : Nat → FieldType), vwCl[a]? = some (C, T, N) ∧ N = jNf a ∧ (∀ x ∈ u_ws C T N, x ∈ jTs) ∧ (∀ k, k < N → parseFieldDescriptor (T k).2.2.1 = some (ty k)) ∧ (∀ a, a < N → ∀ b, b < N → a ≠ b → (T a).2.1 ≠ (T b).2.1) ∧ (∀ k, k < N → (FT a k = 0 → ty k = .int ∧ (T k).2.2.2 = false) ∧ (FT a k = 1 → ty k = .boolean ∧ (T k).2.2.2 = false) ∧ (FT a k = 3 → ty k = .array .byte ∧ (T k).2.2.2 = false))
theorem jn_max1 : Cond.static Lib.Math.max.name ∈ jTs := jTs_ix 594 (by decide +kernel) rfl
theorem jn_max2 : Cond.code Lib.Math.max.name Lib.Math.max.code 2 (some .int) ∈ jTs := jTs_ix 595 (by decide +kernel) rfl
theorem jn_min1 : Cond.static Lib.Math.min.name ∈ jTs := jTs_ix 591 (by decide +kernel) rfl
theorem jn_min2 : Cond.code Lib.Math.min.name Lib.Math.min.code 2 (some .int) ∈ jTs := jTs_ix 592 (by decide +kernel) rfl
theorem jn_abs1 : Cond.static Lib.Math.abs.name ∈ jTs := jTs_ix 1157 (by decide +kernel) rfl
theorem jn_abs2 : Cond.code Lib.Math.abs.name Lib.Math.abs.code 1 (some .int) ∈ jTs := jTs_ix 1158 (by decide +kernel) rfl
theorem jn_math : Cond.initialized "java/lang/Math" ∈ jTs := jTs_ix 125 (by decide +kernel) rfl
theorem jn_arr1 : Cond.native arraycopyName ∈ jTs := jTs_ix 562 (by decide +kernel) rfl
theorem jn_arr2 : Cond.static arraycopyName ∈ jTs := jTs_ix 561 (by decide +kernel) rfl
theorem jn_arr3 : Cond.initialized "java/lang/System" ∈ jTs := jTs_ix 119 (by decide +kernel) rfl
theorem jcl_0 : jclP 0 := ⟨RX0, TX0, 3, tyX0, rfl, rfl, by
  intro x hx
  have h : ∀ k, k < 3 → u_lay RX0 TX0 k ∈ jTs := by
    intro k hk
    have hk2 : k = 0 ∨ k = 1 ∨ k = 2 := by omega
    rcases hk2 with rfl | rfl | rfl
    · exact jTs_ix 257 (by decide +kernel) rfl
    · exact jTs_ix 259 (by decide +kernel) rfl
    · exact jTs_ix 261 (by decide +kernel) rfl
  unfold u_ws at hx
  obtain ⟨k, hk, rfl⟩ := List.mem_map.mp hx
  exact h k (List.mem_range.mp hk), tyX0_ok, nmX0, by decide +kernel⟩
theorem jcl_1 : jclP 1 := ⟨RX1, TX1, 9, tyX1, rfl, rfl, by
  intro x hx
  have h : ∀ k, k < 9 → u_lay RX1 TX1 k ∈ jTs := by
    intro k hk
    have hk2 : k = 0 ∨ k = 1 ∨ k = 2 ∨ k = 3 ∨ k = 4 ∨ k = 5 ∨ k = 6 ∨ k = 7 ∨ k = 8 := by omega
    rcases hk2 with rfl | rfl | rfl | rfl | rfl | rfl | rfl | rfl | rfl
    · exact jTs_ix 163 (by decide +kernel) rfl
    · exact jTs_ix 165 (by decide +kernel) rfl
    · exact jTs_ix 167 (by decide +kernel) rfl
    · exact jTs_ix 169 (by decide +kernel) rfl
    · exact jTs_ix 171 (by decide +kernel) rfl
    · exact jTs_ix 173 (by decide +kernel) rfl
    · exact jTs_ix 175 (by decide +kernel) rfl
    · exact jTs_ix 177 (by decide +kernel) rfl
    · exact jTs_ix 179 (by decide +kernel) rfl
  unfold u_ws at hx
  obtain ⟨k, hk, rfl⟩ := List.mem_map.mp hx
  exact h k (List.mem_range.mp hk), tyX1_ok, nmX1, by decide +kernel⟩
theorem jcl_2 : jclP 2 := ⟨RX2, TX2, 4, tyX2, rfl, rfl, by
  intro x hx
  have h : ∀ k, k < 4 → u_lay RX2 TX2 k ∈ jTs := by
    intro k hk
    have hk2 : k = 0 ∨ k = 1 ∨ k = 2 ∨ k = 3 := by omega
    rcases hk2 with rfl | rfl | rfl | rfl
    · exact jTs_ix 239 (by decide +kernel) rfl
    · exact jTs_ix 241 (by decide +kernel) rfl
    · exact jTs_ix 243 (by decide +kernel) rfl
    · exact jTs_ix 245 (by decide +kernel) rfl
  unfold u_ws at hx
  obtain ⟨k, hk, rfl⟩ := List.mem_map.mp hx
  exact h k (List.mem_range.mp hk), tyX2_ok, nmX2, by decide +kernel⟩
theorem jcl_3 : jclP 3 := ⟨RX3, TX3, 2, tyX3, rfl, rfl, by
  intro x hx
  have h : ∀ k, k < 2 → u_lay RX3 TX3 k ∈ jTs := by
    intro k hk
    have hk2 : k = 0 ∨ k = 1 := by omega
    rcases hk2 with rfl | rfl
    · exact jTs_ix 365 (by decide +kernel) rfl
    · exact jTs_ix 367 (by decide +kernel) rfl
  unfold u_ws at hx
  obtain ⟨k, hk, rfl⟩ := List.mem_map.mp hx
  exact h k (List.mem_range.mp hk), tyX3_ok, nmX3, by decide +kernel⟩
theorem jcl_4 : jclP 4 := ⟨RX4, TX4, 3, tyX4, rfl, rfl, by
  intro x hx
  have h : ∀ k, k < 3 → u_lay RX4 TX4 k ∈ jTs := by
    intro k hk
    have hk2 : k = 0 ∨ k = 1 ∨ k = 2 := by omega
    rcases hk2 with rfl | rfl | rfl
    · exact jTs_ix 274 (by decide +kernel) rfl
    · exact jTs_ix 276 (by decide +kernel) rfl
    · exact jTs_ix 278 (by decide +kernel) rfl
  unfold u_ws at hx
  obtain ⟨k, hk, rfl⟩ := List.mem_map.mp hx
  exact h k (List.mem_range.mp hk), tyX4_ok, nmX4, by decide +kernel⟩
theorem jcl_5 : jclP 5 := ⟨RX5, TX5, 8, tyX5, rfl, rfl, by
  intro x hx
  have h : ∀ k, k < 8 → u_lay RX5 TX5 k ∈ jTs := by
    intro k hk
    have hk2 : k = 0 ∨ k = 1 ∨ k = 2 ∨ k = 3 ∨ k = 4 ∨ k = 5 ∨ k = 6 ∨ k = 7 := by omega
    rcases hk2 with rfl | rfl | rfl | rfl | rfl | rfl | rfl | rfl
    · exact jTs_ix 340 (by decide +kernel) rfl
    · exact jTs_ix 342 (by decide +kernel) rfl
    · exact jTs_ix 344 (by decide +kernel) rfl
    · exact jTs_ix 346 (by decide +kernel) rfl
    · exact jTs_ix 348 (by decide +kernel) rfl
    · exact jTs_ix 350 (by decide +kernel) rfl
    · exact jTs_ix 352 (by decide +kernel) rfl
    · exact jTs_ix 354 (by decide +kernel) rfl
  unfold u_ws at hx
  obtain ⟨k, hk, rfl⟩ := List.mem_map.mp hx
  exact h k (List.mem_range.mp hk), tyX5_ok, nmX5, by decide +kernel⟩
theorem jcl_6 : jclP 6 := ⟨RX6, TX6, 3, tyX6, rfl, rfl, by
  intro x hx
  have h : ∀ k, k < 3 → u_lay RX6 TX6 k ∈ jTs := by
    intro k hk
    have hk2 : k = 0 ∨ k = 1 ∨ k = 2 := by omega
    rcases hk2 with rfl | rfl | rfl
    · exact jTs_ix 191 (by decide +kernel) rfl
    · exact jTs_ix 193 (by decide +kernel) rfl
    · exact jTs_ix 195 (by decide +kernel) rfl
  unfold u_ws at hx
  obtain ⟨k, hk, rfl⟩ := List.mem_map.mp hx
  exact h k (List.mem_range.mp hk), tyX6_ok, nmX6, by decide +kernel⟩
theorem jcl_7 : jclP 7 := ⟨RX7, TX7, 2, tyX7, rfl, rfl, by
  intro x hx
  have h : ∀ k, k < 2 → u_lay RX7 TX7 k ∈ jTs := by
    intro k hk
    have hk2 : k = 0 ∨ k = 1 := by omega
    rcases hk2 with rfl | rfl
    · exact jTs_ix 378 (by decide +kernel) rfl
    · exact jTs_ix 380 (by decide +kernel) rfl
  unfold u_ws at hx
  obtain ⟨k, hk, rfl⟩ := List.mem_map.mp hx
  exact h k (List.mem_range.mp hk), tyX7_ok, nmX7, by decide +kernel⟩
theorem jcl_8 : jclP 8 := ⟨RX8, TX8, 11, tyX8, rfl, rfl, by
  intro x hx
  have h : ∀ k, k < 11 → u_lay RX8 TX8 k ∈ jTs := by
    intro k hk
    have hk2 : k = 0 ∨ k = 1 ∨ k = 2 ∨ k = 3 ∨ k = 4 ∨ k = 5 ∨ k = 6 ∨ k = 7 ∨ k = 8 ∨ k = 9 ∨ k = 10 := by omega
    rcases hk2 with rfl | rfl | rfl | rfl | rfl | rfl | rfl | rfl | rfl | rfl | rfl
    · exact jTs_ix 300 (by decide +kernel) rfl
    · exact jTs_ix 302 (by decide +kernel) rfl
    · exact jTs_ix 304 (by decide +kernel) rfl
    · exact jTs_ix 306 (by decide +kernel) rfl
    · exact jTs_ix 308 (by decide +kernel) rfl
    · exact jTs_ix 310 (by decide +kernel) rfl
    · exact jTs_ix 312 (by decide +kernel) rfl
    · exact jTs_ix 314 (by decide +kernel) rfl
    · exact jTs_ix 316 (by decide +kernel) rfl
    · exact jTs_ix 318 (by decide +kernel) rfl
    · exact jTs_ix 320 (by decide +kernel) rfl
  unfold u_ws at hx
  obtain ⟨k, hk, rfl⟩ := List.mem_map.mp hx
  exact h k (List.mem_range.mp hk), tyX8_ok, nmX8, by decide +kernel⟩
theorem jcl_9 : jclP 9 := ⟨RX9, TX9, 7, tyX9, rfl, rfl, by
  intro x hx
  have h : ∀ k, k < 7 → u_lay RX9 TX9 k ∈ jTs := by
    intro k hk
    have hk2 : k = 0 ∨ k = 1 ∨ k = 2 ∨ k = 3 ∨ k = 4 ∨ k = 5 ∨ k = 6 := by omega
    rcases hk2 with rfl | rfl | rfl | rfl | rfl | rfl | rfl
    · exact jTs_ix 211 (by decide +kernel) rfl
    · exact jTs_ix 213 (by decide +kernel) rfl
    · exact jTs_ix 215 (by decide +kernel) rfl
    · exact jTs_ix 217 (by decide +kernel) rfl
    · exact jTs_ix 219 (by decide +kernel) rfl
    · exact jTs_ix 221 (by decide +kernel) rfl
    · exact jTs_ix 223 (by decide +kernel) rfl
  unfold u_ws at hx
  obtain ⟨k, hk, rfl⟩ := List.mem_map.mp hx
  exact h k (List.mem_range.mp hk), tyX9_ok, nmX9, by decide +kernel⟩
theorem jcl_10 : jclP 10 := ⟨RX10, TX10, 2, tyX10, rfl, rfl, by
  intro x hx
  have h : ∀ k, k < 2 → u_lay RX10 TX10 k ∈ jTs := by
    intro k hk
    have hk2 : k = 0 ∨ k = 1 := by omega
    rcases hk2 with rfl | rfl
    · exact jTs_ix 142 (by decide +kernel) rfl
    · exact jTs_ix 144 (by decide +kernel) rfl
  unfold u_ws at hx
  obtain ⟨k, hk, rfl⟩ := List.mem_map.mp hx
  exact h k (List.mem_range.mp hk), tyX10_ok, nmX10, by decide +kernel⟩
theorem jcl_11 : jclP 11 := ⟨RX11, TX11, 16, tyX11, rfl, rfl, by
  intro x hx
  have h : ∀ k, k < 16 → u_lay RX11 TX11 k ∈ jTs := by
    intro k hk
    have hk2 : k = 0 ∨ k = 1 ∨ k = 2 ∨ k = 3 ∨ k = 4 ∨ k = 5 ∨ k = 6 ∨ k = 7 ∨ k = 8 ∨ k = 9 ∨ k = 10 ∨ k = 11 ∨ k = 12 ∨ k = 13 ∨ k = 14 ∨ k = 15 := by omega
    rcases hk2 with rfl | rfl | rfl | rfl | rfl | rfl | rfl | rfl | rfl | rfl | rfl | rfl | rfl | rfl | rfl | rfl
    · exact jTs_ix 399 (by decide +kernel) rfl
    · exact jTs_ix 401 (by decide +kernel) rfl
    · exact jTs_ix 403 (by decide +kernel) rfl
    · exact jTs_ix 405 (by decide +kernel) rfl
    · exact jTs_ix 407 (by decide +kernel) rfl
    · exact jTs_ix 409 (by decide +kernel) rfl
    · exact jTs_ix 411 (by decide +kernel) rfl
    · exact jTs_ix 413 (by decide +kernel) rfl
    · exact jTs_ix 415 (by decide +kernel) rfl
    · exact jTs_ix 417 (by decide +kernel) rfl
    · exact jTs_ix 419 (by decide +kernel) rfl
    · exact jTs_ix 421 (by decide +kernel) rfl
    · exact jTs_ix 423 (by decide +kernel) rfl
    · exact jTs_ix 425 (by decide +kernel) rfl
    · exact jTs_ix 427 (by decide +kernel) rfl
    · exact jTs_ix 429 (by decide +kernel) rfl
  unfold u_ws at hx
  obtain ⟨k, hk, rfl⟩ := List.mem_map.mp hx
  exact h k (List.mem_range.mp hk), tyX11_ok, nmX11, by decide +kernel⟩
theorem jcl_12 : jclP 12 := ⟨RX12, TX12, 53, tyX12, rfl, rfl, by
  intro x hx
  have h : ∀ k, k < 53 → u_lay RX12 TX12 k ∈ jTs := by
    intro k hk
    have hk2 : k = 0 ∨ k = 1 ∨ k = 2 ∨ k = 3 ∨ k = 4 ∨ k = 5 ∨ k = 6 ∨ k = 7 ∨ k = 8 ∨ k = 9 ∨ k = 10 ∨ k = 11 ∨ k = 12 ∨ k = 13 ∨ k = 14 ∨ k = 15 ∨ k = 16 ∨ k = 17 ∨ k = 18 ∨ k = 19 ∨ k = 20 ∨ k = 21 ∨ k = 22 ∨ k = 23 ∨ k = 24 ∨ k = 25 ∨ k = 26 ∨ k = 27 ∨ k = 28 ∨ k = 29 ∨ k = 30 ∨ k = 31 ∨ k = 32 ∨ k = 33 ∨ k = 34 ∨ k = 35 ∨ k = 36 ∨ k = 37 ∨ k = 38 ∨ k = 39 ∨ k = 40 ∨ k = 41 ∨ k = 42 ∨ k = 43 ∨ k = 44 ∨ k = 45 ∨ k = 46 ∨ k = 47 ∨ k = 48 ∨ k = 49 ∨ k = 50 ∨ k = 51 ∨ k = 52 := by omega
    rcases hk2 with rfl | rfl | rfl | rfl | rfl | rfl | rfl | rfl | rfl | rfl | rfl | rfl | rfl | rfl | rfl | rfl | rfl | rfl | rfl | rfl | rfl | rfl | rfl | rfl | rfl | rfl | rfl | rfl | rfl | rfl | rfl | rfl | rfl | rfl | rfl | rfl | rfl | rfl | rfl | rfl | rfl | rfl | rfl | rfl | rfl | rfl | rfl | rfl | rfl | rfl | rfl | rfl | rfl
    · exact jTs_ix 1484 (by decide +kernel) rfl
    · exact jTs_ix 1486 (by decide +kernel) rfl
    · exact jTs_ix 1488 (by decide +kernel) rfl
    · exact jTs_ix 1490 (by decide +kernel) rfl
    · exact jTs_ix 1492 (by decide +kernel) rfl
    · exact jTs_ix 1494 (by decide +kernel) rfl
    · exact jTs_ix 1496 (by decide +kernel) rfl
    · exact jTs_ix 1498 (by decide +kernel) rfl
    · exact jTs_ix 1500 (by decide +kernel) rfl
    · exact jTs_ix 1502 (by decide +kernel) rfl
    · exact jTs_ix 1504 (by decide +kernel) rfl
    · exact jTs_ix 1506 (by decide +kernel) rfl
    · exact jTs_ix 1508 (by decide +kernel) rfl
    · exact jTs_ix 1510 (by decide +kernel) rfl
    · exact jTs_ix 1512 (by decide +kernel) rfl
    · exact jTs_ix 1514 (by decide +kernel) rfl
    · exact jTs_ix 1516 (by decide +kernel) rfl
    · exact jTs_ix 1518 (by decide +kernel) rfl
    · exact jTs_ix 1520 (by decide +kernel) rfl
    · exact jTs_ix 1522 (by decide +kernel) rfl
    · exact jTs_ix 1524 (by decide +kernel) rfl
    · exact jTs_ix 1526 (by decide +kernel) rfl
    · exact jTs_ix 1528 (by decide +kernel) rfl
    · exact jTs_ix 1530 (by decide +kernel) rfl
    · exact jTs_ix 1532 (by decide +kernel) rfl
    · exact jTs_ix 1534 (by decide +kernel) rfl
    · exact jTs_ix 1536 (by decide +kernel) rfl
    · exact jTs_ix 1538 (by decide +kernel) rfl
    · exact jTs_ix 1540 (by decide +kernel) rfl
    · exact jTs_ix 1542 (by decide +kernel) rfl
    · exact jTs_ix 1544 (by decide +kernel) rfl
    · exact jTs_ix 1546 (by decide +kernel) rfl
    · exact jTs_ix 1548 (by decide +kernel) rfl
    · exact jTs_ix 1550 (by decide +kernel) rfl
    · exact jTs_ix 1552 (by decide +kernel) rfl
    · exact jTs_ix 1554 (by decide +kernel) rfl
    · exact jTs_ix 1556 (by decide +kernel) rfl
    · exact jTs_ix 1558 (by decide +kernel) rfl
    · exact jTs_ix 1560 (by decide +kernel) rfl
    · exact jTs_ix 1562 (by decide +kernel) rfl
    · exact jTs_ix 1564 (by decide +kernel) rfl
    · exact jTs_ix 1566 (by decide +kernel) rfl
    · exact jTs_ix 1568 (by decide +kernel) rfl
    · exact jTs_ix 1570 (by decide +kernel) rfl
    · exact jTs_ix 1572 (by decide +kernel) rfl
    · exact jTs_ix 1574 (by decide +kernel) rfl
    · exact jTs_ix 1576 (by decide +kernel) rfl
    · exact jTs_ix 1578 (by decide +kernel) rfl
    · exact jTs_ix 1580 (by decide +kernel) rfl
    · exact jTs_ix 1582 (by decide +kernel) rfl
    · exact jTs_ix 1584 (by decide +kernel) rfl
    · exact jTs_ix 1586 (by decide +kernel) rfl
    · exact jTs_ix 1588 (by decide +kernel) rfl
  unfold u_ws at hx
  obtain ⟨k, hk, rfl⟩ := List.mem_map.mp hx
  exact h k (List.mem_range.mp hk), tyX12_ok, nmX12, by decide +kernel⟩
theorem jcl {a : Nat} (h : a < 13) : jclP a := by
  have h2 : a = 0 ∨ a = 1 ∨ a = 2 ∨ a = 3 ∨ a = 4 ∨ a = 5 ∨ a = 6 ∨ a = 7 ∨ a = 8 ∨ a = 9 ∨ a = 10 ∨ a = 11 ∨ a = 12 := by omega
  rcases h2 with rfl | rfl | rfl | rfl | rfl | rfl | rfl | rfl | rfl | rfl | rfl | rfl | rfl
  · exact jcl_0
  · exact jcl_1
  · exact jcl_2
  · exact jcl_3
  · exact jcl_4
  · exact jcl_5
  · exact jcl_6
  · exact jcl_7
  · exact jcl_8
  · exact jcl_9
  · exact jcl_10
  · exact jcl_11
  · exact jcl_12
theorem jfs_set (ad : Nat → Nat) (g : Int → Int) (p a b : Nat) (v : Int) (x : Value) (hx : x = jfl ad (fun j => if j = (b : Int) then v else g j) p a b) (N : Nat) : ((List.range N).map (jfl ad g p a)).set b x = (List.range N).map (jfl ad (fun j => if j = (b : Int) then v else g j) p a) := by
  apply List.ext_getElem?
  intro k
  by_cases hk : k = b
  · subst hk
    by_cases h2 : k < N
    · rw [List.getElem?_set_self (by simpa using h2), List.getElem?_map, List.getElem?_range h2, hx]
      rfl
    · rw [List.getElem?_eq_none (by simpa using h2), List.getElem?_eq_none (by simpa using h2)]
  · rw [List.getElem?_set_ne (Ne.symm hk)]
    by_cases h2 : k < N
    · rw [List.getElem?_map, List.getElem?_map, List.getElem?_range h2]
      show some (jfl ad g p a k) = some (jfl ad _ p a k)
      have e : (fun j => if j = (b : Int) then v else g j) (k : Int) = g k := if_neg (by omega)
      unfold jfl
      rw [e]
    · rw [List.getElem?_eq_none (by simpa using h2), List.getElem?_eq_none (by simpa using h2)]
theorem jfl_i (ad : Nat → Nat) (g : Int → Int) (p : Nat) (v : Int) {a b : Nat} (h : FT a b < 2) : jfl ad (fun j => if j = (b : Int) then v else g j) p a b = jemb ad (jI v) := by
  unfold jfl
  rw [if_pos h]
  show Value.int (Int32.ofInt (if (b : Int) = b then v else g b)) = _
  rw [if_pos rfl]
  rfl
theorem jfl_r (ad : Nat → Nat) (g : Int → Int) (p q2 : Nat) {a b : Nat} (h : FT a b = 3) : jfl ad (fun j => if j = (b : Int) then (q2 : Int) else g j) p a b = jemb ad (jR q2) := by
  unfold jfl
  rw [if_neg (by omega), if_neg (by omega)]
  have e : (fun j => if j = (b : Int) then (q2 : Int) else g j) (b : Int) = (q2 : Int) := if_pos rfl
  rw [e, if_pos (Int.natCast_nonneg _), Int.toNat_natCast]
  rfl
theorem o_and (x y : Int) : Int32.ofInt x &&& Int32.ofInt y = Int32.ofInt (jand x y) := (o_t _).symm
theorem o_or (x y : Int) : Int32.ofInt x ||| Int32.ofInt y = Int32.ofInt (jor x y) := (o_t _).symm
theorem o_xor (x y : Int) : Int32.ofInt x ^^^ Int32.ofInt y = Int32.ofInt (jxor x y) := (o_t _).symm
theorem o_shl (x y : Int) : Int32.ofInt x <<< (Int32.ofInt y &&& 31) = Int32.ofInt (jshl x y) := (o_t _).symm
theorem o_shr (x y : Int) : Int32.ofInt x >>> (Int32.ofInt y &&& 31) = Int32.ofInt (jshr x y) := (o_t _).symm
theorem o_ushr (x y : Int) : ((Int32.ofInt x).toUInt32 >>> ((Int32.ofInt y).toUInt32 &&& Int32.toUInt32 31)).toInt32 = Int32.ofInt (jushr x y) := (o_t _).symm
theorem o_div (x y : Int) : Int32.ofInt x / Int32.ofInt y = Int32.ofInt (jdiv x y) := (o_t _).symm
theorem o_rem (x y : Int) : Int32.ofInt x - Int32.ofInt x / Int32.ofInt y * Int32.ofInt y = Int32.ofInt (jrem x y) := (o_t _).symm
theorem o_b8 (x : Int) : (Int32.ofInt x).toInt8.toInt32 = Int32.ofInt (jb8 x) := (o_t _).symm
theorem o_s16 (x : Int) : (Int32.ofInt x).toInt16.toInt32 = Int32.ofInt (js16 x) := (o_t _).symm
theorem o_i8 {v : Int} (h1 : -128 ≤ v) (h2 : v ≤ 127) : (Int8.ofInt v).toInt32 = Int32.ofInt v := by
  apply Int32.toInt_inj.mp
  rw [Int8.toInt_toInt32, o_id ⟨by omega, by omega⟩, Int8.toInt_ofInt]
  show v.bmod 256 = v
  rw [Int.bmod_def]
  split <;> omega
theorem o_i16 {v : Int} (h1 : -32768 ≤ v) (h2 : v ≤ 32767) : (Int16.ofInt v).toInt32 = Int32.ofInt v := by
  apply Int32.toInt_inj.mp
  rw [Int16.toInt_toInt32, o_id ⟨by omega, by omega⟩, Int16.toInt_ofInt]
  show v.bmod 65536 = v
  rw [Int.bmod_def]
  split <;> omega
theorem o_lc {v : Int} (h1 : 0 ≤ v) (h2 : v ≤ 1) : Int64.ofNat ((Fin.ofNat 2 v.toNat : Fin 2) : Nat) = Int64.ofInt v := by
  have h : v = 0 ∨ v = 1 := by omega
  rcases h with rfl | rfl <;> rfl
theorem o_bool {v : Int} (h : v = 0 ∨ v = 1) : vp_nar .boolean (Int32.ofInt v) = Int32.ofInt v := by
  rcases h with rfl | rfl <;> rfl
theorem o_boolN {v : Int} (h : v = 0 ∨ v = 1) : narrow .boolean (.int (Int32.ofInt v)) = .int (Int32.ofInt v) := by
  rcases h with rfl | rfl <;> rfl
theorem o_boolF {v : Int} (h : v = 0 ∨ v = 1) : fits .boolean (.int (Int32.ofInt v)) = true := by
  rcases h with rfl | rfl <;> rfl
theorem o_ln (p : Nat) : Int32.ofNat (LN p).toNat = Int32.ofInt (LN p) := by
  obtain ⟨h, -⟩ := LN_ok p
  have e : LN p = ((LN p).toNat : Int) := by omega
  generalize (LN p).toNat = n at e
  rw [e]
  rfl
theorem jcat_cat (ad : Nat → Nat) : ∀ st : jSt, ((st.map (jemb ad)).map fun v => v.category).sum = jcat st
  | [] => rfl
  | v :: st => by
    have ih := jcat_cat ad st
    rcases v with x | x | p
    · exact congrArg (1 + ·) ih
    · exact congrArg (2 + ·) ih
    · exact congrArg (1 + ·) ih
def jRel (D : va_G) (cA : Nat → ClassId) (ad : Nat → Nat) (s : State) (nL : Nat) (lv : jLs) (st : jSt) (μ : jM) (H : Heap) (locs : List Loc) (ls : Array Slot) : Prop := jrl ad lv ls nL ∧ jokL lv ∧ jokS st ∧ va_P D vwCl (jws cA ad μ) H ∧ va_S (jA ad) s.heap H locs ∧ jokM μ
section J1
variable {p : Program} {l : Launch} {e : Env} {R : Room} {s : State} {m : MethodId} {args : Array Value} {below : List Frame} {meth : Method} {c : Code} {Q : State → Prop} {cc : ByteArray} {own : String} {nL : Nat} {D : va_G} {cA : Nat → ClassId} {ad : Nat → Nat}
theorem jRel_st {lv : jLs} {st st' : jSt} {μ : jM} {H : Heap} {locs : List Loc} {ls : Array Slot} (h : jRel D cA ad s nL lv st μ H locs ls) (h2 : jokS st') : jRel D cA ad s nL lv st' μ H locs ls := ⟨h.1, h.2.1, h2, h.2.2.2⟩
theorem jRel_lv {lv lv' : jLs} {st st' : jSt} {μ : jM} {H : Heap} {locs : List Loc} {ls ls' : Array Slot} (h : jRel D cA ad s nL lv st μ H locs ls) (h1 : jrl ad lv' ls' nL) (h2 : jokL lv') (h3 : jokS st') : jRel D cA ad s nL lv' st' μ H locs ls' := ⟨h1, h2, h3, h.2.2.2⟩
set_option maxHeartbeats 8000000 in
set_option maxRecDepth 100000 in
theorem j1_snd (hx : p.tables.exec = Jvm.exec) (hb : c.code = cc) (hml : c.maxLocals = nL) (hown : s.vm.findClass own = some m.cls) (hts : ∀ w ∈ jTs, w.before args s = true) (hK : va_K D vwCl (jtys cA) s) (hinj : ∀ i j, i < 100 → j < 100 → ad i = ad j → i = j) (hRf : 1 ≤ R.frames) (hRl : 40 ≤ R.locals)
    {i raw : Instr} {a b len pc : Nat} (hdec : decode cc pc = .ok (raw, len)) (hmt : jmt nL i a b raw len = true) (hwd : ∀ q ∈ jwd own i a b raw, q ∈ jTs) {lv : jLs} {st : jSt} {μ : jM} {k : jLs → jSt → jM → Option jO} {o : jO} (h1 : j1 i a b lv st μ k = some o) {H : Heap} {locs : List Loc} {ls : Array Slot} (hr : jRel D cA ad s nL lv st μ H locs ls)
    (kk : ∀ (lv' : jLs) (st' : jSt) (μ' : jM) (H' : Heap) (locs' : List Loc) (ls' : Array Slot), k lv' st' μ' = some o → jRel D cA ad s nL lv' st' μ' H' locs' ls' → W p l e R s m args below meth c H' locs' 0 0 Q (F0 m (pc + len) ls' (st'.map (jemb ad)))) : W p l e R s m args below meth c H locs 0 0 Q (F0 m pc ls (st.map (jemb ad))) := by
  have hL := hr.1
  have hoL := hr.2.1
  have hoS := hr.2.2.1
  have hP := hr.2.2.2.1
  have hS := hr.2.2.2.2.1
  have hM := hr.2.2.2.2.2
  have hD := jws_D cA μ hinj
  have hH := jrl_has hL
  unfold j1 at h1
  split at h1
  · simp only [jmt, Bool.and_eq_true, Bool.or_eq_true, decide_eq_true_eq] at hmt
    obtain ⟨hv, ((⟨rfl, rfl⟩ | ⟨rfl, rfl, hv1, hv2⟩) | ⟨rfl, rfl, hv1, hv2⟩) | hmt⟩ := hmt
    · exact lv_iconst hx hb hdec rfl (kk _ _ _ _ _ _ h1 (jRel_st hr (jokS_c hv hoS)))
    · exact lv_bipush hx hb hdec (o_i8 hv1 hv2) (kk _ _ _ _ _ _ h1 (jRel_st hr (jokS_c hv hoS)))
    · exact lv_sipush hx hb hdec (o_i16 hv1 hv2) (kk _ _ _ _ _ _ h1 (jRel_st hr (jokS_c hv hoS)))
    · split at hmt
      · simp only [decide_eq_true_eq] at hmt
        subst hmt
        exact lv_ldc hx hb hown (hts _ (hwd _ List.mem_cons_self)) hdec (kk _ _ _ _ _ _ h1 (jRel_st hr (jokS_c hv hoS)))
      · simp only [decide_eq_true_eq] at hmt
        subst hmt
        exact lv_ldcw hx hb hown (hts _ (hwd _ List.mem_cons_self)) hdec (kk _ _ _ _ _ _ h1 (jRel_st hr (jokS_c hv hoS)))
      · cases hmt
  · simp only [jmt, Bool.and_eq_true, Bool.or_eq_true, decide_eq_true_eq] at hmt
    rename_i v
    have hv64 : j64 v := by
      have h9 := hmt.1
      unfold j64
      omega
    obtain ⟨hv, ⟨rfl, rfl, hv1, hv2⟩ | hmt⟩ := hmt
    · exact lv_lconst hx hb hdec (o_lc hv1 hv2) (kk _ _ _ _ _ _ h1 (jRel_st hr (jokS_c hv64 hoS)))
    · split at hmt
      · simp only [decide_eq_true_eq] at hmt
        subst hmt
        exact lv_ldc2 hx hb hown (hts _ (hwd _ List.mem_cons_self)) hdec (kk _ _ _ _ _ _ h1 (jRel_st hr (jokS_c hv64 hoS)))
      · cases hmt
  · split at h1
    · rename_i n _ x hn
      simp only [jmt, Bool.and_eq_true, Bool.or_eq_true, decide_eq_true_eq] at hmt
      have hg := hL.2.2.2 n _ hn
      obtain ⟨-, ⟨rfl, rfl⟩ | ⟨rfl, rfl, h4⟩⟩ := hmt
      · exact lv_iload hx hb hdec hg (kk _ _ _ _ _ _ h1 (jRel_st hr (jokS_c (hoL n _ hn) hoS)))
      · exact lv_iload_n hx hb hdec (Nat.mod_eq_of_lt h4) hg (kk _ _ _ _ _ _ h1 (jRel_st hr (jokS_c (hoL n _ hn) hoS)))
    · cases h1
  · split at h1
    · rename_i n _ x hn
      simp only [jmt, Bool.and_eq_true, Bool.or_eq_true, decide_eq_true_eq] at hmt
      have hg := hL.2.2.2 n _ hn
      obtain ⟨-, ⟨rfl, rfl⟩ | ⟨rfl, rfl, h4⟩⟩ := hmt
      · exact lv_lload hx hb hdec hg (kk _ _ _ _ _ _ h1 (jRel_st hr (jokS_c (hoL n _ hn) hoS)))
      · exact lv_lload_n hx hb hdec (Nat.mod_eq_of_lt h4) hg (kk _ _ _ _ _ _ h1 (jRel_st hr (jokS_c (hoL n _ hn) hoS)))
    · cases h1
  · split at h1
    · rename_i n _ x hn
      simp only [jmt, Bool.and_eq_true, Bool.or_eq_true, decide_eq_true_eq] at hmt
      have hg := hL.2.2.2 n _ hn
      obtain ⟨-, ⟨rfl, rfl⟩ | ⟨rfl, rfl, h4⟩⟩ := hmt
      · exact lv_aload hx hb hdec hg (kk _ _ _ _ _ _ h1 (jRel_st hr (jokS_c (hoL n _ hn) hoS)))
      · exact lv_aload_n hx hb hdec (Nat.mod_eq_of_lt h4) hg (kk _ _ _ _ _ _ h1 (jRel_st hr (jokS_c (hoL n _ hn) hoS)))
    · cases h1
  · split at h1
    · rename_i n _ x st
      simp only [jmt, Bool.and_eq_true, Bool.or_eq_true, decide_eq_true_eq] at hmt
      obtain ⟨hn, ⟨rfl, rfl⟩ | ⟨rfl, rfl, h4⟩⟩ := hmt
      · exact lv_istore hx hb hdec hH hn rfl fun ls' h' => kk _ _ _ _ _ _ h1 (jRel_lv hr (jst1_rl hL h') (jst1_ok hoL (jokS_h hoS)) (jokS_t hoS))
      · exact lv_istore_n hx hb hdec (Nat.mod_eq_of_lt h4) hH hn rfl fun ls' h' => kk _ _ _ _ _ _ h1 (jRel_lv hr (jst1_rl hL h') (jst1_ok hoL (jokS_h hoS)) (jokS_t hoS))
    · cases h1
  · split at h1
    · rename_i n _ x st
      simp only [jmt, Bool.and_eq_true, Bool.or_eq_true, decide_eq_true_eq] at hmt
      obtain ⟨hn, ⟨rfl, rfl⟩ | ⟨rfl, rfl, h4⟩⟩ := hmt
      · exact lv_lstore hx hb hdec hH hn rfl fun ls' h' => kk _ _ _ _ _ _ h1 (jRel_lv hr (jst2_rl hL h') (jst2_ok hoL (jokS_h hoS)) (jokS_t hoS))
      · exact lv_lstore_n hx hb hdec (Nat.mod_eq_of_lt h4) hH hn rfl fun ls' h' => kk _ _ _ _ _ _ h1 (jRel_lv hr (jst2_rl hL h') (jst2_ok hoL (jokS_h hoS)) (jokS_t hoS))
    · cases h1
  · split at h1
    · rename_i n _ x st
      simp only [jmt, Bool.and_eq_true, Bool.or_eq_true, decide_eq_true_eq] at hmt
      obtain ⟨hn, ⟨rfl, rfl⟩ | ⟨rfl, rfl, h4⟩⟩ := hmt
      · exact lv_astore hx hb hdec hH hn rfl fun ls' h' => kk _ _ _ _ _ _ h1 (jRel_lv hr (jst1_rl hL h') (jst1_ok hoL (jokS_h hoS)) (jokS_t hoS))
      · exact lv_astore_n hx hb hdec (Nat.mod_eq_of_lt h4) hH hn rfl fun ls' h' => kk _ _ _ _ _ _ h1 (jRel_lv hr (jst1_rl hL h') (jst1_ok hoL (jokS_h hoS)) (jokS_t hoS))
    · cases h1
  · split at h1
    · rename_i n q _ x hn
      simp only [jmt, decide_eq_true_eq] at hmt
      obtain ⟨hn2, rfl, rfl⟩ := hmt
      obtain ⟨k9, hk9⟩ := List.getElem?_of_mem (jprs_mem.mpr ⟨_, hn, rfl⟩)
      have e9 : Int32.ofInt x + Int32.ofInt q = Int32.ofInt (w32 (x + q)) := o_add x q
      exact lv_iinc hx hb hdec hH hk9 e9 hn2 rfl fun ls' h' => kk _ _ _ _ _ _ h1 (jRel_lv hr (jst1_rl (v := jI (w32 (x + q))) hL h') (jst1_ok hoL (o_w32r _)) hoS)
    · cases h1
  · split at h1
    · rename_i y x st
      simp only [jmt, decide_eq_true_eq] at hmt
      obtain ⟨rfl, rfl⟩ := hmt
      refine lv_iadd (x := Int32.ofInt x) (y := Int32.ofInt y) (rest := st.map (jemb ad)) hx hb hdec ?_
      rw [o_add]
      exact kk _ _ _ _ _ _ h1 (jRel_st hr (jokS_c (o_w32r _) (jokS_t (jokS_t hoS))))
    · cases h1
  · split at h1
    · rename_i y x st
      simp only [jmt, decide_eq_true_eq] at hmt
      obtain ⟨rfl, rfl⟩ := hmt
      refine lv_isub (x := Int32.ofInt x) (y := Int32.ofInt y) (rest := st.map (jemb ad)) hx hb hdec ?_
      rw [o_sub]
      exact kk _ _ _ _ _ _ h1 (jRel_st hr (jokS_c (o_w32r _) (jokS_t (jokS_t hoS))))
    · cases h1
  · split at h1
    · rename_i y x st
      simp only [jmt, decide_eq_true_eq] at hmt
      obtain ⟨rfl, rfl⟩ := hmt
      refine lv_imul (x := Int32.ofInt x) (y := Int32.ofInt y) (rest := st.map (jemb ad)) hx hb hdec ?_
      rw [o_mul]
      exact kk _ _ _ _ _ _ h1 (jRel_st hr (jokS_c (o_w32r _) (jokS_t (jokS_t hoS))))
    · cases h1
  · split at h1
    · rename_i x st
      simp only [jmt, decide_eq_true_eq] at hmt
      obtain ⟨rfl, rfl⟩ := hmt
      refine lv_ineg (x := Int32.ofInt x) (rest := st.map (jemb ad)) hx hb hdec ?_
      rw [o_neg]
      exact kk _ _ _ _ _ _ h1 (jRel_st hr (jokS_c (o_w32r _) (jokS_t hoS)))
    · cases h1
  · split at h1
    · rename_i y x st
      obtain ⟨hy0, h1⟩ := gd_some h1
      simp only [jmt, decide_eq_true_eq] at hmt
      obtain ⟨rfl, rfl⟩ := hmt
      refine lv_idiv (x := Int32.ofInt x) (y := Int32.ofInt y) (rest := st.map (jemb ad)) hx hb hdec (fun z => hy0 ((o_eq (jokS_h hoS) o_z32).mp z)) ?_
      rw [o_div]
      exact kk _ _ _ _ _ _ h1 (jRel_st hr (jokS_c (o_r32 _) (jokS_t (jokS_t hoS))))
    · cases h1
  · split at h1
    · rename_i y x st
      obtain ⟨hy0, h1⟩ := gd_some h1
      simp only [jmt, decide_eq_true_eq] at hmt
      obtain ⟨rfl, rfl⟩ := hmt
      refine lv_irem (x := Int32.ofInt x) (y := Int32.ofInt y) (rest := st.map (jemb ad)) hx hb hdec (fun z => hy0 ((o_eq (jokS_h hoS) o_z32).mp z)) ?_
      rw [o_rem]
      exact kk _ _ _ _ _ _ h1 (jRel_st hr (jokS_c (o_r32 _) (jokS_t (jokS_t hoS))))
    · cases h1
  · split at h1
    · rename_i y x st
      simp only [jmt, decide_eq_true_eq] at hmt
      obtain ⟨rfl, rfl⟩ := hmt
      refine lv_iand (x := Int32.ofInt x) (y := Int32.ofInt y) (rest := st.map (jemb ad)) hx hb hdec ?_
      rw [o_and]
      exact kk _ _ _ _ _ _ h1 (jRel_st hr (jokS_c (o_r32 _) (jokS_t (jokS_t hoS))))
    · cases h1
  · split at h1
    · rename_i y x st
      simp only [jmt, decide_eq_true_eq] at hmt
      obtain ⟨rfl, rfl⟩ := hmt
      refine lv_ior (x := Int32.ofInt x) (y := Int32.ofInt y) (rest := st.map (jemb ad)) hx hb hdec ?_
      rw [o_or]
      exact kk _ _ _ _ _ _ h1 (jRel_st hr (jokS_c (o_r32 _) (jokS_t (jokS_t hoS))))
    · cases h1
  · split at h1
    · rename_i y x st
      simp only [jmt, decide_eq_true_eq] at hmt
      obtain ⟨rfl, rfl⟩ := hmt
      refine lv_ixor (x := Int32.ofInt x) (y := Int32.ofInt y) (rest := st.map (jemb ad)) hx hb hdec ?_
      rw [o_xor]
      exact kk _ _ _ _ _ _ h1 (jRel_st hr (jokS_c (o_r32 _) (jokS_t (jokS_t hoS))))
    · cases h1
  · split at h1
    · rename_i y x st
      simp only [jmt, decide_eq_true_eq] at hmt
      obtain ⟨rfl, rfl⟩ := hmt
      refine lv_ishl (x := Int32.ofInt x) (y := Int32.ofInt y) (rest := st.map (jemb ad)) hx hb hdec ?_
      rw [o_shl]
      exact kk _ _ _ _ _ _ h1 (jRel_st hr (jokS_c (o_r32 _) (jokS_t (jokS_t hoS))))
    · cases h1
  · split at h1
    · rename_i y x st
      simp only [jmt, decide_eq_true_eq] at hmt
      obtain ⟨rfl, rfl⟩ := hmt
      refine lv_ishr (x := Int32.ofInt x) (y := Int32.ofInt y) (rest := st.map (jemb ad)) hx hb hdec ?_
      rw [o_shr]
      exact kk _ _ _ _ _ _ h1 (jRel_st hr (jokS_c (o_r32 _) (jokS_t (jokS_t hoS))))
    · cases h1
  · split at h1
    · rename_i y x st
      simp only [jmt, decide_eq_true_eq] at hmt
      obtain ⟨rfl, rfl⟩ := hmt
      exact lv_iushr (x := Int32.ofInt x) (y := Int32.ofInt y) (rest := st.map (jemb ad)) hx hb hdec (o_ushr x y) (kk _ _ _ _ _ _ h1 (jRel_st hr (jokS_c (o_r32 _) (jokS_t (jokS_t hoS)))))
    · cases h1
  · split at h1
    · rename_i x st
      simp only [jmt, decide_eq_true_eq] at hmt
      obtain ⟨rfl, rfl⟩ := hmt
      exact lv_i2b (x := Int32.ofInt x) (rest := st.map (jemb ad)) hx hb hdec (o_b8 x) (kk _ _ _ _ _ _ h1 (jRel_st hr (jokS_c (o_r32 _) (jokS_t hoS))))
    · cases h1
  · split at h1
    · rename_i x st
      simp only [jmt, decide_eq_true_eq] at hmt
      obtain ⟨rfl, rfl⟩ := hmt
      exact lv_i2s (x := Int32.ofInt x) (rest := st.map (jemb ad)) hx hb hdec (o_s16 x) (kk _ _ _ _ _ _ h1 (jRel_st hr (jokS_c (o_r32 _) (jokS_t hoS))))
    · cases h1
  · split at h1
    · rename_i x st
      simp only [jmt, decide_eq_true_eq] at hmt
      obtain ⟨rfl, rfl⟩ := hmt
      have hj : j32 x := jokS_h hoS
      have hj2 : j64 x := by
        unfold j32 at hj
        unfold j64
        omega
      exact lv_i2l (x := Int32.ofInt x) (rest := st.map (jemb ad)) hx hb hdec (o_i2l hj) (kk _ _ _ _ _ _ h1 (jRel_st hr (jokS_c hj2 (jokS_t hoS))))
    · cases h1
  · split at h1
    · rename_i y x st
      simp only [jmt, decide_eq_true_eq] at hmt
      obtain ⟨rfl, rfl⟩ := hmt
      refine lv_ladd (x := Int64.ofInt x) (y := Int64.ofInt y) (rest := st.map (jemb ad)) hx hb hdec ?_
      rw [o_addl]
      exact kk _ _ _ _ _ _ h1 (jRel_st hr (jokS_c (o_w64r _) (jokS_t (jokS_t hoS))))
    · cases h1
  · split at h1
    · rename_i y x st
      simp only [jmt, decide_eq_true_eq] at hmt
      obtain ⟨rfl, rfl⟩ := hmt
      refine W.lcmp (x := Int64.ofInt x) (y := Int64.ofInt y) (rest := st.map (jemb ad)) hx hb hdec ?_
      rw [o_cmp (jokS_h (jokS_t hoS)) (jokS_h hoS)]
      exact kk _ _ _ _ _ _ h1 (jRel_st hr (jokS_c (o_cmpr _ _) (jokS_t (jokS_t hoS))))
    · cases h1
  · split at h1
    · rename_i x st
      simp only [jmt, decide_eq_true_eq] at hmt
      obtain ⟨rfl, rfl⟩ := hmt
      exact lv_dup (va := .int (Int32.ofInt x)) (rest := st.map (jemb ad)) hx hb hdec rfl (kk _ _ _ _ _ _ h1 (jRel_st hr (jokS_c (jokS_h hoS) hoS)))
    · rename_i q st
      simp only [jmt, decide_eq_true_eq] at hmt
      obtain ⟨rfl, rfl⟩ := hmt
      exact lv_dup (va := .ref (ad q)) (rest := st.map (jemb ad)) hx hb hdec rfl (kk _ _ _ _ _ _ h1 (jRel_st hr (jokS_c (jokS_h hoS) hoS)))
    · cases h1
  · split at h1
    · rename_i x q st
      simp only [jmt, decide_eq_true_eq] at hmt
      obtain ⟨rfl, rfl⟩ := hmt
      exact lv_dup2_11 (va := .int (Int32.ofInt x)) (vb := .ref (ad q)) (rest := st.map (jemb ad)) hx hb hdec rfl rfl (kk _ _ _ _ _ _ h1 (jRel_st hr (jokS_c (jokS_h hoS) (jokS_c (jokS_h (jokS_t hoS)) hoS))))
    · cases h1
  · split at h1
    · rename_i x q st
      simp only [jmt, decide_eq_true_eq] at hmt
      obtain ⟨rfl, rfl⟩ := hmt
      exact lv_dup_x1 (va := .int (Int32.ofInt x)) (vb := .ref (ad q)) (rest := st.map (jemb ad)) hx hb hdec rfl rfl (kk _ _ _ _ _ _ h1 (jRel_st hr (jokS_c (jokS_h hoS) (jokS_c (jokS_h (jokS_t hoS)) (jokS_c (jokS_h hoS) (jokS_t (jokS_t hoS)))))))
    · cases h1
  · split at h1
    · rename_i x st
      simp only [jmt, decide_eq_true_eq] at hmt
      obtain ⟨rfl, rfl⟩ := hmt
      exact lv_pop (va := .int (Int32.ofInt x)) (rest := st.map (jemb ad)) hx hb hdec rfl (kk _ _ _ _ _ _ h1 (jRel_st hr (jokS_t hoS)))
    · cases h1
  · split at h1
    · rename_i q st
      obtain ⟨hq, h1⟩ := cd_some h1
      have hq2 : KD q = a := Nat.eq_of_beq_eq_true hq
      have hq3 : q < 100 := jokS_h hoS
      simp only [jmt] at hmt
      split at hmt
      · simp only [decide_eq_true_eq] at hmt
        obtain ⟨rfl, ha, hb13⟩ := hmt
        obtain ⟨C, T, N, ty, c1, c2, c3, c4, c5, c6⟩ := jcl ha
        have hat := jws_at cA ad μ hq3
        rw [jce_o cA ad (μ q) (by omega : KD q < 20), hq2] at hat
        have hv : ((List.range (jNf a)).map (jfl ad (μ q) q a))[b]? = some (jfl ad (μ q) q a b) := by rw [List.getElem?_map, List.getElem?_range hb13]; rfl
        have hw := hwd
        simp only [jwd, c1] at hw
        refine va_get (D := D) (ci := a) (C := C) (T := T) (N := N) (rest := st.map (jemb ad)) (v := jfl ad (μ q) q a b) hx hb hts c3 hown hK hP q hat c1 b (by rw [c2]; exact hb13) (hts _ (hw _ List.mem_cons_self)) (fun _ h9 => h9) hv hdec ?_
        cases hf : Nat.blt (FT a b) 2 with
        | true =>
          rw [hf] at h1
          have hf2 : FT a b < 2 := Nat.le_of_ble_eq_true hf
          have e9 : jfl ad (μ q) q a b = jemb ad (jI (μ q b)) := if_pos hf2
          rw [e9]
          exact kk _ _ _ _ _ _ h1 (jRel_st hr (jokS_c ((hM q b).2 (by omega)) (jokS_t hoS)))
        | false =>
          rw [hf] at h1
          have hf2 : ¬ FT a b < 2 := fun z => by
            have : Nat.blt (FT a b) 2 = true := Nat.ble_eq_true_of_le z
            rw [this] at hf
            cases hf
          cases hg : Nat.beq (FT a b) 2 with
          | true =>
            rw [hg] at h1
            have hg2 : FT a b = 2 := Nat.eq_of_beq_eq_true hg
            have e9 : jfl ad (μ q) q a b = jemb ad (jR (RF q b)) := (if_neg hf2).trans (if_pos hg2)
            rw [e9]
            exact kk _ _ _ _ _ _ h1 (jRel_st hr (jokS_c (RF_lt q b) (jokS_t hoS)))
          | false =>
            rw [hg] at h1
            obtain ⟨hz, h1⟩ := gd_some h1
            have hg2 : ¬ FT a b = 2 := Nat.ne_of_beq_eq_false hg
            have e9 : jfl ad (μ q) q a b = jemb ad (jR (μ q b).toNat) := (if_neg hf2).trans ((if_neg hg2).trans (if_pos hz.1))
            rw [e9]
            exact kk _ _ _ _ _ _ h1 (jRel_st hr (jokS_c (show (μ q b).toNat < 100 by omega) (jokS_t hoS)))
      · cases hmt
    · cases h1
  · split at h1
    · rename_i v q st
      obtain ⟨hq, h1⟩ := cd_some h1
      have hq2 : KD q = a := Nat.eq_of_beq_eq_true hq
      have hq3 : q < 100 := jokS_h (jokS_t hoS)
      simp only [jmt] at hmt
      split at hmt
      · simp only [decide_eq_true_eq] at hmt
        obtain ⟨rfl, ha, hb13⟩ := hmt
        obtain ⟨C, T, N, ty, c1, c2, c3, c4, c5, c6⟩ := jcl ha
        have hat := jws_at cA ad μ hq3
        rw [jce_o cA ad (μ q) (by omega : KD q < 20), hq2] at hat
        have hw := hwd
        simp only [jwd, c1] at hw
        cases hf : Nat.beq (FT a b) 0 with
        | true =>
          rw [hf] at h1
          have hf2 : FT a b = 0 := Nat.eq_of_beq_eq_true hf
          obtain ⟨hty, hfin⟩ := (c6 b (by rw [c2]; exact hb13)).1 hf2
          refine va_put (D := D) (ci := a) (C := C) (T := T) (N := N) (ty := .int) (rest := st.map (jemb ad)) (v := jemb ad (jI v)) hx hb hts c3 ty c4 c5 hown hK hP hD hS q hat c1 b (by rw [c2]; exact hb13) (hts _ (hw _ List.mem_cons_self)) (fun _ h9 => h9) hfin (by rw [c4 b (by rw [c2]; exact hb13), hty]) (vp_nar_int _) rfl (by simpa using hb13) hdec fun H1 locs1 hP1 hD1 hS1 => ?_
          rw [jfs_set ad (μ q) q a b v (jemb ad (jI v)) (jfl_i ad (μ q) q v (by omega)).symm (jNf a)] at hP1
          rw [jws_set (μ' := jup μ q b v) hq3 (fun z hz => jup_ne hz) (by rw [jup_eq, jce_o cA ad _ (by omega : KD q < 20), hq2])] at hP1
          exact kk _ _ _ _ _ _ h1 ⟨hL, hoL, jokS_t (jokS_t hoS), hP1, hS1, jok_up hM q b v (fun z => by omega) (fun _ => jokS_h hoS)⟩
        | false =>
          rw [hf] at h1
          obtain ⟨hf, h1⟩ := cd_some h1
          obtain ⟨hz, h1⟩ := gd_some h1
          have hf2 : FT a b = 1 := Nat.eq_of_beq_eq_true hf
          obtain ⟨hty, hfin⟩ := (c6 b (by rw [c2]; exact hb13)).2.1 hf2
          refine va_put (D := D) (ci := a) (C := C) (T := T) (N := N) (ty := .boolean) (rest := st.map (jemb ad)) (v := jemb ad (jI v)) hx hb hts c3 ty c4 c5 hown hK hP hD hS q hat c1 b (by rw [c2]; exact hb13) (hts _ (hw _ List.mem_cons_self)) (fun _ h9 => h9) hfin (by rw [c4 b (by rw [c2]; exact hb13), hty]) (o_boolN hz) (o_boolF hz) (by simpa using hb13) hdec fun H1 locs1 hP1 hD1 hS1 => ?_
          rw [jfs_set ad (μ q) q a b v (jemb ad (jI v)) (jfl_i ad (μ q) q v (by omega)).symm (jNf a)] at hP1
          rw [jws_set (μ' := jup μ q b v) hq3 (fun z hz => jup_ne hz) (by rw [jup_eq, jce_o cA ad _ (by omega : KD q < 20), hq2])] at hP1
          exact kk _ _ _ _ _ _ h1 ⟨hL, hoL, jokS_t (jokS_t hoS), hP1, hS1, jok_up hM q b v (fun z => by omega) (fun _ => jokS_h hoS)⟩
      · cases hmt
    · rename_i q2 q st
      obtain ⟨hq, h1⟩ := cd_some h1
      have hq2 : KD q = a := Nat.eq_of_beq_eq_true hq
      have hq3 : q < 100 := jokS_h (jokS_t hoS)
      simp only [jmt] at hmt
      split at hmt
      · simp only [decide_eq_true_eq] at hmt
        obtain ⟨rfl, ha, hb13⟩ := hmt
        obtain ⟨C, T, N, ty, c1, c2, c3, c4, c5, c6⟩ := jcl ha
        have hat := jws_at cA ad μ hq3
        rw [jce_o cA ad (μ q) (by omega : KD q < 20), hq2] at hat
        have hw := hwd
        simp only [jwd, c1] at hw
        obtain ⟨hf, h1⟩ := cd_some h1
        have hf2 : FT a b = 3 := Nat.eq_of_beq_eq_true hf
        obtain ⟨hty, hfin⟩ := (c6 b (by rw [c2]; exact hb13)).2.2 hf2
        refine va_put (D := D) (ci := a) (C := C) (T := T) (N := N) (ty := .array .byte) (rest := st.map (jemb ad)) (v := jemb ad (jR q2)) hx hb hts c3 ty c4 c5 hown hK hP hD hS q hat c1 b (by rw [c2]; exact hb13) (hts _ (hw _ List.mem_cons_self)) (fun _ h9 => h9) hfin (by rw [c4 b (by rw [c2]; exact hb13), hty]) rfl rfl (by simpa using hb13) hdec fun H1 locs1 hP1 hD1 hS1 => ?_
        rw [jfs_set ad (μ q) q a b (q2 : Int) (jemb ad (jR q2)) (jfl_r ad (μ q) q q2 hf2).symm (jNf a)] at hP1
        rw [jws_set (μ' := jup μ q b (q2 : Int)) hq3 (fun z hz => jup_ne hz) (by rw [jup_eq, jce_o cA ad _ (by omega : KD q < 20), hq2])] at hP1
        exact kk _ _ _ _ _ _ h1 ⟨hL, hoL, jokS_t (jokS_t hoS), hP1, hS1, jok_up hM q b (q2 : Int) (fun z => by omega) (fun _ => by have h9 : q2 < 100 := jokS_h hoS; unfold j32; omega)⟩
      · cases hmt
    · cases h1
  · split at h1
    · rename_i x q st
      obtain ⟨hq, h11⟩ := cd_some h1
      obtain ⟨hg, h12⟩ := gd_some h11
      have hq2 : KD q = 20 := Nat.eq_of_beq_eq_true hq
      have hq3 : q < 100 := jokS_h (jokS_t hoS)
      have hi : j32 x := jokS_h hoS
      simp only [jmt, decide_eq_true_eq] at hmt
      obtain ⟨rfl, rfl⟩ := hmt
      have hat := jws_at cA ad μ hq3
      rw [jce_a cA ad (μ q) (by omega : ¬ KD q < 20), jarr_i ad (μ q) (by omega : KD q < 23), hq2] at hat
      refine va_iald (rest := st.map (jemb ad)) (i := Int32.ofInt x) hx hb hK hP q 0 hat rfl (o_in hi hg) hdec ?_
      rw [o_cl hi, Int.toNat_of_nonneg hg.1]
      exact kk _ _ _ _ _ _ h12 (jRel_st hr (jokS_c ((hM q x).2 (by omega)) (jokS_t (jokS_t hoS))))
    · cases h1
  · split at h1
    · rename_i x q st
      obtain ⟨hq, h11⟩ := cd_some h1
      obtain ⟨hg, h12⟩ := gd_some h11
      have hq2 : KD q = a := Nat.eq_of_beq_eq_true hq
      have hq3 : q < 100 := jokS_h (jokS_t hoS)
      have hi : j32 x := jokS_h hoS
      simp only [jmt, decide_eq_true_eq] at hmt
      obtain ⟨rfl, rfl, ha⟩ := hmt
      have hat := jws_at cA ad μ hq3
      rw [jce_a cA ad (μ q) (by omega : ¬ KD q < 20), jarr_i ad (μ q) (by omega : KD q < 23), hq2] at hat
      rcases ha with rfl | rfl
      · refine va_bald (rest := st.map (jemb ad)) (i := Int32.ofInt x) hx hb hK hP q 1 hat rfl (o_in hi hg) hdec ?_
        rw [o_cl hi, Int.toNat_of_nonneg hg.1]
        exact kk _ _ _ _ _ _ h12 (jRel_st hr (jokS_c ((hM q x).2 (by omega)) (jokS_t (jokS_t hoS))))
      · refine va_zald (rest := st.map (jemb ad)) (i := Int32.ofInt x) hx hb hK hP q 2 hat rfl (o_in hi hg) hdec ?_
        rw [o_cl hi, Int.toNat_of_nonneg hg.1]
        exact kk _ _ _ _ _ _ h12 (jRel_st hr (jokS_c ((hM q x).2 (by omega)) (jokS_t (jokS_t hoS))))
    · cases h1
  · split at h1
    · rename_i x q st
      obtain ⟨hq, h11⟩ := cd_some h1
      obtain ⟨hg, h12⟩ := gd_some h11
      have hq2 : KD q = 23 := Nat.eq_of_beq_eq_true hq
      have hq3 : q < 100 := jokS_h (jokS_t hoS)
      have hi : j32 x := jokS_h hoS
      simp only [jmt, decide_eq_true_eq] at hmt
      obtain ⟨rfl, rfl⟩ := hmt
      have hat := jws_at cA ad μ hq3
      rw [jce_a cA ad (μ q) (by omega : ¬ KD q < 20), jarr_l ad (μ q) hq2, hq2] at hat
      refine va_lald (rest := st.map (jemb ad)) (i := Int32.ofInt x) hx hb hK hP q 3 hat rfl (o_in hi hg) hdec ?_
      rw [o_cl hi, Int.toNat_of_nonneg hg.1]
      exact kk _ _ _ _ _ _ h12 (jRel_st hr (jokS_c ((hM q x).1 hq2) (jokS_t (jokS_t hoS))))
    · cases h1
  · split at h1
    · rename_i x q st
      obtain ⟨hq, h11⟩ := cd_some h1
      obtain ⟨hg, h12⟩ := gd_some h11
      have hq2 : KD q = a := Nat.eq_of_beq_eq_true hq
      have hq3 : q < 100 := jokS_h (jokS_t hoS)
      have hi : j32 x := jokS_h hoS
      simp only [jmt, decide_eq_true_eq] at hmt
      obtain ⟨rfl, rfl, ha1, ha2⟩ := hmt
      have hat := jws_at cA ad μ hq3
      rw [jce_a cA ad (μ q) (by omega : ¬ KD q < 20), jarr_r ad (μ q) (by omega : 23 < KD q), hq2] at hat
      have fin : W p l e R s m args below meth c H locs 0 0 Q (F0 m (pc + 1) ls (va_rf (some (ad (RF q x))) :: st.map (jemb ad))) := kk _ _ _ _ _ _ h12 (jRel_st hr (jokS_c (RF_lt q x) (jokS_t (jokS_t hoS))))
      have hin := o_in hi hg
      have ecl : (((Int32.ofInt x).toNatClampNeg : Nat) : Int) = x := by rw [o_cl hi, Int.toNat_of_nonneg hg.1]
      have ha : a = 24 ∨ a = 25 ∨ a = 26 ∨ a = 27 := by omega
      rcases ha with rfl | rfl | rfl | rfl
      · refine va_aldq (rest := st.map (jemb ad)) (i := Int32.ofInt x) hx hb hK hP q 4 hat rfl hin hdec ?_
        rw [ecl]
        exact fin
      · refine va_aldq (rest := st.map (jemb ad)) (i := Int32.ofInt x) hx hb hK hP q 5 hat rfl hin hdec ?_
        rw [ecl]
        exact fin
      · refine va_aldq (rest := st.map (jemb ad)) (i := Int32.ofInt x) hx hb hK hP q 6 hat rfl hin hdec ?_
        rw [ecl]
        exact fin
      · have hlt : (Int32.ofInt x).toNatClampNeg < (LN q).toNat := Nat.not_le.mp fun z => hin (Or.inr z)
        refine W.aald (v := va_rf (some (ad (RF q ((Int32.ofInt x).toNatClampNeg : Nat))))) (ty := .array .int) (rest := st.map (jemb ad)) hx hb (hP q _ hat) ((hK.2 7 _ rfl).1 (LN q).toNat (fun j => va_rf (some (ad (RF q j))))) rfl (fun z => by cases z) (by show ¬ (_ ∨ (arrV _ _ _).slots.size ≤ _); rw [arrV_size]; exact hin) (by show (arrV _ _ _).slots[_]? = _; rw [arrV_read _ _ hlt]) rfl rfl hdec ?_
        rw [ecl]
        exact fin
    · cases h1
  · split at h1
    · rename_i v x q st
      obtain ⟨hq, h11⟩ := cd_some h1
      obtain ⟨hg, h12⟩ := gd_some h11
      have hq2 : KD q = 20 := Nat.eq_of_beq_eq_true hq
      have hq3 : q < 100 := jokS_h (jokS_t (jokS_t hoS))
      have hi : j32 x := jokS_h (jokS_t hoS)
      simp only [jmt, decide_eq_true_eq] at hmt
      obtain ⟨rfl, rfl⟩ := hmt
      have hat := jws_at cA ad μ hq3
      rw [jce_a cA ad (μ q) (by omega : ¬ KD q < 20), jarr_i ad (μ q) (by omega : KD q < 23), hq2] at hat
      refine va_iast (rest := st.map (jemb ad)) (i := Int32.ofInt x) (x := Int32.ofInt v) hx hb hK hP hD hS q 0 hat rfl (o_in hi hg) hdec fun H1 locs1 hP1 hD1 hS1 => ?_
      rw [jws_set (μ' := jup μ q x v) hq3 (fun z hz => jup_ne hz) (by rw [jup_eq, jce_a cA ad _ (by omega : ¬ KD q < 20), jarr_i ad _ (by omega : KD q < 23), hq2, o_cl hi, jupd _ hg.1 _ rfl])] at hP1
      exact kk _ _ _ _ _ _ h12 ⟨hL, hoL, jokS_t (jokS_t (jokS_t hoS)), hP1, hS1, jok_up hM q x v (fun z => by omega) (fun _ => jokS_h hoS)⟩
    · cases h1
  · split at h1
    · rename_i v x q st
      obtain ⟨hq, h11⟩ := cd_some h1
      obtain ⟨hg, h12⟩ := gd_some h11
      have hq2 : KD q = a := Nat.eq_of_beq_eq_true hq
      have hq3 : q < 100 := jokS_h (jokS_t (jokS_t hoS))
      have hi : j32 x := jokS_h (jokS_t hoS)
      simp only [jmt, decide_eq_true_eq] at hmt
      obtain ⟨rfl, rfl, ha⟩ := hmt
      have hat := jws_at cA ad μ hq3
      rw [jce_a cA ad (μ q) (by omega : ¬ KD q < 20), jarr_i ad (μ q) (by omega : KD q < 23), hq2] at hat
      rcases ha with rfl | rfl
      · refine va_bast (rest := st.map (jemb ad)) (i := Int32.ofInt x) (x := Int32.ofInt v) hx hb hK hP hD hS q 1 hat rfl (o_in hi hg) hdec fun H1 locs1 hP1 hD1 hS1 => ?_
        rw [jws_set (μ' := jup μ q x (jb8 v)) hq3 (fun z hz => jup_ne hz) (by rw [jup_eq, jce_a cA ad _ (by omega : ¬ KD q < 20), jarr_i ad _ (by omega : KD q < 23), hq2, o_cl hi, jupd _ hg.1 _ ((vp_nar_byte _).trans (o_b8 v))])] at hP1
        exact kk _ _ _ _ _ _ h12 ⟨hL, hoL, jokS_t (jokS_t (jokS_t hoS)), hP1, hS1, jok_up hM q x (jb8 v) (fun z => by omega) (fun _ => o_r32 _)⟩
      · have h13 : gd (v = 0 ∨ v = 1) (k lv st (jup μ q x v)) = some o := h12
        obtain ⟨hz, h12⟩ := gd_some h13
        refine va_zast (rest := st.map (jemb ad)) (i := Int32.ofInt x) (x := Int32.ofInt v) hx hb hK hP hD hS q 2 hat rfl (o_in hi hg) hdec fun H1 locs1 hP1 hD1 hS1 => ?_
        rw [jws_set (μ' := jup μ q x v) hq3 (fun z hz => jup_ne hz) (by rw [jup_eq, jce_a cA ad _ (by omega : ¬ KD q < 20), jarr_i ad _ (by omega : KD q < 23), hq2, o_cl hi, jupd _ hg.1 _ (o_bool hz)])] at hP1
        exact kk _ _ _ _ _ _ h12 ⟨hL, hoL, jokS_t (jokS_t (jokS_t hoS)), hP1, hS1, jok_up hM q x v (fun z => by omega) (fun _ => jokS_h hoS)⟩
    · cases h1
  · split at h1
    · rename_i v x q st
      obtain ⟨hq, h11⟩ := cd_some h1
      obtain ⟨hg, h12⟩ := gd_some h11
      have hq2 : KD q = 23 := Nat.eq_of_beq_eq_true hq
      have hq3 : q < 100 := jokS_h (jokS_t (jokS_t hoS))
      have hi : j32 x := jokS_h (jokS_t hoS)
      simp only [jmt, decide_eq_true_eq] at hmt
      obtain ⟨rfl, rfl⟩ := hmt
      have hat := jws_at cA ad μ hq3
      rw [jce_a cA ad (μ q) (by omega : ¬ KD q < 20), jarr_l ad (μ q) hq2, hq2] at hat
      refine va_last (rest := st.map (jemb ad)) (i := Int32.ofInt x) (x := Int64.ofInt v) hx hb hK hP hD hS q 3 hat rfl (o_in hi hg) hdec fun H1 locs1 hP1 hD1 hS1 => ?_
      rw [jws_set (μ' := jup μ q x v) hq3 (fun z hz => jup_ne hz) (by rw [jup_eq, jce_a cA ad _ (by omega : ¬ KD q < 20), jarr_l ad _ hq2, hq2, o_cl hi, jupdl _ hg.1])] at hP1
      exact kk _ _ _ _ _ _ h12 ⟨hL, hoL, jokS_t (jokS_t (jokS_t hoS)), hP1, hS1, jok_up hM q x v (fun _ => jokS_h hoS) (fun z => absurd hq2 z)⟩
    · cases h1
  · split at h1
    · rename_i q st
      obtain ⟨hq, h1⟩ := cd_some h1
      simp only [Bool.and_eq_true, Nat.ble_eq] at hq
      have hq3 : q < 100 := jokS_h hoS
      simp only [jmt, decide_eq_true_eq] at hmt
      obtain ⟨rfl, rfl⟩ := hmt
      have hat := jws_at cA ad μ hq3
      rw [jce_a cA ad (μ q) (by omega : ¬ KD q < 20)] at hat
      obtain ⟨ty, hty⟩ := jtys_at cA hq.1 hq.2
      have hln := LN_ok q
      exact va_alen (rest := st.map (jemb ad)) hx hb hK hP q (KD q - 20) hat hty (o_ln q) hdec (kk _ _ _ _ _ _ h1 (jRel_st hr (jokS_c (show j32 (LN q) by unfold j32; omega) (jokS_t hoS))))
    · cases h1
  · split at h1
    · rename_i y x st
      obtain ⟨hq, h1⟩ := cd_some h1
      have hcat : jcat st ≤ 8 := Nat.le_of_ble_eq_true hq
      simp only [jmt] at hmt
      split at hmt
      · simp only [decide_eq_true_eq] at hmt
        subst hmt
        have hlo : ((st.map (jemb ad)).map fun v => v.category).sum + 13 ≤ R.locals := by
          rw [jcat_cat]
          omega
        refine va_mmax (y := Int32.ofInt y) (x := Int32.ofInt x) (rest := st.map (jemb ad)) hx hb (by rw [hml]; exact hL.2.1.symm) hown (hts _ (hwd _ List.mem_cons_self)) (hts _ jn_max1) (hts _ jn_math) (hts _ jn_max2) hRf hlo (Nat.zero_le _) (Nat.zero_le _) hdec ?_
        have e9 : (if Int32.ofInt x < Int32.ofInt y then Int32.ofInt y else Int32.ofInt x) = Int32.ofInt (max x y) := by
          have hlt := o_lt (jokS_h (jokS_t hoS)) (jokS_h hoS)
          by_cases h9 : x < y
          · rw [if_pos (hlt.mpr h9), Int.max_eq_right (by omega)]
          · rw [if_neg (fun z => h9 (hlt.mp z)), Int.max_eq_left (by omega)]
        rw [e9]
        exact kk _ _ _ _ _ _ h1 (jRel_st hr (jokS_c (by rcases Int.le_total x y with z | z; rw [Int.max_eq_right z]; exact jokS_h hoS; rw [Int.max_eq_left z]; exact jokS_h (jokS_t hoS)) (jokS_t (jokS_t hoS))))
      · cases hmt
    · cases h1
  · split at h1
    · rename_i y x st
      obtain ⟨hq, h1⟩ := cd_some h1
      have hcat : jcat st ≤ 8 := Nat.le_of_ble_eq_true hq
      simp only [jmt] at hmt
      split at hmt
      · simp only [decide_eq_true_eq] at hmt
        subst hmt
        have hlo : ((st.map (jemb ad)).map fun v => v.category).sum + 13 ≤ R.locals := by
          rw [jcat_cat]
          omega
        refine va_mmin (y := Int32.ofInt y) (x := Int32.ofInt x) (rest := st.map (jemb ad)) hx hb (by rw [hml]; exact hL.2.1.symm) hown (hts _ (hwd _ List.mem_cons_self)) (hts _ jn_min1) (hts _ jn_math) (hts _ jn_min2) hRf hlo (Nat.zero_le _) (Nat.zero_le _) hdec ?_
        have e9 : (if Int32.ofInt y < Int32.ofInt x then Int32.ofInt y else Int32.ofInt x) = Int32.ofInt (min x y) := by
          have hlt := o_lt (jokS_h hoS) (jokS_h (jokS_t hoS))
          by_cases h9 : y < x
          · rw [if_pos (hlt.mpr h9), Int.min_eq_right (by omega)]
          · rw [if_neg (fun z => h9 (hlt.mp z)), Int.min_eq_left (by omega)]
        rw [e9]
        exact kk _ _ _ _ _ _ h1 (jRel_st hr (jokS_c (by rcases Int.le_total x y with z | z; rw [Int.min_eq_left z]; exact jokS_h (jokS_t hoS); rw [Int.min_eq_right z]; exact jokS_h hoS) (jokS_t (jokS_t hoS))))
      · cases hmt
    · cases h1
  · split at h1
    · rename_i x st
      obtain ⟨hq, h1⟩ := cd_some h1
      have hcat : jcat st ≤ 8 := Nat.le_of_ble_eq_true hq
      simp only [jmt] at hmt
      split at hmt
      · simp only [decide_eq_true_eq] at hmt
        subst hmt
        have hlo : ((st.map (jemb ad)).map fun v => v.category).sum + 13 ≤ R.locals := by
          rw [jcat_cat]
          omega
        refine va_mabs (x := Int32.ofInt x) (rest := st.map (jemb ad)) hx hb (by rw [hml]; exact hL.2.1.symm) hown (hts _ (hwd _ List.mem_cons_self)) (hts _ jn_abs1) (hts _ jn_math) (hts _ jn_abs2) hRf hlo (Nat.zero_le _) (Nat.zero_le _) hdec ?_
        have e9 : (if 0 ≤ Int32.ofInt x then Int32.ofInt x else 0 - Int32.ofInt x) = Int32.ofInt (jabs x) := by
          have hle : (0 : Int32) ≤ Int32.ofInt x ↔ 0 ≤ x := o_le o_z32 (jokS_h hoS)
          unfold jabs
          by_cases h9 : 0 ≤ x
          · rw [if_pos (hle.mpr h9), if_pos h9]
          · rw [if_neg (fun z => h9 (hle.mp z)), if_neg h9]
            exact o_sub 0 x
        rw [e9]
        exact kk _ _ _ _ _ _ h1 (jRel_st hr (jokS_c (by unfold jabs; split; exact jokS_h hoS; exact o_w32r _) (jokS_t hoS)))
      · cases hmt
    · cases h1
  · split at h1
    · rename_i n dp q sp q0
      obtain ⟨hq, h1⟩ := cd_some h1
      obtain ⟨hg, h1⟩ := gd_some h1
      simp only [Bool.and_eq_true] at hq
      have hk0 : KD q0 = 20 := Nat.eq_of_beq_eq_true hq.1
      have hk1 : KD q = 20 := Nat.eq_of_beq_eq_true hq.2
      have hn : j32 n := jokS_h hoS
      have hdp : j32 dp := jokS_h (jokS_t hoS)
      have hq3 : q < 100 := jokS_h (jokS_t (jokS_t hoS))
      have hsp : j32 sp := jokS_h (jokS_t (jokS_t (jokS_t hoS)))
      have hq03 : q0 < 100 := jokS_h (jokS_t (jokS_t (jokS_t (jokS_t hoS))))
      simp only [jmt] at hmt
      split at hmt
      · simp only [decide_eq_true_eq] at hmt
        subst hmt
        have hat0 := jws_at cA ad μ hq03
        rw [jce_a cA ad (μ q0) (by omega : ¬ KD q0 < 20), jarr_i ad (μ q0) (by omega : KD q0 < 23), hk0] at hat0
        have hat := jws_at cA ad μ hq3
        rw [jce_a cA ad (μ q) (by omega : ¬ KD q < 20), jarr_i ad (μ q) (by omega : KD q < 23), hk1] at hat
        have pos : ∀ {z : Int}, j32 z → 0 ≤ z → ¬ Int32.ofInt z < 0 := fun {z} hz h0 h9 => by
          have := (o_lt hz o_z32).mp h9
          omega
        refine va_copyi (ty := .int) (rest := []) (sp := Int32.ofInt sp) (dp := Int32.ofInt dp) (n := Int32.ofInt n) hx hb (by rw [hml]; exact hL.2.1.symm) hown (hts _ (hwd _ List.mem_cons_self)) (hts _ jn_arr1) (hts _ jn_arr2) (hts _ jn_arr3) hK hP hD hS q0 q 0 0 hat0 hat rfl rfl rfl (pos hsp hg.2.1) (pos hdp hg.2.2.1) (pos hn hg.1) (by rw [o_cl hsp, o_cl hn]; omega) (by rw [o_cl hdp, o_cl hn]; omega) (fun _ _ => rfl) hRf (Nat.le_trans (show 0 + (nativeFrameWords "java/lang/System" "arraycopy" 5 + 11) ≤ 40 by decide +kernel) hRl) hdec fun H1 locs1 hP1 hD1 hS1 => ?_
        have ef : (va_cpy (fun j : Nat => Int32.ofInt (μ q0 j)) (fun j : Nat => Int32.ofInt (μ q j)) (Int32.ofInt sp).toNatClampNeg (Int32.ofInt dp).toNatClampNeg (Int32.ofInt n).toNatClampNeg) = fun j : Nat => Int32.ofInt ((fun j => if dp ≤ j ∧ j < dp + n then μ q0 (sp + (j - dp)) else μ q j) (j : Int)) := by
          funext j
          unfold va_cpy
          rw [o_cl hsp, o_cl hdp, o_cl hn]
          show _ = Int32.ofInt (if dp ≤ (j : Int) ∧ (j : Int) < dp + n then μ q0 (sp + ((j : Int) - dp)) else μ q j)
          by_cases hj : dp.toNat ≤ j ∧ j < dp.toNat + n.toNat
          · rw [if_pos hj, if_pos (by omega)]
            have e5 : ((sp.toNat + (j - dp.toNat) : Nat) : Int) = sp + ((j : Int) - dp) := by omega
            show Int32.ofInt (μ q0 ((sp.toNat + (j - dp.toNat) : Nat) : Int)) = _
            rw [e5]
          · rw [if_neg hj, if_neg (by omega)]
        rw [ef] at hP1
        rw [jws_set (μ' := jfill μ q (fun j => if dp ≤ j ∧ j < dp + n then μ q0 (sp + (j - dp)) else μ q j)) hq3 (fun z hz => jfill_ne hz) (by rw [jfill_eq, jce_a cA ad _ (by omega : ¬ KD q < 20), jarr_i ad _ (by omega : KD q < 23), hk1])] at hP1
        refine kk _ _ _ _ _ _ h1 ⟨hL, hoL, fun _ h9 => absurd h9 List.not_mem_nil, hP1, hS1, jok_fill hM q _ (fun j z => by omega) (fun j _ => ?_)⟩
        show j32 (if dp ≤ j ∧ j < dp + n then μ q0 (sp + (j - dp)) else μ q j)
        split
        · exact (hM q0 _).2 (by omega)
        · exact (hM q _).2 (by omega)
      · cases hmt
    · cases h1
  · cases h1
end J1
