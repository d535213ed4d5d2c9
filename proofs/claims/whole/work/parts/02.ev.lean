/-! The shape of the heap: places 0 .. 99; x (the class) and what it holds is 0 .. 68, m (the reference) 69 .. 98, out 99. -/
abbrev jV : Type := Int ⊕ (Int ⊕ Nat)
abbrev jI (x : Int) : jV := Sum.inl x
abbrev jL (x : Int) : jV := Sum.inr (Sum.inl x)
abbrev jR (p : Nat) : jV := Sum.inr (Sum.inr p)
abbrev jLs : Type := List (Option jV)
abbrev jSt : Type := List jV
abbrev jM : Type := Nat → Int → Int
abbrev jO : Type := Option (Option jV) × jM
abbrev jIn : Type := Instr × Nat × Nat × Nat × Nat × Nat
abbrev jT : Type := List jIn × List (List Bool × Nat)
def jKl : List Nat := [11, 10, 20, 1, 20, 20, 20, 20, 20, 20, 20, 6, 9, 20, 20, 20, 2, 20, 2, 20, 0, 20, 24, 4, 20, 20, 25, 26, 20, 8, 22, 20, 20, 20, 20, 20, 5, 27, 20, 20, 20, 20, 20, 20, 20, 20, 20, 3, 20, 20, 7, 20, 4, 20, 20, 4, 20, 20, 4, 20, 20, 2, 20, 0, 20, 2, 20, 0, 20, 12, 20, 20, 20, 22, 20, 20, 20, 20, 20, 20, 21, 20, 21, 22, 22, 23, 20, 22, 20, 20, 22, 20, 20, 23, 20, 20, 20, 22, 20, 23]
def jLl : List Nat := [0, 0, 80, 0, 10, 10, 10, 10, 6, 6, 8, 0, 0, 40, 40, 40, 0, 8, 0, 8, 0, 10, 3, 0, 20, 9, 2, 2, 2, 0, 1024, 1024, 11, 10, 8, 8, 0, 6, 10, 10, 10, 10, 10, 10, 1024, 10, 10, 0, 11264, 10, 0, 20, 0, 10, 9, 0, 10, 9, 0, 10, 9, 0, 8, 0, 10, 0, 8, 0, 10, 0, 8, 11, 11, 11, 11, 6, 6, 10, 30, 3, 80, 16, 40, 11264, 11264, 11264, 1024, 11264, 11264, 11264, 22528, 22528, 11264, 11264, 9, 2048, 44, 2, 2, 1]
def jRl : List (List Nat) := [[1, 3, 11, 12, 16, 18, 20, 22, 23, 26, 27, 28, 29, 36, 47, 50], [2], [], [4, 5, 6, 7, 8, 9, 10], [], [], [], [], [], [], [], [], [13, 14, 15], [], [], [], [17], [], [19], [], [21], [], [52, 55, 58], [24, 25], [], [], [61, 65], [63, 67], [], [30, 31, 32, 33, 34, 35], [], [], [], [], [], [], [37, 44, 45, 46], [38, 39, 40, 41, 42, 43], [], [], [], [], [], [], [], [], [], [48, 49], [], [], [51], [], [53, 54], [], [], [56, 57], [], [], [59, 60], [], [], [62], [], [64], [], [66], [], [68], [], [70, 0, 71, 72, 73, 74, 0, 75, 76, 0, 0, 0, 77, 0, 78, 79, 80, 0, 81, 0, 0, 0, 0, 0, 0, 0, 82, 0, 0, 0, 0, 0, 0, 0, 0, 83, 84, 85, 86, 0, 87, 88, 89, 90, 91, 92, 93, 94, 95, 0, 96, 97, 98], [], [], [], [], [], [], [], [], [], [], [], [], [], [], [], [], [], [], [], [], [], [], [], [], [], [], [], [], [], []]
def jFl : List (List Nat) := [[2, 0, 0], [2, 2, 2, 2, 2, 2, 2, 0, 0], [2, 0, 0, 0], [2, 2], [2, 2, 0], [2, 2, 2, 2, 0, 0, 0, 0], [0, 0, 0], [2, 0], [2, 2, 2, 2, 2, 2, 0, 0, 1, 0, 0], [2, 2, 2, 0, 0, 0, 0], [2, 0], [2, 2, 2, 2, 2, 2, 2, 2, 2, 2, 2, 2, 2, 2, 2, 2], [2, 0, 2, 2, 2, 2, 0, 2, 2, 0, 0, 0, 2, 0, 2, 2, 2, 0, 2, 0, 0, 3, 0, 0, 0, 0, 2, 0, 0, 0, 0, 0, 0, 0, 0, 2, 2, 2, 2, 0, 2, 2, 2, 2, 2, 2, 2, 2, 2, 0, 2, 2, 2]]
def KD (p : Nat) : Nat := jKl.getD p 99
def LN (p : Nat) : Int := (jLl.getD p 0 : Nat)
def RF (p : Nat) (i : Int) : Nat := (jRl.getD p []).getD i.toNat 0
def FT (ci k : Nat) : Nat := (jFl.getD ci []).getD k 9
def w32 (x : Int) : Int := Int.bmod x 4294967296
def w64 (x : Int) : Int := Int.bmod x 18446744073709551616
def jand (x y : Int) : Int := (Int32.ofInt x &&& Int32.ofInt y).toInt
def jor (x y : Int) : Int := (Int32.ofInt x ||| Int32.ofInt y).toInt
def jxor (x y : Int) : Int := (Int32.ofInt x ^^^ Int32.ofInt y).toInt
def jshl (x y : Int) : Int := (Int32.ofInt x <<< (Int32.ofInt y &&& 31)).toInt
def jshr (x y : Int) : Int := (Int32.ofInt x >>> (Int32.ofInt y &&& 31)).toInt
def jushr (x y : Int) : Int := ((Int32.ofInt x).toUInt32 >>> ((Int32.ofInt y).toUInt32 &&& Int32.toUInt32 31)).toInt32.toInt
def jdiv (x y : Int) : Int := (Int32.ofInt x / Int32.ofInt y).toInt
def jrem (x y : Int) : Int := (Int32.ofInt x - Int32.ofInt x / Int32.ofInt y * Int32.ofInt y).toInt
def jb8 (x : Int) : Int := (Int32.ofInt x).toInt8.toInt32.toInt
def js16 (x : Int) : Int := (Int32.ofInt x).toInt16.toInt32.toInt
/-- one number of the heap changed; a whole cell changed -/
def jup (μ : jM) (p : Nat) (i v : Int) : jM := fun q j => if q = p ∧ j = i then v else μ q j
def jfill (μ : jM) (p : Nat) (f : Int → Int) : jM := fun q j => if q = p then f j else μ q j
def gd (c : Prop) [Decidable c] (k : Option jO) : Option jO := if c then k else none
def rI (x : Int) (μ : jM) : Option jO := some (some (some (Sum.inl x)), μ)
def rL (x : Int) (μ : jM) : Option jO := some (some (some (Sum.inr (Sum.inl x))), μ)
def rV (μ : jM) : Option jO := some (some none, μ)
def rT (μ : jM) : Option jO := some (none, μ)
def bI (o : Option jO) (k : Int → jM → Option jO) : Option jO := match o with
  | some (some (some (Sum.inl x)), μ) => k x μ
  | _ => none
def bL (o : Option jO) (k : Int → jM → Option jO) : Option jO := match o with
  | some (some (some (Sum.inr (Sum.inl x))), μ) => k x μ
  | _ => none
def bV (o : Option jO) (k : jM → Option jO) : Option jO := match o with
  | some (some none, μ) => k μ
  | _ => none
def jnth : jLs → Nat → Option jV
  | [], _ => none
  | x :: _, 0 => x
  | _ :: l, n + 1 => jnth l n
def jset : jLs → Nat → Option jV → jLs
  | [], _, _ => []
  | _ :: l, 0, v => v :: l
  | x :: l, n + 1, v => x :: jset l n v
def jisL : Option jV → Bool
  | some (Sum.inr (Sum.inl _)) => true
  | _ => false
/-- a store of one slot: a long just ahead of it is lost -/
def jst1 (l : jLs) (i : Nat) (v : jV) : jLs := match i with
  | 0 => jset l 0 (some v)
  | k + 1 => jset (bif jisL (jnth l k) then jset l k none else l) (k + 1) (some v)
def jst2 (l : jLs) (i : Nat) (v : jV) : jLs := jset (jst1 l i v) (i + 1) none
def jmk : List Bool → jLs → jLs
  | b :: bs, x :: l => (bif b then x else none) :: jmk bs l
  | _, _ => []
def jc (c : ClassFile.Cond) (x y : Int) (a b : Option jO) : Option jO := match c with
  | .eq => if x = y then a else b
  | .ne => if x = y then b else a
  | .lt => if x < y then a else b
  | .ge => if x < y then b else a
  | .gt => if y < x then a else b
  | .le => if y < x then b else a
def jcmp (x y : Int) : Int := if y < x then 1 else if x = y then 0 else -1
def jcat : jSt → Nat
  | [] => 0
  | Sum.inr (Sum.inl _) :: l => 2 + jcat l
  | _ :: l => 1 + jcat l
def jabs (x : Int) : Int := if 0 ≤ x then x else w32 (0 - x)
/-- instructions that neither jump nor call (lmul, lsub, lneg stand for Math.max, min, abs of ints; invokedynamic for System.arraycopy) -/
def j1 (i : Instr) (a b : Nat) (lv : jLs) (st : jSt) (μ : jM) (k : jLs → jSt → jM → Option jO) : Option jO := match i with
  | .iconst v => k lv (jI v :: st) μ
  | .sipush v => k lv (jL v :: st) μ
  | .iload n => match jnth lv n with
    | some (Sum.inl x) => k lv (jI x :: st) μ
    | _ => none
  | .lload n => match jnth lv n with
    | some (Sum.inr (Sum.inl x)) => k lv (jL x :: st) μ
    | _ => none
  | .aload n => match jnth lv n with
    | some (Sum.inr (Sum.inr p)) => k lv (jR p :: st) μ
    | _ => none
  | .istore n => match st with
    | Sum.inl x :: st => k (jst1 lv n (jI x)) st μ
    | _ => none
  | .lstore n => match st with
    | Sum.inr (Sum.inl x) :: st => k (jst2 lv n (jL x)) st μ
    | _ => none
  | .astore n => match st with
    | Sum.inr (Sum.inr p) :: st => k (jst1 lv n (jR p)) st μ
    | _ => none
  | .iinc n c => match jnth lv n with
    | some (Sum.inl x) => k (jst1 lv n (jI (w32 (x + c)))) st μ
    | _ => none
  | .iadd => match st with
    | Sum.inl y :: Sum.inl x :: st => k lv (jI (w32 (x + y)) :: st) μ
    | _ => none
  | .isub => match st with
    | Sum.inl y :: Sum.inl x :: st => k lv (jI (w32 (x - y)) :: st) μ
    | _ => none
  | .imul => match st with
    | Sum.inl y :: Sum.inl x :: st => k lv (jI (w32 (x * y)) :: st) μ
    | _ => none
  | .ineg => match st with
    | Sum.inl x :: st => k lv (jI (w32 (-x)) :: st) μ
    | _ => none
  | .idiv => match st with
    | Sum.inl y :: Sum.inl x :: st => gd (y ≠ 0) (k lv (jI (jdiv x y) :: st) μ)
    | _ => none
  | .irem => match st with
    | Sum.inl y :: Sum.inl x :: st => gd (y ≠ 0) (k lv (jI (jrem x y) :: st) μ)
    | _ => none
  | .iand => match st with
    | Sum.inl y :: Sum.inl x :: st => k lv (jI (jand x y) :: st) μ
    | _ => none
  | .ior => match st with
    | Sum.inl y :: Sum.inl x :: st => k lv (jI (jor x y) :: st) μ
    | _ => none
  | .ixor => match st with
    | Sum.inl y :: Sum.inl x :: st => k lv (jI (jxor x y) :: st) μ
    | _ => none
  | .ishl => match st with
    | Sum.inl y :: Sum.inl x :: st => k lv (jI (jshl x y) :: st) μ
    | _ => none
  | .ishr => match st with
    | Sum.inl y :: Sum.inl x :: st => k lv (jI (jshr x y) :: st) μ
    | _ => none
  | .iushr => match st with
    | Sum.inl y :: Sum.inl x :: st => k lv (jI (jushr x y) :: st) μ
    | _ => none
  | .i2b => match st with
    | Sum.inl x :: st => k lv (jI (jb8 x) :: st) μ
    | _ => none
  | .i2s => match st with
    | Sum.inl x :: st => k lv (jI (js16 x) :: st) μ
    | _ => none
  | .i2l => match st with
    | Sum.inl x :: st => k lv (jL x :: st) μ
    | _ => none
  | .ladd => match st with
    | Sum.inr (Sum.inl y) :: Sum.inr (Sum.inl x) :: st => k lv (jL (w64 (x + y)) :: st) μ
    | _ => none
  | .lcmp => match st with
    | Sum.inr (Sum.inl y) :: Sum.inr (Sum.inl x) :: st => k lv (jI (jcmp x y) :: st) μ
    | _ => none
  | .dup => match st with
    | Sum.inl x :: st => k lv (jI x :: jI x :: st) μ
    | Sum.inr (Sum.inr p) :: st => k lv (jR p :: jR p :: st) μ
    | _ => none
  | .dup2 => match st with
    | Sum.inl x :: Sum.inr (Sum.inr p) :: st => k lv (jI x :: jR p :: jI x :: jR p :: st) μ
    | _ => none
  | .dup_x1 => match st with
    | Sum.inl x :: Sum.inr (Sum.inr p) :: st => k lv (jI x :: jR p :: jI x :: st) μ
    | _ => none
  | .pop => match st with
    | Sum.inl _ :: st => k lv st μ
    | _ => none
  | .getfield _ => match st with
    | Sum.inr (Sum.inr p) :: st => bif Nat.beq (KD p) a then (bif Nat.blt (FT a b) 2 then k lv (jI (μ p b) :: st) μ else bif Nat.beq (FT a b) 2 then k lv (jR (RF p b) :: st) μ else gd (0 ≤ μ p b ∧ μ p b < 100) (k lv (jR (μ p b).toNat :: st) μ)) else none
    | _ => none
  | .putfield _ => match st with
    | Sum.inl v :: Sum.inr (Sum.inr p) :: st => bif Nat.beq (KD p) a then (bif Nat.beq (FT a b) 0 then k lv st (jup μ p b v) else bif Nat.beq (FT a b) 1 then gd (v = 0 ∨ v = 1) (k lv st (jup μ p b v)) else none) else none
    | Sum.inr (Sum.inr q) :: Sum.inr (Sum.inr p) :: st => bif Nat.beq (KD p) a then (bif Nat.beq (FT a b) 3 then k lv st (jup μ p b q) else none) else none
    | _ => none
  | .iaload => match st with
    | Sum.inl i :: Sum.inr (Sum.inr p) :: st => bif Nat.beq (KD p) 20 then gd (0 ≤ i ∧ i < LN p) (k lv (jI (μ p i) :: st) μ) else none
    | _ => none
  | .baload => match st with
    | Sum.inl i :: Sum.inr (Sum.inr p) :: st => bif Nat.beq (KD p) a then gd (0 ≤ i ∧ i < LN p) (k lv (jI (μ p i) :: st) μ) else none
    | _ => none
  | .laload => match st with
    | Sum.inl i :: Sum.inr (Sum.inr p) :: st => bif Nat.beq (KD p) 23 then gd (0 ≤ i ∧ i < LN p) (k lv (jL (μ p i) :: st) μ) else none
    | _ => none
  | .aaload => match st with
    | Sum.inl i :: Sum.inr (Sum.inr p) :: st => bif Nat.beq (KD p) a then gd (0 ≤ i ∧ i < LN p) (k lv (jR (RF p i) :: st) μ) else none
    | _ => none
  | .iastore => match st with
    | Sum.inl v :: Sum.inl i :: Sum.inr (Sum.inr p) :: st => bif Nat.beq (KD p) 20 then gd (0 ≤ i ∧ i < LN p) (k lv st (jup μ p i v)) else none
    | _ => none
  | .bastore => match st with
    | Sum.inl v :: Sum.inl i :: Sum.inr (Sum.inr p) :: st => bif Nat.beq (KD p) a then gd (0 ≤ i ∧ i < LN p) (bif Nat.beq a 21 then k lv st (jup μ p i (jb8 v)) else gd (v = 0 ∨ v = 1) (k lv st (jup μ p i v))) else none
    | _ => none
  | .lastore => match st with
    | Sum.inr (Sum.inl v) :: Sum.inl i :: Sum.inr (Sum.inr p) :: st => bif Nat.beq (KD p) 23 then gd (0 ≤ i ∧ i < LN p) (k lv st (jup μ p i v)) else none
    | _ => none
  | .arraylength => match st with
    | Sum.inr (Sum.inr p) :: st => bif Nat.ble 20 (KD p) && Nat.ble (KD p) 27 then k lv (jI (LN p) :: st) μ else none
    | _ => none
  | .lmul => match st with
    | Sum.inl y :: Sum.inl x :: st => bif Nat.ble (jcat st) 8 then k lv (jI (max x y) :: st) μ else none
    | _ => none
  | .lsub => match st with
    | Sum.inl y :: Sum.inl x :: st => bif Nat.ble (jcat st) 8 then k lv (jI (min x y) :: st) μ else none
    | _ => none
  | .lneg => match st with
    | Sum.inl x :: st => bif Nat.ble (jcat st) 8 then k lv (jI (jabs x) :: st) μ else none
    | _ => none
  | .invokedynamic _ => match st with
    | [Sum.inl n, Sum.inl dp, Sum.inr (Sum.inr q), Sum.inl sp, Sum.inr (Sum.inr p)] => bif Nat.beq (KD p) 20 && Nat.beq (KD q) 20 then gd (0 ≤ n ∧ 0 ≤ sp ∧ 0 ≤ dp ∧ sp + n ≤ LN p ∧ dp + n ≤ LN q) (k lv [] (jfill μ q (fun j => if dp ≤ j ∧ j < dp + n then μ p (sp + (j - dp)) else μ q j))) else none
    | _ => none
  | _ => none
def jret (c : Nat) (o : Option jO) (st : jSt) (k : jSt → jM → Option jO) : Option jO := match c with
  | 0 => bV o (fun μ => k st μ)
  | 1 => bI o (fun x μ => k (jI x :: st) μ)
  | _ => bL o (fun x μ => k (jL x :: st) μ)
def jsw (k : Int → Option jO) (d : Int) (x : Int) : List (Int × Int) → Option jO
  | [] => k d
  | q :: l => if x = q.1 then k q.2 else jsw k d x l
/-- code: a jump back, or into a loop's head, is J; a jump on skips entries; C calls -/
def jB (J : Nat → jLs → jSt → jM → Option jO) (C : Nat → jSt → jM → Option jO) : Nat → List jIn → jLs → jSt → jM → Option jO
  | 0, _, _, _, _ => none
  | _ + 1, [], _, _, _ => none
  | n + 1, (i, a, b, c, _, _) :: is, lv, st, μ => match i with
    | .nop => J a lv st μ
    | .goto _ => bif Nat.beq a 0 then jB J C n (is.drop b) lv st μ else J b lv st μ
    | .ifCond q _ => match st with
      | Sum.inl x :: st => jc q x 0 (bif Nat.beq a 0 then jB J C n (is.drop b) lv st μ else J b lv st μ) (jB J C n is lv st μ)
      | _ => none
    | .if_icmp q _ => match st with
      | Sum.inl y :: Sum.inl x :: st => jc q x y (bif Nat.beq a 0 then jB J C n (is.drop b) lv st μ else J b lv st μ) (jB J C n is lv st μ)
      | _ => none
    | .lookupswitch d ps => match st with
      | Sum.inl x :: st => jsw (fun t => jB J C n (is.drop t.toNat) lv st μ) d x ps.toList
      | _ => none
    | .invokevirtual y => bif Nat.ble a st.length && Nat.ble (jcat (st.drop a)) 8 then (match (st.take a).reverse with
      | Sum.inr (Sum.inr p) :: args => bif Nat.beq (KD p) c then jret b (C y (jR p :: args) μ) (st.drop a) (fun st μ => jB J C n is lv st μ) else none
      | _ => none) else none
    | .invokestatic y => bif Nat.ble a st.length && Nat.ble (jcat (st.drop a)) 8 then jret b (C y (st.take a).reverse μ) (st.drop a) (fun st μ => jB J C n is lv st μ) else none
    | .ireturn => match st with
      | [Sum.inl x] => bif Nat.beq a 0 then rI x μ else gd (x = 0 ∨ x = 1) (rI x μ)
      | _ => none
    | .lreturn => match st with
      | [Sum.inr (Sum.inl x)] => rL x μ
      | _ => none
    | .return_ => match st with
      | [] => rV μ
      | _ => none
    | .athrow => match st with
      | [] => rT μ
      | _ => none
    | i => j1 i a b lv st μ (fun lv st μ => jB J C n is lv st μ)
def jcode (T : jT) (L : Nat) : List jIn := T.1.drop (T.2.getD L ([], 0)).2
def jlive (T : jT) (L : Nat) (lv : jLs) : jLs := jmk (T.2.getD L ([], 0)).1 lv
def jstep (T : jT) (C : Nat → jSt → jM → Option jO) (J : Nat → jLs → jSt → jM → Option jO) (L : Nat) (lv : jLs) (st : jSt) (μ : jM) : Option jO := jB (fun L' lv' st' μ' => J L' (jlive T L' lv') st' μ') C 400 (jcode T L) lv st μ
def jn (T : jT) (C : Nat → jSt → jM → Option jO) : Nat → Nat → jLs → jSt → jM → Option jO
  | 0 => fun _ _ _ _ => none
  | n + 1 => jstep T C (jn T C n)
/-- what the loops come to -/
noncomputable def EVc (T : jT) (C : Nat → jSt → jM → Option jO) (L : Nat) (lv : jLs) (st : jSt) (μ : jM) : Option jO := @dite _ _ (Classical.propDecidable _) (fun h : ∃ (n : Nat) (o : jO), jn T C n L lv st μ = some o => some (Classical.choose (Classical.choose_spec h))) (fun _ => none)

