/-! ## lawful rows as lists (no stores) -/
def LC (adj : Nat → Nat → Bool) : List Nat → Prop
  | [] => True
  | x :: t => (∀ y, t.head? = some y → adj x y = true) ∧ LC adj t
def LH (h1 : Prop) (ht : Nat → Bool) : List Nat → Prop
  | [] => True
  | x :: t => (h1 → ht x = true → ∀ y ∈ t, ht y = true) ∧ LH h1 ht t
theorem LC_app {adj : Nat → Nat → Bool} : ∀ {a b : List Nat}, LC adj (a ++ b) ↔ LC adj a ∧ LC adj b ∧ ∀ x y, a.getLast? = some x → b.head? = some y → adj x y = true
  | [], b => ⟨fun h => ⟨trivial, h, fun x y hx => by cases hx⟩, fun h => h.2.1⟩
  | [z], b => by
    constructor
    · rintro ⟨h1, h2⟩
      exact ⟨⟨fun y hy => (by cases hy), trivial⟩, h2, fun x y hx hy => by
        cases hx
        exact h1 y hy⟩
    · rintro ⟨-, h2, h3⟩
      exact ⟨fun y hy => h3 z y rfl hy, h2⟩
  | z :: u :: a, b => by
    have ih := LC_app (adj := adj) (a := u :: a) (b := b)
    have e : (z :: u :: a).getLast? = (u :: a).getLast? := rfl
    constructor
    · rintro ⟨h1, h2⟩
      obtain ⟨g1, g2, g3⟩ := ih.mp h2
      exact ⟨⟨fun y hy => h1 y hy, g1⟩, g2, fun x y hx hy => g3 x y (by rw [← e]; exact hx) hy⟩
    · rintro ⟨⟨h1, h2⟩, h3, h4⟩
      exact ⟨fun y hy => h1 y hy, ih.mpr ⟨h2, h3, fun x y hx hy => h4 x y (by rw [e]; exact hx) hy⟩⟩
theorem LH_app {h1 : Prop} {ht : Nat → Bool} : ∀ {a b : List Nat}, LH h1 ht (a ++ b) ↔ LH h1 ht a ∧ LH h1 ht b ∧ (h1 → ∀ x ∈ a, ht x = true → ∀ y ∈ b, ht y = true)
  | [], b => ⟨fun h => ⟨trivial, h, fun _ x hx => by cases hx⟩, fun h => h.2.1⟩
  | z :: a, b => by
    have ih := LH_app (h1 := h1) (ht := ht) (a := a) (b := b)
    constructor
    · rintro ⟨g1, g2⟩
      obtain ⟨i1, i2, i3⟩ := ih.mp g2
      refine ⟨⟨fun hh hz y hy => g1 hh hz y (List.mem_append_left b hy), i1⟩, i2, fun hh x hx hxt y hy => ?_⟩
      rcases List.mem_cons.mp hx with e | hx
      · rw [e] at hxt
        exact g1 hh hxt y (List.mem_append_right a hy)
      · exact i3 hh x hx hxt y hy
    · rintro ⟨⟨g1, g2⟩, g3, g4⟩
      refine ⟨fun hh hz y hy => ?_, ih.mpr ⟨g2, g3, fun hh x hx => g4 hh x (List.mem_cons_of_mem _ hx)⟩⟩
      rcases List.mem_append.mp hy with hy | hy
      · exact g1 hh hz y hy
      · exact g4 hh z List.mem_cons_self hz y hy
theorem LC_cg {adj adj' : Nat → Nat → Bool} : ∀ {a : List Nat}, (∀ x ∈ a, ∀ y ∈ a, adj x y = adj' x y) → LC adj a → LC adj' a
  | [], _, _ => trivial
  | z :: a, h, g => ⟨fun y hy => by
      rw [← h z List.mem_cons_self y (List.mem_cons_of_mem _ (List.mem_of_head? hy))]
      exact g.1 y hy, LC_cg (fun x hx y hy => h x (List.mem_cons_of_mem _ hx) y (List.mem_cons_of_mem _ hy)) g.2⟩
theorem LH_cg {h1 : Prop} {ht ht' : Nat → Bool} : ∀ {a : List Nat}, (∀ x ∈ a, ht x = ht' x) → LH h1 ht a → LH h1 ht' a
  | [], _, _ => trivial
  | z :: a, h, g => ⟨fun hh hz y hy => by
      rw [← h y (List.mem_cons_of_mem _ hy)]
      exact g.1 hh (by rw [h z List.mem_cons_self]; exact hz) y hy, LH_cg (fun x hx => h x (List.mem_cons_of_mem _ hx)) g.2⟩
/-- a lawful row over a set -/
def LW (adj : Nat → Nat → Bool) (h1 : Prop) (ht : Nat → Bool) (a : List Nat) (s : Nat) : Prop := LC adj a ∧ LH h1 ht a ∧ a.Nodup ∧ ∀ i, i ∈ a ↔ s.testBit i = true
def EL (adj : Nat → Nat → Bool) (h1 : Prop) (ht : Nat → Bool) (s d : Nat) : Prop := ∃ a, LW adj h1 ht (a ++ [d]) s
def BL (adj : Nat → Nat → Bool) (h1 : Prop) (ht : Nat → Bool) (s f : Nat) : Prop := ∃ b, LW adj h1 ht (f :: b) s
theorem EL_in {adj : Nat → Nat → Bool} {h1 : Prop} {ht : Nat → Bool} {s d : Nat} (h : EL adj h1 ht s d) : s.testBit d = true := by
  obtain ⟨a, -, -, -, h4⟩ := h
  exact (h4 d).mp (List.mem_append_right a List.mem_cons_self)
theorem BL_in {adj : Nat → Nat → Bool} {h1 : Prop} {ht : Nat → Bool} {s f : Nat} (h : BL adj h1 ht s f) : s.testBit f = true := by
  obtain ⟨b, -, -, -, h4⟩ := h
  exact (h4 f).mp List.mem_cons_self
theorem tb_or2 (s d i : Nat) : (s ||| 2 ^ d).testBit i = (s.testBit i || decide (d = i)) := by rw [Nat.testBit_or, Nat.testBit_two_pow]
theorem nil_0 {s : Nat} (h : ∀ i, i ∈ ([] : List Nat) ↔ s.testBit i = true) : s = 0 := Nat.eq_of_testBit_eq (fun i => by
  rw [Nat.zero_testBit]
  cases hz : s.testBit i with
  | false => rfl
  | true => exact absurd ((h i).mpr hz) (by simp))
theorem EL_step {adj : Nat → Nat → Bool} {h1 : Prop} {ht : Nat → Bool} {s d : Nat} (hs : s.testBit d = false) : EL adj h1 ht (s ||| 2 ^ d) d ↔ (h1 → ht d = false → ∀ x, s.testBit x = true → ht x = false) ∧ (s = 0 ∨ ∃ l, EL adj h1 ht s l ∧ adj l d = true) := by
  constructor
  · rintro ⟨a, g1, g2, g3, g4⟩
    obtain ⟨c1, -, c3⟩ := LC_app.mp g1
    obtain ⟨e1, -, e3⟩ := LH_app.mp g2
    rw [List.nodup_append] at g3
    obtain ⟨n1, -, n3⟩ := g3
    have hda : d ∉ a := fun z => n3 d z d List.mem_cons_self rfl
    have hm : ∀ i, i ∈ a ↔ s.testBit i = true := fun i => by
      have := g4 i
      rw [tb_or2, List.mem_append, List.mem_singleton] at this
      by_cases hi : i = d
      · subst hi
        rw [hs]
        exact ⟨fun z => absurd z hda, fun z => by cases z⟩
      · rw [show decide (d = i) = false from decide_eq_false (fun z => hi z.symm), Bool.or_false] at this
        exact ⟨fun z => this.mp (Or.inl z), fun z => (this.mpr z).resolve_right hi⟩
    refine ⟨fun hh hd x hx => ?_, ?_⟩
    · cases hz : ht x with
      | false => rfl
      | true =>
        have := e3 hh x ((hm x).mpr hx) hz d List.mem_cons_self
        rw [hd] at this
        cases this
    · rcases List.eq_nil_or_concat a with e | ⟨a', l, e⟩
      · subst e
        exact Or.inl (nil_0 hm)
      · subst e
        rw [List.concat_eq_append] at c1 e1 n1 hm c3
        refine Or.inr ⟨l, ⟨a', c1, e1, n1, hm⟩, c3 l d (by simp) rfl⟩
  · rintro ⟨hh, hc⟩
    have mk : ∀ a, LW adj h1 ht a s → (∀ l, a.getLast? = some l → adj l d = true) → EL adj h1 ht (s ||| 2 ^ d) d := fun a ha hl => by
      obtain ⟨g1, g2, g3, g4⟩ := ha
      have hda : d ∉ a := fun z => by
        have := (g4 d).mp z
        rw [hs] at this
        cases this
      refine ⟨a, LC_app.mpr ⟨g1, ⟨fun y hy => (by cases hy), trivial⟩, fun x y hx hy => by
        cases hy
        exact hl x hx⟩, LH_app.mpr ⟨g2, ⟨fun _ _ y hy => (by cases hy), trivial⟩, fun hh1 x hx hxt y hy => ?_⟩, ?_, fun i => ?_⟩
      · rw [List.mem_singleton] at hy
        subst hy
        cases hz : ht y with
        | true => rfl
        | false =>
          have := hh hh1 hz x ((g4 x).mp hx)
          rw [hxt] at this
          cases this
      · rw [List.nodup_append]
        refine ⟨g3, by simp, fun x hx y hy hxy => ?_⟩
        rw [List.mem_singleton] at hy
        subst hy
        subst hxy
        exact hda hx
      · rw [tb_or2, List.mem_append, List.mem_singleton, g4 i, Bool.or_eq_true, decide_eq_true_eq]
        exact ⟨fun z => z.imp id (fun w => w.symm), fun z => z.imp id (fun w => w.symm)⟩
    rcases hc with e | ⟨l, ⟨a', ha⟩, hl⟩
    · subst e
      exact mk [] ⟨trivial, trivial, List.nodup_nil, fun i => by simp⟩ (fun l hl => by cases hl)
    · refine mk _ ha (fun l' hl' => ?_)
      have : (a' ++ [l]).getLast? = some l := by simp
      rw [this] at hl'
      cases hl'
      exact hl
theorem BL_step {adj : Nat → Nat → Bool} {h1 : Prop} {ht : Nat → Bool} {s d : Nat} (hs : s.testBit d = false) : BL adj h1 ht (s ||| 2 ^ d) d ↔ (h1 → ht d = true → ∀ x, s.testBit x = true → ht x = true) ∧ (s = 0 ∨ ∃ f, BL adj h1 ht s f ∧ adj d f = true) := by
  constructor
  · rintro ⟨b, ⟨c1, c2⟩, ⟨e1, e2⟩, g3, g4⟩
    rw [List.nodup_cons] at g3
    obtain ⟨hda, n1⟩ := g3
    have hm : ∀ i, i ∈ b ↔ s.testBit i = true := fun i => by
      have := g4 i
      rw [tb_or2, List.mem_cons] at this
      by_cases hi : i = d
      · subst hi
        rw [hs]
        exact ⟨fun z => absurd z hda, fun z => by cases z⟩
      · rw [show decide (d = i) = false from decide_eq_false (fun z => hi z.symm), Bool.or_false] at this
        exact ⟨fun z => this.mp (Or.inr z), fun z => (this.mpr z).resolve_left hi⟩
    refine ⟨fun hh hd x hx => e1 hh hd x ((hm x).mpr hx), ?_⟩
    cases b with
    | nil => exact Or.inl (nil_0 hm)
    | cons f b => exact Or.inr ⟨f, ⟨b, c2, e2, n1, hm⟩, c1 f rfl⟩
  · rintro ⟨hh, hc⟩
    have mk : ∀ b, LW adj h1 ht b s → (∀ f, b.head? = some f → adj d f = true) → BL adj h1 ht (s ||| 2 ^ d) d := fun b hb hl => by
      obtain ⟨g1, g2, g3, g4⟩ := hb
      have hda : d ∉ b := fun z => by
        have := (g4 d).mp z
        rw [hs] at this
        cases this
      refine ⟨b, ⟨hl, g1⟩, ⟨fun hh1 hd y hy => hh hh1 hd y ((g4 y).mp hy), g2⟩, List.nodup_cons.mpr ⟨hda, g3⟩, fun i => ?_⟩
      rw [tb_or2, List.mem_cons, g4 i, Bool.or_eq_true, decide_eq_true_eq]
      exact ⟨fun z => z.elim (fun w => Or.inr w.symm) Or.inl, fun z => z.elim Or.inr (fun w => Or.inl w.symm)⟩
    rcases hc with e | ⟨f, ⟨b, hb⟩, hl⟩
    · subst e
      exact mk [] ⟨trivial, trivial, List.nodup_nil, fun i => by simp⟩ (fun l hl => by cases hl)
    · exact mk _ hb (fun f' hf => by cases hf; exact hl)
/-- one more, cold: it stands between two of a row, if there is none without it -/
theorem gap_iff {adj adj' : Nat → Nat → Bool} {h1 : Prop} {ht ht' : Nat → Bool} {n F F' : Nat} (hF : ∀ i, F.testBit i = true ↔ i < n) (hF' : ∀ i, F'.testBit i = true ↔ i < n + 1) (ha : ∀ x, x < n → ∀ y, y < n → adj x y = adj' x y) (hh : ∀ x, x < n → ht x = ht' x) (hc : ht' n = false) (hno : ¬ ∃ a, LW adj h1 ht a F) : (∃ a, LW adj' h1 ht' a F') ↔ ∃ s c l f, (∀ i, s.testBit i = true → i < n) ∧ (∀ i, c.testBit i = true ↔ i < n ∧ s.testBit i = false) ∧ EL adj h1 ht s l ∧ (h1 → ∀ x, s.testBit x = true → ht x = false) ∧ BL adj h1 ht c f ∧ adj' l n = true ∧ adj' n f = true := by
  constructor
  · rintro ⟨r, g1, g2, g3, g4⟩
    have hn : n ∈ r := (g4 n).mpr ((hF' n).mpr (Nat.lt_succ_self n))
    obtain ⟨a, b, e⟩ := List.append_of_mem hn
    subst e
    obtain ⟨c1, ⟨c4, c2⟩, c3⟩ := LC_app.mp g1
    obtain ⟨e1, ⟨e4, e2⟩, e3⟩ := LH_app.mp g2
    rw [List.nodup_append, List.nodup_cons] at g3
    obtain ⟨n1, ⟨n2, n3⟩, n4⟩ := g3
    have hna : n ∉ a := fun z => n4 n z n List.mem_cons_self rfl
    have hmem : ∀ i, i ∈ a ∨ i ∈ b ↔ i < n := fun i => by
      have := g4 i
      rw [hF', List.mem_append, List.mem_cons] at this
      by_cases hi : i = n
      · subst hi
        exact ⟨fun z => z.elim (fun w => absurd w hna) (fun w => absurd w n2), fun z => absurd z (Nat.lt_irrefl i)⟩
      · constructor
        · intro z
          have := this.mp (z.elim Or.inl (fun w => Or.inr (Or.inr w)))
          omega
        · intro z
          rcases this.mpr (by omega) with w | w | w
          · exact Or.inl w
          · exact absurd w hi
          · exact Or.inr w
    have hdis : ∀ i, i ∈ a → i ∉ b := fun i h2 h3 => n4 i h2 i (List.mem_cons_of_mem _ h3) rfl
    have han : ∀ x, x ∈ a → x < n := fun x hx => (hmem x).mp (Or.inl hx)
    have hbn : ∀ x, x ∈ b → x < n := fun x hx => (hmem x).mp (Or.inr hx)
    have lca : LC adj a := LC_cg (fun x hx y hy => (ha x (han x hx) y (han y hy)).symm) c1
    have lha : LH h1 ht a := LH_cg (fun x hx => (hh x (han x hx)).symm) e1
    have lcb : LC adj b := LC_cg (fun x hx y hy => (ha x (hbn x hx) y (hbn y hy)).symm) c2
    have lhb : LH h1 ht b := LH_cg (fun x hx => (hh x (hbn x hx)).symm) e2
    have hcold : h1 → ∀ x, x ∈ a → ht x = false := fun hh1 x hx => by
      cases hz : ht x with
      | false => rfl
      | true =>
        have := e3 hh1 x hx (by rw [← hh x (han x hx)]; exact hz) n List.mem_cons_self
        rw [hc] at this
        cases this
    rcases List.eq_nil_or_concat a with e | ⟨a', l, e⟩
    · subst e
      refine absurd ⟨b, lcb, lhb, n3, fun i => ?_⟩ hno
      rw [hF, ← hmem i]
      simp
    cases b with
    | nil =>
      refine absurd ⟨a, lca, lha, n1, fun i => ?_⟩ hno
      rw [hF, ← hmem i]
      simp
    | cons f b =>
      rw [List.concat_eq_append] at e
      refine ⟨bset a, bset (f :: b), l, f, fun i hi => ?_, fun i => ?_, ⟨a', ?_⟩, fun hh1 x hx => ?_, ⟨b, lcb, lhb, n3, fun i => ?_⟩, ?_, ?_⟩
      · rw [bset_tb, decide_eq_true_eq] at hi
        exact han i hi
      · rw [bset_tb, bset_tb, decide_eq_true_eq, decide_eq_false_iff_not]
        constructor
        · intro z
          exact ⟨hbn i z, fun w => hdis i w z⟩
        · rintro ⟨z1, z2⟩
          exact ((hmem i).mpr z1).resolve_left z2
      · rw [← e]
        exact ⟨lca, lha, n1, fun i => by rw [bset_tb, decide_eq_true_eq]⟩
      · rw [bset_tb, decide_eq_true_eq] at hx
        exact hcold hh1 x hx
      · rw [bset_tb, decide_eq_true_eq]
      · exact c3 l n (by rw [e]; simp) rfl
      · exact c4 f rfl
  · rintro ⟨s, c, l, f, hs, hcc, ⟨a, g1, g2, g3, g4⟩, hcold, ⟨b, b1, b2, b3, b4⟩, al, af⟩
    have han : ∀ x, x ∈ a ++ [l] → x < n := fun x hx => hs x ((g4 x).mp hx)
    have hbn : ∀ x, x ∈ f :: b → x < n := fun x hx => ((hcc x).mp ((b4 x).mp hx)).1
    have lca : LC adj' (a ++ [l]) := LC_cg (fun x hx y hy => ha x (han x hx) y (han y hy)) g1
    have lha : LH h1 ht' (a ++ [l]) := LH_cg (fun x hx => hh x (han x hx)) g2
    have lcb : LC adj' (f :: b) := LC_cg (fun x hx y hy => ha x (hbn x hx) y (hbn y hy)) b1
    have lhb : LH h1 ht' (f :: b) := LH_cg (fun x hx => hh x (hbn x hx)) b2
    refine ⟨(a ++ [l]) ++ n :: f :: b, LC_app.mpr ⟨lca, ⟨fun y hy => ?_, lcb⟩, fun x y hx hy => ?_⟩, LH_app.mpr ⟨lha, ⟨fun _ hz => ?_, lhb⟩, fun hh1 x hx hxt => ?_⟩, ?_, fun i => ?_⟩
    · cases hy
      exact af
    · cases hy
      have : (a ++ [l]).getLast? = some l := by simp
      rw [this] at hx
      cases hx
      exact al
    · rw [hc] at hz
      cases hz
    · have := hcold hh1 x ((g4 x).mp hx)
      rw [hh x (han x hx), hxt] at this
      cases this
    · rw [List.nodup_append]
      refine ⟨g3, List.nodup_cons.mpr ⟨fun z => absurd (hbn n z) (Nat.lt_irrefl n), b3⟩, fun x hx y hy hxy => ?_⟩
      subst hxy
      rcases List.mem_cons.mp hy with e | hy
      · rw [e] at hx
        exact absurd (han n hx) (Nat.lt_irrefl n)
      · have q1 := (g4 x).mp hx
        have q2 := ((hcc x).mp ((b4 x).mp hy)).2
        rw [q1] at q2
        cases q2
    · rw [hF', List.mem_append, List.mem_cons]
      constructor
      · rintro (z | z | z)
        · have := han i z
          omega
        · omega
        · have := hbn i z
          omega
      · intro z
        by_cases hi : i = n
        · exact Or.inr (Or.inl hi)
        · have hin : i < n := by omega
          cases hsb : s.testBit i with
          | true => exact Or.inl ((g4 i).mpr hsb)
          | false => exact Or.inr (Or.inr ((b4 i).mpr ((hcc i).mpr ⟨hin, hsb⟩)))
theorem row_iff {adj : Nat → Nat → Bool} {h1 : Prop} {ht : Nat → Bool} {n F : Nat} (hF : ∀ i, F.testBit i = true ↔ i < n) : (∃ a, LW adj h1 ht a F) ↔ n = 0 ∨ ∃ d, d < n ∧ EL adj h1 ht F d := by
  constructor
  · rintro ⟨a, h⟩
    rcases List.eq_nil_or_concat a with e | ⟨a', l, e⟩
    · subst e
      left
      cases n with
      | zero => rfl
      | succ n => exact absurd ((h.2.2.2 0).mpr ((hF 0).mpr (Nat.succ_pos n))) (by simp)
    · subst e
      rw [List.concat_eq_append] at h
      right
      exact ⟨l, (hF l).mp ((h.2.2.2 l).mp (by simp)), a', h⟩
  · rintro (e | ⟨d, -, a, h⟩)
    · subst e
      exact ⟨[], trivial, trivial, List.nodup_nil, fun i => by
        rw [hF]
        simp⟩
    · exact ⟨_, h⟩
