/-! what cells come to -/
theorem rcO_app (nm : Nat → Int32) : ∀ (c d st : List Int32), rcO nm (c ++ d) st = match rcO nm c st with
    | none => none
    | some s => rcO nm d s := by
  intro c
  induction c with
  | nil => intro d st; rfl
  | cons x c ih =>
    intro d st
    show (match rs1 nm st x with | none => none | some s => rcO nm (c ++ d) s) = match (match rs1 nm st x with | none => none | some s => rcO nm c s) with | none => none | some s => rcO nm d s
    cases rs1 nm st x with
    | none => rfl
    | some s => exact ih d s
theorem rcO_one {nm : Nat → Int32} {x : Int32} {st : List Int32} : rcO nm [x] st = rs1 nm st x := by
  show (match rs1 nm st x with | none => none | some s => rcO nm [] s) = _
  cases rs1 nm st x <;> rfl
theorem Ev.num {nm : Nat → Int32} {x : Int32} (h : 0 ≤ x.toInt) : Ev nm [x] x := by
  intro st
  rw [rcO_one]
  unfold rs1
  rw [if_pos (by omega), if_pos h]
theorem Ev.name {nm : Nat → Int32} : ∀ w, w < 6 → Ev nm [-1 - nI w] (nm w) := by
  intro w hw st
  have h : ∀ w, w < 6 → -6 ≤ (-1 - nI w).toInt ∧ ¬ 0 ≤ (-1 - nI w).toInt ∧ (-1 - (-1 - nI w)).toNatClampNeg = w := by decide +kernel
  obtain ⟨h1, h2, h3⟩ := h w hw
  rw [rcO_one]
  unfold rs1
  rw [if_pos h1, if_neg h2, h3]
theorem Ev.neg {nm : Nat → Int32} {c : List Int32} {v : Int32} (h : Ev nm c v) : Ev nm (c ++ [-19]) (-v) := by
  intro st
  rw [rcO_app, h st]
  rfl
theorem Ev.not {nm : Nat → Int32} {c : List Int32} {v : Int32} (h : Ev nm c v) : Ev nm (c ++ [-13]) (if v = 0 then 1 else 0) := by
  intro st
  rw [rcO_app, h st]
  rfl
theorem Ev.bin {nm : Nat → Int32} {c d : List Int32} {v w op : Int32} (h : Ev nm c v) (h' : Ev nm d w) (hop : ¬ -6 ≤ op.toInt ∧ ¬ (op = -13 ∨ op = -19)) : Ev nm (c ++ d ++ [op]) (op2 op v w) := by
  intro st
  rw [rcO_app, rcO_app, h st]
  show (match rcO nm d (v :: st) with | none => none | some s => rcO nm [op] s) = _
  rw [h' (v :: st)]
  show rcO nm [op] (w :: v :: st) = _
  rw [rcO_one]
  unfold rs1
  rw [if_neg hop.1, if_neg hop.2]
theorem Ev.val {nm : Nat → Int32} {c : List Int32} {v : Int32} (h : Ev nm c v) : rv nm c = v := by
  unfold rv
  rw [h []]
/-! the reference's tests of a token -/
theorem sg_ne : ∀ s : Int32, isSg s = true → s ≠ -1 ∧ s ≠ -2 ∧ s ≠ -3 := by
  intro s h
  rcases of_decide_eq_true h with z | z | z | z | z | z | z | z <;> rw [z] <;> decide
theorem TC.sign {K V t : Int32} {w : Int64} (h : TC K V t w) {s : Int32} (hs : isSg s = true) : (t = 3 ∧ w = s.toInt64) ↔ K = s := by
  obtain ⟨s1, s2, s3⟩ := sg_ne s hs
  rcases h with ⟨a1, a2⟩ | ⟨a1, a2, _⟩ | ⟨a1, a2, a3⟩ | ⟨W, a1, a2, a3, _⟩ | ⟨a1, a2⟩
  · rw [a1, a2]; exact ⟨fun z => absurd z.1 (by decide), fun z => absurd z.symm s1⟩
  · rw [a1, a2]; exact ⟨fun z => absurd z.1 (by decide), fun z => absurd z.symm s3⟩
  · rw [a2, a3]
    exact ⟨fun z => by have := congrArg Int64.toInt32 z.2; rwa [lg_l2i_i2l, lg_l2i_i2l] at this, fun z => ⟨rfl, by rw [z]⟩⟩
  · rw [a2]
    refine ⟨fun z => absurd z.1 (by decide), fun z => ?_⟩
    have := (tkW_ne a1).2.2
    rw [← a3, z, hs] at this
    cases this
  · rw [a1, a2]; exact ⟨fun z => absurd z.1 (by decide), fun z => absurd z.symm s2⟩
theorem tkW_inj : ∀ i, i < 12 → ((tkW i).1 ≠ -1 ∧ (tkW i).1 ≠ -2 ∧ (tkW i).1 ≠ -3) ∧ ∀ W, W < 13 → (tkW W).1 = (tkW i).1 → (6 ≤ i ∨ (tkW W).2 = (tkW i).2) → W = i := by decide +kernel
theorem TC.word {K V t : Int32} {w : Int64} (h : TC K V t w) {i : Nat} (hi : i < 12) : (t = 1 ∧ w = hsh i) ↔ (K = (tkW i).1 ∧ (6 ≤ i ∨ V = (tkW i).2)) := by
  obtain ⟨⟨s1, s2, s3⟩, s4⟩ := tkW_inj i hi
  rcases h with ⟨a1, a2⟩ | ⟨a1, a2, _⟩ | ⟨a1, a2, a3⟩ | ⟨W, a1, a2, a3, a4, a5⟩ | ⟨a1, a2⟩
  · rw [a1, a2]; exact ⟨fun z => absurd z.1 (by decide), fun z => absurd z.1.symm s1⟩
  · rw [a1, a2]; exact ⟨fun z => absurd z.1 (by decide), fun z => absurd z.1.symm s3⟩
  · rw [a2]
    refine ⟨fun z => absurd z.1 (by decide), fun z => ?_⟩
    have := (tkW_ne (show i ≤ 12 by omega)).2.2
    rw [← z.1, a1] at this
    cases this
  · rw [a2, a3, a4]
    constructor
    · rintro ⟨_, z⟩
      have := (a5 i hi).mp z
      rw [this]
      exact ⟨rfl, Or.inr rfl⟩
    · rintro ⟨z1, z2⟩
      exact ⟨rfl, (a5 i hi).mpr (s4 W (by omega) z1 z2)⟩
  · rw [a1, a2]; exact ⟨fun z => absurd z.1 (by decide), fun z => absurd z.1.symm s2⟩
theorem TC.isnum {K V t : Int32} {w : Int64} (h : TC K V t w) : t = 2 ↔ K = -3 := by
  rcases h with ⟨a1, a2⟩ | ⟨a1, a2, _⟩ | ⟨a1, a2, a3⟩ | ⟨W, a1, a2, a3, a4, a5⟩ | ⟨a1, a2⟩
  · rw [a1, a2]; decide
  · rw [a1, a2]; decide
  · rw [a2]; exact ⟨fun z => absurd z (by decide), fun z => absurd z (sg_ne K a1).2.2⟩
  · rw [a2, a3]; exact ⟨fun z => absurd z (by decide), fun z => absurd z (tkW_ne a1).2.1⟩
  · rw [a1, a2]; decide
theorem TC.isend {K V t : Int32} {w : Int64} (h : TC K V t w) : t = 0 ↔ K = -1 := by
  rcases h with ⟨a1, a2⟩ | ⟨a1, a2, _⟩ | ⟨a1, a2, a3⟩ | ⟨W, a1, a2, a3, a4, a5⟩ | ⟨a1, a2⟩
  · rw [a1, a2]; decide
  · rw [a1, a2]; decide
  · rw [a2]; exact ⟨fun z => absurd z (by decide), fun z => absurd z (sg_ne K a1).1⟩
  · rw [a2, a3]; exact ⟨fun z => absurd z (by decide), fun z => absurd z (tkW_ne a1).1⟩
  · rw [a1, a2]; decide
theorem TC.numv {K V t : Int32} {w : Int64} (h : TC K V t w) (hk : K = -3) : w.toInt32 = V := by
  rcases h with ⟨a1, a2⟩ | ⟨a1, a2, a3⟩ | ⟨a1, a2, a3⟩ | ⟨W, a1, a2, a3, a4, a5⟩ | ⟨a1, a2⟩
  · rw [hk] at a1; exact absurd a1 (by decide)
  · exact a3
  · exact absurd hk (sg_ne K a1).2.2
  · exact absurd (a3.symm.trans hk) (tkW_ne a1).2.1
  · rw [hk] at a1; exact absurd a1 (by decide)
/-- a name is a word -/
theorem tkW_name : ∀ W, W < 13 → (tkW W).1 = -4 → W < 6 ∧ (tkW W).2 = -1 - nI W := by decide +kernel
theorem TC.name {K V t : Int32} {w : Int64} (h : TC K V t w) (hk : K = -4) : t = 1 ∧ ∃ W, W < 6 ∧ V = -1 - nI W ∧ ∀ i, i < 12 → (w = hsh i ↔ W = i) := by
  rcases h with ⟨a1, a2⟩ | ⟨a1, a2, a3⟩ | ⟨a1, a2, a3⟩ | ⟨W, a1, a2, a3, a4, a5⟩ | ⟨a1, a2⟩
  · rw [hk] at a1; exact absurd a1 (by decide)
  · rw [hk] at a1; exact absurd a1 (by decide)
  · rw [hk] at a1; exact absurd a1 (by decide)
  · obtain ⟨g1, g2⟩ := tkW_name W (by omega) (a3.symm.trans hk)
    exact ⟨a2, W, g1, a4.trans g2, a5⟩
  · rw [hk] at a1; exact absurd a1 (by decide)
/-- a word that is no name -/
theorem TC.noname {K V t : Int32} {w : Int64} (h : TC K V t w) (hk : K ≠ -4) (i : Nat) (hi : i < 6) : ¬ (t = 1 ∧ w = hsh i) := by
  intro z
  have := ((h.word (show i < 12 by omega)).mp z).1
  have hh : ∀ i, i < 6 → (tkW i).1 = -4 := by decide +kernel
  exact hk (this.trans (hh i hi))
/-! numbers are small where they count -/
theorem num_nn {b : Nat → Int32} {sz : Nat} (hs : sz ≤ 160) {i : Nat} (hi : tK b sz i = -3) : 0 ≤ (tV b sz i).toInt := by
  unfold tK at hi
  unfold tV
  by_cases h1 : sz ≤ skF b sz (tPos b sz i)
  · rw [tk_end h1] at hi; exact absurd hi (show ¬ (-1 : Int32) = -3 by decide)
  unfold tk at hi ⊢
  rw [if_neg h1] at hi ⊢
  have hle := tPos_le (b := b) hs i
  generalize hj : skF b sz (tPos b sz i) = j at *
  by_cases h2 : isL (b j) = true
  · rw [if_pos h2] at hi
    exact absurd hi (tkW_ne (by have := wFind_le (b := b) (j := j) (n := weF b sz j - j) 12 0; omega)).2.1
  rw [if_neg h2] at hi ⊢
  by_cases h3 : isDg (b j) = true
  · rw [if_pos h3] at hi ⊢
    obtain ⟨g1, g2, g3, g4⟩ := ne_gt (by omega) hs h3
    have h4 : neF b sz j - j ≤ 4 := by
      rcases Nat.lt_or_ge 4 (neF b sz j - j) with z | z
      · rw [if_neg (by omega)] at hi; exact absurd hi (show ¬ (-2 : Int32) = -3 by decide)
      · exact z
    show 0 ≤ (numF b (neF b sz j - j) j 0).toInt
    have key : ∀ n, n ≤ 4 → n ≤ neF b sz j - j → 0 ≤ (numF b n j 0).toInt ∧ (numF b n j 0).toInt < 10 ^ n := by
      intro n
      induction n with
      | zero => intro _ _; exact ⟨show 0 ≤ (0 : Int32).toInt by decide, show (0 : Int32).toInt < 10 ^ 0 by decide⟩
      | succ n ih =>
        intro hn hn2
        obtain ⟨i1, i2⟩ := ih (by omega) (by omega)
        have hd := isDg_iff.mp (g3 (j + n) (by omega) (by omega))
        have hd1 := hd.1
        have hd2 := hd.2
        have p3 : (10 : Int) ^ n ≤ 1000 := by
          have : n = 0 ∨ n = 1 ∨ n = 2 ∨ n = 3 := by omega
          rcases this with rfl | rfl | rfl | rfl <;> decide
        have e10 : (10 : Int) ^ (n + 1) = 10 ^ n * 10 := Int.pow_succ 10 n
        obtain ⟨y, hy, ey⟩ := nI_of (x := numF b n j 0) (nn32 i1)
        obtain ⟨z, hz, ez⟩ := nI_of (x := b (j + n)) (nn32 (by omega))
        rw [numF_snoc, ey, ez]
        rw [ey, nI_toInt hy] at i1 i2
        rw [ez, nI_toInt hz] at hd1 hd2
        rw [show (10 : Int32) = nI 10 from rfl, show (48 : Int32) = nI 48 from rfl, pk_mul, nI_add, pk_sub (by omega), nI_toInt (by omega), e10]
        omega
    exact (key _ h4 (Nat.le_refl _)).1
  rw [if_neg h3] at hi
  by_cases h4 : isSg (b j) = true
  · rw [if_pos h4] at hi
    exact absurd hi (sg_ne _ h4).2.2
  · rw [if_neg h4] at hi; exact absurd hi (show ¬ (-2 : Int32) = -3 by decide)
/-- tokens are no more than bytes -/
theorem tK_lt {b : Nat → Int32} {sz : Nat} (hs : sz ≤ 160) : ∀ k, tK b sz k ≠ -1 → k ≤ tPos b sz k ∧ tPos b sz k < sz := by
  intro k
  have hlt : ∀ k, tK b sz k ≠ -1 → ¬ sz ≤ skF b sz (tPos b sz k) := by
    intro k h z
    unfold tK at h
    rw [tk_end z] at h
    exact h rfl
  induction k with
  | zero =>
    intro h
    have := hlt 0 h
    refine ⟨Nat.zero_le _, ?_⟩
    have h1 : tPos b sz 0 ≤ skF b sz (tPos b sz 0) := sk_ge
    omega
  | succ k ih =>
    intro h
    have h0 : tK b sz k ≠ -1 := by
      intro z
      have hz : sz ≤ skF b sz (tPos b sz k) := by
        rcases Nat.lt_or_ge (skF b sz (tPos b sz k)) sz with q | q
        · exact absurd z (tk_ne (by omega))
        · exact q
      have := tk_stay hs hz (k + 1) (by omega)
      unfold tK at h
      rw [this] at h
      exact h rfl
    obtain ⟨g1, g2⟩ := ih h0
    have hp := tk_pos (b := b) (i := tPos b sz k) (tPos_le hs k) hs
    have h2 := hlt (k + 1) h
    have h3 : tPos b sz (k + 1) ≤ skF b sz (tPos b sz (k + 1)) := sk_ge
    have e : tPos b sz (k + 1) = (tk b sz (tPos b sz k)).2.2.2 := rfl
    have hp1 := hp.1
    rw [← e] at hp1
    rcases hp.2 with q | ⟨q, _⟩
    · exact absurd q (hlt k h0)
    · rw [← e] at q
      exact ⟨by omega, by omega⟩
