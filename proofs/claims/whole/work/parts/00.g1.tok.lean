/-! runs -/
theorem runF_ge (P : Nat → Bool) : ∀ n i, i ≤ runF P n i := by
  intro n
  induction n with
  | zero => intro i; exact Nat.le_refl _
  | succ n ih =>
    intro i
    unfold runF
    split
    · exact Nat.le_trans (Nat.le_succ i) (ih (i + 1))
    · exact Nat.le_refl _
theorem runF_all (P : Nat → Bool) : ∀ n i z, i ≤ z → z < runF P n i → P z = true := by
  intro n
  induction n with
  | zero => intro i z h1 h2; unfold runF at h2; omega
  | succ n ih =>
    intro i z h1 h2
    unfold runF at h2
    by_cases hp : P i = true
    · rw [if_pos hp] at h2
      by_cases hz : z = i
      · rw [hz]; exact hp
      · exact ih (i + 1) z (by omega) h2
    · rw [if_neg hp] at h2; omega
theorem runF_end (P : Nat → Bool) {sz : Nat} (h : ∀ z, sz ≤ z → P z = false) : ∀ n i, i ≤ sz → sz ≤ i + n → P (runF P n i) = false ∧ runF P n i ≤ sz := by
  intro n
  induction n with
  | zero => intro i h1 h2; exact ⟨h i (by omega), h1⟩
  | succ n ih =>
    intro i h1 h2
    unfold runF
    by_cases hp : P i = true
    · rw [if_pos hp]
      have hi : ¬ sz ≤ i := fun z => by rw [h i z] at hp; cases hp
      exact ih (i + 1) (by omega) (by omega)
    · rw [if_neg hp]
      exact ⟨by cases hq : P i with
        | true => exact absurd hq hp
        | false => rfl, h1⟩
theorem runF_eq (P : Nat → Bool) : ∀ n i j, i ≤ j → (∀ z, i ≤ z → z < j → P z = true) → P j = false → j ≤ i + n → runF P n i = j := by
  intro n
  induction n with
  | zero => intro i j h1 h2 h3 h4; unfold runF; omega
  | succ n ih =>
    intro i j h1 h2 h3 h4
    unfold runF
    by_cases hij : i = j
    · subst hij
      rw [if_neg (by rw [h3]; decide)]
    · rw [if_pos (h2 i (Nat.le_refl _) (by omega))]
      exact ih (i + 1) j (by omega) (fun z hz hz2 => h2 z (by omega) hz2) h3 (by omega)
theorem bA_in {b : Nat → Int32} {sz i : Nat} (h : i < sz) : bA b sz i = b i := if_pos h
theorem bA_out {b : Nat → Int32} {sz i : Nat} (h : sz ≤ i) : bA b sz i = -1 := if_neg (by omega)
theorem bl_out {b : Nat → Int32} {sz : Nat} : ∀ z, sz ≤ z → isBl (bA b sz z) = false := fun z h => by rw [bA_out h]; decide
theorem le_out {b : Nat → Int32} {sz : Nat} : ∀ z, sz ≤ z → isL (bA b sz z) = false := fun z h => by rw [bA_out h]; decide
theorem dg_out {b : Nat → Int32} {sz : Nat} : ∀ z, sz ≤ z → isDg (bA b sz z) = false := fun z h => by rw [bA_out h]; decide
theorem sk_ge {b : Nat → Int32} {sz i : Nat} : i ≤ skF b sz i := runF_ge _ _ _
theorem sk_end {b : Nat → Int32} {sz i : Nat} (h : i ≤ sz) (hs : sz ≤ 160) : isBl (bA b sz (skF b sz i)) = false ∧ skF b sz i ≤ sz := runF_end (fun z => isBl (bA b sz z)) bl_out 161 i h (by omega)
/-- a place without a blank is where the skipping ends -/
theorem sk_at {b : Nat → Int32} {sz i : Nat} (h : isBl (bA b sz i) = false) : skF b sz i = i := runF_eq (fun z => isBl (bA b sz z)) 161 i i (Nat.le_refl _) (fun z h1 h2 => by omega) h (by omega)
theorem sk_step {b : Nat → Int32} {sz i : Nat} (h : isBl (bA b sz i) = true) (hs : sz ≤ 160) : skF b sz i = skF b sz (i + 1) := by
  have hi : i < sz := Nat.lt_of_not_le (fun z => by rw [bl_out i z] at h; cases h)
  have he := sk_end (b := b) (i := i + 1) (by omega) hs
  refine runF_eq (fun z => isBl (bA b sz z)) 161 i _ (Nat.le_trans (Nat.le_succ i) sk_ge) (fun z h1 h2 => ?_) he.1 (by omega)
  by_cases hz : z = i
  · rw [hz]; exact h
  · exact runF_all (fun z => isBl (bA b sz z)) 161 (i + 1) z (by omega) h2
theorem we_gt {b : Nat → Int32} {sz i : Nat} (h : i < sz) (hs : sz ≤ 160) (hl : isL (b i) = true) : i < weF b sz i ∧ weF b sz i ≤ sz ∧ (∀ z, i ≤ z → z < weF b sz i → isL (b z) = true) ∧ isL (bA b sz (weF b sz i)) = false := by
  have he := runF_end (fun z => isL (bA b sz z)) le_out 161 i (by omega) (by omega)
  have hg : i ≤ weF b sz i := runF_ge _ _ _
  refine ⟨?_, he.2, fun z h1 h2 => ?_, he.1⟩
  · rcases Nat.lt_or_ge i (weF b sz i) with z | z
    · exact z
    · have e : weF b sz i = i := by omega
      have h3 : isL (bA b sz (weF b sz i)) = false := he.1
      rw [e, bA_in h, hl] at h3; cases h3
  · have h2' : z < sz := Nat.lt_of_lt_of_le h2 he.2
    have := runF_all (fun z => isL (bA b sz z)) 161 i z h1 h2
    simp only [bA_in h2'] at this
    exact this
theorem ne_gt {b : Nat → Int32} {sz i : Nat} (h : i < sz) (hs : sz ≤ 160) (hl : isDg (b i) = true) : i < neF b sz i ∧ neF b sz i ≤ sz ∧ (∀ z, i ≤ z → z < neF b sz i → isDg (b z) = true) ∧ isDg (bA b sz (neF b sz i)) = false := by
  have he := runF_end (fun z => isDg (bA b sz z)) dg_out 161 i (by omega) (by omega)
  have hg : i ≤ neF b sz i := runF_ge _ _ _
  refine ⟨?_, he.2, fun z h1 h2 => ?_, he.1⟩
  · rcases Nat.lt_or_ge i (neF b sz i) with z | z
    · exact z
    · have e : neF b sz i = i := by omega
      have h3 : isDg (bA b sz (neF b sz i)) = false := he.1
      rw [e, bA_in h, hl] at h3; cases h3
  · have h2' : z < sz := Nat.lt_of_lt_of_le h2 he.2
    have := runF_all (fun z => isDg (bA b sz z)) 161 i z h1 h2
    simp only [bA_in h2'] at this
    exact this
/-! tokens -/
theorem tk_end {b : Nat → Int32} {sz i : Nat} (h : sz ≤ skF b sz i) : tk b sz i = (-1, 0, sz, sz) := if_pos h
theorem tk_pos {b : Nat → Int32} {sz i : Nat} (h : i ≤ sz) (hs : sz ≤ 160) : (tk b sz i).2.2.2 ≤ sz ∧ (sz ≤ skF b sz i ∨ (i < (tk b sz i).2.2.2 ∧ (tk b sz i).2.2.1 = skF b sz i ∧ skF b sz i < sz)) := by
  have h0 : i ≤ skF b sz i := sk_ge
  by_cases h1 : sz ≤ skF b sz i
  · rw [tk_end h1]; exact ⟨Nat.le_refl _, Or.inl h1⟩
  · unfold tk
    rw [if_neg h1]
    by_cases h2 : isL (b (skF b sz i)) = true
    · rw [if_pos h2]
      have := we_gt (by omega) hs h2
      exact ⟨this.2.1, Or.inr ⟨show i < weF b sz (skF b sz i) by omega, rfl, by omega⟩⟩
    · rw [if_neg h2]
      by_cases h3 : isDg (b (skF b sz i)) = true
      · rw [if_pos h3]
        have := ne_gt (by omega) hs h3
        exact ⟨this.2.1, Or.inr ⟨show i < neF b sz (skF b sz i) by omega, rfl, by omega⟩⟩
      · rw [if_neg h3]
        by_cases h4 : isSg (b (skF b sz i)) = true
        · rw [if_pos h4]
          exact ⟨show skF b sz i + 1 ≤ sz by omega, Or.inr ⟨show i < skF b sz i + 1 by omega, rfl, by omega⟩⟩
        · rw [if_neg h4]
          exact ⟨show skF b sz i + 1 ≤ sz by omega, Or.inr ⟨show i < skF b sz i + 1 by omega, rfl, by omega⟩⟩
theorem tPos_le {b : Nat → Int32} {sz : Nat} (hs : sz ≤ 160) : ∀ k, tPos b sz k ≤ sz := by
  intro k
  induction k with
  | zero => exact Nat.zero_le _
  | succ k ih => exact (tk_pos ih hs).1
theorem sk_sz {b : Nat → Int32} {sz : Nat} (hs : sz ≤ 160) : skF b sz sz = sz := sk_at (bl_out sz (Nat.le_refl _))
/-- once the end is there it stays -/
theorem tk_stay {b : Nat → Int32} {sz k : Nat} (hs : sz ≤ 160) (h : sz ≤ skF b sz (tPos b sz k)) : ∀ m, k ≤ m → tk b sz (tPos b sz m) = (-1, 0, sz, sz) := by
  have h1 : ∀ m, k < m → tPos b sz m = sz := by
    intro m
    induction m with
    | zero => intro z; omega
    | succ m ih =>
      intro z
      show (tk b sz (tPos b sz m)).2.2.2 = sz
      by_cases hm : m = k
      · rw [hm, tk_end h]
      · rw [ih (by omega), tk_end (by rw [sk_sz hs]; exact Nat.le_refl _)]
  intro m hm
  by_cases hmk : m = k
  · rw [hmk, tk_end h]
  · rw [h1 m (by omega), tk_end (by rw [sk_sz hs]; exact Nat.le_refl _)]
theorem tkW_ne {w : Nat} (h : w ≤ 12) : (tkW w).1 ≠ -1 ∧ (tkW w).1 ≠ -3 ∧ isSg (tkW w).1 = false := by
  have : ∀ w, w < 13 → (tkW w).1 ≠ -1 ∧ (tkW w).1 ≠ -3 ∧ isSg (tkW w).1 = false := by decide +kernel
  exact this w (by omega)
theorem wFind_le {b : Nat → Int32} {j n : Nat} : ∀ f i, wFind b j n f i ≤ i + f := by
  intro f
  induction f with
  | zero => intro i; exact Nat.le_refl _
  | succ f ih =>
    intro i
    unfold wFind
    split
    · omega
    · have := ih (i + 1); omega
theorem wFind_ge {b : Nat → Int32} {j n : Nat} : ∀ f i, i ≤ wFind b j n f i := by
  intro f
  induction f with
  | zero => intro i; exact Nat.le_refl _
  | succ f ih =>
    intro i
    unfold wFind
    split
    · omega
    · have := ih (i + 1); omega
theorem wFind_hit {b : Nat → Int32} {j n : Nat} : ∀ f i, wFind b j n f i < i + f → wMb b j n (wFind b j n f i) = true := by
  intro f
  induction f with
  | zero => intro i h; unfold wFind at h; omega
  | succ f ih =>
    intro i h
    unfold wFind at h ⊢
    by_cases h1 : wMb b j n i = true
    · rw [if_pos h1]; exact h1
    · rw [if_neg h1] at h ⊢
      exact ih (i + 1) (by omega)
theorem wMb_iff {b : Nat → Int32} {j n i : Nat} : wMb b j n i = true ↔ wMP b j n i := by
  unfold wMb wMP
  simp only [Bool.and_eq_true, decide_eq_true_eq, List.all_eq_true, List.mem_range]
theorem wds_apart : ∀ i, i < 12 → ∀ k, k < 12 → wds.getD i [] = wds.getD k [] → i = k := by decide +kernel
theorem wM_inj {b : Nat → Int32} {j n i k : Nat} (hi : i < 12) (hk : k < 12) (h1 : wMP b j n i) (h2 : wMP b j n k) : i = k := by
  refine wds_apart i hi k hk ?_
  refine List.ext_getElem (h1.1.symm.trans h2.1) (fun z z1 z2 => ?_)
  have a1 := h1.2 z (by rw [h1.1]; exact z1)
  have a2 := h2.2 z (by rw [h1.1]; exact z1)
  rw [List.getD_eq_getElem?_getD, List.getElem?_eq_getElem z1] at a1
  rw [List.getD_eq_getElem?_getD, List.getElem?_eq_getElem z2] at a2
  exact a1.symm.trans a2
theorem wFind_iff {b : Nat → Int32} {j n i : Nat} (hi : i < 12) : wFind b j n 12 0 = i ↔ wMP b j n i := by
  have hle := wFind_le (b := b) (j := j) (n := n) 12 0
  constructor
  · intro h
    have := wFind_hit (b := b) (j := j) (n := n) 12 0 (by omega)
    rw [h] at this
    exact wMb_iff.mp this
  · intro h
    have miss : ∀ f q, q ≤ i → i < q + f → wFind b j n f q ≤ i := by
      intro f
      induction f with
      | zero => intro q h1 h2; omega
      | succ f ih =>
        intro q h1 h2
        unfold wFind
        by_cases hm : wMb b j n q = true
        · rw [if_pos hm]; exact h1
        · rw [if_neg hm]
          have hq : q ≠ i := fun z => hm (by rw [z]; exact wMb_iff.mpr h)
          exact ih (q + 1) (by omega) (by omega)
    have h1 := miss 12 0 (by omega) (by omega)
    have h2 := wFind_hit (b := b) (j := j) (n := n) 12 0 (by omega)
    exact wM_inj (by omega) hi (wMb_iff.mp h2) h
theorem tk_ne {b : Nat → Int32} {sz i : Nat} (h : ¬ sz ≤ skF b sz i) : (tk b sz i).1 ≠ -1 := by
  unfold tk
  rw [if_neg h]
  by_cases h2 : isL (b (skF b sz i)) = true
  · rw [if_pos h2]
    exact (tkW_ne (by have := wFind_le (b := b) (j := skF b sz i) (n := weF b sz (skF b sz i) - skF b sz i) 12 0; omega)).1
  · rw [if_neg h2]
    by_cases h3 : isDg (b (skF b sz i)) = true
    · rw [if_pos h3]
      show (if _ then (-3 : Int32) else -2) ≠ -1
      split <;> decide
    · rw [if_neg h3]
      by_cases h4 : isSg (b (skF b sz i)) = true
      · rw [if_pos h4]
        intro z
        have z : b (skF b sz i) = -1 := z
        rw [z] at h4
        exact absurd h4 (by decide)
      · rw [if_neg h4]
        show (-2 : Int32) ≠ -1
        decide
