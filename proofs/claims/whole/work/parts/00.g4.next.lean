/-! the reference's tokens -/
def RX (b : Nat → Int32) (sz x : Nat) (τ : St) : Prop := x < 6 ∧ sz ≤ 160 ∧ τ.1 6 = nI (160 * x) ∧ τ.1 7 = nI sz ∧ ∀ i, i < sz → τ.2.1 1 (160 * x + i) = b i ∧ bt (b i) 0 255
theorem RX.kp {b : Nat → Int32} {sz x : Nat} {τ τ' : St} {f g : List Nat} (h : RX b sz x τ) (hk : KP f g τ τ') (hd : 6 ∉ f ∧ 7 ∉ f ∧ 1 ∉ g) : RX b sz x τ' := by
  obtain ⟨h1, h2, h3, h4, h5⟩ := h
  refine ⟨h1, h2, ?_, ?_, fun i hi => ?_⟩
  · rw [hk.1 6 hd.1]; exact h3
  · rw [hk.1 7 hd.2.1]; exact h4
  · rw [hk.2 1 hd.2.2]; exact h5 i hi
theorem qm_byteAt {N sz x i : Nat} {b : Nat → Int32} {τ : St} (h : RX b sz x τ) (hi : i ≤ 200) : fM_byteAt N τ (nI i) = some (τ, bA b sz i) := by
  obtain ⟨h1, h2, h3, h4, h5⟩ := h
  unfold fM_byteAt
  rw [h4]
  by_cases hs : sz ≤ i
  · rw [if_pos (by rw [nI_leI (by omega) (by omega)]; exact hs), bA_out hs]
  · rw [if_neg (by rw [nI_leI (by omega) (by omega)]; exact hs), bA_in (by omega), h3, nI_add, giN 960 (nI_b (by omega) (by decide)), nI_clamp (by omega), (h5 i (by omega)).1]
/-- a word's number -/
def encW (l : List Int32) : Nat := l.foldl (fun a c => 27 * a + (c.toInt.toNat - 96)) 0
def hN (b : Nat → Int32) (j : Nat) : Nat → Nat
  | 0 => 0
  | n + 1 => 27 * hN b j n + ((b (j + n)).toInt.toNat - 96)
def hsh (i : Nat) : Int64 := ([316163, 11103, 10416091, 397345, 400313, 12403754, 1905275, 279252, 323728, 423, 1111, 10631] : List Int64).getD i 0
theorem hsh_enc : ∀ i, i < 12 → hsh i = lN (encW (wds.getD i [])) ∧ encW (wds.getD i []) < 27 ^ 5 ∧ ∀ c ∈ wds.getD i [], isL c = true := by decide +kernel
theorem isL_iff {c : Int32} : isL c = true ↔ bt c 97 122 := by unfold isL; exact decide_eq_true_iff
theorem isDg_iff {c : Int32} : isDg c = true ↔ bt c 48 57 := by unfold isDg; exact decide_eq_true_iff
theorem encW_snoc (l : List Int32) (c : Int32) : encW (l ++ [c]) = 27 * encW l + (c.toInt.toNat - 96) := by
  unfold encW; rw [List.foldl_append]; rfl
theorem enc_inj {b : Nat → Int32} {j : Nat} : ∀ (n : Nat) (l : List Int32), (∀ c ∈ l, isL c = true) → (∀ z, z < n → isL (b (j + z)) = true) → hN b j n = encW l → n = l.length ∧ ∀ k, k < n → b (j + k) = l.getD k 0 := by
  intro n
  induction n with
  | zero =>
    intro l h1 h2 h3
    rcases List.eq_nil_or_concat l with rfl | ⟨l', c, rfl⟩
    · exact ⟨rfl, fun k hk => by omega⟩
    · rw [List.concat_eq_append, encW_snoc] at h3
      have := isL_iff.mp (h1 c (by simp))
      have h4 := this.1
      unfold hN at h3
      omega
  | succ n ih =>
    intro l h1 h2 h3
    have hb := isL_iff.mp (h2 n (by omega))
    have hb1 := hb.1
    have hb2 := hb.2
    unfold hN at h3
    rcases List.eq_nil_or_concat l with rfl | ⟨l', c, rfl⟩
    · unfold encW at h3
      rw [List.foldl_nil] at h3
      omega
    · rw [List.concat_eq_append] at h1 h3 ⊢
      rw [encW_snoc] at h3
      have hc := isL_iff.mp (h1 c (by simp))
      have hc1 := hc.1
      have hc2 := hc.2
      have e1 : hN b j n = encW l' := by omega
      have e2 : (b (j + n)).toInt = c.toInt := by omega
      obtain ⟨g1, g2⟩ := ih l' (fun x hx => h1 x (by simp [hx])) (fun z hz => h2 z (by omega)) e1
      refine ⟨by rw [List.length_append, ← g1]; rfl, fun k hk => ?_⟩
      by_cases hkn : k = n
      · rw [hkn, Int32.toInt_inj.mp e2, List.getD_eq_getElem?_getD, List.getElem?_append_right (by omega), g1]
        simp
      · rw [g2 k (by omega), List.getD_eq_getElem?_getD, List.getD_eq_getElem?_getD, List.getElem?_append_left (by omega)]
theorem enc_of {b : Nat → Int32} {j : Nat} : ∀ (n : Nat) (l : List Int32), n = l.length → (∀ k, k < n → b (j + k) = l.getD k 0) → hN b j n = encW l := by
  intro n
  induction n with
  | zero =>
    intro l h1 h2
    rw [List.eq_nil_of_length_eq_zero h1.symm]; rfl
  | succ n ih =>
    intro l h1 h2
    rcases List.eq_nil_or_concat l with rfl | ⟨l', c, rfl⟩
    · cases h1
    · rw [List.concat_eq_append] at h1 h2 ⊢
      rw [List.length_append] at h1
      have hl : n = l'.length := by simpa using h1
      rw [encW_snoc]
      show 27 * hN b j n + _ = _
      rw [ih l' hl (fun k hk => by rw [h2 k (by omega), List.getD_eq_getElem?_getD, List.getD_eq_getElem?_getD, List.getElem?_append_left (by omega)])]
      rw [h2 n (by omega), List.getD_eq_getElem?_getD, List.getElem?_append_right (by omega), hl]
      simp
theorem hN_lt {b : Nat → Int32} {j : Nat} : ∀ n, (∀ z, z < n → isL (b (j + z)) = true) → hN b j n < 27 ^ n := by
  intro n
  induction n with
  | zero => intro _; show 0 < 1; decide
  | succ n ih =>
    intro h
    have h1 := ih (fun z hz => h z (by omega))
    have hb := isL_iff.mp (h n (by omega))
    have hb2 := hb.2
    have e : 27 ^ (n + 1) = 27 * 27 ^ n := by rw [Nat.pow_succ, Nat.mul_comm]
    show 27 * hN b j n + _ < _
    rw [e]; omega
theorem hN_ge {b : Nat → Int32} {j : Nat} : ∀ n, (∀ z, z < n + 1 → isL (b (j + z)) = true) → 27 ^ n ≤ hN b j (n + 1) := by
  intro n
  induction n with
  | zero =>
    intro h
    have hb := isL_iff.mp (h 0 (by omega))
    have hb1 := hb.1
    show 1 ≤ 27 * hN b j 0 + ((b (j + 0)).toInt.toNat - 96)
    omega
  | succ n ih =>
    intro h
    have h1 := ih (fun z hz => h z (by omega))
    have e : 27 ^ (n + 1) = 27 * 27 ^ n := by rw [Nat.pow_succ, Nat.mul_comm]
    show 27 ^ (n + 1) ≤ 27 * hN b j (n + 1) + _
    rw [e]; omega
/-- what the reference holds a word of n letters for -/
def wv (b : Nat → Int32) (j n : Nat) : Int64 := if n ≤ 8 then lN (hN b j n) else -1
theorem wv_iff {b : Nat → Int32} {j n i : Nat} (hi : i < 12) (hl : ∀ z, z < n → isL (b (j + z)) = true) : wv b j n = hsh i ↔ wMP b j n i := by
  obtain ⟨h1, h2, h3⟩ := hsh_enc i hi
  have p5 : (27 : Nat) ^ 5 = 14348907 := by decide
  rw [p5] at h2
  unfold wv
  by_cases hn : n ≤ 8
  · rw [if_pos hn, h1]
    have hlt := hN_lt n hl
    have h8 : 27 ^ n ≤ 27 ^ 8 := Nat.pow_le_pow_right (by decide) hn
    have p8 : (27 : Nat) ^ 8 = 282429536481 := by decide
    have key : lN (hN b j n) = lN (encW (wds.getD i [])) ↔ hN b j n = encW (wds.getD i []) := by
      constructor
      · intro z
        have z := congrArg Int64.toInt z
        have e1 : (lN (hN b j n)).toInt = (hN b j n : Int) := lg_ofNat_toInt (by omega)
        have e2 : (lN (encW (wds.getD i []))).toInt = (encW (wds.getD i []) : Int) := lg_ofNat_toInt (by omega)
        rw [e1, e2] at z
        omega
      · intro z; rw [z]
    rw [key]
    exact ⟨fun z => enc_inj n _ h3 hl z, fun z => enc_of n _ z.1 z.2⟩
  · rw [if_neg hn]
    have hw := wds_len i hi
    constructor
    · intro z
      have z := congrArg Int64.toInt z
      rw [h1] at z
      have e2 : (lN (encW (wds.getD i []))).toInt = (encW (wds.getD i []) : Int) := lg_ofNat_toInt (by omega)
      rw [e2] at z
      have e3 : (-1 : Int64).toInt = -1 := rfl
      omega
    · intro z
      have := z.1
      omega
theorem wv_step {b : Nat → Int32} {j n : Nat} (hn : n < 8) (hb : isL (b (j + n)) = true) : ((27 : Int64) * wv b j n + (b (j + n)).toInt64) - 96 = wv b j (n + 1) := by
  have hc := isL_iff.mp hb
  obtain ⟨v, hv, e, ev⟩ := (show ∃ v : Nat, v < 2 ^ 31 ∧ b (j + n) = nI v ∧ (b (j + n)).toInt = v from by
    obtain ⟨v, hv, e⟩ := nI_of (x := b (j + n)) (nn32 (by have := hc.1; omega))
    exact ⟨v, hv, e, by rw [e]; exact nI_toInt hv⟩)
  have hc1 := hc.1
  unfold wv
  rw [if_pos (by omega), if_pos (by omega)]
  show _ = lN (27 * hN b j n + ((b (j + n)).toInt.toNat - 96))
  rw [ev, e, nI_l hv, show (27 : Int64) = lN 27 from rfl, show (96 : Int64) = lN 96 from rfl, lN_mul, lN_add, lN_sub (by omega)]
  exact congrArg lN (by omega)
/-- a number's value, four digits of it -/
def dL (b : Nat → Int32) (j : Nat) : Nat → Int64
  | 0 => 0
  | n + 1 => if n < 4 then ((10 : Int64) * dL b j n + (b (j + n)).toInt64) - 48 else dL b j n
theorem numF_snoc (b : Nat → Int32) : ∀ n i a, numF b (n + 1) i a = numF b n i a * 10 + b (i + n) - 48 := by
  intro n
  induction n with
  | zero => intro i a; rfl
  | succ n ih =>
    intro i a
    show numF b (n + 1) (i + 1) (a * 10 + b i - 48) = _
    rw [ih (i + 1), show i + 1 + n = i + (n + 1) by omega]
    rfl
theorem dL_num (b : Nat → Int32) (j : Nat) : ∀ n, n ≤ 4 → (dL b j n).toInt32 = numF b n j 0 := by
  intro n
  induction n with
  | zero => intro _; rfl
  | succ n ih =>
    intro h
    rw [numF_snoc, ← ih (by omega)]
    show (if n < 4 then _ else _ : Int64).toInt32 = _
    rw [if_pos (by omega), lg_l2i_sub, lg_l2i_add, lg_l2i_mul, lg_l2i_i2l, Int32.mul_comm]
    rfl
/-- what the reference's token looks like -/
def TC (K V t : Int32) (w : Int64) : Prop := (K = -1 ∧ t = 0) ∨ (K = -3 ∧ t = 2 ∧ w.toInt32 = V) ∨ (isSg K = true ∧ t = 3 ∧ w = K.toInt64) ∨ (∃ W, W ≤ 12 ∧ t = 1 ∧ K = (tkW W).1 ∧ V = (tkW W).2 ∧ ∀ i, i < 12 → (w = hsh i ↔ W = i)) ∨ (K = -2 ∧ t = 4)
def TMt (q : Int32 × Int32 × Nat × Nat) (τ : St) : Prop := τ.1 9 = nI q.2.2.1 ∧ (q.1 ≠ -2 → τ.1 11 = nI q.2.2.2) ∧ TC q.1 q.2.1 (τ.1 8) (τ.2.2 10)
theorem next_w {N sz x j e : Nat} {b : Nat → Int32} (hes : e ≤ sz) (hl : ∀ z, j ≤ z → z < e → isL (b z) = true) (he : isL (bA b sz e) = false) : ∀ (d n F : Nat) (τ : St), j + n + d = e → d < F → RX b sz x τ → τ.1 11 = nI (j + n) → τ.2.2 10 = wv b j n →
    ∃ τ', fM_next_l107 N F τ (nI n) = some (τ', ()) ∧ KP [11] [] τ τ' ∧ τ'.1 11 = nI e ∧ τ'.2.2 10 = wv b j (e - j) := by
  intro d
  induction d with
  | zero =>
    intro n F τ h1 h2 hR h11 h10
    have hs := hR.2.1
    obtain ⟨F, rfl⟩ : ∃ k, F = k + 1 := ⟨F - 1, by omega⟩
    have hje : j + n = e := by omega
    refine ⟨τ, ?_, KP.rf, by rw [h11, hje], by rw [h10, ← hje, Nat.add_sub_cancel_left]⟩
    show cal (fM_byteAt N τ (τ.1 11)) _ = _
    rw [h11, qm_byteAt hR (by omega), cal_eq, i_97_122, cal_eq, hje]
    have : ¬ bt (bA b sz e) 97 122 := fun z => by rw [isL_iff.mpr z] at he; cases he
    rw [if_neg this, if_pos rfl]
  | succ d ih =>
    intro n F τ h1 h2 hR h11 h10
    have hs := hR.2.1
    obtain ⟨F, rfl⟩ : ∃ k, F = k + 1 := ⟨F - 1, by omega⟩
    have hb : isL (b (j + n)) = true := hl _ (by omega) (by omega)
    have ebA : bA b sz (j + n) = b (j + n) := bA_in (by omega)
    obtain ⟨τ', e1, e2, e3, e4⟩ := ih (n + 1) F (sI (sL τ 10 (wv b j (n + 1))) 11 (nI (j + n) + 1)) (by omega) (by omega) (hR.kp (KP.l.tr (KP.i (by decide)) : KP [11] [] τ _) (by decide)) (by rw [nI_1]; rfl) rfl
    refine ⟨τ', ?_, ((KP.l.tr (KP.i (by decide)) : KP [11] [] τ _)).tr e2, e3, e4⟩
    show cal (fM_byteAt N τ (τ.1 11)) _ = _
    rw [h11, qm_byteAt hR (by omega), cal_eq, i_97_122, cal_eq, ebA, if_pos (isL_iff.mp hb), if_neg (by decide)]
    unfold fM_next_j163
    simp only [bnd_eq, sL_i, h11, nI_1] at e1 ⊢
    by_cases h8 : n < 8
    · rw [if_neg (by rw [show (8 : Int32) = nI 8 from rfl, nI_leI (by decide) (by omega)]; omega), qm_byteAt hR (by omega), cal_eq, ebA, h10, wv_step h8 hb, h11, nI_1]
      exact e1
    · rw [if_pos (by rw [show (8 : Int32) = nI 8 from rfl, nI_leI (by decide) (by omega)]; omega)]
      have : wv b j (n + 1) = -1 := if_neg (by omega)
      rw [this] at e1
      exact e1
theorem next_d {N sz x j e : Nat} {b : Nat → Int32} (hes : e ≤ sz) (hl : ∀ z, j ≤ z → z < e → isDg (b z) = true) (he : isDg (bA b sz e) = false) : ∀ (d n F : Nat) (τ : St), j + n + d = e → d < F → RX b sz x τ → τ.1 11 = nI (j + n) → τ.2.2 10 = dL b j n →
    ∃ τ', fM_next_l211 N F τ (nI n) = fM_next_j286 N τ' (nI (e - j)) ∧ KP [11] [] τ τ' ∧ τ'.1 11 = nI e ∧ τ'.2.2 10 = dL b j (e - j) := by
  intro d
  induction d with
  | zero =>
    intro n F τ h1 h2 hR h11 h10
    have hs := hR.2.1
    obtain ⟨F, rfl⟩ : ∃ k, F = k + 1 := ⟨F - 1, by omega⟩
    have hje : j + n = e := by omega
    have hn : n = e - j := by omega
    refine ⟨τ, ?_, KP.rf, by rw [h11, hje], by rw [h10, hn]⟩
    show cal (fM_byteAt N τ (τ.1 11)) _ = _
    rw [h11, qm_byteAt hR (by omega), cal_eq, i_48_57, cal_eq, hje]
    have : ¬ bt (bA b sz e) 48 57 := fun z => by rw [isDg_iff.mpr z] at he; cases he
    rw [if_neg this, if_pos rfl, hn]
  | succ d ih =>
    intro n F τ h1 h2 hR h11 h10
    have hs := hR.2.1
    obtain ⟨F, rfl⟩ : ∃ k, F = k + 1 := ⟨F - 1, by omega⟩
    have hb : isDg (b (j + n)) = true := hl _ (by omega) (by omega)
    have ebA : bA b sz (j + n) = b (j + n) := bA_in (by omega)
    obtain ⟨τ', e1, e2, e3, e4⟩ := ih (n + 1) F (sI (sL τ 10 (dL b j (n + 1))) 11 (nI (j + n) + 1)) (by omega) (by omega) (hR.kp (KP.l.tr (KP.i (by decide)) : KP [11] [] τ _) (by decide)) (by rw [nI_1]; rfl) rfl
    refine ⟨τ', ?_, ((KP.l.tr (KP.i (by decide)) : KP [11] [] τ _)).tr e2, e3, e4⟩
    show cal (fM_byteAt N τ (τ.1 11)) _ = _
    rw [h11, qm_byteAt hR (by omega), cal_eq, i_48_57, cal_eq, ebA, if_pos (isDg_iff.mp hb), if_neg (by decide)]
    unfold fM_next_j267
    simp only [bnd_eq, sL_i, h11, nI_1] at e1 ⊢
    have ed : dL b j (n + 1) = if n < 4 then ((10 : Int64) * dL b j n + (b (j + n)).toInt64) - 48 else dL b j n := rfl
    by_cases h8 : n < 4
    · rw [if_neg (by rw [show (4 : Int32) = nI 4 from rfl, nI_leI (by decide) (by omega)]; omega), qm_byteAt hR (by omega), cal_eq, ebA, h10, h11, nI_1]
      rw [ed, if_pos h8] at e1
      exact e1
    · rw [if_pos (by rw [show (4 : Int32) = nI 4 from rfl, nI_leI (by decide) (by omega)]; omega), h10]
      rw [ed, if_neg h8] at e1
      exact e1
theorem next_s {N sz x : Nat} {b : Nat → Int32} : ∀ (d h F : Nat) (τ : St), h + d = skF b sz h → d < F → h ≤ sz → RX b sz x τ → τ.1 11 = nI h →
    ∃ τ', fM_next_l0 N F τ = fM_next_j39 N τ' ∧ KP [11] [] τ τ' ∧ τ'.1 11 = nI (skF b sz h) := by
  intro d
  induction d with
  | zero =>
    intro h F τ h1 h2 h3 hR h11
    have hs := hR.2.1
    obtain ⟨F, rfl⟩ : ∃ k, F = k + 1 := ⟨F - 1, by omega⟩
    refine ⟨τ, ?_, KP.rf, by rw [h11, ← h1]; rfl⟩
    have hn := (sk_end (b := b) h3 hs).1
    rw [← h1, Nat.add_zero] at hn
    have hn2 : ¬ (bA b sz h = 32 ∨ bA b sz h = 10) := of_decide_eq_false hn
    show cal (fM_byteAt N τ (τ.1 11)) _ = _
    rw [h11, qm_byteAt hR (by omega), cal_eq, if_neg (fun z => hn2 (Or.inl z)), h11, qm_byteAt hR (by omega), cal_eq, if_neg (fun z => hn2 (Or.inr z))]
  | succ d ih =>
    intro h F τ h1 h2 h3 hR h11
    have hs := hR.2.1
    obtain ⟨F, rfl⟩ : ∃ k, F = k + 1 := ⟨F - 1, by omega⟩
    have hbl : isBl (bA b sz h) = true := runF_all (fun z => isBl (bA b sz z)) 161 h h (Nat.le_refl _) (show h < skF b sz h by omega)
    have hh : h < sz := Nat.lt_of_not_le (fun z => by rw [bl_out h z] at hbl; cases hbl)
    have est := sk_step hbl hs
    obtain ⟨τ', e1, e2, e3⟩ := ih (h + 1) F (sI τ 11 (nI h + 1)) (by rw [← est]; omega) (by omega) (by omega) (hR.kp (KP.i (by decide) : KP [11] [] τ _) (by decide)) (by rw [nI_1]; rfl)
    refine ⟨τ', ?_, (KP.i (by decide) : KP [11] [] τ _).tr e2, by rw [e3, est]⟩
    have hb2 : bA b sz h = 32 ∨ bA b sz h = 10 := of_decide_eq_true hbl
    show cal (fM_byteAt N τ (τ.1 11)) _ = _
    rw [h11, qm_byteAt hR (by omega), cal_eq]
    unfold fM_next_j26
    rw [bnd_eq, h11]
    by_cases h32 : bA b sz h = 32
    · rw [if_pos h32]; exact e1
    · rw [if_neg h32, qm_byteAt hR (by omega), cal_eq, if_pos (hb2.resolve_left h32), bnd_eq, h11]; exact e1
