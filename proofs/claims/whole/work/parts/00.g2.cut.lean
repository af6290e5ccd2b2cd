theorem q_isLetter {N : Nat} {σ : St} {a : Int32} : fC_B_isLetter N σ a = some (σ, if isL a = true then 1 else 0) := by
  unfold fC_B_isLetter isL; rw [w_97_122, cal_eq, gd_ok b01]
  simp only [decide_eq_true_eq]
theorem q_isDigit {N : Nat} {σ : St} {a : Int32} : fC_B_isDigit N σ a = some (σ, if isDg a = true then 1 else 0) := by
  unfold fC_B_isDigit isDg; rw [w_48_57, cal_eq, gd_ok b01]
  simp only [decide_eq_true_eq]
theorem q_B_isSign {N : Nat} {σ : St} {a : Int32} : fC_B_isSign N σ a = some (σ, if isSg a = true then 1 else 0) := by
  unfold fC_B_isSign isSg
  simp only [decide_eq_true_eq]
  by_cases h1 : a = 40
  · rw [if_pos h1, if_pos (Or.inl h1)]
  rw [if_neg h1]
  by_cases h2 : a = 41
  · rw [if_pos h2, if_pos (by simp [h2])]
  rw [if_neg h2]
  by_cases h3 : a = 59
  · rw [if_pos h3, if_pos (by simp [h3])]
  rw [if_neg h3]
  by_cases h4 : a = 43
  · rw [if_pos h4, if_pos (by simp [h4])]
  rw [if_neg h4]
  by_cases h5 : a = 45
  · rw [if_pos h5, if_pos (by simp [h5])]
  rw [if_neg h5]
  by_cases h6 : a = 42
  · rw [if_pos h6, if_pos (by simp [h6])]
  rw [if_neg h6]
  by_cases h7 : a = 60
  · rw [if_pos h7, if_pos (by simp [h7])]
  rw [if_neg h7]
  by_cases h8 : a = 61
  · rw [if_pos h8, if_pos (by simp [h8])]
  · rw [if_neg h8, if_neg (by simp [h1, h2, h3, h4, h5, h6, h7, h8])]
theorem q_byteAt {N sz i : Nat} {σ : St} {b : Nat → Int32} (hs : sz ≤ 160) (h : σ.1 20 = nI sz) (hb : ∀ i, i < sz → σ.2.1 53 i = b i) (hi : i < sz) : fC_B_byteAt N σ (nI i) = some (σ, b i) := by
  unfold fC_B_byteAt
  rw [if_neg (nI_pos (by omega)), h, if_neg (by rw [nI_leI (by omega) (by omega)]; omega), giN 160 (nI_b (by omega) (by decide)), nI_clamp (by omega), hb i hi]
/-- a token noted behind k others -/
def Noted (k : Nat) (K V S : Int32) (σ σ' : St) : Prop := KP [21] [54, 55, 56] σ σ' ∧ σ'.1 21 = nI (k + 1) ∧ σ'.2.1 54 = upd (σ.2.1 54) k K ∧ σ'.2.1 55 = upd (σ.2.1 55) k V ∧ σ'.2.1 56 = upd (σ.2.1 56) k S
theorem q_note {N k : Nat} {σ : St} {K V S : Int32} (hk : k ≤ 160) (h : σ.1 21 = nI k) : ∃ σ', fC_B_note N σ K V S = some (σ', ()) ∧ Noted k K V S σ σ' := by
  have cl : (nI k).toNatClampNeg = k := nI_clamp (by omega)
  have hg := nI_b (show k < 161 by omega) (by decide)
  unfold fC_B_note
  rw [h, if_neg (by rw [show (160 : Int32) = nI 160 from rfl, nI_ltI (by decide) (by omega)]; omega)]
  simp only [sA_i, h, giN 161 hg, bnd_eq, nI_1]
  refine ⟨_, rfl, ((((KP.a (by decide)).tr (KP.a (by decide))).tr (KP.a (by decide))).tr (KP.i (by decide))), rfl, ?_, ?_, ?_⟩
  · show upd (σ.2.1 54) (nI k).toNatClampNeg K = _; rw [cl]
  · show upd (σ.2.1 55) (nI k).toNatClampNeg V = _; rw [cl]
  · show upd (σ.2.1 56) (nI k).toNatClampNeg S = _; rw [cl]
theorem q_num_l {N sz p e : Nat} {σ : St} {b : Nat → Int32} (hs : sz ≤ 160) (h : σ.1 20 = nI sz) (hb : ∀ i, i < sz → σ.2.1 53 i = b i) (hes : e ≤ sz) (hd : ∀ z, p ≤ z → z < e → isDg (b z) = true) (he : isDg (bA b sz e) = false) : ∀ (d a F : Nat) (v : Int32), a + d = e → d < F → p ≤ a → fC_B_cutNumber_l4 N F σ (nI p) (nI a) v = fC_B_cutNumber_j45 N σ (nI p) (nI e) (numF b d a v) := by
  intro d
  induction d with
  | zero =>
    intro a F v h1 h2 h3
    obtain ⟨F, rfl⟩ : ∃ k, F = k + 1 := ⟨F - 1, by omega⟩
    have : a = e := by omega
    subst this
    show (if σ.1 20 ≤ nI a then _ else _) = _
    rw [h]
    by_cases hz : sz ≤ a
    · rw [if_pos (by rw [nI_leI (by omega) (by omega)]; omega)]; rfl
    · rw [if_neg (by rw [nI_leI (by omega) (by omega)]; omega), giN 160 (nI_b (by omega) (by decide)), nI_clamp (by omega), hb a (by omega), q_isDigit, cal_eq]
      rw [bA_in (by omega)] at he
      rw [he]; rfl
  | succ d ih =>
    intro a F v h1 h2 h3
    obtain ⟨F, rfl⟩ : ∃ k, F = k + 1 := ⟨F - 1, by omega⟩
    show (if σ.1 20 ≤ nI a then _ else _) = _
    have hg := nI_b (show a < 160 by omega) (by decide)
    rw [h, if_neg (by rw [nI_leI (by omega) (by omega)]; omega), giN 160 hg, nI_clamp (by omega), hb a (by omega), q_isDigit, cal_eq, hd a h3 (by omega), giN 160 hg]
    simp only [bnd_eq, if_true, nI_1]
    rw [if_neg (by decide), ih (a + 1) F _ (by omega) (by omega) (by omega), hb a (by omega)]
    rfl
theorem q_cutNumber {sz p k : Nat} {σ : St} {b : Nat → Int32} (hs : sz ≤ 160) (h : σ.1 20 = nI sz) (hb : ∀ i, i < sz → σ.2.1 53 i = b i) (hp : p < sz) (hd : isDg (b p) = true) (hk : k ≤ 160) (h21 : σ.1 21 = nI k) : ∃ σ', fC_B_cutNumber N0 σ (nI p) = some (σ', nI (neF b sz p)) ∧ Noted k (if neF b sz p - p ≤ 4 then -3 else -2) (numF b (neF b sz p - p) p 0) (nI p) σ σ' := by
  obtain ⟨g1, g2, g3, g4⟩ := ne_gt hp hs hd
  unfold fC_B_cutNumber
  rw [q_num_l (N := N0) (p := p) hs h hb g2 g3 g4 (neF b sz p - p) p N0 0 (by omega) (by unfold N0; omega) (Nat.le_refl _)]
  unfold fC_B_cutNumber_j45 fC_B_cutNumber_j57 fC_B_cutNumber_j72
  rw [pk_sub (by omega)]
  by_cases h4 : neF b sz p - p ≤ 4
  · rw [if_pos (by rw [show (4 : Int32) = nI 4 from rfl, nI_leI (by omega) (by decide)]; exact h4), if_pos rfl, if_pos h4]
    obtain ⟨σ', e1, e2⟩ := q_note (N := N0) (K := -3) (V := numF b (neF b sz p - p) p 0) (S := nI p) hk h21
    rw [e1]; exact ⟨σ', rfl, e2⟩
  · rw [if_neg (by rw [show (4 : Int32) = nI 4 from rfl, nI_leI (by omega) (by decide)]; exact h4), if_neg (by decide), if_neg h4]
    obtain ⟨σ', e1, e2⟩ := q_note (N := N0) (K := -2) (V := numF b (neF b sz p - p) p 0) (S := nI p) hk h21
    rw [e1]; exact ⟨σ', rfl, e2⟩
/-! words -/
theorem sch_w : ∀ w, w < 12 → (wds.getD w []).length ≤ 5 ∧ ∀ k, k < 6 → sch 1 (6 * w + k) = (wds.getD w []).getD k 32 := by decide +kernel
theorem wds_len : ∀ w, w < 12 → (wds.getD w []).length ≤ 5 := fun w h => (sch_w w h).1
theorem wds_l : ∀ w, w < 12 → ∀ k, k < 6 → k < (wds.getD w []).length → isL ((wds.getD w []).getD k 0) = true ∧ (wds.getD w []).getD k 32 = (wds.getD w []).getD k 0 := by decide +kernel
theorem ix6' (i p : Nat) : nI i * (6 : Int32) + nI p = nI (6 * i + p) := by
  rw [show (6 : Int32) = nI 6 from rfl, pk_mul, nI_add, Nat.mul_comm]
theorem q_word_in {N sz p n w : Nat} {σ : St} {b : Nat → Int32} {k10 : St → Int32 → Int32 → Int32 → Option (St × Int32)} (hs : sz ≤ 160) (h : σ.1 20 = nI sz) (hb : ∀ i, i < sz → σ.2.1 53 i = b i) (hn : n < 6) (hpn : p + n ≤ sz) (hl : ∀ z, p ≤ z → z < p + n → isL (b z) = true) (hw : w < 12) : ∀ (d a F : Nat), a + d = n → d < F → (∀ k, k < a → (wds.getD w []).getD k 32 = b (p + k)) →
    fC_B_wordAmong_l19 N k10 F σ (nI p) (nI n) (nI w) (nI a) = if wMb b p n w = true then some (σ, nI w) else k10 σ (nI p) (nI n) (nI (w + 1)) := by
  obtain ⟨l5, sw⟩ := sch_w w hw
  intro d
  induction d with
  | zero =>
    intro a F h1 h2 h3
    obtain ⟨F, rfl⟩ : ∃ k, F = k + 1 := ⟨F - 1, by omega⟩
    have : a = n := by omega
    subst this
    show (if nI a ≤ nI a then _ else _) = _
    rw [if_pos (by rw [nI_leI (by omega) (by omega)]; omega)]
    unfold fC_B_wordAmong_j54
    rw [if_pos rfl, ix6', giN 72 (nI_b (by omega) (by decide)), nI_clamp (by omega), sw a hn]
    have hmatch : (wds.getD w []).getD a 32 = 32 ↔ wMb b p a w = true := by
      rw [wMb_iff]
      constructor
      · intro e
        have hge : (wds.getD w []).length ≤ a := by
          rcases Nat.lt_or_ge a (wds.getD w []).length with z | z
          · obtain ⟨q1, q2⟩ := wds_l w hw a hn z
            rw [q2] at e; rw [e] at q1
            exact absurd q1 (by decide)
          · exact z
        have hle : a ≤ (wds.getD w []).length := by
          rcases Nat.lt_or_ge (wds.getD w []).length a with z | z
          · have e1 := h3 _ z
            rw [List.getD_eq_getElem?_getD, List.getElem?_eq_none (Nat.le_refl _)] at e1
            have e2 := hl (p + (wds.getD w []).length) (by omega) (by omega)
            rw [← e1] at e2
            exact absurd e2 (by decide)
          · exact z
        refine ⟨by omega, fun k hk => ?_⟩
        rw [← h3 k hk]
        exact (wds_l w hw k (by omega) (by omega)).2
      · intro e
        rw [e.1, List.getD_eq_getElem?_getD, List.getElem?_eq_none (Nat.le_refl _)]; rfl
    by_cases hm : wMb b p a w = true
    · rw [if_pos (hmatch.mpr hm), if_pos hm]
    · rw [if_neg (fun z => hm (hmatch.mp z)), if_neg hm]
      unfold fC_B_wordAmong_j78
      rw [bnd_eq, nI_1]
  | succ d ih =>
    intro a F h1 h2 h3
    obtain ⟨F, rfl⟩ : ∃ k, F = k + 1 := ⟨F - 1, by omega⟩
    show (if nI n ≤ nI a then _ else _) = _
    rw [if_neg (by rw [nI_leI (by omega) (by omega)]; omega), ix6', giN 72 (nI_b (by omega) (by decide)), nI_add, q_byteAt hs h hb (by omega), cal_eq, nI_clamp (by omega), sw a (by omega)]
    by_cases hm : (wds.getD w []).getD a 32 = b (p + a)
    · rw [if_pos hm, bnd_eq, nI_1]
      exact ih (a + 1) F (by omega) (by omega) (fun k hk => by
        by_cases hka : k = a
        · rw [hka]; exact hm
        · exact h3 k (by omega))
    · rw [if_neg hm, if_neg ?_]
      · unfold fC_B_wordAmong_j54
        rw [if_neg (by rw [nI_eq (by omega) (by omega)]; omega)]
        unfold fC_B_wordAmong_j78
        rw [bnd_eq, nI_1]
      · intro z
        obtain ⟨z1, z2⟩ := wMb_iff.mp z
        have := z2 a (by omega)
        exact hm (((wds_l w hw a (by omega) (by omega)).2).trans this.symm)
theorem q_word_out {N sz p n : Nat} {σ : St} {b : Nat → Int32} (hN : 7 ≤ N) (hs : sz ≤ 160) (h : σ.1 20 = nI sz) (hb : ∀ i, i < sz → σ.2.1 53 i = b i) (hn : n < 6) (hpn : p + n ≤ sz) (hl : ∀ z, p ≤ z → z < p + n → isL (b z) = true) : ∀ (d w F : Nat), w + d = 12 → d < F →
    fC_B_wordAmong_l10 N F σ (nI p) (nI n) (nI w) = some (σ, if wFind b p n d w = 12 then -1 else nI (wFind b p n d w)) := by
  intro d
  induction d with
  | zero =>
    intro w F h1 h2
    obtain ⟨F, rfl⟩ : ∃ k, F = k + 1 := ⟨F - 1, by omega⟩
    show (if (12 : Int32) ≤ nI w then _ else _) = _
    rw [if_pos (by rw [show w = 12 by omega]; decide)]
    unfold wFind
    rw [if_pos (by omega)]
  | succ d ih =>
    intro w F h1 h2
    obtain ⟨F, rfl⟩ : ∃ k, F = k + 1 := ⟨F - 1, by omega⟩
    show (if (12 : Int32) ≤ nI w then _ else _) = _
    rw [if_neg (by rw [show (12 : Int32) = nI 12 from rfl, nI_leI (by decide) (by omega)]; omega)]
    have := q_word_in (N := N) (k10 := fC_B_wordAmong_l10 N F) hs h hb hn hpn hl (show w < 12 by omega) n 0 N (by omega) (by omega) (fun k hk => by omega)
    rw [nI_0] at this
    rw [this]
    unfold wFind
    by_cases hm : wMb b p n w = true
    · rw [if_pos hm, if_pos hm, if_neg (by omega)]
    · rw [if_neg hm, if_neg hm]
      exact ih (w + 1) F (by omega) (by omega)
theorem wFind_long {b : Nat → Int32} {p n : Nat} (hn : 6 ≤ n) : wFind b p n 12 0 = 12 := by
  rcases Nat.lt_or_ge (wFind b p n 12 0) 12 with z | z
  · have h1 := (wFind_iff z).mp rfl
    have := wds_len _ z
    have := h1.1
    omega
  · have := wFind_le (b := b) (j := p) (n := n) 12 0; omega
theorem q_wordAmong {sz p n : Nat} {σ : St} {b : Nat → Int32} (hs : sz ≤ 160) (h : σ.1 20 = nI sz) (hb : ∀ i, i < sz → σ.2.1 53 i = b i) (hpn : p + n ≤ sz) (hl : ∀ z, p ≤ z → z < p + n → isL (b z) = true) : fC_B_wordAmong N0 σ (nI p) (nI n) = some (σ, if wFind b p n 12 0 = 12 then -1 else nI (wFind b p n 12 0)) := by
  unfold fC_B_wordAmong
  by_cases hn : n < 6
  · rw [if_pos (by rw [show (6 : Int32) = nI 6 from rfl, nI_ltI (by omega) (by decide)]; exact hn), ← nI_0]
    exact q_word_out (by decide) hs h hb hn hpn hl 12 0 N0 rfl (by decide)
  · rw [if_neg (by rw [show (6 : Int32) = nI 6 from rfl, nI_ltI (by omega) (by decide)]; exact hn), wFind_long (by omega), if_pos rfl]
theorem q_word_l {N sz p e : Nat} {σ : St} {b : Nat → Int32} (hs : sz ≤ 160) (h : σ.1 20 = nI sz) (hb : ∀ i, i < sz → σ.2.1 53 i = b i) (hes : e ≤ sz) (hd : ∀ z, p ≤ z → z < e → isL (b z) = true) (he : isL (bA b sz e) = false) : ∀ (d a F : Nat), a + d = e → d < F → p ≤ a → fC_B_cutWord_l4 N F σ (nI p) (nI a) = fC_B_cutWord_j30 N σ (nI p) (nI e) := by
  intro d
  induction d with
  | zero =>
    intro a F h1 h2 h3
    obtain ⟨F, rfl⟩ : ∃ k, F = k + 1 := ⟨F - 1, by omega⟩
    have : a = e := by omega
    subst this
    show (if σ.1 20 ≤ nI a then _ else _) = _
    rw [h]
    by_cases hz : sz ≤ a
    · rw [if_pos (by rw [nI_leI (by omega) (by omega)]; omega)]
    · rw [if_neg (by rw [nI_leI (by omega) (by omega)]; omega), giN 160 (nI_b (by omega) (by decide)), nI_clamp (by omega), hb a (by omega), q_isLetter, cal_eq]
      rw [bA_in (by omega)] at he
      rw [he]; rfl
  | succ d ih =>
    intro a F h1 h2 h3
    obtain ⟨F, rfl⟩ : ∃ k, F = k + 1 := ⟨F - 1, by omega⟩
    show (if σ.1 20 ≤ nI a then _ else _) = _
    have hg := nI_b (show a < 160 by omega) (by decide)
    rw [h, if_neg (by rw [nI_leI (by omega) (by omega)]; omega), giN 160 hg, nI_clamp (by omega), hb a (by omega), q_isLetter, cal_eq, hd a h3 (by omega)]
    simp only [bnd_eq, if_true, nI_1]
    rw [if_neg (by decide), ih (a + 1) F (by omega) (by omega) (by omega)]
theorem q_cutWord {sz p k : Nat} {σ : St} {b : Nat → Int32} (hs : sz ≤ 160) (h : σ.1 20 = nI sz) (hb : ∀ i, i < sz → σ.2.1 53 i = b i) (hp : p < sz) (hd : isL (b p) = true) (hk : k ≤ 160) (h21 : σ.1 21 = nI k) : ∃ σ', fC_B_cutWord N0 σ (nI p) = some (σ', nI (weF b sz p)) ∧ Noted k (tkW (wFind b p (weF b sz p - p) 12 0)).1 (tkW (wFind b p (weF b sz p - p) 12 0)).2 (nI p) σ σ' := by
  obtain ⟨g1, g2, g3, g4⟩ := we_gt hp hs hd
  have hwl := wFind_le (b := b) (j := p) (n := weF b sz p - p) 12 0
  unfold fC_B_cutWord
  rw [bnd_eq, nI_1, q_word_l (N := N0) (p := p) hs h hb g2 g3 g4 (weF b sz p - (p + 1)) (p + 1) N0 (by omega) (by unfold N0; omega) (by omega)]
  unfold fC_B_cutWord_j30
  rw [pk_sub (by omega), q_wordAmong hs h hb (by omega) (fun z h1 h2 => g3 z h1 (by omega)), cal_eq]
  generalize hw : wFind b p (weF b sz p - p) 12 0 = w at hwl ⊢
  unfold tkW
  by_cases h12 : w = 12
  · rw [if_pos h12, if_pos rfl, if_pos h12]
    obtain ⟨σ', e1, e2⟩ := q_note (N := N0) (K := -2) (V := 0) (S := nI p) hk h21
    rw [e1]; exact ⟨σ', rfl, e2⟩
  · rw [if_neg h12, if_neg (by intro z; rw [eq_n, nI_toInt (by omega)] at z; have e : (-1 : Int32).toInt = -1 := rfl; omega), if_neg h12]
    by_cases h6 : w < 6
    · rw [if_neg (by rw [show (6 : Int32) = nI 6 from rfl, nI_leI (by decide) (by omega)]; omega), if_pos h6]
      obtain ⟨σ', e1, e2⟩ := q_note (N := N0) (K := -4) (V := -1 - nI w) (S := nI p) hk h21
      rw [e1]; exact ⟨σ', rfl, e2⟩
    · rw [if_pos (by rw [show (6 : Int32) = nI 6 from rfl, nI_leI (by decide) (by omega)]; omega), if_neg h6]
      obtain ⟨σ', e1, e2⟩ := q_note (N := N0) (K := nI (256 + w)) (V := 0) (S := nI p) hk h21
      rw [show (256 : Int32) = nI 256 from rfl, nI_add, e1]; exact ⟨σ', rfl, e2⟩
