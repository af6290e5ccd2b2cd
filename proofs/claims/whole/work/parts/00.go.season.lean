/-! ranks -/
def abS (τ : St) (a b : Nat) : Bool :=
  if τ.2.1 24 a = τ.2.1 24 b then
    (if τ.2.1 25 a - τ.2.1 26 a = τ.2.1 25 b - τ.2.1 26 b then decide (¬ τ.2.1 25 a ≤ τ.2.1 25 b) else decide (¬ τ.2.1 25 a - τ.2.1 26 a ≤ τ.2.1 25 b - τ.2.1 26 b))
  else decide (¬ τ.2.1 24 a ≤ τ.2.1 24 b)
def rkN (τ : St) (k : Nat) : Nat := cN (fun a => abS τ a k) 4 0
theorem abS_self (τ : St) (k : Nat) : abS τ k k = false := by
  unfold abS
  rw [if_pos rfl, if_pos rfl]
  exact decide_eq_false (fun z => z (by rw [le_n]; omega))
theorem rkN_le (τ : St) {k : Nat} (hk : k < 4) : rkN τ k ≤ 3 := by
  have h := abS_self τ k
  show (if abS τ 0 k = true then 1 else 0) + ((if abS τ 1 k = true then 1 else 0) + ((if abS τ 2 k = true then 1 else 0) + ((if abS τ 3 k = true then 1 else 0) + 0))) ≤ 3
  have u : ∀ b : Bool, (if b = true then 1 else 0) ≤ 1 := by intro b; cases b <;> decide
  have u0 := u (abS τ 0 k)
  have u1 := u (abS τ 1 k)
  have u2 := u (abS τ 2 k)
  have u3 := u (abS τ 3 k)
  have : k = 0 ∨ k = 1 ∨ k = 2 ∨ k = 3 := by omega
  rcases this with rfl | rfl | rfl | rfl <;> rw [h] <;> simp only [Bool.false_eq_true, if_false] <;> omega
theorem aboveC {N a b : Nat} (ha : a < 4) (hb : b < 4) {σ τ : St} (L : LG σ τ) : fC_L_isAbove N σ (nI a) (nI b) = some (σ, if abS τ a b = true then 1 else 0) := by
  have ca : (nI a).toNatClampNeg = a := nI_clamp (by omega)
  have cb : (nI b).toNatClampNeg = b := nI_clamp (by omega)
  obtain ⟨l1, l2, l3⟩ := L a ha
  obtain ⟨k1, k2, k3⟩ := L b hb
  unfold fC_L_isAbove abS
  simp only [giN 4 (nI_b ha (show 4 < 2 ^ 31 by decide)), giN 4 (nI_b hb (show 4 < 2 ^ 31 by decide)), bnd_eq, ca, cb, l1, l2, l3, k1, k2, k3]
  by_cases h1 : τ.2.1 24 a = τ.2.1 24 b
  · rw [if_pos h1, if_pos h1]
    by_cases h2 : τ.2.1 25 a - τ.2.1 26 a = τ.2.1 25 b - τ.2.1 26 b
    · rw [if_pos h2, if_pos h2]
      by_cases h3 : τ.2.1 25 a ≤ τ.2.1 25 b
      · rw [if_pos h3, if_neg (by simp only [decide_eq_true_eq]; exact fun z => z h3)]
      · rw [if_neg h3, if_pos (decide_eq_true h3)]
    · rw [if_neg h2, if_neg h2]
      by_cases h3 : τ.2.1 25 a - τ.2.1 26 a ≤ τ.2.1 25 b - τ.2.1 26 b
      · rw [if_pos h3, if_neg (by simp only [decide_eq_true_eq]; exact fun z => z h3)]
      · rw [if_neg h3, if_pos (decide_eq_true h3)]
  · rw [if_neg h1, if_neg h1]
    by_cases h3 : τ.2.1 24 a ≤ τ.2.1 24 b
    · rw [if_pos h3, if_neg (by simp only [decide_eq_true_eq]; exact fun z => z h3)]
    · rw [if_neg h3, if_pos (decide_eq_true h3)]
theorem aboveM {N a b : Nat} (ha : a < 4) (hb : b < 4) {τ : St} : fM_isAbove N τ (nI a) (nI b) = some (τ, if abS τ a b = true then 1 else 0) := by
  have ca : (nI a).toNatClampNeg = a := nI_clamp (by omega)
  have cb : (nI b).toNatClampNeg = b := nI_clamp (by omega)
  unfold fM_isAbove abS
  simp only [giN 4 (nI_b ha (show 4 < 2 ^ 31 by decide)), giN 4 (nI_b hb (show 4 < 2 ^ 31 by decide)), bnd_eq, ca, cb]
  by_cases h1 : τ.2.1 24 a = τ.2.1 24 b
  · rw [if_pos h1, if_pos h1]
    by_cases h2 : τ.2.1 25 a - τ.2.1 26 a = τ.2.1 25 b - τ.2.1 26 b
    · rw [if_pos h2, if_pos h2]
      by_cases h3 : τ.2.1 25 a ≤ τ.2.1 25 b
      · rw [if_pos h3, if_neg (by simp only [decide_eq_true_eq]; exact fun z => z h3)]
      · rw [if_neg h3, if_pos (decide_eq_true h3)]
    · rw [if_neg h2, if_neg h2]
      by_cases h3 : τ.2.1 25 a - τ.2.1 26 a ≤ τ.2.1 25 b - τ.2.1 26 b
      · rw [if_pos h3, if_neg (by simp only [decide_eq_true_eq]; exact fun z => z h3)]
      · rw [if_neg h3, if_pos (decide_eq_true h3)]
  · rw [if_neg h1, if_neg h1]
    by_cases h3 : τ.2.1 24 a ≤ τ.2.1 24 b
    · rw [if_pos h3, if_neg (by simp only [decide_eq_true_eq]; exact fun z => z h3)]
    · rw [if_neg h3, if_pos (decide_eq_true h3)]
theorem rankC_l {N k : Nat} (hk : k < 4) {σ τ : St} (L : LG σ τ) : ∀ (d i F : Nat) (n : Int32), i + d = 4 → d < F → fC_L_rankOf_l4 N F σ (nI k) n (nI i) = some (σ, cF (fun a => abS τ a k) d i n) := by
  intro d
  induction d with
  | zero =>
    intro i F n h1 h2
    obtain ⟨F, rfl⟩ : ∃ k, F = k + 1 := ⟨F - 1, by omega⟩
    show (if (4 : Int32) ≤ nI i then _ else _) = _
    rw [if_pos (by rw [show i = 4 by omega]; decide)]
    rfl
  | succ d ih =>
    intro i F n h1 h2
    obtain ⟨F, rfl⟩ : ∃ k, F = k + 1 := ⟨F - 1, by omega⟩
    show (if (4 : Int32) ≤ nI i then _ else _) = _
    rw [if_neg (by rw [show (4 : Int32) = nI 4 from rfl, nI_leI (by decide) (by omega)]; omega), aboveC (show i < 4 by omega) hk L, cal_eq, ite_b]
    unfold fC_L_rankOf_j24
    simp only [bnd_eq, nI_1]
    show _ = some (σ, cF (fun a => abS τ a k) d (i + 1) (if abS τ i k = true then n + 1 else n))
    by_cases h : abS τ i k = true
    · rw [if_pos h, if_pos h, ih (i + 1) F _ (by omega) (by omega)]
    · rw [if_neg h, if_neg h, Int32.add_zero, ih (i + 1) F _ (by omega) (by omega)]
theorem rankM_l {N k : Nat} (hk : k < 4) {τ : St} : ∀ (d i F : Nat) (n : Int32), i + d = 4 → d < F → fM_rankOf_l4 N F τ (nI k) n (nI i) = some (τ, cF (fun a => abS τ a k) d i n) := by
  intro d
  induction d with
  | zero =>
    intro i F n h1 h2
    obtain ⟨F, rfl⟩ : ∃ k, F = k + 1 := ⟨F - 1, by omega⟩
    show (if (4 : Int32) ≤ nI i then _ else _) = _
    rw [if_pos (by rw [show i = 4 by omega]; decide)]
    rfl
  | succ d ih =>
    intro i F n h1 h2
    obtain ⟨F, rfl⟩ : ∃ k, F = k + 1 := ⟨F - 1, by omega⟩
    show (if (4 : Int32) ≤ nI i then _ else _) = _
    rw [if_neg (by rw [show (4 : Int32) = nI 4 from rfl, nI_leI (by decide) (by omega)]; omega), aboveM (show i < 4 by omega) hk, cal_eq, ite_b]
    unfold fM_rankOf_j24
    simp only [bnd_eq, nI_1]
    show _ = some (τ, cF (fun a => abS τ a k) d (i + 1) (if abS τ i k = true then n + 1 else n))
    by_cases h : abS τ i k = true
    · rw [if_pos h, if_pos h, ih (i + 1) F _ (by omega) (by omega)]
    · rw [if_neg h, if_neg h, Int32.add_zero, ih (i + 1) F _ (by omega) (by omega)]
theorem cF_0 {P : Nat → Bool} {d i : Nat} : cF P d i 0 = nI (cN P d i) := by
  rw [cF_cN, Int32.zero_add]
theorem rankC {k : Nat} (hk : k < 4) {σ τ : St} (L : LG σ τ) : fC_L_rankOf N0 σ (nI k) = some (σ, nI (rkN τ k)) := by
  have := rankC_l (N := N0) hk L 4 0 N0 0 rfl (by decide)
  rw [nI_0, cF_0] at this
  exact this
theorem rankM {k : Nat} (hk : k < 4) {τ : St} : fM_rankOf N0 τ (nI k) = some (τ, nI (rkN τ k)) := by
  have := rankM_l (N := N0) (τ := τ) hk 4 0 N0 0 rfl (by decide)
  rw [nI_0, cF_0] at this
  exact this
theorem allC {N F k v : Nat} (hk : k < 4) {σ τ : St} (L : LG σ τ) : fC_L_allRanks_l4 N0 (F + 1) σ (nI v) (nI k) = fC_L_allRanks_l4 N0 F σ (nI (4 * v + rkN τ k)) (nI (k + 1)) := by
  show (if (4 : Int32) ≤ nI k then _ else _) = _
  rw [if_neg (by rw [show (4 : Int32) = nI 4 from rfl, nI_leI (by decide) (by omega)]; omega), rankC hk L, cal_eq, bnd_eq, bnd_eq, nI_1, show (4 : Int32) = nI 4 from rfl, pk_mul, nI_add, Nat.mul_comm]
theorem allM {N F k v : Nat} (hk : k < 4) {τ : St} : fM_ranks_l9 N0 (F + 1) τ (nI v) (nI k) = fM_ranks_l9 N0 F τ (nI (10 * v + rkN τ k)) (nI (k + 1)) := by
  show (if (4 : Int32) ≤ nI k then _ else _) = _
  rw [if_neg (by rw [show (4 : Int32) = nI 4 from rfl, nI_leI (by decide) (by omega)]; omega), rankM hk, cal_eq, bnd_eq, bnd_eq, nI_1, show (10 : Int32) = nI 10 from rfl, pk_mul, nI_add]
def cd4 (τ : St) : Nat := 4 * (4 * (4 * (4 * 0 + rkN τ 0) + rkN τ 1) + rkN τ 2) + rkN τ 3
def cd10 (τ : St) : Nat := 10 * (10 * (10 * (10 * 0 + rkN τ 0) + rkN τ 1) + rkN τ 2) + rkN τ 3
theorem q_allRanks {σ τ : St} (L : LG σ τ) : fC_L_allRanks N0 σ = some (σ, nI (cd4 τ)) := by
  have e : fC_L_allRanks N0 σ = fC_L_allRanks_l4 N0 (4995 + 1 + 1 + 1 + 1 + 1) σ (nI 0) (nI 0) := rfl
  rw [e, allC (N := N0) (by decide) L, allC (N := N0) (by decide) L, allC (N := N0) (by decide) L, allC (N := N0) (by decide) L]
  show (if (4 : Int32) ≤ nI 4 then _ else _) = _
  rw [if_pos (by decide)]; rfl
theorem qm_allRanks {τ : St} : fM_ranks_l9 N0 N0 τ 0 0 = some (τ, nI (cd10 τ)) := by
  have e : fM_ranks_l9 N0 N0 τ 0 0 = fM_ranks_l9 N0 (4995 + 1 + 1 + 1 + 1 + 1) τ (nI 0) (nI 0) := rfl
  rw [e, allM (N := N0) (by decide), allM (N := N0) (by decide), allM (N := N0) (by decide), allM (N := N0) (by decide)]
  show (if (4 : Int32) ≤ nI 4 then _ else _) = _
  rw [if_pos (by decide)]; rfl
theorem cd_iff (τ τ' : St) : cd4 τ = cd4 τ' ↔ cd10 τ = cd10 τ' := by
  have a0 := rkN_le τ (show 0 < 4 by decide)
  have a1 := rkN_le τ (show 1 < 4 by decide)
  have a2 := rkN_le τ (show 2 < 4 by decide)
  have a3 := rkN_le τ (show 3 < 4 by decide)
  have b0 := rkN_le τ' (show 0 < 4 by decide)
  have b1 := rkN_le τ' (show 1 < 4 by decide)
  have b2 := rkN_le τ' (show 2 < 4 by decide)
  have b3 := rkN_le τ' (show 3 < 4 by decide)
  unfold cd4 cd10
  omega
theorem cd_lt (τ : St) : cd4 τ < 10000 ∧ cd10 τ < 10000 := by
  have a0 := rkN_le τ (show 0 < 4 by decide)
  have a1 := rkN_le τ (show 1 < 4 by decide)
  have a2 := rkN_le τ (show 2 < 4 by decide)
  have a3 := rkN_le τ (show 3 < 4 by decide)
  unfold cd4 cd10
  omega
theorem Rel_6 {σ τ : St} (h : Rel σ τ) : ∃ n1 n3 n4 n5 n6 r c, DD n1 n3 n4 n5 r c σ τ ∧ R2 σ τ ∧ R6 n6 σ τ := by
  obtain ⟨n1, n3, n4, n5, n6, n7, n8, h1, h2, h3, h4, h5, h6, h7, h8, h9, h10⟩ := h
  obtain ⟨r, c, D⟩ := DD_of h1 h3 h4 h5 h8
  exact ⟨n1, n3, n4, n5, n6, r, c, D, h2, h6⟩
theorem e_table {σ τ : St} (hR : Rel σ τ) (a1 a2 a3 : Int32) : Both (fC_table N0 σ a1 a2 a3) (fM_table N0 τ a1 a2 a3) := by
  obtain ⟨n1, n3, n4, n5, n6, r, c, D, h2, h6⟩ := Rel_6 hR
  unfold fC_table fM_table
  simp only [cal_eq, ite_b, q_isWidth, qm_isWidth]
  refine Both.same (fun c1 => ?_) (fun c => Both.mk hR)
  simp only [cal_eq, ite_b, q_isSide, i_0_3]
  refine Both.same (fun c2 => ?_) (fun c => Both.mk hR)
  simp only [cal_eq, ite_b, w_0_3, i_0_3]
  refine Both.same (fun c3 => ?_) (fun c => Both.mk hR)
  obtain ⟨s, hs, hs2, rfl⟩ := bt_nI c2
  have hs : s < 4 := by omega
  have ec : (nI s).toNatClampNeg = s := nI_clamp (by omega)
  have hg := nI_b hs (show 4 < 2 ^ 31 by decide)
  have Q0 : QC σ (σ.1 4) (σ.1 5) (σ.1 6) σ := ⟨KP.rf, rfl, rfl, rfl⟩
  obtain ⟨σ1, σ2, σ', τ', off, x1, x2, x3, x4, x5, x6, x7, L⟩ := q_tables D h6 (v := a1) Q0 (QM_now h2)
  rw [x1, cal_eq, x2, cal_eq, x3, cal_eq, x4, cal_eq, x5, cal_eq]
  have e5 : σ.1 3 = τ.1 5 := h2.1
  rw [e5] at x7
  have hfin := Rel_qq hR x6 x7
  obtain ⟨l1, l2, l3⟩ := L s hs
  simp only [giN 4 hg, ec]
  refine Both.same (fun _ => Both.mk2 l1 hfin) (fun _ => ?_)
  refine Both.same (fun _ => Both.mk2 l2 hfin) (fun _ => ?_)
  refine Both.same (fun _ => Both.mk2 l3 hfin) (fun _ => ?_)
  rw [rankC hs L, rankM hs]
  exact Both.mk hfin
theorem season_l {n1 n3 n4 n5 r : Nat} {c : Nat → List Int32} {σ0 τ0 : St} (D : DD n1 n3 n4 n5 r c σ0 τ0) {n6 : Nat} (h6 : R6 n6 σ0 τ0) {s m : Nat} {w : Int32} (hs : s < 4) (hm8 : m ≤ 8) (h26 : σ0.2.1 26 s = nI m) (h32 : τ0.2.1 32 s = nI m) (hit : ∀ i, i < m → σ0.2.1 27 (40 * s + i) = τ0.2.1 33 (40 * s + i)) : ∀ (d i FC FM : Nat) (σ τ : St) (n w1 s1 f1 : Int32) (τp : St), i + d = m → 0 < i → d < FC → d < FM → QC σ0 w1 s1 f1 σ → QM τ0 w (-1) 0 τ →
    ∃ σ' τ' v w' s' f', fC_season_l33 N0 FC σ (nI s) n (nI (cd4 τp)) (nI i) = some (σ', v) ∧ fM_season_l42 N0 FM τ (nI s) n (nI (cd10 τp)) (nI i) = some (τ', v) ∧ QC σ0 w' s' f' σ' ∧ QM τ0 w (-1) 0 τ' := by
  have ec : (nI s).toNatClampNeg = s := nI_clamp (by omega)
  have hg := nI_b hs (show 4 < 2 ^ 31 by decide)
  intro d
  induction d with
  | zero =>
    intro i FC FM σ τ n w1 s1 f1 τp h1 h0 h2 h3 Q QMτ
    obtain ⟨FC, rfl⟩ : ∃ k, FC = k + 1 := ⟨FC - 1, by omega⟩
    obtain ⟨FM, rfl⟩ : ∃ k, FM = k + 1 := ⟨FM - 1, by omega⟩
    have e : nI m ≤ nI i := by rw [nI_leI (by omega) (by omega)]; omega
    have k26 : σ.2.1 26 s = nI m := by rw [Q.1.2 26 (by decide)]; exact h26
    have k32 : τ.2.1 32 s = nI m := by rw [QMτ.1.2 32 (by decide)]; exact h32
    refine ⟨σ, τ, n, w1, s1, f1, ?_, ?_, Q, QMτ⟩
    · show gi (nI s) 4 _ = _
      rw [giN 4 hg, ec, k26, if_pos e]
    · show gi (nI s) 4 _ = _
      rw [giN 4 hg, ec, k32, if_pos e]
  | succ d ih =>
    intro i FC FM σ τ n w1 s1 f1 τp h1 h0 h2 h3 Q QMτ
    obtain ⟨FC, rfl⟩ : ∃ k, FC = k + 1 := ⟨FC - 1, by omega⟩
    obtain ⟨FM, rfl⟩ : ∃ k, FM = k + 1 := ⟨FM - 1, by omega⟩
    have e : ¬ nI m ≤ nI i := by rw [nI_leI (by omega) (by omega)]; omega
    have k26 : σ.2.1 26 s = nI m := by rw [Q.1.2 26 (by decide)]; exact h26
    have k32 : τ.2.1 32 s = nI m := by rw [QMτ.1.2 32 (by decide)]; exact h32
    have k27 : σ.2.1 27 (40 * s + i) = τ0.2.1 33 (40 * s + i) := by rw [Q.1.2 27 (by decide)]; exact hit i (by omega)
    have k33 : τ.2.1 33 (40 * s + i) = τ0.2.1 33 (40 * s + i) := by rw [QMτ.1.2 33 (by decide)]
    obtain ⟨σ1, σ2, σ', τ', off, x1, x2, x3, x4, x5, x6, x7, L⟩ := q_tables D h6 (v := τ0.2.1 33 (40 * s + i)) Q QMτ
    have hlt := cd_lt τ'
    have hlp := cd_lt τp
    have stC : fC_season_l33 N0 (FC + 1) σ (nI s) n (nI (cd4 τp)) (nI i) = if nI (cd4 τ') = nI (cd4 τp) then fC_season_j119 N0 (fC_season_l33 N0 FC) σ' (nI s) n (nI i) (nI (cd4 τ')) else fC_season_j119 N0 (fC_season_l33 N0 FC) σ' (nI s) (n + 1) (nI i) (nI (cd4 τ')) := by
      show gi (nI s) 4 _ = _
      rw [giN 4 hg, ec, k26, if_neg e, q_itemOf hs (by omega) k26 (by omega), cal_eq, k27, x1, cal_eq, x2, cal_eq, x3, cal_eq, x4, cal_eq, q_allRanks L, cal_eq, if_neg (nI_nle (by omega) (by omega))]
      rfl
    have stM : fM_season_l42 N0 (FM + 1) τ (nI s) n (nI (cd10 τp)) (nI i) = if nI (cd10 τ') = nI (cd10 τp) then fM_season_j84 N0 (fM_season_l42 N0 FM) τ' (nI s) (nI i) (nI (cd10 τ')) n 0 else fM_season_j84 N0 (fM_season_l42 N0 FM) τ' (nI s) (nI i) (nI (cd10 τ')) n 1 := by
      show gi (nI s) 4 _ = _
      rw [giN 4 hg, ec, k32, if_neg e, ix40, giN 160 (nI_b (by omega) (by decide)), nI_clamp (by omega), k33]
      unfold fM_ranks
      rw [x5, cal_eq, qm_allRanks, cal_eq]
    rw [stC, stM]
    unfold fC_season_j119 fM_season_j84
    simp only [bnd_eq, nI_1]
    have hc := cd_iff τ' τp
    by_cases h : cd4 τ' = cd4 τp
    · rw [if_pos (by rw [h]), if_pos (by rw [hc.mp h]), Int32.add_zero]
      exact ih (i + 1) FC FM σ' τ' n _ _ _ τ' (by omega) (by omega) (by omega) (by omega) x6 x7
    · rw [if_neg (by rw [nI_eq (by omega) (by omega)]; exact h), if_neg (by rw [nI_eq (by omega) (by omega)]; exact fun z => h (hc.mpr z))]
      exact ih (i + 1) FC FM σ' τ' (n + 1) _ _ _ τ' (by omega) (by omega) (by omega) (by omega) x6 x7
theorem e_season {σ τ : St} (hR : Rel σ τ) (a1 : Int32) : Both (fC_season N0 σ a1) (fM_season N0 τ a1) := by
  obtain ⟨n1, n3, n4, n5, n6, r, c, D, h2, h6⟩ := Rel_6 hR
  unfold fC_season fM_season
  simp only [cal_eq, ite_b, q_isSheet, qm_isSheet]
  refine Both.same (fun c1 => ?_) (fun c => Both.mk hR)
  obtain ⟨s, hs, hs2, rfl⟩ := bt_nI c1
  have hs : s < 4 := by omega
  have ec : (nI s).toNatClampNeg = s := nI_clamp (by omega)
  have hg := nI_b hs (show 4 < 2 ^ 31 by decide)
  obtain ⟨v, e1, e2, e3⟩ := q_widths hR hs
  rw [e1, e2, cal_eq, cal_eq]
  refine Both.same (fun hv => ?_) (fun c => Both.mk hR)
  obtain ⟨m, m1, m8, h26, h32, hit⟩ := e3 hv
  have Q0 : QC σ (σ.1 4) (σ.1 5) (σ.1 6) σ := ⟨KP.rf, rfl, rfl, rfl⟩
  obtain ⟨σ1, σ2, σ', τ', off, x1, x2, x3, x4, x5, x6, x7, L⟩ := q_tables D h6 (v := τ.2.1 33 (40 * s + 0)) Q0 (QM_now h2)
  have stC : fC_season_l33 N0 (4999 + 1) σ (nI s) 0 0 (nI 0) = fC_season_l33 N0 4999 σ' (nI s) 0 (nI (cd4 τ')) (nI (0 + 1)) := by
    show gi (nI s) 4 _ = _
    rw [giN 4 hg, ec, h26, if_neg (by rw [nI_leI (by omega) (by decide)]; omega), q_itemOf hs (by omega) h26 (by omega), cal_eq, (hit 0 (by omega)).1, x1, cal_eq, x2, cal_eq, x3, cal_eq, x4, cal_eq, q_allRanks L, cal_eq, if_pos (by decide)]
    unfold fC_season_j119
    rw [bnd_eq, nI_1]
  obtain ⟨σ3, τ3, v3, w', s', f', y1, y2, y3, y4⟩ := season_l D h6 hs m8 h26 h32 (fun i hi => (hit i hi).1) (m - 1) (0 + 1) 4999 N0 σ' τ' 0 _ _ _ τ' (by omega) (by omega) (by omega) (by unfold N0; omega) x6 x7
  have eC : fC_season_l33 N0 N0 σ (nI s) 0 0 0 = fC_season_l33 N0 (4999 + 1) σ (nI s) 0 0 (nI 0) := rfl
  rw [eC, stC, y1]
  have e40 : (40 : Int32) * nI s = nI (40 * s + 0) := by rw [show (40 : Int32) = nI 40 from rfl, pk_mul]; rfl
  rw [e40, giN 160 (nI_b (by omega) (by decide)), nI_clamp (by omega)]
  unfold fM_ranks
  rw [x5, cal_eq, qm_allRanks, cal_eq]
  have e1' : (1 : Int32) = nI (0 + 1) := rfl
  rw [e1', y2]
  have e5 : σ.1 3 = τ.1 5 := h2.1
  rw [e5] at y4
  exact Both.mk (Rel_qq hR y3 y4)
