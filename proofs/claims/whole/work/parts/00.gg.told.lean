section CALLS2
variable {n1 n3 n4 n5 r : Nat} {c : Nat → List Int32} {σ0 τ0 : St} {w s f : Int32}
theorem kind_n {k j : Nat} (hk : k < 6) (hj : j < 6) : (nI k = nI j) ↔ k = j := nI_eq (by omega) (by omega)
theorem bandC (D : DD n1 n3 n4 n5 r c σ0 τ0) {σ : St} (Q : QC σ0 w s f σ) {k q : Nat} (hk : k < 6) (hq : q < n5) : CV σ (fC_P_bandOf N0 σ (nI k) (nI q)) (bandS τ0 c w k q) := by
  obtain ⟨c1, _, c3, c4, c5, c6, c7, c8, c9, c10, c11⟩ := call_at D hq
  obtain ⟨e46, e47, e48, e49, e50, e51, e34, _⟩ := QC_arr D Q
  have cl : (nI q).toNatClampNeg = q := nI_clamp (by omega)
  have hg := nI_b c1 (show 24 < 2 ^ 31 by decide)
  unfold fC_P_bandOf
  rcases lt6 hk with rfl | rfl | rfl | rfl | rfl | rfl
  · exact ⟨σ, rfl, KP.rf⟩
  · exact ⟨σ, rfl, KP.rf⟩
  · exact ⟨σ, rfl, KP.rf⟩
  · rw [if_neg (by decide), if_pos (by decide), giN 24 hg, giN 24 hg, cl, e47, e49, c4]
    obtain ⟨σ1, a1, a2⟩ := ruledC D Q (key := 1) (t := τ0.2.1 16 q) (by decide) c3
    rw [show (1 : Int32) = nI 1 from rfl, a1, cal_eq]
    exact ⟨σ1, by rw [clamp_c]; rfl, a2⟩
  · exact ⟨σ, rfl, KP.rf⟩
  · exact ⟨σ, rfl, KP.rf⟩
theorem bandM (D : DD n1 n3 n4 n5 r c σ0 τ0) {τ : St} (Q : QM τ0 w s f τ) {k q : Nat} (hk : k < 6) (hq : q < n5) : MV1 τ (fM_bandBy N0 τ (nI q) (nI k)) (bandS τ0 c w k q) := by
  obtain ⟨c1, _, c3, c4, c5, c6, c7, c8, c9, c10, c11⟩ := call_at D hq
  obtain ⟨e13, e14, e15, e16, _⟩ := QM_arr D Q
  have cl : (nI q).toNatClampNeg = q := nI_clamp (by omega)
  have hg := nI_b c1 (show 24 < 2 ^ 31 by decide)
  unfold fM_bandBy
  rcases lt6 hk with rfl | rfl | rfl | rfl | rfl | rfl
  · exact ⟨τ, rfl, KP.rf⟩
  · exact ⟨τ, rfl, KP.rf⟩
  · exact ⟨τ, rfl, KP.rf⟩
  · rw [if_neg (by decide), if_pos (by decide)]
    unfold fM_nearOf
    rw [giN 24 hg, giN 24 hg, giN 24 hg, cl, e14, e16, c4]
    obtain ⟨τ1, a1, a2, _⟩ := foreM D Q (t := τ0.2.1 16 q) c3
    obtain ⟨τ2, b1, b2, _⟩ := readM D (Q.kp a2) (key := 1) (k := footS τ0 c (aN τ0 q) (τ0.2.1 16 q) w) (t := τ0.2.1 16 q) (by decide) c3 footS_lt
    have e2 : τ1.1 2 = τ.1 2 := a2.1 2 (by decide)
    have e16' : τ1.2.1 16 = τ0.2.1 16 := (Q.kp a2).1.2 16 (by decide)
    rw [e2] at b1
    rw [a1, cal_eq, giN 24 hg, e16', show (1 : Int32) = nI 1 from rfl, b1, cal_eq]
    have hb : bandS τ0 c w 3 q = (1 : Int32) + clampS (wS τ0 c 1 (aN τ0 q) (footS τ0 c (aN τ0 q) (τ0.2.1 16 q) w) (τ0.2.1 16 q) w) := rfl
    rw [hb]
    unfold clampS
    by_cases h1 : 0 ≤ wS τ0 c 1 (aN τ0 q) (footS τ0 c (aN τ0 q) (τ0.2.1 16 q) w) (τ0.2.1 16 q) w
    · rw [if_pos h1, if_pos h1]
      by_cases h2 : wS τ0 c 1 (aN τ0 q) (footS τ0 c (aN τ0 q) (τ0.2.1 16 q) w) (τ0.2.1 16 q) w ≤ 999
      · rw [if_pos h2, if_pos h2]; exact ⟨τ2, rfl, a2.tr b2⟩
      · rw [if_neg h2, if_neg h2]; exact ⟨τ2, rfl, a2.tr b2⟩
    · rw [if_neg h1, if_neg h1]; exact ⟨τ2, rfl, a2.tr b2⟩
  · exact ⟨τ, rfl, KP.rf⟩
  · exact ⟨τ, rfl, KP.rf⟩
theorem aheadM (D : DD n1 n3 n4 n5 r c σ0 τ0) {τ : St} (Q : QM τ0 w s f τ) {k q : Nat} (hk : k < 6) (hq : q < n5) : MV1 τ (fM_isAhead N0 τ (nI q) (nI k)) (if aheadS τ0 c w s f k q = true then 1 else 0) := by
  obtain ⟨τ1, a1, a2⟩ := marginM D Q hk hq
  obtain ⟨τ2, b1, b2⟩ := bandM D (Q.kp a2) hk hq
  unfold fM_isAhead aheadS
  rw [a1, cal_eq, b1, cal_eq]
  simp only [decide_eq_true_eq]
  by_cases h : marginS τ0 c w s f k q ≤ bandS τ0 c w k q
  · rw [if_pos h, if_neg (by rw [lt_n]; rw [le_n] at h; omega)]
    exact ⟨τ2, rfl, a2.tr b2⟩
  · rw [if_neg h, if_pos (by rw [lt_n]; rw [le_n] at h; omega)]
    exact ⟨τ2, rfl, a2.tr b2⟩
theorem offM (D : DD n1 n3 n4 n5 r c σ0 τ0) {τ : St} (Q : QM τ0 w s f τ) {k q : Nat} (hk : k < 6) (hq : q < n5) : MV1 τ (fM_isOffside N0 τ (nI q) (nI k)) (if offS τ0 c w s f k q = true then 1 else 0) := by
  obtain ⟨c1, _, c3, c4, c5, c6, c7, c8, c9, c10, c11⟩ := call_at D hq
  have cl : (nI q).toNatClampNeg = q := nI_clamp (by omega)
  have hg := nI_b c1 (show 24 < 2 ^ 31 by decide)
  obtain ⟨τ1, a1, a2⟩ := aheadM D Q hk hq
  have Q1 := Q.kp a2
  unfold fM_isOffside offS
  rw [a1, cal_eq]
  cases hA : aheadS τ0 c w s f k q with
  | false =>
    rw [if_pos (show (if false = true then (1 : Int32) else 0) = 0 from rfl)]
    exact ⟨τ1, rfl, a2⟩
  | true =>
    rw [if_neg (show ¬ (if true = true then (1 : Int32) else 0) = 0 by decide)]
    obtain ⟨e13, e14, e15, e16, _⟩ := QM_arr D Q1
    rw [giN 24 hg, giN 24 hg, giN 24 hg, cl, e14, e16, c4]
    obtain ⟨τ2, b1, b2, _⟩ := foreM D Q1 (t := τ0.2.1 16 q) c3
    obtain ⟨τ3, d1, d2, _⟩ := readM D (Q1.kp b2) (key := 2) (k := footS τ0 c (aN τ0 q) (τ0.2.1 16 q) w) (t := τ0.2.1 16 q) (by decide) c3 footS_lt
    have e2 : τ2.1 2 = τ1.1 2 := b2.1 2 (by decide)
    have e16' : τ2.2.1 16 = τ0.2.1 16 := (Q1.kp b2).1.2 16 (by decide)
    rw [e2] at d1
    rw [b1, cal_eq, giN 24 hg, e16', show (2 : Int32) = nI 2 from rfl, d1, cal_eq]
    rw [Bool.true_and]
    simp only [decide_eq_true_eq]
    have hr : ruleS τ0 c 2 (aN τ0 q) (τ0.2.1 16 q) w = wS τ0 c 2 (aN τ0 q) (footS τ0 c (aN τ0 q) (τ0.2.1 16 q) w) (τ0.2.1 16 q) w := rfl
    rw [hr]
    by_cases hz : wS τ0 c 2 (aN τ0 q) (footS τ0 c (aN τ0 q) (τ0.2.1 16 q) w) (τ0.2.1 16 q) w = 0
    · rw [if_pos hz, if_neg (fun z => z hz)]
      exact ⟨τ3, rfl, (a2.tr b2).tr d2⟩
    · rw [if_neg hz, if_pos hz]
      exact ⟨τ3, rfl, (a2.tr b2).tr d2⟩
theorem offC (D : DD n1 n3 n4 n5 r c σ0 τ0) {σ : St} (Q : QC σ0 w s f σ) {k q : Nat} (hk : k < 6) (hq : q < n5) : CV σ (fC_P_isOffside N0 σ (nI k) (nI q)) (if offS τ0 c w s f k q = true then 1 else 0) := by
  obtain ⟨c1, _, c3, c4, c5, c6, c7, c8, c9, c10, c11⟩ := call_at D hq
  have cl : (nI q).toNatClampNeg = q := nI_clamp (by omega)
  have hg := nI_b c1 (show 24 < 2 ^ 31 by decide)
  obtain ⟨σ1, a1, a2⟩ := marginC D Q hk hq
  obtain ⟨σ2, b1, b2⟩ := bandC D (Q.kp a2) hk hq
  have Q2 := (Q.kp a2).kp b2
  unfold fC_P_isOffside fC_P_isOffside_j20 offS aheadS
  rw [a1, cal_eq, b1, cal_eq]
  by_cases h : marginS τ0 c w s f k q ≤ bandS τ0 c w k q
  · have hA : decide (bandS τ0 c w k q < marginS τ0 c w s f k q) = false := decide_eq_false (by rw [lt_n]; rw [le_n] at h; omega)
    rw [if_pos h, if_pos rfl, hA, Bool.false_and, if_neg (by decide)]
    exact ⟨σ2, rfl, a2.tr b2⟩
  · have hA : decide (bandS τ0 c w k q < marginS τ0 c w s f k q) = true := decide_eq_true (by rw [lt_n]; rw [le_n] at h; omega)
    obtain ⟨e46, e47, e48, e49, _⟩ := QC_arr D Q2
    obtain ⟨σ3, d1, d2⟩ := ruledC D Q2 (key := 2) (t := τ0.2.1 16 q) (by decide) c3
    rw [if_neg h, if_neg (show ¬ (1 : Int32) = 0 by decide), hA, Bool.true_and, giN 24 hg, giN 24 hg, cl, e47, e49, c4, show (2 : Int32) = nI 2 from rfl, d1, cal_eq]
    simp only [decide_eq_true_eq]
    by_cases hz : ruleS τ0 c 2 (aN τ0 q) (τ0.2.1 16 q) w = 0
    · rw [if_pos hz, if_neg (fun z => z hz)]
      exact ⟨σ3, rfl, (a2.tr b2).tr d2⟩
    · rw [if_neg hz, if_pos hz]
      exact ⟨σ3, rfl, (a2.tr b2).tr d2⟩
/-! spread, ways -/
def spreadS (τ : St) (k q : Nat) : Int32 := if k = 2 ∨ k = 3 then τ.2.1 12 (crN τ q) else 0
theorem spreadC (D : DD n1 n3 n4 n5 r c σ0 τ0) {σ : St} (Q : QC σ0 w s f σ) {k q : Nat} (hk : k < 6) (hq : q < n5) (ek : τ0.2.1 13 q = nI k) : fC_P_spreadOf N0 σ (nI q) = some (σ, spreadS τ0 k q) := by
  obtain ⟨c1, _, c3, c4, c5, c6, c7, c8, c9, c10, c11⟩ := call_at D hq
  obtain ⟨e46, e47, e48, e49, e50, e51, e34, e39, e40, _⟩ := QC_arr D Q
  have cl : (nI q).toNatClampNeg = q := nI_clamp (by omega)
  have hg := nI_b c1 (show 24 < 2 ^ 31 by decide)
  unfold fC_P_spreadOf spreadS
  rw [giN 24 hg, cl, e46, ek, bnd_eq, show (2 : Int32) = nI 2 from rfl, q_isUnder hk (by decide), cal_eq]
  rcases lt6 hk with rfl | rfl | rfl | rfl | rfl | rfl
  · rfl
  · rfl
  · rw [if_neg (by decide), if_neg (by decide), giN 24 hg, e51, c11, giN 6 (nI_b c10 (by decide)), nI_clamp (show crN τ0 q < 2 ^ 31 by omega), e40, if_pos (by decide)]
  · rw [if_neg (by decide), if_neg (by decide), giN 24 hg, e51, c11, giN 6 (nI_b c10 (by decide)), nI_clamp (show crN τ0 q < 2 ^ 31 by omega), e40, if_pos (by decide)]
  · rfl
  · rfl
theorem spreadM (D : DD n1 n3 n4 n5 r c σ0 τ0) {τ : St} (Q : QM τ0 w s f τ) {k q : Nat} (hk : k < 6) (hq : q < n5) (ek : τ0.2.1 13 q = nI k) : fM_spreadOf N0 τ (nI q) = some (τ, spreadS τ0 k q) := by
  obtain ⟨c1, _, c3, c4, c5, c6, c7, c8, c9, c10, c11⟩ := call_at D hq
  obtain ⟨e13, e14, e15, e16, e17, e18, e6, e11, e12, _⟩ := QM_arr D Q
  have cl : (nI q).toNatClampNeg = q := nI_clamp (by omega)
  have hg := nI_b c1 (show 24 < 2 ^ 31 by decide)
  unfold fM_spreadOf fM_spreadOf_j20 spreadS
  rw [giN 24 hg, cl, e13, ek]
  rcases lt6 hk with rfl | rfl | rfl | rfl | rfl | rfl
  · rw [if_neg (by decide), giN 24 hg, if_neg (by decide), if_neg (by decide)]
  · rw [if_neg (by decide), giN 24 hg, if_neg (by decide), if_neg (by decide)]
  · rw [if_pos (by decide), giN 24 hg, e18, c11, giN 6 (nI_b c10 (by decide)), nI_clamp (show crN τ0 q < 2 ^ 31 by omega), e12, if_pos (by decide)]
  · rw [if_neg (by decide), giN 24 hg, if_pos (by decide), giN 24 hg, e18, c11, giN 6 (nI_b c10 (by decide)), nI_clamp (show crN τ0 q < 2 ^ 31 by omega), e12, if_pos (by decide)]
  · rw [if_neg (by decide), giN 24 hg, if_neg (by decide), if_neg (by decide)]
  · rw [if_neg (by decide), giN 24 hg, if_neg (by decide), if_neg (by decide)]
end CALLS2
