/-! calls as numbers -/
def aN (τ : St) (q : Nat) : Nat := (τ.2.1 14 q).toNatClampNeg
def bN (τ : St) (q : Nat) : Nat := (τ.2.1 15 q).toNatClampNeg
def caN (τ : St) (q : Nat) : Nat := (τ.2.1 17 q).toNatClampNeg
def crN (τ : St) (q : Nat) : Nat := (τ.2.1 18 q).toNatClampNeg
def frameS (τ : St) (ca : Nat) (t : Int32) : Int32 := if t < τ.2.1 9 ca then τ.2.1 9 ca else t - ((t - τ.2.1 9 ca) - (t - τ.2.1 9 ca) / τ.2.1 8 ca * τ.2.1 8 ca)
def seenS (τ : St) (ca : Nat) (p : Int32) : Int32 := p + ((τ.2.1 10 ca * p) / (1000 : Int32))
def leanS (τ : St) (cr m : Nat) : Int32 := if τ.2.1 6 m ≤ 0 then -(τ.2.1 11 cr) else τ.2.1 11 cr
def trueS (τ : St) (c : Nat → List Int32) (w s f : Int32) (q : Nat) (t : Int32) : Int32 := frontS τ c w s f (aN τ q) t - frontS τ c w s f (bN τ q) t
def flagS (τ : St) (q : Nat) : Int32 := (2 : Int32) * (τ.2.1 6 (aN τ q) - τ.2.1 6 (bN τ q))
def crossS (τ : St) (c : Nat → List Int32) (w s f : Int32) (q m : Nat) : Int32 := seenS τ (caN τ q) (frontS τ c w s f m (frameS τ (caN τ q) (τ.2.1 16 q)))
def marginS (τ : St) (c : Nat → List Int32) (w s f : Int32) (k q : Nat) : Int32 :=
  if k = 1 then trueS τ c w s f q (τ.2.1 16 q) + flagS τ q
  else if k = 4 then (trueS τ c w s f q (τ.2.1 16 q) + flagS τ q) - 10
  else if k = 5 then (crossS τ c w s f q (aN τ q) - crossS τ c w s f q (bN τ q)) - 2
  else if k = 2 ∨ k = 3 then ((crossS τ c w s f q (aN τ q) - crossS τ c w s f q (bN τ q)) + leanS τ (crN τ q) (aN τ q)) - leanS τ (crN τ q) (bN τ q)
  else trueS τ c w s f q (τ.2.1 16 q)
def clampS (x : Int32) : Int32 := if 0 ≤ x then (if x ≤ (999 : Int32) then x else 999) else 0
def bandS (τ : St) (c : Nat → List Int32) (w : Int32) (k q : Nat) : Int32 :=
  if k = 2 then 1 else if k = 3 then (1 : Int32) + clampS (ruleS τ c 1 (aN τ q) (τ.2.1 16 q) w) else if k = 4 then 3 else if k = 5 then 1 else 0
def aheadS (τ : St) (c : Nat → List Int32) (w s f : Int32) (k q : Nat) : Bool := decide (bandS τ c w k q < marginS τ c w s f k q)
def offS (τ : St) (c : Nat → List Int32) (w s f : Int32) (k q : Nat) : Bool := aheadS τ c w s f k q && decide (ruleS τ c 2 (aN τ q) (τ.2.1 16 q) w ≠ 0)
theorem clamp_c (x : Int32) : (if (0 : Int32) < (if x < (999 : Int32) then x else (999 : Int32)) then (if x < (999 : Int32) then x else (999 : Int32)) else (0 : Int32)) = clampS x := by
  have z0 : (0 : Int32).toInt = 0 := rfl
  have z9 : (999 : Int32).toInt = 999 := rfl
  unfold clampS
  by_cases h1 : x < 999
  · rw [if_pos h1]
    rw [lt_n, z9] at h1
    by_cases h2 : 0 < x
    · rw [if_pos h2]
      rw [lt_n, z0] at h2
      rw [if_pos (by rw [le_n]; omega), if_pos (by rw [le_n]; omega)]
    · rw [if_neg h2]
      rw [lt_n, z0] at h2
      by_cases h3 : 0 ≤ x
      · rw [if_pos h3, if_pos (by rw [le_n]; omega)]
        rw [le_n, z0] at h3
        exact Int32.toInt_inj.mp (by omega)
      · rw [if_neg h3]
  · rw [if_neg h1, if_pos (by decide)]
    rw [lt_n, z9] at h1
    rw [if_pos (by rw [le_n]; omega)]
    by_cases h2 : x ≤ 999
    · rw [if_pos h2]
      rw [le_n, z9] at h2
      exact Int32.toInt_inj.mp (by omega)
    · rw [if_neg h2]
theorem ring_lean (A B x y : Int32) : ((A - B) + x) - y = (A + x) - (B + y) := by
  rw [Int32.sub_eq_add_neg, Int32.sub_eq_add_neg, Int32.sub_eq_add_neg, Int32.neg_add, Int32.add_assoc, Int32.add_assoc, Int32.add_assoc]
  congr 1
  rw [← Int32.add_assoc, Int32.add_comm (-B) x, Int32.add_assoc]
  rw [Int32.sub_eq_add_neg]
section CALLS
variable {n1 n3 n4 n5 r : Nat} {c : Nat → List Int32} {σ0 τ0 : St} {w s f : Int32}
/-- what stands of a call -/
theorem call_at (D : DD n1 n3 n4 n5 r c σ0 τ0) {q : Nat} (hq : q < n5) : q < 24 ∧ (∃ k, k < 6 ∧ τ0.2.1 13 q = nI k) ∧ aN τ0 q < 10 ∧ τ0.2.1 14 q = nI (aN τ0 q) ∧ bN τ0 q < 10 ∧ τ0.2.1 15 q = nI (bN τ0 q) ∧ caN τ0 q < n3 ∧ n3 ≤ 4 ∧ τ0.2.1 17 q = nI (caN τ0 q) ∧ crN τ0 q < 6 ∧ τ0.2.1 18 q = nI (crN τ0 q) := by
  obtain ⟨h1, h3, h4, h5, _⟩ := D
  obtain ⟨g1, g2, g3, g4, g5, g6, g7, g8, g9, g10⟩ := h5
  obtain ⟨q1, q2, q3, q4, q5, q6, q7⟩ := g10 q hq
  have hn1 := h1.1
  have hn3 := h3.1
  have hn4 := h4.1
  obtain ⟨k, hk, hk2, ek⟩ := bt_nI q1
  obtain ⟨a, ha, ha2, ea⟩ := bt_nI q2
  obtain ⟨b, hb, hb2, eb⟩ := bt_nI q3
  obtain ⟨ca, hca, hca2, eca⟩ := bt_nI q5
  obtain ⟨cr, hcr, hcr2, ecr⟩ := bt_nI q6
  have e1 : aN τ0 q = a := by unfold aN; rw [ea, nI_clamp ha2]
  have e2 : bN τ0 q = b := by unfold bN; rw [eb, nI_clamp hb2]
  have e3 : caN τ0 q = ca := by unfold caN; rw [eca, nI_clamp hca2]
  have e4 : crN τ0 q = cr := by unfold crN; rw [ecr, nI_clamp hcr2]
  rw [e1, e2, e3, e4]
  exact ⟨by omega, ⟨k, by omega, ek⟩, by omega, ea, by omega, eb, by omega, hn3, eca, by omega, ecr⟩
theorem frameC (D : DD n1 n3 n4 n5 r c σ0 τ0) {σ : St} (Q : QC σ0 w s f σ) {ca : Nat} {t : Int32} (hc : ca < n3) : fC_A_frameFor N0 σ (nI ca) t = some (σ, frameS τ0 ca t) := by
  obtain ⟨k1, k2, k3, k4, k5, k6, k7, k8, k9⟩ := D.2.1
  have e36 : σ.2.1 36 = τ0.2.1 8 := (Q.1.2 36 (by decide)).trans k4
  have e37 : σ.2.1 37 = τ0.2.1 9 := (Q.1.2 37 (by decide)).trans k5
  have he := k7 ca hc
  have cl : (nI ca).toNatClampNeg = ca := nI_clamp (by omega)
  have hg := nI_b (show ca < 4 by omega) (by decide)
  unfold fC_A_frameFor frameS
  simp only [giN 4 hg, bnd_eq, e36, e37, cl]
  by_cases h1 : t < τ0.2.1 9 ca
  · rw [if_pos h1, if_pos h1]
  · rw [if_neg h1, if_neg h1, if_pos (by rw [le_n]; exact he.1), gd_ok]
    intro h; rw [h] at he; exact absurd he.1 (by decide)
theorem frameM (D : DD n1 n3 n4 n5 r c σ0 τ0) {τ : St} (Q : QM τ0 w s f τ) {ca : Nat} {t : Int32} (hc : ca < n3) : fM_frameOf N0 τ (nI ca) t = some (τ, frameS τ0 ca t) := by
  obtain ⟨k1, k2, k3, k4, k5, k6, k7, k8, k9⟩ := D.2.1
  have e8 : τ.2.1 8 = τ0.2.1 8 := Q.1.2 8 (by decide)
  have e9 : τ.2.1 9 = τ0.2.1 9 := Q.1.2 9 (by decide)
  have he := k7 ca hc
  have cl : (nI ca).toNatClampNeg = ca := nI_clamp (by omega)
  have hg := nI_b (show ca < 4 by omega) (by decide)
  unfold fM_frameOf frameS
  simp only [giN 4 hg, e8, e9, cl]
  by_cases h1 : t < τ0.2.1 9 ca
  · rw [if_neg (by rw [le_n]; rw [lt_n] at h1; omega), if_pos h1]
  · rw [if_pos (by rw [le_n]; rw [lt_n] at h1; omega), if_neg h1, gd_ok]
    intro h; rw [h] at he; exact absurd he.1 (by decide)
theorem seenC (D : DD n1 n3 n4 n5 r c σ0 τ0) {σ : St} (Q : QC σ0 w s f σ) {ca : Nat} {p : Int32} (hc : ca < n3) : fC_A_seenAt N0 σ (nI ca) p = some (σ, seenS τ0 ca p) := by
  obtain ⟨k1, k2, k3, k4, k5, k6, k7, k8, k9⟩ := D.2.1
  have e38 : σ.2.1 38 = τ0.2.1 10 := (Q.1.2 38 (by decide)).trans k6
  unfold fC_A_seenAt seenS
  rw [giN 4 (nI_b (by omega) (by decide)), nI_clamp (by omega), e38]
theorem seenM (D : DD n1 n3 n4 n5 r c σ0 τ0) {τ : St} (Q : QM τ0 w s f τ) {ca : Nat} {p : Int32} (hc : ca < n3) : fM_seen N0 τ (nI ca) p = some (τ, seenS τ0 ca p) := by
  have k1 := D.2.1.1
  have e10 : τ.2.1 10 = τ0.2.1 10 := Q.1.2 10 (by decide)
  unfold fM_seen seenS
  rw [giN 4 (nI_b (by omega) (by decide)), nI_clamp (by omega), e10]
theorem QC_arr (D : DD n1 n3 n4 n5 r c σ0 τ0) {σ : St} (Q : QC σ0 w s f σ) : σ.2.1 46 = τ0.2.1 13 ∧ σ.2.1 47 = τ0.2.1 14 ∧ σ.2.1 48 = τ0.2.1 15 ∧ σ.2.1 49 = τ0.2.1 16 ∧ σ.2.1 50 = τ0.2.1 17 ∧ σ.2.1 51 = τ0.2.1 18 ∧ σ.2.1 34 = τ0.2.1 6 ∧ σ.2.1 39 = τ0.2.1 11 ∧ σ.2.1 40 = τ0.2.1 12 ∧ σ.1 19 = nI n5 := by
  obtain ⟨h1, h3, h4, h5, _⟩ := D
  obtain ⟨g1, g2, g3, g4, g5, g6, g7, g8, g9, g10⟩ := h5
  refine ⟨?_, ?_, ?_, ?_, ?_, ?_, ?_, ?_, ?_, ?_⟩
  · rw [Q.1.2 46 (by decide)]; exact g4
  · rw [Q.1.2 47 (by decide)]; exact g5
  · rw [Q.1.2 48 (by decide)]; exact g6
  · rw [Q.1.2 49 (by decide)]; exact g7
  · rw [Q.1.2 50 (by decide)]; exact g8
  · rw [Q.1.2 51 (by decide)]; exact g9
  · rw [Q.1.2 34 (by decide)]; exact h1.2.2.2.2.2.1
  · rw [Q.1.2 39 (by decide)]; exact h4.2.2.2.1
  · rw [Q.1.2 40 (by decide)]; exact h4.2.2.2.2.1
  · rw [Q.1.1 19 (by decide)]; exact g2
theorem QM_arr (D : DD n1 n3 n4 n5 r c σ0 τ0) {τ : St} (Q : QM τ0 w s f τ) : τ.2.1 13 = τ0.2.1 13 ∧ τ.2.1 14 = τ0.2.1 14 ∧ τ.2.1 15 = τ0.2.1 15 ∧ τ.2.1 16 = τ0.2.1 16 ∧ τ.2.1 17 = τ0.2.1 17 ∧ τ.2.1 18 = τ0.2.1 18 ∧ τ.2.1 6 = τ0.2.1 6 ∧ τ.2.1 11 = τ0.2.1 11 ∧ τ.2.1 12 = τ0.2.1 12 ∧ τ.1 23 = nI n5 := by
  refine ⟨Q.1.2 13 (by decide), Q.1.2 14 (by decide), Q.1.2 15 (by decide), Q.1.2 16 (by decide), Q.1.2 17 (by decide), Q.1.2 18 (by decide), Q.1.2 6 (by decide), Q.1.2 11 (by decide), Q.1.2 12 (by decide), ?_⟩
  rw [Q.1.1 23 (by decide)]; exact D.2.2.2.1.2.2.1
theorem leanC (D : DD n1 n3 n4 n5 r c σ0 τ0) {σ : St} (Q : QC σ0 w s f σ) {q m : Nat} (hq : q < n5) (hm : m < 10) : fC_P_leanOn N0 σ (nI q) (nI m) = some (σ, leanS τ0 (crN τ0 q) m) := by
  obtain ⟨c1, _, _, _, _, _, _, _, _, c10, c11⟩ := call_at D hq
  obtain ⟨_, _, _, _, _, e51, e34, e39, _, _⟩ := QC_arr D Q
  have cl : (nI q).toNatClampNeg = q := nI_clamp (by omega)
  have clm : (nI m).toNatClampNeg = m := nI_clamp (by omega)
  unfold fC_P_leanOn leanS
  rw [giN 24 (nI_b c1 (by decide)), cl, e51, c11, giN 6 (nI_b c10 (by decide)), nI_clamp (show crN τ0 q < 2 ^ 31 by omega), bnd_eq, giN 10 (nI_b hm (by decide)), clm, e34, e39]
  split <;> rfl
theorem trueC (D : DD n1 n3 n4 n5 r c σ0 τ0) {σ : St} (Q : QC σ0 w s f σ) {q : Nat} {t : Int32} (hq : q < n5) : CV σ (fC_P_trueMargin N0 σ (nI q) t) (trueS τ0 c w s f q t) := by
  obtain ⟨c1, _, c3, c4, c5, c6, _⟩ := call_at D hq
  obtain ⟨_, e47, _⟩ := QC_arr D Q
  have cl : (nI q).toNatClampNeg = q := nI_clamp (by omega)
  unfold fC_P_trueMargin
  rw [giN 24 (nI_b c1 (by decide)), cl, e47, c4]
  obtain ⟨σ1, a1, a2⟩ := frontC D Q (t := t) c3
  obtain ⟨_, _, e48, _⟩ := QC_arr D (Q.kp a2)
  rw [a1, cal_eq, giN 24 (nI_b c1 (by decide)), e48, c6]
  obtain ⟨σ2, b1, b2⟩ := frontC D (Q.kp a2) (t := t) c5
  rw [b1, cal_eq]
  exact ⟨σ2, rfl, a2.tr b2⟩
theorem trueM (D : DD n1 n3 n4 n5 r c σ0 τ0) {τ : St} (Q : QM τ0 w s f τ) {q : Nat} {t : Int32} (hq : q < n5) : MV1 τ (fM_trueMargin N0 τ (nI q) t) (trueS τ0 c w s f q t) := by
  obtain ⟨c1, _, c3, c4, c5, c6, _⟩ := call_at D hq
  obtain ⟨_, e14, _⟩ := QM_arr D Q
  have cl : (nI q).toNatClampNeg = q := nI_clamp (by omega)
  unfold fM_trueMargin
  rw [giN 24 (nI_b c1 (by decide)), cl, e14, c4]
  obtain ⟨τ1, a1, a2⟩ := frontM D Q (t := t) c3
  obtain ⟨_, _, e15, _⟩ := QM_arr D (Q.kp a2)
  rw [a1, cal_eq, giN 24 (nI_b c1 (by decide)), e15, c6]
  obtain ⟨τ2, b1, b2⟩ := frontM D (Q.kp a2) (t := t) c5
  rw [b1, cal_eq]
  exact ⟨τ2, rfl, a2.tr b2⟩
theorem crossM (D : DD n1 n3 n4 n5 r c σ0 τ0) {τ : St} (Q : QM τ0 w s f τ) {q m : Nat} (hq : q < n5) (hm : m < 10) (l : Bool) : MV1 τ (fM_crossed N0 τ (nI q) (nI m) (frameS τ0 (caN τ0 q) (τ0.2.1 16 q)) (if l = true then 1 else 0)) (crossS τ0 c w s f q m + (if l = true then leanS τ0 (crN τ0 q) m else 0)) := by
  obtain ⟨c1, _, c3, c4, c5, c6, c7, c8, c9, c10, c11⟩ := call_at D hq
  obtain ⟨_, _, _, _, e17, _⟩ := QM_arr D Q
  have cl : (nI q).toNatClampNeg = q := nI_clamp (by omega)
  have clm : (nI m).toNatClampNeg = m := nI_clamp (by omega)
  obtain ⟨τ1, a1, a2⟩ := frontM D Q (t := frameS τ0 (caN τ0 q) (τ0.2.1 16 q)) hm
  have Q1 := Q.kp a2
  obtain ⟨_, _, _, _, _, f18, f6, f11, _⟩ := QM_arr D Q1
  unfold fM_crossed
  rw [giN 24 (nI_b c1 (by decide)), cl, e17, c9, a1, cal_eq, seenM D Q1 c7, cal_eq]
  have e : seenS τ0 (caN τ0 q) (frontS τ0 c w s f m (frameS τ0 (caN τ0 q) (τ0.2.1 16 q))) = crossS τ0 c w s f q m := rfl
  rw [e]
  unfold fM_crossed_j38
  cases l with
  | true =>
    rw [if_neg (by decide), giN 24 (nI_b c1 (by decide)), f18, c11, giN 6 (nI_b c10 (by decide)), nI_clamp (show crN τ0 q < 2 ^ 31 by omega), giN 10 (nI_b hm (by decide)), clm, f6, f11]
    show MV1 τ _ (crossS τ0 c w s f q m + leanS τ0 (crN τ0 q) m)
    unfold leanS
    by_cases h6 : τ0.2.1 6 m ≤ 0
    · rw [if_pos h6, if_pos h6]
      exact ⟨τ1, by rw [Int32.sub_eq_add_neg], a2⟩
    · rw [if_neg h6, if_neg h6]
      exact ⟨τ1, rfl, a2⟩
  | false =>
    rw [if_pos (show (if false = true then (1 : Int32) else 0) = 0 from rfl), giN 10 (nI_b hm (by decide)), clm, f6]
    show MV1 τ _ (crossS τ0 c w s f q m + 0)
    by_cases h6 : τ0.2.1 6 m ≤ 0
    · rw [if_pos h6]
      exact ⟨τ1, by rw [Int32.sub_zero, Int32.add_zero], a2⟩
    · rw [if_neg h6]
      exact ⟨τ1, rfl, a2⟩
theorem marginC (D : DD n1 n3 n4 n5 r c σ0 τ0) {σ : St} (Q : QC σ0 w s f σ) {k q : Nat} (hk : k < 6) (hq : q < n5) : CV σ (fC_P_marginOf N0 σ (nI k) (nI q)) (marginS τ0 c w s f k q) := by
  obtain ⟨c1, _, c3, c4, c5, c6, c7, c8, c9, c10, c11⟩ := call_at D hq
  obtain ⟨e46, e47, e48, e49, e50, e51, e34, _⟩ := QC_arr D Q
  have cl : (nI q).toNatClampNeg = q := nI_clamp (by omega)
  have hg := nI_b c1 (show 24 < 2 ^ 31 by decide)
  unfold fC_P_marginOf
  simp only [giN 24 hg, cl, bnd_eq, e47, e48, e49, c4, c6]
  rw [show (2 : Int32) = nI 2 from rfl, q_isUnder hk (by decide), cal_eq]
  by_cases hu : und k 2 = true
  · rw [if_pos hu, if_neg (by decide), e50, c9, frameC D Q c7, cal_eq]
    obtain ⟨σ1, a1, a2⟩ := frontC D Q (t := frameS τ0 (caN τ0 q) (τ0.2.1 16 q)) c3
    rw [a1, cal_eq, seenC D (Q.kp a2) c7, cal_eq]
    obtain ⟨σ2, b1, b2⟩ := frontC D (Q.kp a2) (t := frameS τ0 (caN τ0 q) (τ0.2.1 16 q)) c5
    have Q2 := (Q.kp a2).kp b2
    rw [b1, cal_eq, seenC D Q2 c7, cal_eq]
    have k5 : k = 2 ∨ k = 3 ∨ k = 5 := by
      have : ∀ k, k < 6 → und k 2 = true → k = 2 ∨ k = 3 ∨ k = 5 := by decide
      exact this k hk hu
    unfold marginS
    by_cases h5 : k = 5
    · subst h5
      rw [if_pos rfl]
      exact ⟨σ2, rfl, a2.tr b2⟩
    · have h23 : k = 2 ∨ k = 3 := by omega
      rw [if_neg (by rw [show (5 : Int32) = nI 5 from rfl, nI_eq (by omega) (by decide)]; exact h5), leanC D Q2 hq c3, cal_eq, leanC D Q2 hq c5, cal_eq, if_neg (by omega), if_neg (by omega), if_neg h5, if_pos h23]
      exact ⟨σ2, rfl, a2.tr b2⟩
  · rw [if_neg hu, if_pos rfl]
    obtain ⟨σ1, a1, a2⟩ := frontC D Q (t := τ0.2.1 16 q) c3
    rw [a1, cal_eq]
    obtain ⟨σ2, b1, b2⟩ := frontC D (Q.kp a2) (t := τ0.2.1 16 q) c5
    have Q2 := (Q.kp a2).kp b2
    rw [b1, cal_eq, show (1 : Int32) = nI 1 from rfl, q_isUnder hk (by decide), cal_eq]
    obtain ⟨_, _, _, _, _, _, f34, _⟩ := QC_arr D Q2
    have k5 : k = 0 ∨ k = 1 ∨ k = 4 := by
      have : ∀ k, k < 6 → ¬ und k 2 = true → k = 0 ∨ k = 1 ∨ k = 4 := by decide
      exact this k hk hu
    unfold fC_P_marginOf_j93 marginS
    rw [giN 10 (nI_b c3 (by decide)), giN 10 (nI_b c5 (by decide)), nI_clamp (show aN τ0 q < 2 ^ 31 by omega), nI_clamp (show bN τ0 q < 2 ^ 31 by omega), f34]
    rcases k5 with rfl | rfl | rfl
    · exact ⟨σ2, rfl, a2.tr b2⟩
    · exact ⟨σ2, rfl, a2.tr b2⟩
    · exact ⟨σ2, rfl, a2.tr b2⟩
theorem marginM (D : DD n1 n3 n4 n5 r c σ0 τ0) {τ : St} (Q : QM τ0 w s f τ) {k q : Nat} (hk : k < 6) (hq : q < n5) : MV1 τ (fM_marginBy N0 τ (nI q) (nI k)) (marginS τ0 c w s f k q) := by
  obtain ⟨c1, _, c3, c4, c5, c6, c7, c8, c9, c10, c11⟩ := call_at D hq
  obtain ⟨e13, e14, e15, e16, e17, e18, e6, _⟩ := QM_arr D Q
  have cl : (nI q).toNatClampNeg = q := nI_clamp (by omega)
  have hg := nI_b c1 (show 24 < 2 ^ 31 by decide)
  unfold fM_marginBy
  simp only [giN 24 hg, cl, e16, e17, c9]
  rw [frameM D Q c7, cal_eq, e14, e15, c4, c6, giN 10 (nI_b c3 (by decide)), giN 10 (nI_b c5 (by decide)), nI_clamp (show aN τ0 q < 2 ^ 31 by omega), nI_clamp (show bN τ0 q < 2 ^ 31 by omega), e6, bnd_eq, e16]
  obtain ⟨τ1, a1, a2⟩ := trueM D Q (t := τ0.2.1 16 q) hq
  have two : ∀ l : Bool, ∃ τ1 τ2, fM_crossed N0 τ (nI q) (nI (aN τ0 q)) (frameS τ0 (caN τ0 q) (τ0.2.1 16 q)) (if l = true then 1 else 0) = some (τ1, crossS τ0 c w s f q (aN τ0 q) + (if l = true then leanS τ0 (crN τ0 q) (aN τ0 q) else 0)) ∧ τ1.2.1 15 q = nI (bN τ0 q) ∧ fM_crossed N0 τ1 (nI q) (nI (bN τ0 q)) (frameS τ0 (caN τ0 q) (τ0.2.1 16 q)) (if l = true then 1 else 0) = some (τ2, crossS τ0 c w s f q (bN τ0 q) + (if l = true then leanS τ0 (crN τ0 q) (bN τ0 q) else 0)) ∧ KP fE [] τ τ2 := by
    intro l
    obtain ⟨τ1, p1, p2⟩ := crossM D Q hq c3 l
    obtain ⟨τ2, q1, q2⟩ := crossM D (Q.kp p2) hq c5 l
    obtain ⟨_, _, f15, _⟩ := QM_arr D (Q.kp p2)
    exact ⟨τ1, τ2, p1, by rw [f15]; exact c6, q1, p2.tr q2⟩
  have hl : ∃ τ1 τ2, fM_crossed N0 τ (nI q) (nI (aN τ0 q)) (frameS τ0 (caN τ0 q) (τ0.2.1 16 q)) 1 = some (τ1, crossS τ0 c w s f q (aN τ0 q) + leanS τ0 (crN τ0 q) (aN τ0 q)) ∧ τ1.2.1 15 q = nI (bN τ0 q) ∧ fM_crossed N0 τ1 (nI q) (nI (bN τ0 q)) (frameS τ0 (caN τ0 q) (τ0.2.1 16 q)) 1 = some (τ2, crossS τ0 c w s f q (bN τ0 q) + leanS τ0 (crN τ0 q) (bN τ0 q)) ∧ KP fE [] τ τ2 := two true
  have hn : ∃ τ1 τ2, fM_crossed N0 τ (nI q) (nI (aN τ0 q)) (frameS τ0 (caN τ0 q) (τ0.2.1 16 q)) 0 = some (τ1, crossS τ0 c w s f q (aN τ0 q) + 0) ∧ τ1.2.1 15 q = nI (bN τ0 q) ∧ fM_crossed N0 τ1 (nI q) (nI (bN τ0 q)) (frameS τ0 (caN τ0 q) (τ0.2.1 16 q)) 0 = some (τ2, crossS τ0 c w s f q (bN τ0 q) + 0) ∧ KP fE [] τ τ2 := two false
  rcases lt6 hk with rfl | rfl | rfl | rfl | rfl | rfl
  · rw [if_neg (by decide), if_neg (by decide), if_neg (by decide), if_neg (by decide), if_neg (by decide), a1]
    exact ⟨τ1, rfl, a2⟩
  · rw [if_pos (by decide), a1]
    exact ⟨τ1, rfl, a2⟩
  · rw [if_neg (by decide), if_pos (by decide)]
    obtain ⟨τ1, τ2, p1, p2, p3, p4⟩ := hl
    rw [p1, cal_eq, p2, p3, cal_eq]
    refine ⟨τ2, ?_, p4⟩
    rw [← ring_lean]; rfl
  · rw [if_neg (by decide), if_neg (by decide), if_pos (by decide)]
    obtain ⟨τ1, τ2, p1, p2, p3, p4⟩ := hl
    rw [p1, cal_eq, p2, p3, cal_eq]
    refine ⟨τ2, ?_, p4⟩
    rw [← ring_lean]; rfl
  · rw [if_neg (by decide), if_neg (by decide), if_neg (by decide), if_pos (by decide), a1]
    exact ⟨τ1, rfl, a2⟩
  · rw [if_neg (by decide), if_neg (by decide), if_neg (by decide), if_neg (by decide), if_pos (by decide)]
    obtain ⟨τ1, τ2, p1, p2, p3, p4⟩ := hn
    rw [p1, cal_eq, p2, p3, cal_eq]
    refine ⟨τ2, ?_, p4⟩
    rw [Int32.add_zero, Int32.add_zero]; rfl
end CALLS
