/-! sheets as widths -/
theorem widths_l {N1 N2 s m : Nat} (hs : s < 4) (hm : m ≤ 40) {σ τ : St} (h26 : σ.2.1 26 s = nI m) (h32 : τ.2.1 32 s = nI m) (hit : ∀ i, i < m → σ.2.1 27 (40 * s + i) = τ.2.1 33 (40 * s + i)) : ∀ (d i FC FM : Nat), i + d = m → d < FC → d < FM → ∃ v, fC_H_refusalAsWidths_l31 N1 FC σ (nI s) (nI i) = some (σ, v) ∧ fM_widths_l34 N2 FM τ (nI s) (nI i) = some (τ, v) ∧ (v = 0 → ∀ j, i ≤ j → j < m → bt (τ.2.1 33 (40 * s + j)) 0 999) := by
  intro d
  have ec : (nI s).toNatClampNeg = s := nI_clamp (by omega)
  have hg := nI_b hs (show 4 < 2 ^ 31 by decide)
  induction d with
  | zero =>
    intro i FC FM h1 h2 h3
    obtain ⟨FC, rfl⟩ : ∃ k, FC = k + 1 := ⟨FC - 1, by omega⟩
    obtain ⟨FM, rfl⟩ : ∃ k, FM = k + 1 := ⟨FM - 1, by omega⟩
    have e : nI m ≤ nI i := by rw [nI_leI (by omega) (by omega)]; omega
    refine ⟨0, ?_, ?_, fun _ j h4 h5 => by omega⟩
    · show gi (nI s) 4 _ = _
      rw [giN 4 hg, ec, h26, if_pos e]
    · show gi (nI s) 4 _ = _
      rw [giN 4 hg, ec, h32, if_pos e]
  | succ d ih =>
    intro i FC FM h1 h2 h3
    obtain ⟨FC, rfl⟩ : ∃ k, FC = k + 1 := ⟨FC - 1, by omega⟩
    obtain ⟨FM, rfl⟩ : ∃ k, FM = k + 1 := ⟨FM - 1, by omega⟩
    have e : ¬ nI m ≤ nI i := by rw [nI_leI (by omega) (by omega)]; omega
    have sC : fC_H_refusalAsWidths_l31 N1 (FC + 1) σ (nI s) (nI i) = if bt (τ.2.1 33 (40 * s + i)) 0 999 then fC_H_refusalAsWidths_l31 N1 FC σ (nI s) (nI (i + 1)) else some (σ, -2) := by
      show gi (nI s) 4 _ = _
      rw [giN 4 hg, ec, h26, if_neg e, q_itemOf hs hm h26 (by omega), cal_eq, q_isWidth, cal_eq, ite_b, bnd_eq, nI_1, hit i (by omega)]
    have sM : fM_widths_l34 N2 (FM + 1) τ (nI s) (nI i) = if bt (τ.2.1 33 (40 * s + i)) 0 999 then fM_widths_l34 N2 FM τ (nI s) (nI (i + 1)) else some (τ, -2) := by
      show gi (nI s) 4 _ = _
      rw [giN 4 hg, ec, h32, if_neg e, ix40, giN 160 (nI_b (by omega) (by decide)), nI_clamp (by omega), qm_isWidth, cal_eq, ite_b, bnd_eq, nI_1]
    rw [sC, sM]
    by_cases hb : bt (τ.2.1 33 (40 * s + i)) 0 999
    · rw [if_pos hb, if_pos hb]
      obtain ⟨v, e1, e2, e3⟩ := ih (i + 1) FC FM (by omega) (by omega) (by omega)
      refine ⟨v, e1, e2, fun hv j h4 h5 => ?_⟩
      by_cases hj : j = i
      · rw [hj]; exact hb
      · exact e3 hv j (by omega) h5
    · rw [if_neg hb, if_neg hb]
      exact ⟨-2, rfl, rfl, fun z => absurd z (by decide)⟩
theorem q_widths {σ τ : St} (hR : Rel σ τ) {s : Nat} (hs : s < 4) : ∃ v, fC_H_refusalAsWidths N0 σ (nI s) = some (σ, v) ∧ fM_widths N0 τ (nI s) = some (τ, v) ∧ (v = 0 → ∃ m, 1 ≤ m ∧ m ≤ 8 ∧ σ.2.1 26 s = nI m ∧ τ.2.1 32 s = nI m ∧ ∀ i, i < m → σ.2.1 27 (40 * s + i) = τ.2.1 33 (40 * s + i) ∧ bt (τ.2.1 33 (40 * s + i)) 0 999) := by
  have h10 := Rel_10 hR
  have ec : (nI s).toNatClampNeg = s := nI_clamp (by omega)
  have hg := nI_b hs (show 4 < 2 ^ 31 by decide)
  unfold fC_H_refusalAsWidths fM_widths
  rw [q_H_miss hs, cal_eq, giN 4 hg, giN 4 hg, giN 4 hg, ec]
  rcases h10 s hs with ⟨g1, g2, g3⟩ | ⟨g1, g2, g3, g4, g5, g6⟩
  · have A1 : ¬ (if σ.2.1 25 s = -1 then (1 : Int32) else 0) = 0 := by rw [if_pos g1]; decide
    rw [if_neg A1, if_pos g3]
    exact ⟨-11, rfl, rfl, fun z => absurd z (by decide)⟩
  · have A1 : (if σ.2.1 25 s = -1 then (1 : Int32) else 0) = 0 := by rw [if_neg (bt_ne g1)]
    have A2 : ¬ τ.2.1 30 s = 0 := by rw [g2]; decide
    obtain ⟨m, hm, hm2, em⟩ := bt_nI g5
    have em2 : τ.2.1 32 s = nI m := g4.trans em
    rw [if_pos A1, if_neg A2, em, em2, w_1_8, i_1_8, cal_eq, cal_eq, ite_b, ite_b]
    by_cases hb : bt (nI m) 1 8
    · rw [if_pos hb, if_pos hb]
      have h1 := hb.1
      have h2 := hb.2
      rw [nI_toInt hm2] at h1 h2
      obtain ⟨v, e1, e2, e3⟩ := widths_l (N1 := N0) (N2 := N0) hs (by omega) em em2 (fun i hi => g6 i (by rw [em, nI_toInt hm2]; omega)) m 0 N0 N0 (by omega) (by unfold N0; omega) (by unfold N0; omega)
      rw [nI_0] at e1 e2
      refine ⟨v, e1, e2, fun hv => ⟨m, by omega, by omega, rfl, rfl, fun i hi => ⟨g6 i (by rw [em, nI_toInt hm2]; omega), e3 hv i (Nat.zero_le _) hi⟩⟩⟩
    · rw [if_neg hb, if_neg hb]
      exact ⟨-2, rfl, rfl, fun z => absurd z (by decide)⟩
/-! how many of some are wrong -/
def cF (P : Nat → Bool) : Nat → Nat → Int32 → Int32
  | 0, _, acc => acc
  | d + 1, i, acc => cF P d (i + 1) (if P i = true then acc + 1 else acc)
theorem cF_n {P : Nat → Bool} : ∀ (d i a : Nat), ∃ k, k ≤ d ∧ cF P d i (nI a) = nI (a + k) := by
  intro d
  induction d with
  | zero => intro i a; exact ⟨0, Nat.le_refl _, rfl⟩
  | succ d ih =>
    intro i a
    unfold cF
    by_cases h : P i = true
    · rw [if_pos h, nI_1]
      obtain ⟨k, h1, h2⟩ := ih (i + 1) (a + 1)
      exact ⟨k + 1, by omega, by rw [h2]; exact congrArg nI (by omega)⟩
    · rw [if_neg h]
      obtain ⟨k, h1, h2⟩ := ih (i + 1) a
      exact ⟨k, by omega, h2⟩
def pG (τ : St) (c : Nat → List Int32) (w : Int32) (bits : Int32) (i : Nat) : Bool := bit bits i && (offS τ c w (-1) 0 0 i && !offS τ c w (-1) 0 (kN τ i) i)
def pN (τ : St) (c : Nat → List Int32) (w : Int32) (bits : Int32) (i : Nat) : Bool := bit bits i && (offS τ c w (-1) 0 (kN τ i) i && !offS τ c w (-1) 0 0 i)
theorem bit_0 {x : Int32} {i : Nat} : (x >>> (nI i &&& 31)) &&& (1 : Int32) = 0 ∨ (x >>> (nI i &&& 31)) &&& (1 : Int32) = 1 := by
  rw [pk_and (x >>> (nI i &&& 31)) 1 (m := 1) (by decide)]
  have := Nat.mod_lt ((x >>> (nI i &&& 31)).toBitVec.toNat) (show 0 < 2 ^ 1 by decide)
  have h : (x >>> (nI i &&& 31)).toBitVec.toNat % 2 ^ 1 = 0 ∨ (x >>> (nI i &&& 31)).toBitVec.toNat % 2 ^ 1 = 1 := by omega
  rcases h with h | h
  · rw [h]; exact Or.inl rfl
  · rw [h]; exact Or.inr rfl
section WRONG
variable {n1 n3 n4 n5 r : Nat} {c : Nat → List Int32} {σ0 τ0 : St} {w : Int32}
theorem weigh_l (D : DD n1 n3 n4 n5 r c σ0 τ0) {bits : Int32} : ∀ (d i F : Nat) (σ : St), i + d = n5 → d < F → QC σ0 w (-1) 0 σ → ∃ σ', fC_P_weigh_l12 N0 F σ bits (nI i) = some (σ', ()) ∧ QC σ0 w (-1) 0 σ' ∧ σ'.1 7 = cF (pG τ0 c w bits) d i (σ.1 7) ∧ σ'.1 8 = cF (pN τ0 c w bits) d i (σ.1 8) := by
  have hn5 := D.2.2.2.1.1
  intro d
  induction d with
  | zero =>
    intro i F σ h1 h2 Q
    obtain ⟨F, rfl⟩ : ∃ k, F = k + 1 := ⟨F - 1, by omega⟩
    obtain ⟨_, _, _, _, _, _, _, _, _, e19⟩ := QC_arr D Q
    refine ⟨σ, ?_, Q, rfl, rfl⟩
    show (if σ.1 19 ≤ nI i then _ else _) = _
    rw [e19, if_pos (by rw [nI_leI (by omega) (by omega)]; omega)]
  | succ d ih =>
    intro i F σ h1 h2 Q
    obtain ⟨F, rfl⟩ : ∃ k, F = k + 1 := ⟨F - 1, by omega⟩
    obtain ⟨e46, _, _, _, _, _, _, _, _, e19⟩ := QC_arr D Q
    have hi : i < n5 := by omega
    obtain ⟨hk, ek⟩ := kind_at D hi
    have go : ∀ (σ2 : St), QC σ0 w (-1) 0 σ2 → σ2.1 7 = (if pG τ0 c w bits i = true then σ.1 7 + 1 else σ.1 7) → σ2.1 8 = (if pN τ0 c w bits i = true then σ.1 8 + 1 else σ.1 8) → ∃ σ', fC_P_weigh_j101 N0 (fC_P_weigh_l12 N0 F) σ2 bits (nI i) = some (σ', ()) ∧ QC σ0 w (-1) 0 σ' ∧ σ'.1 7 = cF (pG τ0 c w bits) (d + 1) i (σ.1 7) ∧ σ'.1 8 = cF (pN τ0 c w bits) (d + 1) i (σ.1 8) := by
      intro σ2 q1 q2 q3
      unfold fC_P_weigh_j101
      rw [bnd_eq, nI_1]
      obtain ⟨σ', e1, e2, e3, e4⟩ := ih (i + 1) F σ2 (by omega) (by omega) q1
      exact ⟨σ', e1, e2, by rw [e3, q2]; rfl, by rw [e4, q3]; rfl⟩
    show ∃ σ', (if σ.1 19 ≤ nI i then _ else _) = _ ∧ _
    rw [e19, if_neg (by rw [nI_leI (by omega) (by omega)]; omega)]
    by_cases hb : (bits >>> (nI i &&& 31)) &&& (1 : Int32) = 1
    · have hb' : bit bits i = true := decide_eq_true hb
      obtain ⟨σ1, a1, a2⟩ := offC D Q hk hi
      obtain ⟨σ2, b1, b2⟩ := offC D (Q.kp a2) (k := 0) (by decide) hi
      rw [nI_0] at b1
      have Q2 := (Q.kp a2).kp b2
      have f7 : σ2.1 7 = σ.1 7 := (a2.tr b2).1 7 (by decide)
      have f8 : σ2.1 8 = σ.1 8 := (a2.tr b2).1 8 (by decide)
      rw [if_pos hb, giN 24 (nI_b (by omega) (by decide)), nI_clamp (by omega), e46, ek, a1, cal_eq, b1, cal_eq]
      unfold fC_P_weigh_j73 fC_P_weigh_j74 fC_P_weigh_j96 fC_P_weigh_j97
      simp only [bnd_eq]
      have eG : pG τ0 c w bits i = (bit bits i && (offS τ0 c w (-1) 0 0 i && !offS τ0 c w (-1) 0 (kN τ0 i) i)) := rfl
      have eN : pN τ0 c w bits i = (bit bits i && (offS τ0 c w (-1) 0 (kN τ0 i) i && !offS τ0 c w (-1) 0 0 i)) := rfl
      have QQ : ∀ x y : Int32, QC σ0 w (-1) 0 (sI (sI σ2 7 x) 8 y) := fun x y => ⟨Q2.1.tr ((KP.i (by decide)).tr (KP.i (by decide))), Q2.2.1, Q2.2.2.1, Q2.2.2.2⟩
      have z1 : ¬ (1 : Int32) = 0 := by decide
      have z0 : (0 : Int32) = 0 := rfl
      have t1 : (if true = true then (1 : Int32) else 0) = 1 := rfl
      have t0 : (if false = true then (1 : Int32) else 0) = 0 := rfl
      cases hO : offS τ0 c w (-1) 0 (kN τ0 i) i <;> cases hT : offS τ0 c w (-1) 0 0 i <;> rw [hb', hO, hT] at eG eN
      · simp only [t0, if_pos z0]
        exact go _ (QQ _ _) (by rw [eG]; show σ2.1 7 + 0 = σ.1 7; rw [f7, Int32.add_zero]) (by rw [eN]; show σ2.1 8 + 0 = σ.1 8; rw [f8, Int32.add_zero])
      · simp only [t0, t1, if_pos z0, if_neg z1]
        exact go _ (QQ _ _) (by rw [eG]; show σ2.1 7 + 1 = σ.1 7 + 1; rw [f7]) (by rw [eN]; show σ2.1 8 + 0 = σ.1 8; rw [f8, Int32.add_zero])
      · simp only [t0, t1, if_pos z0, if_neg z1]
        exact go _ (QQ _ _) (by rw [eG]; show σ2.1 7 + 0 = σ.1 7; rw [f7, Int32.add_zero]) (by rw [eN]; show σ2.1 8 + 1 = σ.1 8 + 1; rw [f8])
      · simp only [t1, if_neg z1]
        exact go _ (QQ _ _) (by rw [eG]; show σ2.1 7 + 0 = σ.1 7; rw [f7, Int32.add_zero]) (by rw [eN]; show σ2.1 8 + 0 = σ.1 8; rw [f8, Int32.add_zero])
    · have hb' : bit bits i = false := decide_eq_false hb
      rw [if_neg hb]
      have eG : pG τ0 c w bits i = false := by unfold pG; rw [hb']; rfl
      have eN : pN τ0 c w bits i = false := by unfold pN; rw [hb']; rfl
      exact go σ Q (by rw [eG]; rfl) (by rw [eN]; rfl)
theorem q_weigh (D : DD n1 n3 n4 n5 r c σ0 τ0) {bits : Int32} {σ : St} (Q : QC σ0 w (-1) 0 σ) : ∃ σ', fC_P_weigh N0 σ bits = some (σ', ()) ∧ QC σ0 w (-1) 0 σ' ∧ σ'.1 7 = cF (pG τ0 c w bits) n5 0 0 ∧ σ'.1 8 = cF (pN τ0 c w bits) n5 0 0 := by
  have hn5 := D.2.2.2.1.1
  unfold fC_P_weigh
  exact weigh_l D n5 0 N0 (sI (sI σ 7 0) 8 0) (by omega) (by unfold N0; omega) ⟨Q.1.tr ((KP.i (by decide)).tr (KP.i (by decide))), Q.2.1, Q.2.2.1, Q.2.2.2⟩
theorem wrongs_l (D : DD n1 n3 n4 n5 r c σ0 τ0) {bits wh was : Int32} : ∀ (d i F : Nat) (τ : St) (n : Int32), i + d = n5 → d < F → QM τ0 w (-1) 0 τ → ∃ τ', fM_wrongs_l17 N0 F τ bits wh was n (nI i) = some (τ', cF (if wh = 0 then pG τ0 c w bits else pN τ0 c w bits) d i n) ∧ QM τ0 was (-1) 0 τ' := by
  have hn5 := D.2.2.2.1.1
  intro d
  induction d with
  | zero =>
    intro i F τ n h1 h2 Q
    obtain ⟨F, rfl⟩ : ∃ k, F = k + 1 := ⟨F - 1, by omega⟩
    obtain ⟨_, _, _, _, _, _, _, _, _, e19⟩ := QM_arr D Q
    show ∃ τ', (if τ.1 23 ≤ nI i then _ else _) = _ ∧ _
    rw [e19, if_pos (by rw [nI_leI (by omega) (by omega)]; omega)]
    exact ⟨_, rfl, Q.1.tr (KP.i (by decide)), rfl, Q.2.2.1, Q.2.2.2⟩
  | succ d ih =>
    intro i F τ n h1 h2 Q
    obtain ⟨F, rfl⟩ : ∃ k, F = k + 1 := ⟨F - 1, by omega⟩
    obtain ⟨e13, _, _, _, _, _, _, _, _, e19⟩ := QM_arr D Q
    have hi : i < n5 := by omega
    obtain ⟨hk, ek⟩ := kind_at D hi
    have go : ∀ (τ2 : St) (n2 : Int32), QM τ0 w (-1) 0 τ2 → (if (if wh = 0 then pG τ0 c w bits else pN τ0 c w bits) i = true then n + 1 else n) = n2 → ∃ τ', fM_wrongs_j99 N0 (fM_wrongs_l17 N0 F) τ2 bits wh was n2 (nI i) = some (τ', cF (if wh = 0 then pG τ0 c w bits else pN τ0 c w bits) (d + 1) i n) ∧ QM τ0 was (-1) 0 τ' := by
      intro τ2 n2 q1 q2
      unfold fM_wrongs_j99
      rw [bnd_eq, nI_1]
      obtain ⟨τ', e1, e2⟩ := ih (i + 1) F τ2 n2 (by omega) (by omega) q1
      exact ⟨τ', by rw [e1, ← q2]; rfl, e2⟩
    have ePG : (if wh = 0 then pG τ0 c w bits else pN τ0 c w bits) i = if wh = 0 then pG τ0 c w bits i else pN τ0 c w bits i := by split <;> rfl
    show ∃ τ', (if τ.1 23 ≤ nI i then _ else _) = _ ∧ _
    rw [e19, if_neg (by rw [nI_leI (by omega) (by omega)]; omega)]
    by_cases hb : (bits >>> (nI i &&& 31)) &&& (1 : Int32) = 1
    · have hb' : bit bits i = true := decide_eq_true hb
      obtain ⟨τ1, a1, a2⟩ := offM D Q (k := 0) (by decide) hi
      rw [nI_0] at a1
      obtain ⟨f13, _⟩ := QM_arr D (Q.kp a2)
      obtain ⟨τ2, b1, b2⟩ := offM D (Q.kp a2) hk hi
      have Q2 := (Q.kp a2).kp b2
      rw [if_neg (by rw [hb]; decide), a1, cal_eq, giN 24 (nI_b (by omega) (by decide)), nI_clamp (by omega), f13, ek, b1, cal_eq]
      unfold fM_wrongs_j95 fM_wrongs_j91 fM_wrongs_j96
      simp only [bnd_eq]
      have eG : pG τ0 c w bits i = (bit bits i && (offS τ0 c w (-1) 0 0 i && !offS τ0 c w (-1) 0 (kN τ0 i) i)) := rfl
      have eN : pN τ0 c w bits i = (bit bits i && (offS τ0 c w (-1) 0 (kN τ0 i) i && !offS τ0 c w (-1) 0 0 i)) := rfl
      have z1 : ¬ (1 : Int32) = 0 := by decide
      have z0 : (0 : Int32) = 0 := rfl
      have t1 : (if true = true then (1 : Int32) else 0) = 1 := rfl
      have t0 : (if false = true then (1 : Int32) else 0) = 0 := rfl
      have g0 : (if (if wh = 0 then pG τ0 c w bits else pN τ0 c w bits) i = true then n + 1 else n) = n → ∃ τ', fM_wrongs_j99 N0 (fM_wrongs_l17 N0 F) τ2 bits wh was (n + 0) (nI i) = some (τ', cF (if wh = 0 then pG τ0 c w bits else pN τ0 c w bits) (d + 1) i n) ∧ QM τ0 was (-1) 0 τ' := by
        intro z
        rw [Int32.add_zero]
        exact go τ2 n Q2 z
      cases hO : offS τ0 c w (-1) 0 (kN τ0 i) i <;> cases hT : offS τ0 c w (-1) 0 0 i <;> rw [hb', hO, hT] at eG eN
      · simp only [t0, if_true]
        have : (if wh = 0 then pG τ0 c w bits else pN τ0 c w bits) i = false := by rw [ePG, eG, eN]; split <;> rfl
        by_cases hw : wh = 0
        · rw [if_pos hw]; exact g0 (by rw [this]; rfl)
        · rw [if_neg hw]; exact g0 (by rw [this]; rfl)
      · simp only [t0, t1, if_pos z0, if_neg z1]
        by_cases hw : wh = 0
        · have : (if wh = 0 then pG τ0 c w bits else pN τ0 c w bits) i = true := by rw [ePG, if_pos hw, eG]; rfl
          rw [if_pos hw]
          exact go τ2 _ Q2 (by rw [this]; rfl)
        · have : (if wh = 0 then pG τ0 c w bits else pN τ0 c w bits) i = false := by rw [ePG, if_neg hw, eN]; rfl
          rw [if_neg hw]
          exact g0 (by rw [this]; rfl)
      · simp only [t0, t1, if_pos z0, if_neg z1]
        by_cases hw : wh = 0
        · have : (if wh = 0 then pG τ0 c w bits else pN τ0 c w bits) i = false := by rw [ePG, if_pos hw, eG]; rfl
          rw [if_pos hw]
          exact g0 (by rw [this]; rfl)
        · have : (if wh = 0 then pG τ0 c w bits else pN τ0 c w bits) i = true := by rw [ePG, if_neg hw, eN]; rfl
          rw [if_neg hw]
          exact go τ2 _ Q2 (by rw [this]; rfl)
      · simp only [if_true, if_neg z1]
        have : (if wh = 0 then pG τ0 c w bits else pN τ0 c w bits) i = false := by rw [ePG, eG, eN]; split <;> rfl
        by_cases hw : wh = 0
        · rw [if_pos hw]; exact g0 (by rw [this]; rfl)
        · rw [if_neg hw]; exact g0 (by rw [this]; rfl)
    · have hb' : bit bits i = false := decide_eq_false hb
      rw [if_pos (bit_0.resolve_right hb)]
      have : (if wh = 0 then pG τ0 c w bits else pN τ0 c w bits) i = false := by
        rw [ePG]; unfold pG pN; rw [hb']; split <;> rfl
      exact go τ n Q (by rw [this]; rfl)
theorem q_wrongs (D : DD n1 n3 n4 n5 r c σ0 τ0) {bits wh v : Int32} {τ : St} (Q : QM τ0 w (-1) 0 τ) : ∃ τ', fM_wrongs N0 τ bits v wh = some (τ', cF (if wh = 0 then pG τ0 c v bits else pN τ0 c v bits) n5 0 0) ∧ QM τ0 w (-1) 0 τ' := by
  have hn5 := D.2.2.2.1.1
  unfold fM_wrongs
  rw [bnd_eq, bnd_eq, Q.2.1]
  exact wrongs_l D n5 0 N0 (sI τ 5 v) 0 (by omega) (by unfold N0; omega) ⟨Q.1.tr (KP.i (by decide)), rfl, Q.2.2.1, Q.2.2.2⟩
end WRONG
theorem e_wrong {σ τ : St} (hR : Rel σ τ) (a1 a2 a3 a4 : Int32) : Both (fC_wrong N0 σ a1 a2 a3 a4) (fM_wrong N0 τ a1 a2 a3 a4) := by
  obtain ⟨n1, n3, n4, n5, r, c, D, h2⟩ := Rel_all hR
  have hn5 := D.2.2.2.1.1
  unfold fC_wrong fM_wrong
  simp only [cal_eq, ite_b, q_isSheet, qm_isSheet]
  refine Both.same (fun c1 => ?_) (fun c => Both.mk hR)
  rw [q_hasAll hn5 D.2.2.2.1.2.1, qm_all hn5 D.2.2.2.1.2.2.1]
  simp only [cal_eq, ite_b, qm_inall hn5]
  refine Both.same (fun c2 => ?_) (fun c => Both.mk hR)
  simp only [cal_eq, ite_b, i_0_1, w_0_1]
  refine Both.same (fun c3 => ?_) (fun c => Both.mk hR)
  obtain ⟨s, hs, hs2, rfl⟩ := bt_nI c1
  have hs : s < 4 := by omega
  have ec : (nI s).toNatClampNeg = s := nI_clamp (by omega)
  obtain ⟨v, e1, e2, e3⟩ := q_widths hR hs
  rw [e1, e2, cal_eq, cal_eq]
  refine Both.same (fun hv => ?_) (fun c => Both.mk hR)
  obtain ⟨m, m1, m8, h26, h32, hit⟩ := e3 hv
  rw [q_H_has hs (by omega) h26, cal_eq, giN 4 (nI_b hs (by decide)), ec, qm_inn (n := m) (by omega) h32, cal_eq, ite_b, ite_b]
  refine Both.same (fun c4 => ?_) (fun c => Both.mk hR)
  obtain ⟨i, hi, hi2, rfl⟩ := bt_nI c4
  have hi : i < m := by omega
  rw [q_itemOf hs (by omega) h26 hi, cal_eq, ix40, giN 160 (nI_b (by omega) (by decide)), nI_clamp (by omega), (hit i hi).1]
  obtain ⟨σ1, f1, Q⟩ := QC_look (σ := σ) (τ := τ) (τ.2.1 33 (40 * s + i))
  obtain ⟨σ2, f2, Q2, f3, f4⟩ := q_weigh D Q (bits := a2)
  obtain ⟨τ2, g1, g2⟩ := q_wrongs D (QM_now h2) (bits := a2) (wh := a4) (v := τ.2.1 33 (40 * s + i))
  rw [f1, cal_eq, f2, cal_eq, g1, cal_eq, f3, f4]
  have e5 : σ.1 3 = τ.1 5 := h2.1
  rw [e5] at g2
  by_cases hz : a4 = 0
  · rw [if_pos hz, if_pos hz]; exact Both.mk (Rel_qq hR Q2 g2)
  · rw [if_neg hz, if_neg hz]; exact Both.mk (Rel_qq hR Q2 g2)
theorem cost_n {G H : Nat} (hG : G ≤ 24) (hH : H ≤ 24) {p : Nat} (hp : p ≤ 9999) : ∃ k, k < 2 ^ 20 ∧ (nI p / (100 : Int32)) * nI G + (nI p - nI p / (100 : Int32) * (100 : Int32)) * nI H = nI k := by
  rw [show (100 : Int32) = nI 100 from rfl, pk_rem (by omega) (by decide) (by decide), pk_div (by omega) (by decide) (by decide), pk_mul, pk_mul, nI_add]
  refine ⟨_, ?_, rfl⟩
  have h1 : p / 100 * G ≤ 99 * 24 := Nat.mul_le_mul (by omega) hG
  have h2 : p % 100 * H ≤ 99 * 24 := Nat.mul_le_mul (by omega) hH
  omega
theorem best_l {n1 n3 n4 n5 r : Nat} {c : Nat → List Int32} {σ0 τ0 : St} (D : DD n1 n3 n4 n5 r c σ0 τ0) {s m p : Nat} {bits w : Int32} (hs : s < 4) (hm8 : m ≤ 8) (hp : p ≤ 9999) (h26 : σ0.2.1 26 s = nI m) (h32 : τ0.2.1 32 s = nI m) (hit : ∀ i, i < m → σ0.2.1 27 (40 * s + i) = τ0.2.1 33 (40 * s + i)) : ∀ (d i FC FM : Nat) (σ τ : St) (b1 l1 b2 l2 w1 s1 f1 : Int32), i + d = m → d < FC → d < FM → QC σ0 w1 s1 f1 σ → QM τ0 w (-1) 0 τ → ((i = 0 ∧ l2 = -1 ∧ 0 < m) ∨ (i ≠ 0 ∧ b1 = b2 ∧ l1 = l2 ∧ ¬ l2 = -1)) →
    ∃ σ' τ' b w' s' f', fC_best_l70 N0 FC σ (nI s) bits (nI p) b1 l1 (nI i) = some (σ', b) ∧ fM_best_l60 N0 FM τ (nI s) bits (nI p) b2 l2 (nI i) = some (τ', b) ∧ QC σ0 w' s' f' σ' ∧ QM τ0 w (-1) 0 τ' := by
  have hn5 := D.2.2.2.1.1
  have ec : (nI s).toNatClampNeg = s := nI_clamp (by omega)
  have hg := nI_b hs (show 4 < 2 ^ 31 by decide)
  intro d
  induction d with
  | zero =>
    intro i FC FM σ τ b1 l1 b2 l2 w1 s1 f1 h1 h2 h3 Q QMτ hinv
    obtain ⟨FC, rfl⟩ : ∃ k, FC = k + 1 := ⟨FC - 1, by omega⟩
    obtain ⟨FM, rfl⟩ : ∃ k, FM = k + 1 := ⟨FM - 1, by omega⟩
    have e : nI m ≤ nI i := by rw [nI_leI (by omega) (by omega)]; omega
    have k26 : σ.2.1 26 s = nI m := by rw [Q.1.2 26 (by decide)]; exact h26
    have k32 : τ.2.1 32 s = nI m := by rw [QMτ.1.2 32 (by decide)]; exact h32
    rcases hinv with ⟨z, _, _⟩ | ⟨_, hb, _, _⟩
    · omega
    · refine ⟨σ, τ, b1, w1, s1, f1, ?_, ?_, Q, QMτ⟩
      · show gi (nI s) 4 _ = _
        rw [giN 4 hg, ec, k26, if_pos e]
      · show gi (nI s) 4 _ = _
        rw [giN 4 hg, ec, k32, if_pos e, hb]
  | succ d ih =>
    intro i FC FM σ τ b1 l1 b2 l2 w1 s1 f1 h1 h2 h3 Q QMτ hinv
    obtain ⟨FC, rfl⟩ : ∃ k, FC = k + 1 := ⟨FC - 1, by omega⟩
    obtain ⟨FM, rfl⟩ : ∃ k, FM = k + 1 := ⟨FM - 1, by omega⟩
    have e : ¬ nI m ≤ nI i := by rw [nI_leI (by omega) (by omega)]; omega
    have k26 : σ.2.1 26 s = nI m := by rw [Q.1.2 26 (by decide)]; exact h26
    have k32 : τ.2.1 32 s = nI m := by rw [QMτ.1.2 32 (by decide)]; exact h32
    have k27 : σ.2.1 27 (40 * s + i) = τ0.2.1 33 (40 * s + i) := by rw [Q.1.2 27 (by decide)]; exact hit i (by omega)
    have k33 : τ.2.1 33 (40 * s + i) = τ0.2.1 33 (40 * s + i) := by rw [QMτ.1.2 33 (by decide)]
    obtain ⟨σ1, x1, Q1, _⟩ := look_at Q (τ0.2.1 33 (40 * s + i))
    obtain ⟨σ2, x2, Q2, x3, x4⟩ := q_weigh D Q1 (bits := bits)
    obtain ⟨τ1, y1, y2⟩ := q_wrongs D QMτ (bits := bits) (wh := 0) (v := τ0.2.1 33 (40 * s + i))
    obtain ⟨τ2, y3, y4⟩ := q_wrongs D y2 (bits := bits) (wh := 1) (v := τ0.2.1 33 (40 * s + i))
    rw [if_pos (show (0 : Int32) = 0 from rfl)] at y1
    rw [if_neg (show ¬ (1 : Int32) = 0 by decide)] at y3
    obtain ⟨G, hG, eG⟩ := cF_n (P := pG τ0 c (τ0.2.1 33 (40 * s + i)) bits) n5 0 0
    obtain ⟨H, hH, eH⟩ := cF_n (P := pN τ0 c (τ0.2.1 33 (40 * s + i)) bits) n5 0 0
    rw [nI_0, Nat.zero_add] at eG eH
    rw [eG] at x3 y1
    rw [eH] at x4 y3
    obtain ⟨k, hk, ek⟩ := cost_n (show G ≤ 24 by omega) (show H ≤ 24 by omega) hp
    have ek2 : nI G * (nI p / (100 : Int32)) + nI H * (nI p - nI p / (100 : Int32) * (100 : Int32)) = nI k := by
      rw [Int32.mul_comm (nI G), Int32.mul_comm (nI H)]; exact ek
    have stC : fC_best_l70 N0 (FC + 1) σ (nI s) bits (nI p) b1 l1 (nI i) = if nI i = 0 then fC_best_j152 N0 (fC_best_l70 N0 FC) σ2 (nI s) bits (nI p) (nI i) (τ0.2.1 33 (40 * s + i)) (nI k) else if l1 ≤ nI k then fC_best_j160 N0 (fC_best_l70 N0 FC) σ2 (nI s) bits (nI p) b1 l1 (nI i) else fC_best_j152 N0 (fC_best_l70 N0 FC) σ2 (nI s) bits (nI p) (nI i) (τ0.2.1 33 (40 * s + i)) (nI k) := by
      show gi (nI s) 4 _ = _
      rw [giN 4 hg, ec, k26, if_neg e, q_itemOf hs (by omega) k26 (by omega), cal_eq, k27, x1, cal_eq, x2, cal_eq, bnd_eq, x3, x4, ek]
    have stM : fM_best_l60 N0 (FM + 1) τ (nI s) bits (nI p) b2 l2 (nI i) = if l2 = -1 then fM_best_j130 N0 (fM_best_l60 N0 FM) τ2 (nI s) bits (nI p) (nI i) (τ0.2.1 33 (40 * s + i)) (nI k) else if nI k < l2 then fM_best_j130 N0 (fM_best_l60 N0 FM) τ2 (nI s) bits (nI p) (nI i) (τ0.2.1 33 (40 * s + i)) (nI k) else fM_best_j138 N0 (fM_best_l60 N0 FM) τ2 (nI s) bits (nI p) b2 l2 (nI i) := by
      show gi (nI s) 4 _ = _
      rw [giN 4 hg, ec, k32, if_neg e, ix40, giN 160 (nI_b (by omega) (by decide)), nI_clamp (by omega), k33, bnd_eq, y1, cal_eq, y3, cal_eq, bnd_eq, ek2]
    rw [stC, stM]
    unfold fC_best_j152 fC_best_j160 fM_best_j130 fM_best_j138
    simp only [bnd_eq, nI_1]
    have hk1 : ¬ nI k = -1 := nI_ne1 (by omega)
    rcases hinv with ⟨z, hl, _⟩ | ⟨z, hb, hl, hl2⟩
    · subst z
      rw [if_pos nI_0, if_pos hl]
      exact ih (0 + 1) FC FM σ2 τ2 _ _ _ _ _ _ _ (by omega) (by omega) (by omega) Q2 y4 (Or.inr ⟨by omega, rfl, rfl, hk1⟩)
    · rw [if_neg (nI_ne0 (by omega) (by omega)), if_neg hl2, hl]
      by_cases hc : l2 ≤ nI k
      · rw [if_pos hc, if_neg (by rw [lt_n]; rw [le_n] at hc; omega), hb]
        exact ih (i + 1) FC FM σ2 τ2 _ _ _ _ _ _ _ (by omega) (by omega) (by omega) Q2 y4 (Or.inr ⟨by omega, rfl, rfl, hl2⟩)
      · rw [if_neg hc, if_pos (by rw [lt_n]; rw [le_n] at hc; omega)]
        exact ih (i + 1) FC FM σ2 τ2 _ _ _ _ _ _ _ (by omega) (by omega) (by omega) Q2 y4 (Or.inr ⟨by omega, rfl, rfl, hk1⟩)
theorem e_best {σ τ : St} (hR : Rel σ τ) (a1 a2 a3 : Int32) : Both (fC_best N0 σ a1 a2 a3) (fM_best N0 τ a1 a2 a3) := by
  obtain ⟨n1, n3, n4, n5, r, c, D, h2⟩ := Rel_all hR
  have hn5 := D.2.2.2.1.1
  unfold fC_best fM_best
  simp only [cal_eq, ite_b, q_isSheet, qm_isSheet]
  refine Both.same (fun c1 => ?_) (fun c => Both.mk hR)
  rw [q_hasAll hn5 D.2.2.2.1.2.1, qm_all hn5 D.2.2.2.1.2.2.1]
  simp only [cal_eq, ite_b, qm_inall hn5]
  refine Both.same (fun c2 => ?_) (fun c => Both.mk hR)
  simp only [cal_eq, ite_b, i_0_9999, w_0_9999]
  refine Both.same (fun c3 => ?_) (fun c => Both.mk hR)
  obtain ⟨s, hs, hs2, rfl⟩ := bt_nI c1
  have hs : s < 4 := by omega
  obtain ⟨v, e1, e2, e3⟩ := q_widths hR hs
  rw [e1, e2, cal_eq, cal_eq]
  refine Both.same (fun hv => ?_) (fun c => Both.mk hR)
  obtain ⟨m, m1, m8, h26, h32, hit⟩ := e3 hv
  obtain ⟨p, hp, hp2, rfl⟩ := bt_nI c3
  rw [← nI_0, q_itemOf hs (by omega) h26 (by omega), cal_eq]
  have Q0 : QC σ (σ.1 4) (σ.1 5) (σ.1 6) σ := ⟨KP.rf, rfl, rfl, rfl⟩
  obtain ⟨σ', τ', b, w', s', f', x1, x2, x3, x4⟩ := best_l D (bits := a2) hs m8 (show p ≤ 9999 by omega) h26 h32 (fun i hi => (hit i hi).1) m 0 N0 N0 σ τ (σ.2.1 27 (40 * s + 0)) (nI 0) (nI 0) (-1) _ _ _ (by omega) (by unfold N0; omega) (by unfold N0; omega) Q0 (QM_now h2) (Or.inl ⟨rfl, rfl, by omega⟩)
  rw [x1, x2]
  have e5 : σ.1 3 = τ.1 5 := h2.1
  rw [e5] at x4
  exact Both.mk (Rel_qq hR x3 x4)
