/-! a text, by the class -/
theorem key_n (k : Nat) : (262 : Int32) + nI k = nI (262 + k) := by rw [show (262 : Int32) = nI 262 from rfl, nI_add]
theorem q_sec {sz T k F : Nat} {b : Nat → Int32} {σ : St} {i u : Nat} (hC : CT b sz T σ) (hk : k < 3) (hi : i ≤ T) (hu : u ≤ i) (h10 : σ.1 10 = nI i) (h9 : σ.1 9 = nI u) :
    ((pSec (tK b sz) (tV b sz) (nI (262 + k)) i).1 = true → ∃ σ1, fC_R_readKeys_l2 N0 (F + 1) σ (nI k) = fC_R_readKeys_l2 N0 F (sA σ1 14 (nI k) (σ1.1 9)) (nI (k + 1)) ∧ GC σ σ1 u (pSec (tK b sz) (tV b sz) (nI (262 + k)) i).2.2 ∧ σ1.1 10 = nI (pSec (tK b sz) (tV b sz) (nI (262 + k)) i).2.1 ∧ (pSec (tK b sz) (tV b sz) (nI (262 + k)) i).2.1 ≤ T ∧ i + (pSec (tK b sz) (tV b sz) (nI (262 + k)) i).2.2.length ≤ (pSec (tK b sz) (tV b sz) (nI (262 + k)) i).2.1) ∧
    ((pSec (tK b sz) (tV b sz) (nI (262 + k)) i).1 = false → ∃ σ1, fC_R_readKeys_l2 N0 (F + 1) σ (nI k) = some (σ1, 0) ∧ KP [9, 10] [13] σ σ1 ∧ σ1.1 10 = nI (pSec (tK b sz) (tV b sz) (nI (262 + k)) i).2.1 ∧ (pSec (tK b sz) (tV b sz) (nI (262 + k)) i).2.1 ≤ T) := by
  have hT := hC.1
  have n10 : ¬ (1 : Int32) = 0 := by decide
  have p00 : (0 : Int32) = 0 := rfl
  have st : fC_R_readKeys_l2 N0 (F + 1) σ (nI k) = cal (fC_R_pass N0 σ (nI (262 + k))) fun σ6 r7 => if r7 = 0 then some (σ6, (0 : Int32)) else cal ((fC_lv N0 7).1 σ6 (0 : Int32)) fun σ10 r11 => if r11 = 0 then some (σ10, (0 : Int32)) else cal (fC_R_pass N0 σ10 (59 : Int32)) fun σ14 r15 => if r15 = 0 then some (σ14, (0 : Int32)) else fC_R_readKeys_l2 N0 F (sA σ14 14 (nI k) (σ14.1 9)) (nI (k + 1)) := by
    show (if (3 : Int32) ≤ nI k then _ else _) = _
    rw [if_neg (by rw [show (3 : Int32) = nI 3 from rfl, nI_leI (by decide) (by omega)]; omega), key_n]
    simp only [giN 3 (nI_b hk (by decide)), bnd_eq, nI_1]
  rw [st, q_pass hC hi h10]
  have hkn : nI (262 + k) ≠ -1 := by
    intro z; rw [eq_n, nI_toInt (by omega)] at z; have e : (-1 : Int32).toInt = -1 := rfl; omega
  unfold pSec
  by_cases hK : tK b sz i = nI (262 + k)
  · have hlt := hC.lt hi (by rw [hK]; exact hkn)
    simp only [if_pos hK, cal_eq]
    rw [if_neg n10]
    obtain ⟨σ1, r, e1, e2, e3, e4⟩ := (RC_lv (N := N0) (T := T) (sz := sz) (b := b) (by decide) 7 0 (by decide) (by decide)).1 (sI σ 10 (nI (i + 1))) (i + 1) u (hC.kp (KP.i (by decide) : KP [10] [] σ _) (by decide)) hlt (by omega) rfl h9
    have e1 : (fC_lv N0 7).1 (sI σ 10 (nI (i + 1))) 0 = some (σ1, r) := e1
    have e50 : 5 - 0 = 5 := rfl
    rw [e50] at e2 e3 e4
    rw [e1, cal_eq]
    generalize (pLv (tK b sz) (tV b sz) 5).1 (i + 1) = q at *
    rcases e4 with ⟨g1, g2, g3, g4⟩ | ⟨g1, g2, g3⟩
    · rw [pAnd_t g1, g2, if_neg n10]
      have g3' : GC σ σ1 u q.2.2 := ⟨(KP.i (by decide)).tr g3.1, g3.2.1, g3.2.2.1, g3.2.2.2⟩
      have hC1 : CT b sz T σ1 := hC.kp g3'.1 (by decide)
      rw [q_pass hC1 e3 e2]
      by_cases h59 : tK b sz q.2.1 = 59
      · have hlt2 := hC1.lt e3 (by rw [h59]; decide)
        rw [if_pos h59, if_pos h59, cal_eq, if_neg n10]
        exact ⟨fun _ => ⟨_, rfl, g3'.at _, rfl, hlt2, by show i + q.2.2.length ≤ q.2.1 + 1; omega⟩, fun z => by cases z⟩
      · rw [if_neg h59, if_neg h59, cal_eq, if_pos p00]
        exact ⟨fun z => (by cases z), fun _ => ⟨_, rfl, g3'.1, e2, e3⟩⟩
    · rw [pAnd_f g1, g2, if_pos p00]
      exact ⟨fun z => (by cases z), fun _ => ⟨_, rfl, (KP.i (by decide)).tr g3, e2, e3⟩⟩
  · rw [if_neg hK, if_neg hK, cal_eq, if_pos p00]
    exact ⟨fun z => (by cases z), fun _ => ⟨_, rfl, KP.rf, h10, hi⟩⟩
/-- how the reading of all keys comes out -/
theorem q_readKeys {sz T : Nat} {b : Nat → Int32} {σ : St} (hC : CT b sz T σ) (h10 : σ.1 10 = 0) (h9 : σ.1 9 = 0) :
    ∃ σ' r, fC_R_readKeys N0 σ = some (σ', r) ∧ KP [9, 10] [13, 14] σ σ' ∧
      (((pText (tK b sz) (tV b sz)).1 = true ∧ r = 1 ∧ (pText (tK b sz) (tV b sz)).2.2.1.length + (pText (tK b sz) (tV b sz)).2.2.2.1.length + (pText (tK b sz) (tV b sz)).2.2.2.2.length ≤ 160 ∧
        (∀ k, k < (pText (tK b sz) (tV b sz)).2.2.1.length + (pText (tK b sz) (tV b sz)).2.2.2.1.length + (pText (tK b sz) (tV b sz)).2.2.2.2.length → σ'.2.1 13 k = ((pText (tK b sz) (tV b sz)).2.2.1 ++ (pText (tK b sz) (tV b sz)).2.2.2.1 ++ (pText (tK b sz) (tV b sz)).2.2.2.2).getD k 0) ∧
        σ'.2.1 14 0 = nI (pText (tK b sz) (tV b sz)).2.2.1.length ∧ σ'.2.1 14 1 = nI ((pText (tK b sz) (tV b sz)).2.2.1.length + (pText (tK b sz) (tV b sz)).2.2.2.1.length) ∧ σ'.2.1 14 2 = nI ((pText (tK b sz) (tV b sz)).2.2.1.length + (pText (tK b sz) (tV b sz)).2.2.2.1.length + (pText (tK b sz) (tV b sz)).2.2.2.2.length)) ∨
       ((pText (tK b sz) (tV b sz)).1 = false ∧ r = 0 ∧ σ'.1 10 = nI (pText (tK b sz) (tV b sz)).2.1 ∧ (pText (tK b sz) (tV b sz)).2.1 ≤ T)) := by
  have hT := hC.1
  unfold fC_R_readKeys pText
  have eN : N0 = 4996 + 1 + 1 + 1 + 1 := rfl
  have s0 := q_sec (F := 4996 + 1 + 1 + 1) (k := 0) (i := 0) (u := 0) hC (by decide) (Nat.zero_le _) (Nat.le_refl _) h10 h9
  rw [show fC_R_readKeys_l2 N0 N0 σ 0 = fC_R_readKeys_l2 N0 (4996 + 1 + 1 + 1 + 1) σ (nI 0) from rfl]
  rw [show nI (262 + 0) = 262 from rfl] at s0
  generalize pSec (tK b sz) (tV b sz) 262 0 = r0 at *
  by_cases h0 : r0.1 = true
  · simp only [if_pos h0]
    obtain ⟨σ1, a1, a2, a3, a4, a5⟩ := s0.1 h0
    rw [a1]
    have kA : KP [9, 10] [13, 14] σ (sA σ1 14 (nI 0) (σ1.1 9)) := (a2.1.wk (by decide) (by decide)).tr (KP.a (by decide))
    have s1 := q_sec (F := 4996 + 1 + 1) (k := 1) (i := r0.2.1) (u := 0 + r0.2.2.length) (σ := sA σ1 14 (nI 0) (σ1.1 9)) (hC.kp kA (by decide)) (by decide) a4 (by omega) a3 a2.2.1
    rw [show nI (262 + 1) = 263 from rfl] at s1
    generalize pSec (tK b sz) (tV b sz) 263 r0.2.1 = r1 at *
    by_cases h1 : r1.1 = true
    · simp only [if_pos h1]
      obtain ⟨σ2, b1, b2, b3, b4, b5⟩ := s1.1 h1
      rw [b1]
      have kB : KP [9, 10] [13, 14] σ (sA σ2 14 (nI 1) (σ2.1 9)) := (kA.tr (b2.1.wk (by decide) (by decide))).tr (KP.a (by decide))
      have s2 := q_sec (F := 4996 + 1) (k := 2) (i := r1.2.1) (u := 0 + r0.2.2.length + r1.2.2.length) (σ := sA σ2 14 (nI 1) (σ2.1 9)) (hC.kp kB (by decide)) (by decide) b4 (by omega) b3 b2.2.1
      rw [show nI (262 + 2) = 264 from rfl] at s2
      generalize pSec (tK b sz) (tV b sz) 264 r1.2.1 = r2 at *
      by_cases h2 : r2.1 = true
      · simp only [if_pos h2]
        obtain ⟨σ3, c1, c2, c3, c4, c5⟩ := s2.1 h2
        rw [c1]
        have kC : KP [9, 10] [13, 14] σ (sA σ3 14 (nI 2) (σ3.1 9)) := (kB.tr (c2.1.wk (by decide) (by decide))).tr (KP.a (by decide))
        have hC3 : CT b sz T (sA σ3 14 (nI 2) (σ3.1 9)) := hC.kp kC (by decide)
        have eE : fC_R_readKeys_l2 N0 (4996 + 1) (sA σ3 14 (nI 2) (σ3.1 9)) (nI (2 + 1)) = fC_R_readKeys_j54 N0 (sA σ3 14 (nI 2) (σ3.1 9)) := by
          show (if (3 : Int32) ≤ nI 3 then _ else _) = _
          rw [if_pos (by decide)]
        rw [eE]
        unfold fC_R_readKeys_j54
        rw [q_kindNow hC3 c4 c3, cal_eq]
        have cells : ∀ k, k < r0.2.2.length + r1.2.2.length + r2.2.2.length → σ3.2.1 13 k = (r0.2.2 ++ r1.2.2 ++ r2.2.2).getD k 0 := by
          intro k hk
          have p2 := a2.2.2.2
          have q2 := b2.2.2
          have w2 := c2.2.2
          by_cases z0 : k < r0.2.2.length
          · rw [w2.1 k (by omega)]
            show σ2.2.1 13 k = _
            rw [q2.1 k (by omega)]
            show σ1.2.1 13 k = _
            rw [getD_l (by rw [List.length_append]; omega), getD_l z0, ← p2 k z0, Nat.zero_add]
          · by_cases z1 : k < r0.2.2.length + r1.2.2.length
            · rw [w2.1 k (by omega)]
              show σ2.2.1 13 k = _
              rw [getD_l (by rw [List.length_append]; omega), getD_r (by omega), ← q2.2 (k - r0.2.2.length) (by omega)]
              exact congrArg _ (by omega)
            · rw [getD_r (by rw [List.length_append]; omega), ← w2.2 (k - (r0.2.2 ++ r1.2.2).length) (by rw [List.length_append]; omega)]
              exact congrArg _ (by rw [List.length_append]; omega)
        have e14 : (sA σ3 14 (nI 2) (σ3.1 9)).2.1 14 0 = nI r0.2.2.length ∧ (sA σ3 14 (nI 2) (σ3.1 9)).2.1 14 1 = nI (r0.2.2.length + r1.2.2.length) ∧ (sA σ3 14 (nI 2) (σ3.1 9)).2.1 14 2 = nI (r0.2.2.length + r1.2.2.length + r2.2.2.length) := by
          have t3 : σ3.2.1 14 = (sA σ2 14 (nI 1) (σ2.1 9)).2.1 14 := c2.1.2 14 (by decide)
          have t2 : σ2.2.1 14 = (sA σ1 14 (nI 0) (σ1.1 9)).2.1 14 := b2.1.2 14 (by decide)
          have y1 : σ1.1 9 = nI (r0.2.2.length) := by rw [a2.2.1, Nat.zero_add]
          have y2 : σ2.1 9 = nI (r0.2.2.length + r1.2.2.length) := by rw [b2.2.1, Nat.zero_add]
          have y3 : σ3.1 9 = nI (r0.2.2.length + r1.2.2.length + r2.2.2.length) := by rw [c2.2.1, Nat.zero_add]
          have c0 : (nI 0).toNatClampNeg = 0 := rfl
          have c1 : (nI 1).toNatClampNeg = 1 := rfl
          have c2' : (nI 2).toNatClampNeg = 2 := rfl
          show upd (σ3.2.1 14) (nI 2).toNatClampNeg (σ3.1 9) 0 = _ ∧ upd (σ3.2.1 14) (nI 2).toNatClampNeg (σ3.1 9) 1 = _ ∧ upd (σ3.2.1 14) (nI 2).toNatClampNeg (σ3.1 9) 2 = _
          rw [c2', pk_un (by decide), pk_un (by decide), pk_us, t3, y3]
          show upd (σ2.2.1 14) (nI 1).toNatClampNeg (σ2.1 9) 0 = _ ∧ upd (σ2.2.1 14) (nI 1).toNatClampNeg (σ2.1 9) 1 = _ ∧ _
          rw [c1, pk_un (by decide), pk_us, t2, y2]
          show upd (σ1.2.1 14) (nI 0).toNatClampNeg (σ1.1 9) 0 = _ ∧ _
          rw [c0, pk_us, y1]
          exact ⟨rfl, rfl, rfl⟩
        by_cases he : tK b sz r2.2.1 = -1
        · simp only [if_pos he]
          exact ⟨_, _, rfl, kC, Or.inl ⟨True.intro, rfl, by omega, cells, e14⟩⟩
        · simp only [if_neg he]
          exact ⟨_, _, rfl, kC, Or.inr ⟨True.intro, rfl, c3, c4⟩⟩
      · simp only [if_neg h2]
        have h2 : r2.1 = false := by cases hq : r2.1 with | true => exact absurd hq h2 | false => rfl
        obtain ⟨σ3, c1, c2, c3, c4⟩ := s2.2 h2
        exact ⟨σ3, 0, c1, kB.tr (c2.wk (by decide) (by decide)), Or.inr ⟨True.intro, rfl, c3, c4⟩⟩
    · simp only [if_neg h1]
      have h1 : r1.1 = false := by cases hq : r1.1 with | true => exact absurd hq h1 | false => rfl
      obtain ⟨σ3, c1, c2, c3, c4⟩ := s1.2 h1
      exact ⟨σ3, 0, c1, kA.tr (c2.wk (by decide) (by decide)), Or.inr ⟨True.intro, rfl, c3, c4⟩⟩
  · simp only [if_neg h0]
    have h0 : r0.1 = false := by cases hq : r0.1 with | true => exact absurd hq h0 | false => rfl
    obtain ⟨σ3, c1, c2, c3, c4⟩ := s0.2 h0
    exact ⟨σ3, 0, c1, c2.wk (by decide) (by decide), Or.inr ⟨True.intro, rfl, c3, c4⟩⟩
theorem q_readTape {sz : Nat} {b : Nat → Int32} {σ : St} (hs : sz ≤ 160) (h20 : σ.1 20 = nI sz) (hb : ∀ i, i < sz → σ.2.1 53 i = b i) :
    ∃ σ' r, fC_R_readTape N0 σ = some (σ', r) ∧ KP [9, 10, 20, 21] [13, 14, 54, 55, 56] σ σ' ∧ σ'.1 20 = 0 ∧
      (((pText (tK b sz) (tV b sz)).1 = true ∧ r = -1 ∧ (pText (tK b sz) (tV b sz)).2.2.1.length + (pText (tK b sz) (tV b sz)).2.2.2.1.length + (pText (tK b sz) (tV b sz)).2.2.2.2.length ≤ 160 ∧
        (∀ k, k < (pText (tK b sz) (tV b sz)).2.2.1.length + (pText (tK b sz) (tV b sz)).2.2.2.1.length + (pText (tK b sz) (tV b sz)).2.2.2.2.length → σ'.2.1 13 k = ((pText (tK b sz) (tV b sz)).2.2.1 ++ (pText (tK b sz) (tV b sz)).2.2.2.1 ++ (pText (tK b sz) (tV b sz)).2.2.2.2).getD k 0) ∧
        σ'.2.1 14 0 = nI (pText (tK b sz) (tV b sz)).2.2.1.length ∧ σ'.2.1 14 1 = nI ((pText (tK b sz) (tV b sz)).2.2.1.length + (pText (tK b sz) (tV b sz)).2.2.2.1.length) ∧ σ'.2.1 14 2 = nI ((pText (tK b sz) (tV b sz)).2.2.1.length + (pText (tK b sz) (tV b sz)).2.2.2.1.length + (pText (tK b sz) (tV b sz)).2.2.2.2.length)) ∨
       ((pText (tK b sz) (tV b sz)).1 = false ∧ r = nI (tS b sz (pText (tK b sz) (tV b sz)).2.1))) := by
  obtain ⟨σ1, T, a1, a2, a3⟩ := q_cut hs h20 hb
  unfold fC_R_readTape
  rw [a1, cal_eq, bnd_eq, bnd_eq]
  have k0 : KP [9, 10, 21] [54, 55, 56] σ (sI (sI σ1 10 0) 9 0) := ((a2.wk (by decide) (by decide)).tr (KP.i (by decide))).tr (KP.i (by decide))
  have hC : CT b sz T (sI (sI σ1 10 0) 9 0) := a3.kp ((KP.i (by decide)).tr (KP.i (by decide)) : KP [9, 10] [] σ1 _) (by decide)
  obtain ⟨σ2, r, b1, b2, b3⟩ := q_readKeys hC rfl rfl
  rw [b1, cal_eq]
  unfold fC_R_readTape_j40 fC_R_readTape_j56
  simp only [bnd_eq]
  have kf : KP [9, 10, 20, 21] [13, 14, 54, 55, 56] σ (sI σ2 20 0) := ((k0.wk (by decide) (by decide)).tr (b2.wk (by decide) (by decide))).tr (KP.i (by decide))
  rcases b3 with ⟨g1, g2, g3⟩ | ⟨g1, g2, g3, g4⟩
  · rw [g2, if_neg (by decide)]
    exact ⟨_, _, rfl, kf, rfl, Or.inl ⟨g1, rfl, g3⟩⟩
  · have hC2 : CT b sz T σ2 := hC.kp b2 (by decide)
    have hT := hC.1
    rw [g2, if_pos rfl, g3, hC2.2.1, if_pos (by rw [nI_ltI (by omega) (by omega)]; omega), giN 161 (nI_b (by omega) (by decide)), nI_clamp (by omega), (hC2.2.2.1 _ g4).2.2]
    exact ⟨_, _, rfl, kf, rfl, Or.inr ⟨g1, rfl⟩⟩
