theorem ix160' (n p : Nat) : nI n * (160 : Int32) + nI p = nI (160 * n + p) := by
  rw [show (160 : Int32) = nI 160 from rfl, pk_mul, nI_add, Nat.mul_comm]
theorem ix160 (n p : Nat) : (160 : Int32) * nI n + nI p = nI (160 * n + p) := by
  rw [show (160 : Int32) = nI 160 from rfl, pk_mul, nI_add]
theorem ix3' (n p : Nat) : nI n * (3 : Int32) + nI p = nI (3 * n + p) := by
  rw [show (3 : Int32) = nI 3 from rfl, pk_mul, nI_add, Nat.mul_comm]
theorem q_keep_l {N n : Nat} (hn : n < 6) : ∀ (d i F : Nat) (σ : St), i + d = 160 → d < F → ∃ σ', fC_T_keep_l23 N F σ (nI (160 * n)) (nI i) = fC_T_keep_j50 N σ' (nI (160 * n)) ∧ KP [] [41] σ σ' ∧ ∀ z, σ'.2.1 41 z = if 160 * n + i ≤ z ∧ z < 160 * n + 160 then σ.2.1 13 (z - 160 * n) else σ.2.1 41 z := by
  intro d
  induction d with
  | zero =>
    intro i F σ h1 h2
    obtain ⟨F, rfl⟩ : ∃ k, F = k + 1 := ⟨F - 1, by omega⟩
    refine ⟨σ, ?_, KP.rf, fun k => by rw [if_neg (by omega)]⟩
    show (if (160 : Int32) ≤ nI i then _ else _) = _
    rw [if_pos (by rw [show i = 160 by omega]; decide)]
  | succ d ih =>
    intro i F σ h1 h2
    obtain ⟨F, rfl⟩ : ∃ k, F = k + 1 := ⟨F - 1, by omega⟩
    obtain ⟨σ', e1, e2, e3⟩ := ih (i + 1) F (sA σ 41 (nI (160 * n + i)) (σ.2.1 13 i)) (by omega) (by omega)
    refine ⟨σ', ?_, (KP.a (by decide)).tr e2, fun k => ?_⟩
    · show (if (160 : Int32) ≤ nI i then _ else _) = _
      rw [if_neg (by rw [show (160 : Int32) = nI 160 from rfl, nI_leI (by decide) (by omega)]; omega), giN 160 (nI_b (by omega) (by decide)), nI_add, giN 960 (nI_b (by omega) (by decide)), nI_clamp (by omega), bnd_eq, bnd_eq, nI_1, e1]
    · rw [e3]
      show (if _ then σ.2.1 13 (k - 160 * n) else upd (σ.2.1 41) (nI (160 * n + i)).toNatClampNeg (σ.2.1 13 i) k) = _
      rw [nI_clamp (by omega)]
      unfold upd
      by_cases hk : k = 160 * n + i
      · rw [if_neg (by omega), if_pos hk, if_pos (by omega), hk, show 160 * n + i - 160 * n = i by omega]
      · rw [if_neg hk]
        by_cases hk2 : 160 * n + i ≤ k ∧ k < 160 * n + 160
        · rw [if_pos hk2, if_pos (by omega)]
        · rw [if_neg hk2, if_neg (by omega)]
theorem q_keep_3 {N n k F e bf : Nat} {σ : St} (hn : n < 6) (hk : k < 3) (h17 : σ.1 17 = nI n) (h14 : σ.2.1 14 k = nI e) : fC_T_keep_l55 N (F + 1) σ (nI (160 * n)) (nI bf) (nI k) = fC_T_keep_l55 N F (sA (sA σ 42 (nI (3 * n + k)) (nI (160 * n + bf))) 43 (nI (3 * n + k)) (nI (160 * n + e))) (nI (160 * n)) (nI e) (nI (k + 1)) := by
  have cl : (nI k).toNatClampNeg = k := nI_clamp (by omega)
  have hi := nI_b (show 3 * n + k < 18 by omega) (by decide)
  have h14' : (sA σ 42 (nI (3 * n + k)) (nI (160 * n + bf))).2.1 14 k = nI e := h14
  have h14'' : (sA (sA σ 42 (nI (3 * n + k)) (nI (160 * n + bf))) 43 (nI (3 * n + k)) (nI (160 * n + e))).2.1 14 k = nI e := h14
  show (if (3 : Int32) ≤ nI k then _ else _) = _
  rw [if_neg (by rw [show (3 : Int32) = nI 3 from rfl, nI_leI (by decide) (by omega)]; omega), h17, ix3', giN 18 hi, bnd_eq, nI_add, giN 3 (nI_b hk (by decide))]
  rw [show (sA σ 42 (nI (3 * n + k)) (nI (160 * n + bf))).1 17 = nI n from h17, ix3', giN 18 hi, cl, h14', nI_add, bnd_eq, giN 3 (nI_b hk (by decide)), bnd_eq, bnd_eq, h14'', nI_1]
theorem q_keep {n e0 e1 e2 : Nat} {σ : St} (hn : n < 6) (h17 : σ.1 17 = nI n) (h0 : σ.2.1 14 0 = nI e0) (h1 : σ.2.1 14 1 = nI e1) (h2 : σ.2.1 14 2 = nI e2) :
    ∃ σ', fC_T_keep N0 σ = some (σ', nI n) ∧ KP [17] [41, 42, 43] σ σ' ∧ σ'.1 17 = nI (n + 1) ∧ (∀ z, σ'.2.1 41 z = if 160 * n ≤ z ∧ z < 160 * n + 160 then σ.2.1 13 (z - 160 * n) else σ.2.1 41 z) ∧ σ'.2.1 42 = upd (upd (upd (σ.2.1 42) (3 * n) (nI (160 * n))) (3 * n + 1) (nI (160 * n + e0))) (3 * n + 2) (nI (160 * n + e1)) ∧ σ'.2.1 43 = upd (upd (upd (σ.2.1 43) (3 * n) (nI (160 * n + e0))) (3 * n + 1) (nI (160 * n + e1))) (3 * n + 2) (nI (160 * n + e2)) := by
  obtain ⟨σ1, a1, a2, a3⟩ := q_keep_l (N := N0) hn 160 0 N0 σ rfl (by decide)
  have c0 : (nI (3 * n + 0)).toNatClampNeg = 3 * n := nI_clamp (by omega)
  have c1 : (nI (3 * n + 1)).toNatClampNeg = 3 * n + 1 := nI_clamp (by omega)
  have c2 : (nI (3 * n + 2)).toNatClampNeg = 3 * n + 2 := nI_clamp (by omega)
  unfold fC_T_keep
  rw [h17, if_pos (by rw [show (6 : Int32) = nI 6 from rfl, nI_ltI (by omega) (by decide)]; exact hn), bnd_eq, show nI n * (160 : Int32) = nI (160 * n) by rw [show (160 : Int32) = nI 160 from rfl, pk_mul, Nat.mul_comm]]
  rw [nI_0] at a1
  rw [a1]
  unfold fC_T_keep_j50
  have f17 : σ1.1 17 = nI n := by rw [a2.1 17 (by decide)]; exact h17
  have f14 : σ1.2.1 14 = σ.2.1 14 := a2.2 14 (by decide)
  rw [show fC_T_keep_l55 N0 N0 σ1 (nI (160 * n)) 0 0 = fC_T_keep_l55 N0 (4996 + 1 + 1 + 1 + 1) σ1 (nI (160 * n)) (nI 0) (nI 0) from rfl]
  rw [q_keep_3 (F := 4996 + 1 + 1 + 1) (e := e0) hn (by decide) f17 (by rw [f14]; exact h0), q_keep_3 (σ := sA (sA σ1 42 (nI (3 * n + 0)) (nI (160 * n + 0))) 43 (nI (3 * n + 0)) (nI (160 * n + e0))) (F := 4996 + 1 + 1) (e := e1) hn (by decide) f17 (by show σ1.2.1 14 1 = _; rw [f14]; exact h1), q_keep_3 (σ := sA (sA (sA (sA σ1 42 (nI (3 * n + 0)) (nI (160 * n + 0))) 43 (nI (3 * n + 0)) (nI (160 * n + e0))) 42 (nI (3 * n + (0 + 1))) (nI (160 * n + e0))) 43 (nI (3 * n + (0 + 1))) (nI (160 * n + e1))) (F := 4996 + 1) (e := e2) hn (by decide) f17 (by show σ1.2.1 14 2 = _; rw [f14]; exact h2)]
  refine ⟨sI (sA (sA (sA (sA (sA (sA σ1 42 (nI (3 * n + 0)) (nI (160 * n + 0))) 43 (nI (3 * n + 0)) (nI (160 * n + e0))) 42 (nI (3 * n + (0 + 1))) (nI (160 * n + e0))) 43 (nI (3 * n + (0 + 1))) (nI (160 * n + e1))) 42 (nI (3 * n + (0 + 1 + 1))) (nI (160 * n + e1))) 43 (nI (3 * n + (0 + 1 + 1))) (nI (160 * n + e2))) 17 (nI (n + 1)), ?_, ?_, ?_, ?_, ?_, ?_⟩
  · show (if (3 : Int32) ≤ nI (0 + 1 + 1 + 1) then _ else _) = _
    rw [if_pos (by decide)]
    unfold fC_T_keep_j115
    rw [bnd_eq]
    have g17 : (sA (sA (sA (sA (sA (sA σ1 42 (nI (3 * n + 0)) (nI (160 * n + 0))) 43 (nI (3 * n + 0)) (nI (160 * n + e0))) 42 (nI (3 * n + (0 + 1))) (nI (160 * n + e0))) 43 (nI (3 * n + (0 + 1))) (nI (160 * n + e1))) 42 (nI (3 * n + (0 + 1 + 1))) (nI (160 * n + e1))) 43 (nI (3 * n + (0 + 1 + 1))) (nI (160 * n + e2))).1 17 = nI n := f17
    rw [g17, nI_1]
    exact congrArg some (Prod.ext rfl (by show nI (n + 1) - 1 = _; exact nI_pred n))
  · exact (a2.wk (by decide) (by decide)).tr (((((((KP.a (by decide)).tr (KP.a (by decide))).tr (KP.a (by decide))).tr (KP.a (by decide))).tr (KP.a (by decide))).tr (KP.a (by decide))).tr (KP.i (by decide)))
  · rfl
  · exact a3
  · show upd (upd (upd (σ1.2.1 42) (nI (3 * n + 0)).toNatClampNeg (nI (160 * n + 0))) (nI (3 * n + 1)).toNatClampNeg (nI (160 * n + e0))) (nI (3 * n + 2)).toNatClampNeg (nI (160 * n + e1)) = _
    rw [c0, c1, c2, a2.2 42 (by decide)]; rfl
  · show upd (upd (upd (σ1.2.1 43) (nI (3 * n + 0)).toNatClampNeg (nI (160 * n + e0))) (nI (3 * n + 1)).toNatClampNeg (nI (160 * n + e1))) (nI (3 * n + 2)).toNatClampNeg (nI (160 * n + e2)) = _
    rw [c0, c1, c2, a2.2 43 (by decide)]
theorem qm_text_l {N n k : Nat} (hn : n < 6) (hk : k ≤ 160) : ∀ (d i F : Nat) (τ : St), i + d = k → d < F → τ.1 1 = nI n → τ.1 3 = nI k → ∃ τ', fM_text_l14 N F τ (nI i) = fM_text_j49 N τ' ∧ KP [] [1] τ τ' ∧ ∀ z, τ'.2.1 1 z = if 160 * n + i ≤ z ∧ z < 160 * n + k then τ.2.1 3 (z - 160 * n) else τ.2.1 1 z := by
  intro d
  induction d with
  | zero =>
    intro i F τ h1 h2 h3 h4
    obtain ⟨F, rfl⟩ : ∃ k, F = k + 1 := ⟨F - 1, by omega⟩
    refine ⟨τ, ?_, KP.rf, fun k => by rw [if_neg (by omega)]⟩
    show (if τ.1 3 ≤ nI i then _ else _) = _
    rw [h4, if_pos (by rw [nI_leI (by omega) (by omega)]; omega)]
  | succ d ih =>
    intro i F τ h1 h2 h3 h4
    obtain ⟨F, rfl⟩ : ∃ k, F = k + 1 := ⟨F - 1, by omega⟩
    obtain ⟨τ', e1, e2, e3⟩ := ih (i + 1) F (sA τ 1 (nI (160 * n + i)) (τ.2.1 3 i)) (by omega) (by omega) h3 h4
    refine ⟨τ', ?_, (KP.a (by decide)).tr e2, fun z => ?_⟩
    · show (if τ.1 3 ≤ nI i then _ else _) = _
      rw [h4, if_neg (by rw [nI_leI (by omega) (by omega)]; omega), giN 160 (nI_b (by omega) (by decide)), h3, ix160, giN 960 (nI_b (by omega) (by decide)), nI_clamp (by omega), bnd_eq, bnd_eq, nI_1, e1]
    · rw [e3]
      show (if _ then τ.2.1 3 (z - 160 * n) else upd (τ.2.1 1) (nI (160 * n + i)).toNatClampNeg (τ.2.1 3 i) z) = _
      rw [nI_clamp (by omega)]
      unfold upd
      by_cases hz : z = 160 * n + i
      · rw [if_neg (by omega), if_pos hz, if_pos (by omega), hz, show 160 * n + i - 160 * n = i by omega]
      · rw [if_neg hz]
        by_cases hz2 : 160 * n + i ≤ z ∧ z < 160 * n + k
        · rw [if_pos hz2, if_pos (by omega)]
        · rw [if_neg hz2, if_neg (by omega)]
theorem tS_le {b : Nat → Int32} {sz k : Nat} (hs : sz ≤ 160) : tS b sz k ≤ sz := by
  unfold tS
  rcases (tk_pos (b := b) (i := tPos b sz k) (tPos_le hs k) hs).2 with h | ⟨_, h2, h3⟩
  · rw [tk_end h]; exact Nat.le_refl _
  · rw [h2]; omega
theorem TX_keep {t : Nat} {σ τ σ' τ' : St} (h : TX t σ τ) (h1 : ∀ i, i < 160 → τ'.2.1 1 (160 * t + i) = τ.2.1 1 (160 * t + i)) (h2 : τ'.2.1 2 t = τ.2.1 2 t) (h3 : ∀ i, i < 160 → σ'.2.1 41 (160 * t + i) = σ.2.1 41 (160 * t + i)) (h4 : ∀ j, j < 3 → σ'.2.1 42 (3 * t + j) = σ.2.1 42 (3 * t + j) ∧ σ'.2.1 43 (3 * t + j) = σ.2.1 43 (3 * t + j)) : TX t σ' τ' := by
  obtain ⟨b, sz, j, c0, c1, c2, g1, g2, g3, g4, g5, g6, g7, g8, g9, g10, g11, g12⟩ := h
  refine ⟨b, sz, j, c0, c1, c2, g1, ?_, fun i hi => ?_, g4, g5, fun i hi => ?_, ?_, ?_, ?_, ?_, ?_, ?_⟩
  · rw [h2]; exact g2
  · rw [h1 i (by omega)]; exact g3 i hi
  · rw [h3 i (by omega)]; exact g6 i hi
  · exact (h4 0 (by decide)).1.trans g7
  · exact (h4 0 (by decide)).2.trans g8
  · exact (h4 1 (by decide)).1.trans g9
  · exact (h4 1 (by decide)).2.trans g10
  · exact (h4 2 (by decide)).1.trans g11
  · exact (h4 2 (by decide)).2.trans g12
theorem R9_grow {n1 n8 m8 : Nat} {σ τ : St} (h : R9 n1 n8 σ τ) (hm : n8 ≤ m8) : R9 n1 m8 σ τ := by
  rcases h with h | ⟨a1, a2, k, a3, a4, a5, a6, a7, a8, a9, a10⟩
  · exact Or.inl h
  · exact Or.inr ⟨a1, a2, k, a3, a4, a5, a6, a7, a8, ⟨a9.1, by have := a9.2; omega⟩, a10⟩
theorem e_text {σ τ : St} (hR : Rel σ τ) : Both (fC_text N0 σ) (fM_text N0 τ) := by
  have hR' := hR
  obtain ⟨n1, n3, n4, n5, n6, n7, n8, g1, g2, g3, g4, g5, g6, g7, g8, g9, g10⟩ := hR
  obtain ⟨y1, y2, y3, y4, y5, y6, y7, z, z1, z2, z3, z4⟩ := g8
  unfold fC_text fM_text
  refine Both.full y2 (by decide) y3 y4 rfl (fun hl => ?_) (Both.mk hR')
  obtain ⟨σ1, r, a1, a2, a3, a4⟩ := q_readTape (b := σ.2.1 53) z1 z2 (fun _ _ => rfl)
  rw [a1, cal_eq]
  obtain ⟨τ1, b1, b2, b3⟩ := qm_text_l (N := N0) (n := n8) hl z1 z 0 N0 τ (by omega) (by unfold N0; omega) y4 z3
  rw [nI_0] at b1
  rw [b1]
  unfold fM_text_j49
  have t1 : τ1.1 1 = nI n8 := by rw [b2.1 1 (by decide)]; exact y4
  have t3 : τ1.1 3 = nI z := by rw [b2.1 3 (by decide)]; exact z3
  have cl : (nI n8).toNatClampNeg = n8 := nI_clamp (by omega)
  rw [t1, t3, giN 6 (nI_b hl (by decide)), bnd_eq, bnd_eq]
  rw [show (sI (sA τ1 2 (nI n8) (nI z)) 3 0).1 1 = nI n8 from t1]
  obtain ⟨τ2, v, c1, c2, c3⟩ := q_read (x := n8) (sz := z) (m := 0) (k := 0) (b := σ.2.1 53) (τ := sI (sA τ1 2 (nI n8) (nI z)) 3 0) (t := 0) (wh := 0) hl z1 (by show upd _ (nI n8).toNatClampNeg _ _ = _; rw [cl, pk_us]) (fun i hi => by
    show τ1.2.1 1 (160 * n8 + i) = _ ∧ _
    rw [b3, if_pos (by omega), show 160 * n8 + i - 160 * n8 = i by omega]
    obtain ⟨w1, w2⟩ := z4 i hi
    exact ⟨w1.symm, w1 ▸ w2⟩) (by decide) (by decide)
  rw [nI_0] at c1
  rw [c1, cal_eq]
  have kM : KP [1, 3, 6, 7, 8, 9, 11, 12, 13, 14, 15, 16, 17] [1, 2] τ τ2 := (((b2.wk (by decide) (by decide)).tr (KP.a (by decide))).tr (KP.i (by decide))).tr (c2.wk (by decide) (by decide))
  have m1 : ∀ q, τ2.2.1 1 q = if 160 * n8 + 0 ≤ q ∧ q < 160 * n8 + z then τ.2.1 3 (q - 160 * n8) else τ.2.1 1 q := by
    intro q; rw [c2.2 1 (by decide)]; exact b3 q
  have m2 : τ2.2.1 2 = upd (τ.2.1 2) n8 (nI z) := by
    rw [c2.2 2 (by decide)]
    show upd (τ1.2.1 2) (nI n8).toNatClampNeg (nI z) = _
    rw [cl, b2.2 2 (by decide)]
  have tape0 : τ2.1 3 = nI 0 := by rw [c2.1 3 (by decide)]; rfl
  generalize hP : pText (tK (σ.2.1 53) z) (tV (σ.2.1 53) z) = P at a4 c3
  rcases a4 with ⟨p1, p2, p3, p4, p5, p6, p7⟩ | ⟨p1, p2⟩
  · have q2 : τ2.1 13 = 0 := by
      rcases c3 with ⟨_, q2, _⟩ | ⟨q1, _⟩
      · exact q2
      · rw [p1] at q1; cases q1
    rw [p2, if_pos rfl, if_pos q2]
    obtain ⟨σ2, d1, d2, d3, d4, d5, d6⟩ := q_keep (σ := σ1) hl (by rw [a2.1 17 (by decide)]; exact y3) p5 p6 p7
    rw [d1, cal_eq, bnd_eq]
    have t1' : τ2.1 1 = nI n8 := by rw [c2.1 1 (by decide)]; exact t1
    have kC : KP [9, 10, 17, 20, 21] [13, 14, 41, 42, 43, 54, 55, 56] σ σ2 := (a2.wk (by decide) (by decide)).tr (d2.wk (by decide) (by decide))
    have kM2 : KP [1, 3, 6, 7, 8, 9, 11, 12, 13, 14, 15, 16, 17] [1, 2] τ (sI τ2 1 (τ2.1 1 + 1)) := kM.tr (KP.i (by decide))
    refine Both.mk2 ?_ ⟨n1, n3, n4, n5, n6, n7, n8 + 1, R1_f g1 kC kM2 (by decide), R2_f g2 kC kM2 (by decide), R3_f g3 kC kM2 (by decide), R4_f g4 kC kM2 (by decide), R5_f g5 kC kM2 (by decide), R6_f g6 kC kM2 (by decide), R7_f g7 kC kM2 (by decide), ⟨by omega, by omega, d3, ?_, ?_, ?_, fun t ht => ?_, 0, by omega, ?_, ?_, fun i hi => by omega⟩, R9_grow (R9_f g9 kC kM2 (by decide)) (by omega), R10_f g10 kC kM2 (by decide)⟩
    · show nI n8 = τ2.1 1 + 1 - 1
      rw [t1', nI_1, nI_pred]
    · show τ2.1 1 + 1 = _
      rw [t1', nI_1]
    · rw [kC.1 18 (by decide), kM2.1 2 (by decide)]; exact y5
    · rw [kM2.1 2 (by decide)]; exact ⟨y6.1, by have := y6.2; omega⟩
    · have e41 : ∀ q, σ2.2.1 41 q = if 160 * n8 ≤ q ∧ q < 160 * n8 + 160 then σ1.2.1 13 (q - 160 * n8) else σ.2.1 41 q := by
        intro q; rw [d4, a2.2 41 (by decide)]
      rw [a2.2 42 (by decide)] at d5
      rw [a2.2 43 (by decide)] at d6
      by_cases htn : t = n8
      · subst htn
        refine ⟨σ.2.1 53, z, P.2.1, P.2.2.1, P.2.2.2.1, P.2.2.2.2, z1, ?_, fun i hi => ?_, ?_, p3, fun i hi => ?_, ?_, ?_, ?_, ?_, ?_, ?_⟩
        · show τ2.2.1 2 t = _
          rw [m2, pk_us]
        · show τ2.2.1 1 (160 * t + i) = _ ∧ _
          rw [m1, if_pos (by omega), show 160 * t + i - 160 * t = i by omega]
          obtain ⟨w1, w2⟩ := z4 i hi
          exact ⟨w1.symm, w1 ▸ w2⟩
        · rw [hP]
          exact Prod.ext p1 rfl
        · rw [e41, if_pos (by omega), show 160 * t + i - 160 * t = i by omega]
          exact p4 i hi
        · rw [d5, pk_un (by omega), pk_un (by omega), pk_us]
        · rw [d6, pk_un (by omega), pk_un (by omega), pk_us]
        · rw [d5, pk_un (by omega), pk_us]
        · rw [d6, pk_un (by omega), pk_us, Nat.add_assoc]
        · rw [d5, pk_us, Nat.add_assoc]
        · rw [d6, pk_us]
          exact congrArg nI (by omega)
      · refine TX_keep (y7 t (by omega)) (fun i hi => ?_) ?_ (fun i hi => ?_) (fun j hj => ?_)
        · show τ2.2.1 1 (160 * t + i) = _
          rw [m1, if_neg (by omega)]
        · show τ2.2.1 2 t = _
          rw [m2, pk_un htn]
        · rw [e41, if_neg (by omega)]
        · rw [d5, d6, pk_un (by omega), pk_un (by omega), pk_un (by omega), pk_un (by omega), pk_un (by omega), pk_un (by omega)]
          exact ⟨rfl, rfl⟩
    · rw [d2.1 20 (by decide), a3]; rfl
    · show τ2.1 3 = _
      exact tape0
  · obtain ⟨q2, q3⟩ : τ2.1 13 = 1 ∧ τ2.1 14 = nI (tS (σ.2.1 53) z P.2.1) := by
      rcases c3 with ⟨q1, _⟩ | ⟨q1, q2, q3⟩
      · rw [p1] at q1; cases q1
      · exact ⟨q2, q3⟩
    have hts := tS_le (b := σ.2.1 53) (k := P.2.1) z1
    rw [p2, if_neg (by intro w; rw [eq_n, nI_toInt (by omega)] at w; have e : (-1 : Int32).toInt = -1 := rfl; omega), if_neg (by rw [q2]; decide), q3]
    refine Both.mk ⟨n1, n3, n4, n5, n6, n7, n8, R1_f g1 a2 kM (by decide), R2_f g2 a2 kM (by decide), R3_f g3 a2 kM (by decide), R4_f g4 a2 kM (by decide), R5_f g5 a2 kM (by decide), R6_f g6 a2 kM (by decide), R7_f g7 a2 kM (by decide), ⟨y1, y2, ?_, ?_, ?_, ?_, fun t ht => ?_, 0, by omega, a3, tape0, fun i hi => by omega⟩, R9_f g9 a2 kM (by decide), R10_f g10 a2 kM (by decide)⟩
    · rw [a2.1 17 (by decide)]; exact y3
    · rw [c2.1 1 (by decide)]; exact t1
    · rw [a2.1 18 (by decide), kM.1 2 (by decide)]; exact y5
    · rw [kM.1 2 (by decide)]; exact y6
    · refine TX_keep (y7 t ht) (fun i hi => ?_) ?_ (fun i hi => ?_) (fun j hj => ?_)
      · rw [m1, if_neg (by omega)]
      · rw [m2, pk_un (by omega)]
      · rw [a2.2 41 (by decide)]
      · rw [a2.2 42 (by decide), a2.2 43 (by decide)]
        exact ⟨rfl, rfl⟩
