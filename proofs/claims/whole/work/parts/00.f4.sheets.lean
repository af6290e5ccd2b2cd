theorem ix40 (i p : Nat) : (40 : Int32) * nI i + nI p = nI (40 * i + p) := by
  rw [show (40 : Int32) = nI 40 from rfl, pk_mul, nI_add]
theorem ix40' (i p : Nat) : nI i * (40 : Int32) + nI p = nI (40 * i + p) := by
  rw [show (40 : Int32) = nI 40 from rfl, pk_mul, nI_add, Nat.mul_comm]
theorem q_layOut_l {N s : Nat} (hs : s < 4) : ∀ (d i F : Nat) (σ : St), i + d = 40 → d < F → ∃ σ', fC_H_layOut_l17 N F σ (nI s) (nI i) = some (σ', ()) ∧ KP [] [27] σ σ' ∧ ∀ k, σ'.2.1 27 k = if 40 * s + i ≤ k ∧ k < 40 * s + 40 then 0 else σ.2.1 27 k := by
  intro d
  induction d with
  | zero =>
    intro i F σ h1 h2
    obtain ⟨F, rfl⟩ : ∃ k, F = k + 1 := ⟨F - 1, by omega⟩
    refine ⟨σ, ?_, KP.rf, fun k => by rw [if_neg (by omega)]⟩
    show (if (40 : Int32) ≤ nI i then _ else _) = _
    rw [if_pos (by rw [show i = 40 by omega]; decide)]
  | succ d ih =>
    intro i F σ h1 h2
    obtain ⟨F, rfl⟩ : ∃ k, F = k + 1 := ⟨F - 1, by omega⟩
    obtain ⟨σ', e1, e2, e3⟩ := ih (i + 1) F (sA σ 27 (nI (40 * s + i)) 0) (by omega) (by omega)
    refine ⟨σ', ?_, (KP.a (by decide)).tr e2, fun k => ?_⟩
    · show (if (40 : Int32) ≤ nI i then _ else _) = _
      rw [if_neg (by rw [show (40 : Int32) = nI 40 from rfl, nI_leI (by decide) (by omega)]; omega), ix40', giN 160 (nI_b (by omega) (by decide)), bnd_eq, bnd_eq, nI_1, e1]
    · rw [e3, sA_a, if_pos rfl, nI_clamp (by omega)]
      unfold upd
      by_cases hk : k = 40 * s + i
      · rw [if_pos hk, if_pos (show 40 * s + i ≤ k ∧ k < 40 * s + 40 by omega)]; split <;> rfl
      · rw [if_neg hk]
        by_cases hk2 : 40 * s + i ≤ k ∧ k < 40 * s + 40
        · rw [if_pos hk2, if_pos (by omega)]
        · rw [if_neg hk2, if_neg (by omega)]
theorem q_layOut {s : Nat} (hs : s < 4) (σ : St) (a b : Int32) : ∃ σ', fC_H_layOut N0 σ (nI s) a b = some (σ', ()) ∧ KP [] [25, 26, 27] σ σ' ∧ σ'.2.1 25 = upd (σ.2.1 25) s a ∧ σ'.2.1 26 = upd (σ.2.1 26) s b ∧ ∀ k, σ'.2.1 27 k = if 40 * s ≤ k ∧ k < 40 * s + 40 then 0 else σ.2.1 27 k := by
  obtain ⟨σ', e1, e2, e3⟩ := q_layOut_l (N := N0) hs 40 0 N0 (sA (sA σ 25 (nI s) a) 26 (nI s) b) rfl (by decide)
  have ec : (nI s).toNatClampNeg = s := nI_clamp (by omega)
  refine ⟨σ', ?_, ((KP.a (by decide)).tr (KP.a (by decide))).tr (e2.wk (by decide) (by decide)), ?_, ?_, e3⟩
  · unfold fC_H_layOut
    simp only [giN 4 (nI_b hs (by decide)), bnd_eq]
    rw [← nI_0]; exact e1
  · rw [e2.2 25 (by decide)]; show upd _ _ _ = _; rw [ec]
  · rw [e2.2 26 (by decide)]; show upd _ _ _ = _; rw [ec]; rfl
theorem qm_sheet_l {N s m : Nat} (hs : s < 4) (hm : m ≤ 40) {so : Int32} (hso : ¬ so < 0) : ∀ (d i F : Nat) (σ : St), i + d = m → d < F → ∃ σ', fM_sheet_l77 N F σ (nI s) so (nI m) (nI i) = some (σ', 1) ∧ KP [] [33] σ σ' ∧ ∀ k, σ'.2.1 33 k = if 40 * s + i ≤ k ∧ k < 40 * s + m then 0 else σ.2.1 33 k := by
  intro d
  induction d with
  | zero =>
    intro i F σ h1 h2
    obtain ⟨F, rfl⟩ : ∃ k, F = k + 1 := ⟨F - 1, by omega⟩
    refine ⟨σ, ?_, KP.rf, fun k => by rw [if_neg (by omega)]⟩
    show (if nI m ≤ nI i then _ else _) = _
    rw [if_pos (by rw [nI_leI (by omega) (by omega)]; omega)]
  | succ d ih =>
    intro i F σ h1 h2
    obtain ⟨F, rfl⟩ : ∃ k, F = k + 1 := ⟨F - 1, by omega⟩
    obtain ⟨σ', e1, e2, e3⟩ := ih (i + 1) F (sA σ 33 (nI (40 * s + i)) 0) (by omega) (by omega)
    refine ⟨σ', ?_, (KP.a (by decide)).tr e2, fun k => ?_⟩
    · show (if nI m ≤ nI i then _ else _) = _
      rw [if_neg (by rw [nI_leI (by omega) (by omega)]; omega), if_neg hso, ix40, giN 160 (nI_b (by omega) (by decide)), bnd_eq, bnd_eq, nI_1, e1]
    · rw [e3, sA_a, if_pos rfl, nI_clamp (by omega)]
      unfold upd
      by_cases hk : k = 40 * s + i
      · rw [if_pos hk, if_pos (show 40 * s + i ≤ k ∧ k < 40 * s + m by omega)]; split <;> rfl
      · rw [if_neg hk]
        by_cases hk2 : 40 * s + i ≤ k ∧ k < 40 * s + m
        · rw [if_pos hk2, if_pos (by omega)]
        · rw [if_neg hk2, if_neg (by omega)]
/-- all but the sheets -/
theorem Rel_s {σ τ σ' τ' : St} (h : Rel σ τ) (hC : KP [] [25, 26, 27] σ σ') (hM : KP [] [30, 31, 32, 33] τ τ') (h10' : R10 σ' τ') : Rel σ' τ' := by
  obtain ⟨n1, n3, n4, n5, n6, n7, n8, h1, h2, h3, h4, h5, h6, h7, h8, h9, h10⟩ := h
  exact ⟨n1, n3, n4, n5, n6, n7, n8, R1_f h1 hC hM (by decide), R2_f h2 hC hM (by decide), R3_f h3 hC hM (by decide), R4_f h4 hC hM (by decide), R5_f h5 hC hM (by decide), R6_f h6 hC hM (by decide), R7_f h7 hC hM (by decide), R8_f h8 hC hM (by decide), R9_f h9 hC hM (by decide), h10'⟩
theorem Rel_10 {σ τ : St} (h : Rel σ τ) : R10 σ τ := by
  obtain ⟨n1, n3, n4, n5, n6, n7, n8, h1, h2, h3, h4, h5, h6, h7, h8, h9, h10⟩ := h
  exact h10
theorem e_sheet {σ τ : St} (hR : Rel σ τ) (a1 a2 a3 : Int32) : Both (fC_sheet N0 σ a1 a2 a3) (fM_sheet N0 τ a1 a2 a3) := by
  have h10 := Rel_10 hR
  have z0 : (0 : Int32).toInt = 0 := rfl
  unfold fC_sheet fM_sheet
  simp only [cal_eq, ite_b, q_isSheet, qm_isSheet, i_m1_2, w_m1_2]
  refine Both.same (fun c1 => ?_) (fun c => Both.mk hR)
  refine Both.same (fun c2 => ?_) (fun c => Both.mk hR)
  obtain ⟨s, hs, hs2, rfl⟩ := bt_nI c1
  have hs : s < 4 := by omega
  have ec : (nI s).toNatClampNeg = s := nI_clamp (by omega)
  have hg := nI_b hs (show 4 < 2 ^ 31 by decide)
  by_cases e1 : a2 = -1
  · subst e1
    rw [if_pos rfl, if_pos (by decide)]
    obtain ⟨σ', q1, q2, q3, q4, q5⟩ := q_layOut hs σ (-1) 0
    rw [q1]
    unfold fM_sheet_j34
    rw [if_pos (by decide)]
    unfold fM_sheet_j45
    rw [if_pos (by decide)]
    unfold fM_sheet_j59
    simp only [giN 4 hg, bnd_eq, cal_eq]
    have e : ∀ σ, fM_sheet_l77 N0 N0 σ (nI s) (-1) a3 0 = some (σ, 1) := by
      intro σ
      show (if a3 ≤ 0 then _ else _) = _
      by_cases h : a3 ≤ 0
      · rw [if_pos h]
      · rw [if_neg h, if_pos (by decide)]
    rw [e]
    refine Both.mk (Rel_s hR q2 (((KP.a (by decide)).tr (KP.a (by decide))).tr (KP.a (by decide))) ?_)
    intro t ht
    rw [q3, q4]
    by_cases h : t = s
    · subst h
      refine Or.inl ⟨pk_us, pk_us, ?_⟩
      show upd (τ.2.1 30) (nI t).toNatClampNeg (vp_nar .boolean 0) t = 0
      rw [ec, pk_us]; rfl
    · rw [pk_un h, pk_un h]
      rcases h10 t ht with ⟨g1, g2, g3⟩ | ⟨g1, g2, g3, g4, g5, g6⟩
      · refine Or.inl ⟨g1, g2, ?_⟩
        show upd (τ.2.1 30) (nI s).toNatClampNeg _ t = 0
        rw [ec, pk_un h]; exact g3
      · refine Or.inr ⟨g1, ?_, ?_, ?_, g5, fun i hi => ?_⟩
        · show upd (τ.2.1 30) (nI s).toNatClampNeg _ t = 1
          rw [ec, pk_un h]; exact g2
        · show upd (τ.2.1 31) (nI s).toNatClampNeg _ t = _
          rw [ec, pk_un h]; exact g3
        · show upd (τ.2.1 32) (nI s).toNatClampNeg _ t = _
          rw [ec, pk_un h]; exact g4
        · have := g5.2
          rw [q5, if_neg (by omega)]
          exact g6 i hi
  · have hn : ¬ a2 < 0 := by
      intro h
      rw [lt_n] at h
      exact e1 (Int32.toInt_inj.mp (by have := c2.1; show a2.toInt = -1; omega))
    have hb : bt a2 0 2 := ⟨by rw [lt_n] at hn; omega, c2.2⟩
    rw [if_neg e1, if_neg hn]
    refine Both.same (fun c3 => ?_) (fun c => Both.mk hR)
    unfold fM_sheet_j34
    rw [if_neg hn]
    refine Both.same (fun c4 => ?_) (fun c => Both.mk hR)
    rw [le_n] at c3 c4
    obtain ⟨m, hm, hm2, rfl⟩ := bt_nI (show bt a3 0 40 from ⟨c4, c3⟩)
    have hm : m ≤ 40 := by omega
    obtain ⟨σ', q1, q2, q3, q4, q5⟩ := q_layOut hs σ a2 (nI m)
    rw [q1]
    unfold fM_sheet_j45
    rw [if_neg hn]
    unfold fM_sheet_j59
    simp only [giN 4 hg, bnd_eq, cal_eq]
    obtain ⟨τ', p1, p2, p3⟩ := qm_sheet_l (N := N0) hs hm hn m 0 N0 (sA (sA (sA τ 30 (nI s) (vp_nar .boolean 1)) 31 (nI s) a2) 32 (nI s) (nI m)) (by omega) (by unfold N0; omega)
    rw [nI_0] at p1
    rw [p1]
    refine Both.mk (Rel_s hR q2 ((((KP.a (by decide)).tr (KP.a (by decide))).tr (KP.a (by decide))).tr (p2.wk (by decide) (by decide))) ?_)
    intro t ht
    have p30 : τ'.2.1 30 = upd (τ.2.1 30) s 1 := by
      rw [p2.2 30 (by decide)]; show upd _ _ _ = _; rw [ec]; rfl
    have p31 : τ'.2.1 31 = upd (τ.2.1 31) s a2 := by
      rw [p2.2 31 (by decide)]; show upd _ _ _ = _; rw [ec]; rfl
    have p32 : τ'.2.1 32 = upd (τ.2.1 32) s (nI m) := by
      rw [p2.2 32 (by decide)]; show upd _ _ _ = _; rw [ec]; rfl
    have p33 : ∀ k, τ'.2.1 33 k = if 40 * s + 0 ≤ k ∧ k < 40 * s + m then 0 else τ.2.1 33 k := p3
    rw [q3, q4, p30, p31, p32]
    by_cases h : t = s
    · subst h
      simp only [pk_us]
      refine Or.inr ⟨hb, True.intro, True.intro, True.intro, ⟨c4, c3⟩, fun i hi => ?_⟩
      rw [nI_toInt hm2] at hi
      rw [q5, p33, if_pos (by omega), if_pos (by omega)]
    · simp only [pk_un h]
      rcases h10 t ht with g | ⟨g1, g2, g3, g4, g5, g6⟩
      · exact Or.inl g
      · refine Or.inr ⟨g1, g2, g3, g4, g5, fun i hi => ?_⟩
        have := g5.2
        rw [q5, p33, if_neg (by omega), if_neg (by omega)]
        exact g6 i hi
