theorem cal_id {β : Type} (o : Option (St × β)) : (cal o fun σ1 r2 => some (σ1, r2)) = o := by cases o <;> rfl
theorem sA_self {σ : St} {k : Nat} {i v : Int32} (h : σ.2.1 k i.toNatClampNeg = v) : sA σ k i v = σ := by
  have e : va_up σ.2.1 k (upd (σ.2.1 k) i.toNatClampNeg v) = σ.2.1 := by
    funext j
    unfold va_up
    split
    · next h1 =>
      rw [h1]; funext z; unfold upd; split
      · next h2 => rw [h2, h]
      · rfl
    · rfl
  show (σ.1, va_up σ.2.1 k (upd (σ.2.1 k) i.toNatClampNeg v), σ.2.2) = σ
  rw [e]
theorem ix4 (i p : Nat) : (4 : Int32) * nI i + nI p = nI (4 * i + p) := by
  rw [show (4 : Int32) = nI 4 from rfl, pk_mul, nI_add]
theorem ix4' (i p : Nat) : nI i * (4 : Int32) + nI p = nI (4 * i + p) := by
  rw [show (4 : Int32) = nI 4 from rfl, pk_mul, nI_add, Nat.mul_comm]
theorem q_man_l {N F n : Nat} {σ : St} (hF : 5 ≤ F) (hn : n < 10) (h : σ.1 4 = nI n) (h0 : ∀ i, 4 * n ≤ i → σ.2.1 7 i = 0) : fM_man_l86 N F σ 0 = fM_man_j113 N σ := by
  obtain ⟨F, rfl⟩ : ∃ k, F = k + 5 := ⟨F - 5, by omega⟩
  have st : ∀ (m p : Nat), p < 4 → fM_man_l86 N (m + 1) σ (nI p) = fM_man_l86 N m σ (nI (p + 1)) := by
    intro m p hp
    show (if (4 : Int32) ≤ nI p then _ else _) = _
    rw [if_neg (by rw [show (4 : Int32) = nI 4 from rfl, nI_leI (by decide) (by omega)]; omega)]
    rw [h, ix4]
    rw [giN 40 (nI_b (by omega) (by decide)), bnd_eq, bnd_eq, nI_1, sA_self]
    rw [nI_clamp (by omega)]
    exact h0 _ (by omega)
  rw [← nI_0, st _ 0 (by omega), st _ 1 (by omega), st _ 2 (by omega), st _ 3 (by omega)]
  show (if (4 : Int32) ≤ nI 4 then _ else _) = _
  rw [if_pos (by decide)]
theorem m_add {σ τ : St} (hR : Rel σ τ) (a1 a2 a3 : Int32) : BothP (fun σ1 τ1 => Rel σ1 τ1 ∧ KP [14] [32, 33, 34] σ σ1 ∧ KP [4] [4, 5, 6, 7] τ τ1) (fC_S_add N0 σ a1 a2 a3) (fM_man N0 τ a1 a2 a3) := by
  have hR' := hR
  obtain ⟨n1, n3, n4, n5, n6, n7, n8, h1, h2, h3, h4, h5, h6, h7, h8, h9, h10⟩ := hR
  obtain ⟨k1, k2, k3, k4, k5, k6, k7, k8, k9, k10, k11, k12⟩ := h1
  unfold fC_S_add fM_man
  simp only [cal_eq, ite_b, i_0_3, q_isSide]
  refine Both.same (fun c1 => ?_) (fun c => Both.mk ⟨hR', KP.rf, KP.rf⟩)
  simp only [cal_eq, ite_b, i_0_9999, q_isPlace]
  refine Both.same (fun c2 => ?_) (fun c => Both.mk ⟨hR', KP.rf, KP.rf⟩)
  simp only [cal_eq, ite_b, i_m99_99, q_isSpeed]
  refine Both.same (fun c3 => ?_) (fun c => Both.mk ⟨hR', KP.rf, KP.rf⟩)
  refine Both.full k1 (by decide) k2 k3 rfl (fun hl => ?_) (Both.mk ⟨hR', KP.rf, KP.rf⟩)
  have hg := nI_b hl (by decide)
  simp only [bnd_eq, sA_i, sI_i, reduceIte, k2, k3, giN 10 hg]
  rw [q_man_l (n := n1) (σ := sA (sA (sA τ 4 (nI n1) a1) 5 (nI n1) a2) 6 (nI n1) a3) (by decide) hl k3 k12]
  unfold fM_man_j113
  simp only [bnd_eq, sA_i, sI_i, reduceIte, k3]
  refine Both.mk ⟨⟨n1 + 1, n3, n4, n5, n6, n7, n8, ?_, h2, h3, h4, ?_, h6, h7, h8, ?_, h10⟩, (((KP.a (by decide)).tr (KP.a (by decide))).tr (KP.a (by decide))).tr (KP.i (by decide)), (((KP.a (by decide)).tr (KP.a (by decide))).tr (KP.a (by decide))).tr (KP.i (by decide))⟩
  · exact ⟨by omega, nI_1 n1, nI_1 n1, congrArg (fun f => upd f _ a1) k4, congrArg (fun f => upd f _ a2) k5, congrArg (fun f => upd f _ a3) k6, k7, bt_upd k8 c1, bt_upd k9 c2, bt_upd k10 c3, k11, fun i hi => k12 i (by omega)⟩
  · have h5' := R5_grow h5 (Nat.le_succ n1) (Nat.le_refl _) (Nat.le_refl _)
    obtain ⟨g1, g2, g3, g4, g5, g6, g7, g8, g9, g10⟩ := h5'
    refine ⟨g1, g2, g3, g4, g5, g6, g7, g8, g9, fun i hi => ?_⟩
    obtain ⟨q1, q2, q3, q4, q5, q6, q7⟩ := g10 i hi
    refine ⟨q1, q2, q3, q4, q5, q6, ?_⟩
    obtain ⟨_, z2, _⟩ := h5.2.2.2.2.2.2.2.2.2 i hi
    obtain ⟨m, hm, hm2, e⟩ := bt_nI z2
    show σ.2.1 52 i = upd (τ.2.1 4) (nI n1).toNatClampNeg a1 (τ.2.1 14 i).toNatClampNeg
    rw [q7, e, nI_clamp hm2, nI_clamp (by omega), pk_un (by omega)]
  · rcases h9 with h9 | ⟨g1, g2, k, g3, g4⟩
    · exact Or.inl h9
    · exact Or.inr ⟨g1, g2, k, by omega, g4⟩
theorem e_man {σ τ : St} (hR : Rel σ τ) (a1 a2 a3 : Int32) : Both (fC_man N0 σ a1 a2 a3) (fM_man N0 τ a1 a2 a3) := by
  unfold fC_man
  rw [cal_id]
  obtain ⟨σ1, τ1, r, e1, e2, h, _⟩ := m_add hR a1 a2 a3
  exact ⟨σ1, τ1, r, e1, e2, h⟩
theorem q_offOf {N i p : Nat} {σ : St} (hi : i < 10) (hp : p < 4) : fC_S_offOf N σ (nI i) (nI p) = some (σ, σ.2.1 35 (4 * i + p)) := by
  unfold fC_S_offOf
  rw [ix4', bnd_eq, if_neg (nI_pos (by omega)), if_neg (by rw [show (40 : Int32) = nI 40 from rfl, nI_leI (by decide) (by omega)]; omega), giN 40 (nI_b (by omega) (by decide)), nI_clamp (by omega)]
theorem e_part {σ τ : St} (hR : Rel σ τ) (a1 a2 a3 : Int32) : Both (fC_part N0 σ a1 a2 a3) (fM_part N0 τ a1 a2 a3) := by
  have hR' := hR
  obtain ⟨n1, n3, n4, n5, n6, n7, n8, h1, h2, h3, h4, h5, h6, h7, h8, h9, h10⟩ := hR
  obtain ⟨k1, k2, k3, k4, k5, k6, k7, k8, k9, k10, k11, k12⟩ := h1
  unfold fC_part fM_part
  rw [q_S_has (n := n1) (by omega) k2, qm_isMan (n := n1) (by omega) k3]
  simp only [cal_eq, ite_b, q_isPart, i_0_3]
  refine Both.same (fun c1 => ?_) (fun c => Both.mk hR')
  refine Both.same (fun c2 => ?_) (fun c => Both.mk hR')
  simp only [cal_eq, ite_b, i_m199_199, w_m199_199]
  refine Both.same (fun c3 => ?_) (fun c => Both.mk hR')
  obtain ⟨i, hi, hi2, rfl⟩ := bt_nI c1
  obtain ⟨p, hp, hp2, rfl⟩ := bt_nI c2
  rw [q_offOf (by omega) (by omega), ix4, ix4']
  simp only [cal_eq, bnd_eq, giN 40 (nI_b (show 4 * i + p < 40 by omega) (by decide)), nI_clamp (show 4 * i + p < 2 ^ 31 by omega), k7]
  refine Both.mk ⟨n1, n3, n4, n5, n6, n7, n8, ?_, h2, h3, h4, h5, h6, h7, h8, h9, h10⟩
  refine ⟨k1, k2, k3, k4, k5, k6, congrArg (fun f => upd f _ a3) k7, k8, k9, k10, bt_upd k11 c3, fun j hj => ?_⟩
  show upd (τ.2.1 7) (nI (4 * i + p)).toNatClampNeg a3 j = 0
  rw [nI_clamp (by omega), pk_un (by omega)]
  exact k12 j hj
theorem e_move {σ τ : St} (hR : Rel σ τ) (a1 a2 a3 : Int32) : Both (fC_move N0 σ a1 a2 a3) (fM_move N0 τ a1 a2 a3) := by
  have hR' := hR
  obtain ⟨n1, n3, n4, n5, n6, n7, n8, h1, h2, h3, h4, h5, h6, h7, h8, h9, h10⟩ := hR
  obtain ⟨k1, k2, k3, k4, k5, k6, k7, k8, k9, k10, k11, k12⟩ := h1
  unfold fC_move fM_move
  rw [q_S_has (n := n1) (by omega) k2, qm_isMan (n := n1) (by omega) k3]
  simp only [cal_eq, ite_b, i_0_1]
  refine Both.same (fun c1 => ?_) (fun c => Both.mk hR')
  have hb := bt_b c1 (n := 10) (by omega)
  by_cases e0 : a2 = 0
  · subst e0
    rw [if_pos rfl, if_pos (by decide), if_pos rfl, q_isPlace]
    unfold fM_move_j31 fM_move_j44 fM_move_j73
    simp only [reduceIte, cal_eq, ite_b, i_0_9999, giN 10 hb, bnd_eq]
    refine Both.same (fun c2 => ?_) (fun c => ?_)
    · rw [k5]
      exact Both.mk ⟨n1, n3, n4, n5, n6, n7, n8, ⟨k1, k2, k3, k4, congrArg (fun f => upd f _ a3) k5, k6, k7, k8, bt_upd k9 c2, k10, k11, k12⟩, h2, h3, h4, h5, h6, h7, h8, h9, h10⟩
    · unfold fC_move_j59
      rw [if_neg (by decide)]
      exact Both.mk hR'
  · rw [if_neg e0]
    unfold fC_move_j59
    by_cases e1 : a2 = 1
    · subst e1
      rw [if_pos rfl, if_pos (by decide), if_neg e0, q_isSpeed]
      unfold fM_move_j31 fM_move_j44 fM_move_j73
      simp only [if_neg e0, cal_eq, ite_b, i_m99_99, giN 10 hb, bnd_eq]
      refine Both.same (fun c2 => ?_) (fun c => Both.mk hR')
      rw [k6]
      exact Both.mk ⟨n1, n3, n4, n5, n6, n7, n8, ⟨k1, k2, k3, k4, k5, congrArg (fun f => upd f _ a3) k6, k7, k8, k9, bt_upd k10 c2, k11, k12⟩, h2, h3, h4, h5, h6, h7, h8, h9, h10⟩
    · rw [if_neg e1, if_neg (fun z => ?_)]
      · exact Both.mk hR'
      · have h0 : ¬ a2.toInt = 0 := fun z => e0 (Int32.toInt_inj.mp (z.trans rfl))
        have h1 : ¬ a2.toInt = 1 := fun z => e1 (Int32.toInt_inj.mp (z.trans rfl))
        have := z.1; have := z.2; omega
