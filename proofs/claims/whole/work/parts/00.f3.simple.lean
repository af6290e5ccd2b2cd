theorem all_n : ∀ k, k ≤ 24 → ((1 : Int32) <<< ((nI k) &&& 31)) - 1 = nI (2 ^ k - 1) := by decide +kernel
theorem pow24 {k : Nat} (h : k ≤ 24) : 2 ^ k - 1 ≤ 16777215 := by
  have := Nat.pow_le_pow_right (show 0 < 2 by decide) h
  have e : 2 ^ 24 = 16777216 := by decide
  omega
theorem q_all {N k : Nat} {σ : St} (hk : k ≤ 24) (h : σ.1 19 = nI k) : fC_F_all N σ = some (σ, nI (2 ^ k - 1)) := by
  unfold fC_F_all; rw [h, all_n k hk]
theorem qm_all {N k : Nat} {σ : St} (hk : k ≤ 24) (h : σ.1 23 = nI k) : fM_all N σ = some (σ, nI (2 ^ k - 1)) := by
  unfold fM_all; rw [h, all_n k hk]
theorem q_hasAll {N k : Nat} {σ : St} {a : Int32} (hk : k ≤ 24) (h : σ.1 19 = nI k) : fC_F_hasAll N σ a = some (σ, if bt a 0 (2 ^ k - 1) then 1 else 0) := by
  have hp := pow24 hk
  have e1 : ((2 ^ k - 1 : Nat) : Int) = 2 ^ k - 1 := by
    rw [Int.natCast_sub (Nat.one_le_two_pow)]; simp
  unfold fC_F_hasAll
  rw [q_all hk h]
  simp only [cal_eq]
  have e0 : (0 : Int32).toInt = 0 := rfl
  by_cases h1 : a < 0
  · rw [if_pos h1, if_neg (fun z => ?_)]
    rw [lt_n] at h1; have := z.1; omega
  · rw [if_neg h1]
    rw [lt_n] at h1
    by_cases h2 : nI (2 ^ k - 1) < a
    · rw [if_pos h2, if_neg (fun z => ?_)]
      rw [lt_n, nI_toInt (by omega)] at h2; have := z.2; omega
    · rw [if_neg h2, if_pos ?_]
      rw [lt_n, nI_toInt (by omega)] at h2
      exact ⟨by omega, by omega⟩
theorem qm_inall {N k : Nat} {σ : St} {a : Int32} (hk : k ≤ 24) : fM_in N σ a.toInt64 0 (nI (2 ^ k - 1)).toInt64 = some (σ, if bt a 0 (2 ^ k - 1) then 1 else 0) := by
  have hp := pow24 hk
  have e1 : ((2 ^ k - 1 : Nat) : Int) = 2 ^ k - 1 := by
    rw [Int.natCast_sub (Nat.one_le_two_pow)]; simp
  refine q_in32 rfl ?_
  rw [Int32.toInt_toInt64, nI_toInt (by omega), e1]
theorem bt_wk {x : Int32} {a b c d : Int} (h : bt x a b) (h1 : c ≤ a) (h2 : b ≤ d) : bt x c d := ⟨by have := h.1; omega, by have := h.2; omega⟩
theorem all_le {k : Nat} (h : k ≤ 24) : (2 : Int) ^ k - 1 ≤ 16777215 := by
  have := pow24 h
  have e1 : ((2 ^ k - 1 : Nat) : Int) = 2 ^ k - 1 := by
    rw [Int.natCast_sub (Nat.one_le_two_pow)]; simp
  omega
theorem e_call {σ τ : St} (hR : Rel σ τ) (a1 a2 a3 a4 a5 : Int32) : Both (fC_call N0 σ a1 a2 a3 a4 a5) (fM_call N0 τ a1 a2 a3 a4 a5) := by
  have hR' := hR
  obtain ⟨n1, n3, n4, n5, n6, n7, n8, h1, h2, h3, h4, h5, h6, h7, h8, h9, h10⟩ := hR
  obtain ⟨k1, k2, k3, k4, k5, k6, k7, k8, k9, k10⟩ := h5
  unfold fC_call fM_call
  simp only [cal_eq, ite_b, i_0_5, w_0_5]
  refine Both.same (fun c1 => ?_) (fun c => Both.mk hR')
  rw [q_S_has (n := n1) (by have := h1.1; omega) h1.2.1, qm_isMan (n := n1) (by have := h1.1; omega) h1.2.2.1]
  simp only [cal_eq, ite_b]
  refine Both.same (fun c2 => ?_) (fun c => Both.mk hR')
  rw [q_S_has (n := n1) (by have := h1.1; omega) h1.2.1, qm_isMan (n := n1) (by have := h1.1; omega) h1.2.2.1]
  simp only [cal_eq, ite_b]
  refine Both.same (fun c3 => ?_) (fun c => Both.mk hR')
  refine Both.same (fun c => Both.mk hR') (fun c4 => ?_)
  simp only [cal_eq, ite_b, q_isTick, qm_isTick]
  refine Both.same (fun c5 => ?_) (fun c => Both.mk hR')
  refine Both.same (fun c => Both.mk hR') (fun c6 => ?_)
  rw [q_A_has (n := n3) (by have := h3.1; omega) h3.2.1, qm_inn (n := n3) (by have := h3.1; omega) h3.2.2.1]
  simp only [cal_eq, ite_b]
  refine Both.same (fun c7 => ?_) (fun c => Both.mk hR')
  rw [q_O_has (n := n4) (by have := h4.1; omega) h4.2.1, qm_inn (n := n4) (by have := h4.1; omega) h4.2.2.1]
  simp only [cal_eq, ite_b]
  refine Both.same (fun c8 => ?_) (fun c => Both.mk hR')
  rw [giN 10 (bt_b c2 (by have := h1.1; omega)), cal_id]
  unfold fC_F_add
  refine Both.full k1 (by decide) k2 k3 rfl (fun hl => ?_) (Both.mk hR')
  have hg := nI_b hl (by decide)
  simp only [bnd_eq, sA_i, sI_i, reduceIte, k2, k3, giN 24 hg]
  refine Both.mk ⟨n1, n3, n4, n5 + 1, n6, n7, n8, h1, h2, h3, h4, ?_, h6, h7, h8, h9, h10⟩
  have e : (nI n5).toNatClampNeg = n5 := nI_clamp (by omega)
  refine ⟨by omega, nI_1 n5, nI_1 n5, congrArg (fun f => upd f _ a1) k4, congrArg (fun f => upd f _ a2) k5, congrArg (fun f => upd f _ a3) k6, congrArg (fun f => upd f _ a4) k7, congrArg (fun f => upd f _ (a5 / 10)) k8, congrArg (fun f => upd f _ (a5 - a5 / 10 * 10)) k9, ?_⟩
  intro i hi
  show bt (upd (τ.2.1 13) (nI n5).toNatClampNeg a1 i) 0 5 ∧ bt (upd (τ.2.1 14) (nI n5).toNatClampNeg a2 i) 0 (n1 - 1) ∧ bt (upd (τ.2.1 15) (nI n5).toNatClampNeg a3 i) 0 (n1 - 1) ∧ bt (upd (τ.2.1 16) (nI n5).toNatClampNeg a4 i) 0 200 ∧ bt (upd (τ.2.1 17) (nI n5).toNatClampNeg (a5 / 10) i) 0 (n3 - 1) ∧ bt (upd (τ.2.1 18) (nI n5).toNatClampNeg (a5 - a5 / 10 * 10) i) 0 (n4 - 1) ∧ upd (σ.2.1 52) (nI n5).toNatClampNeg (σ.2.1 32 a2.toNatClampNeg) i = τ.2.1 4 (upd (τ.2.1 14) (nI n5).toNatClampNeg a2 i).toNatClampNeg
  rw [e]
  by_cases hi2 : i = n5
  · subst hi2
    simp only [pk_us]
    exact ⟨c1, c2, c3, c5, c7, c8, by rw [h1.2.2.2.1]⟩
  · simp only [pk_un hi2]
    exact k10 i (by omega)
theorem e_match {σ τ : St} (hR : Rel σ τ) (a1 a2 a3 : Int32) : Both (fC_match N0 σ a1 a2 a3) (fM_match N0 τ a1 a2 a3) := by
  have hR' := hR
  obtain ⟨n1, n3, n4, n5, n6, n7, n8, h1, h2, h3, h4, h5, h6, h7, h8, h9, h10⟩ := hR
  obtain ⟨k1, k2, k3, k4, k5, k6, k7⟩ := h6
  unfold fC_match fM_match
  refine Both.same (fun c => Both.mk hR') (fun c1 => ?_)
  simp only [cal_eq, ite_b, i_0_3, q_isSide]
  refine Both.same (fun c2 => ?_) (fun c => Both.mk hR')
  refine Both.same (fun c3 => ?_) (fun c => Both.mk hR')
  refine Both.same (fun c => Both.mk hR') (fun c4 => ?_)
  simp only [cal_eq, ite_b, i_0_99, w_0_99]
  refine Both.same (fun c5 => ?_) (fun c => Both.mk hR')
  rw [q_hasAll h5.1 h5.2.1, qm_all h5.1 h5.2.2.1]
  simp only [cal_eq, ite_b, qm_inall h5.1]
  refine Both.same (fun c6 => ?_) (fun c => Both.mk hR')
  rw [cal_id]
  unfold fC_L_add
  refine Both.full k1 (by decide) k2 k3 rfl (fun hl => ?_) (Both.mk hR')
  have hg := nI_b hl (by decide)
  simp only [bnd_eq, sA_i, sI_i, reduceIte, k2, k3, giN 12 hg]
  refine Both.mk ⟨n1, n3, n4, n5, n6 + 1, n7, n8, h1, h2, h3, h4, h5, ?_, h7, h8, h9, h10⟩
  have e : (nI n6).toNatClampNeg = n6 := nI_clamp (by omega)
  refine ⟨by omega, nI_1 n6, nI_1 n6, congrArg (fun f => upd f _ (a1 / 10)) k4, congrArg (fun f => upd f _ (a1 - a1 / 10 * 10)) k5, congrArg (fun f => upd f _ a3) k6, ?_⟩
  intro i hi
  show bt (upd (τ.2.1 19) (nI n6).toNatClampNeg (a1 / 10) i) 0 3 ∧ bt (upd (τ.2.1 20) (nI n6).toNatClampNeg (a1 - a1 / 10 * 10) i) 0 3 ∧ bt (upd (σ.2.1 17) (nI n6).toNatClampNeg a2 i) 0 99 ∧ upd (τ.2.1 21) (nI n6).toNatClampNeg (a2 / 10) i = upd (σ.2.1 17) (nI n6).toNatClampNeg a2 i / 10 ∧ upd (τ.2.1 22) (nI n6).toNatClampNeg (a2 - a2 / 10 * 10) i = upd (σ.2.1 17) (nI n6).toNatClampNeg a2 i - upd (σ.2.1 17) (nI n6).toNatClampNeg a2 i / 10 * 10 ∧ bt (upd (τ.2.1 23) (nI n6).toNatClampNeg a3 i) 0 16777215
  rw [e]
  by_cases hi2 : i = n6
  · subst hi2
    simp only [pk_us]
    exact ⟨c2, c3, c5, True.intro, True.intro, bt_wk c6 (by decide) (all_le h5.1)⟩
  · simp only [pk_un hi2]
    exact k7 i (by omega)
/-! kinds -/
def und (k j : Nat) : Bool := k == j || j == 0 || (j == 1 && k == 4) || (j == 2 && (k == 3 || k == 5))
theorem lt6 {k : Nat} (h : k < 6) : k = 0 ∨ k = 1 ∨ k = 2 ∨ k = 3 ∨ k = 4 ∨ k = 5 := by omega
theorem q_isUnder {σ : St} {k j : Nat} (hk : k < 6) (hj : j < 6) : fC_isUnder N0 σ (nI k) (nI j) = some (σ, if und k j then 1 else 0) := by
  rcases lt6 hk with rfl | rfl | rfl | rfl | rfl | rfl <;> rcases lt6 hj with rfl | rfl | rfl | rfl | rfl | rfl <;> rfl
theorem q_taken_l {σ : St} {k j : Nat} {c : Int32} (hk : k < 6) (hj : j < 6) (hc : 0 ≤ c.toInt ∧ c.toInt < ((24 : Nat) : Int)) : fM_taken_l33 N0 N0 σ c (nI j) (nI k) = some (σ, if und k j then σ.2.1 16 c.toNatClampNeg else -13) := by
  have e : gi c 24 (some (σ, σ.2.1 16 c.toNatClampNeg)) = some (σ, σ.2.1 16 c.toNatClampNeg) := giN 24 hc
  rcases lt6 hk with rfl | rfl | rfl | rfl | rfl | rfl <;> rcases lt6 hj with rfl | rfl | rfl | rfl | rfl | rfl <;> first | exact e | rfl
theorem e_taken {σ τ : St} (hR : Rel σ τ) (a1 a2 : Int32) : Both (fC_taken N0 σ a1 a2) (fM_taken N0 τ a1 a2) := by
  have hR' := hR
  obtain ⟨n1, n3, n4, n5, n6, n7, n8, h1, h2, h3, h4, h5, h6, h7, h8, h9, h10⟩ := hR
  obtain ⟨k1, k2, k3, k4, k5, k6, k7, k8, k9, k10⟩ := h5
  unfold fC_taken fM_taken
  simp only [cal_eq, ite_b, i_0_5, w_0_5]
  refine Both.same (fun c1 => ?_) (fun c => Both.mk hR')
  rw [q_F_has (n := n5) (by omega) k2, qm_isCall (n := n5) (by omega) k3]
  simp only [cal_eq, ite_b]
  refine Both.same (fun c2 => ?_) (fun c => Both.mk hR')
  have hg := bt_b c2 (n := 24) (by omega)
  simp only [giN 24 hg, bnd_eq]
  obtain ⟨i, hi, hi2, rfl⟩ := bt_nI c2
  obtain ⟨j, hj, hj2, rfl⟩ := bt_nI c1
  obtain ⟨q1, _⟩ := k10 i (by omega)
  obtain ⟨k, hk, hk2, e⟩ := bt_nI q1
  rw [k4, nI_clamp hi2, e, q_isUnder (by omega) (by omega), q_taken_l (by omega) (by omega) hg, nI_clamp hi2]
  simp only [cal_eq, k7]
  cases und k j
  · exact Both.mk hR'
  · exact Both.mk hR'
