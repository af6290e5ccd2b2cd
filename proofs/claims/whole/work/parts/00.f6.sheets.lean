theorem nn_of {x : Int32} (h : 0 ≤ x.toInt) : ∃ j : Nat, j < 2 ^ 31 ∧ x = nI j ∧ x.toInt = j := by
  obtain ⟨j, hj, rfl⟩ := nI_of (x := x) (nn32 h)
  exact ⟨j, hj, rfl, nI_toInt hj⟩
theorem sub_n {m : Nat} {b : Int32} (hm : m ≤ 40) (h : 0 ≤ b.toInt) : (nI m - b).toInt = m - b.toInt := by
  obtain ⟨j, hj, rfl, e⟩ := nn_of h
  rw [Int32.toInt_sub, nI_toInt (by omega), nI_toInt hj]
  exact Int.bmod_eq_of_le (by omega) (by omega)
theorem e_copy {σ τ : St} (hR : Rel σ τ) (a1 a2 a3 a4 a5 : Int32) : Both (fC_copy N0 σ a1 a2 a3 a4 a5) (fM_copy N0 τ a1 a2 a3 a4 a5) := by
  have h10 := Rel_10 hR
  have z0 : (0 : Int32).toInt = 0 := rfl
  unfold fC_copy fM_copy
  simp only [cal_eq, ite_b, q_isSheet, qm_isSheet]
  refine Both.same (fun c1 => ?_) (fun c => Both.mk hR)
  refine Both.same (fun c2 => ?_) (fun c => Both.mk hR)
  obtain ⟨s, hs, hs2, rfl⟩ := bt_nI c1
  obtain ⟨o, ho, ho2, rfl⟩ := bt_nI c2
  have hs : s < 4 := by omega
  have ho : o < 4 := by omega
  have ec : (nI s).toNatClampNeg = s := nI_clamp (by omega)
  have eo : (nI o).toNatClampNeg = o := nI_clamp (by omega)
  have hg := nI_b hs (show 4 < 2 ^ 31 by decide)
  have hgo := nI_b ho (show 4 < 2 ^ 31 by decide)
  simp only [q_H_miss hs, q_H_miss ho, giN 4 hg, giN 4 hgo, ec, eo, cal_eq]
  rcases h10 s hs with ⟨g1, g2, g3⟩ | ⟨g1, g2, g3, g4, g5, g6⟩
  · rw [if_neg (by rw [if_pos g1]; decide), if_pos g3]
    exact Both.mk hR
  have A1 : (if σ.2.1 25 s = -1 then (1 : Int32) else 0) = 0 := by rw [if_neg (bt_ne g1)]
  have A2 : ¬ τ.2.1 30 s = 0 := by rw [g2]; decide
  rw [if_pos A1, if_neg A2]
  rcases h10 o ho with ⟨p1, p2, p3⟩ | ⟨p1, p2, p3, p4, p5, p6⟩
  · have B1 : ¬ (if σ.2.1 25 o = -1 then (1 : Int32) else 0) = 0 := by rw [if_pos p1]; decide
    rw [if_neg B1, if_pos p3]
    exact Both.mk hR
  have B1 : (if σ.2.1 25 o = -1 then (1 : Int32) else 0) = 0 := by rw [if_neg (bt_ne p1)]
  have B2 : ¬ τ.2.1 30 o = 0 := by rw [p2]; decide
  rw [if_pos B1, if_neg B2, g3, p3]
  refine Both.same (fun c3 => ?_) (fun c => Both.mk hR)
  obtain ⟨m, hm, hm2, em⟩ := bt_nI g5
  obtain ⟨w, hw, hw2, ew⟩ := bt_nI p5
  have hm : m ≤ 40 := by omega
  have hw : w ≤ 40 := by omega
  rw [q_hasRun hs hm em, cal_eq, q_hasRun ho hw ew, g4, p4, em, ew]
  simp only [cal_eq, ite_b]
  by_cases h1 : a5 < 0
  · rw [if_pos h1, if_neg (by rw [lt_n] at h1; omega)]; exact Both.mk hR
  rw [if_neg h1]
  rw [lt_n] at h1
  by_cases h2 : a2 < 0
  · rw [if_pos h2, if_neg (by rw [lt_n] at h2; omega)]; exact Both.mk hR
  rw [if_neg h2]
  rw [lt_n] at h2
  by_cases h3 : a4 < 0
  · rw [if_pos h3]
    by_cases q : 0 ≤ a2.toInt ∧ 0 ≤ a5.toInt ∧ a2.toInt + a5.toInt ≤ m
    · rw [if_pos q, if_neg (by rw [lt_n] at h3; omega)]; exact Both.mk hR
    · rw [if_neg q]; exact Both.mk hR
  rw [if_neg h3]
  rw [lt_n] at h3
  have e1 := sub_n (b := a5) hm (by omega)
  have e2 := sub_n (b := a5) hw (by omega)
  by_cases h4 : nI m - a5 < a2
  · rw [if_pos h4, if_neg (by rw [lt_n, e1] at h4; omega)]; exact Both.mk hR
  rw [if_neg h4]
  rw [lt_n, e1] at h4
  rw [if_pos (by omega)]
  by_cases h5 : a4 ≤ nI w - a5
  · rw [if_pos h5]
    rw [le_n, e2] at h5
    rw [if_pos (by omega)]
    obtain ⟨n, hn, rfl, en⟩ := nn_of (x := a5) (by omega)
    obtain ⟨i, hi, rfl, ei⟩ := nn_of (x := a2) (by omega)
    obtain ⟨j, hj, rfl, ej⟩ := nn_of (x := a4) (by omega)
    rw [en] at h4 h5
    rw [ei] at h4
    rw [ej] at h5
    have cl1 : (nI (40 * s + i)).toNatClampNeg = 40 * s + i := nI_clamp (by omega)
    have cl2 : (nI (40 * o + j)).toNatClampNeg = 40 * o + j := nI_clamp (by omega)
    have cl3 : (nI n).toNatClampNeg = n := nI_clamp (by omega)
    have hM : ∃ τ', (if nI s = nI o then if nI j ≤ nI i then fM_copy_j115 N0 τ (nI s) (nI i) (nI o) (nI j) (nI n) else fM_copy_j116 N0 τ (nI s) (nI i) (nI o) (nI j) (nI n) 1 else fM_copy_j115 N0 τ (nI s) (nI i) (nI o) (nI j) (nI n)) = some (τ', nI n) ∧ KP [] [33] τ τ' ∧ ∀ z, τ'.2.1 33 z = if 40 * o + j ≤ z ∧ z < 40 * o + j + n then τ.2.1 33 (40 * s + i + (z - (40 * o + j))) else τ.2.1 33 z := by
      have fw : (s ≠ o ∨ j ≤ i) → ∃ τ', fM_copy_j115 N0 τ (nI s) (nI i) (nI o) (nI j) (nI n) = some (τ', nI n) ∧ KP [] [33] τ τ' ∧ ∀ z, τ'.2.1 33 z = if 40 * o + j ≤ z ∧ z < 40 * o + j + n then τ.2.1 33 (40 * s + i + (z - (40 * o + j))) else τ.2.1 33 z := by
        intro hd
        obtain ⟨τ', q1, q2, q3⟩ := qm_copy_fw (N := N0) (n := n) (i := i) (j := j) hs ho (by omega) (by omega) hd (τ.2.1 33) n 0 N0 τ (by omega) (by unfold N0; omega) (fun z => by rw [if_neg (by omega)])
        exact ⟨τ', q1, q2, q3⟩
      by_cases hso : s = o
      · subst hso
        rw [if_pos rfl]
        by_cases hji : nI j ≤ nI i
        · rw [if_pos hji]
          rw [nI_leI hj hi] at hji
          exact fw (Or.inr hji)
        · rw [if_neg hji]
          rw [nI_leI hj hi] at hji
          obtain ⟨τ', q1, q2, q3⟩ := qm_copy_bw (N := N0) (n := n) (i := i) (j := j) hs (by omega) (by omega) (by omega) (τ.2.1 33) n 0 N0 τ (by omega) (by unfold N0; omega) (fun z => by rw [if_neg (by omega)])
          exact ⟨τ', q1, q2, q3⟩
      · rw [if_neg (by rw [nI_eq hs2 ho2]; exact hso)]
        exact fw (Or.inl hso)
    obtain ⟨τ', q1, q2, q3⟩ := hM
    rw [q1]
    unfold gcp
    rw [ix40', ix40', if_pos (by rw [nI_toInt (by omega), nI_toInt (by omega), nI_toInt (by omega)]; omega), bnd_eq]
    refine Both.mk (Rel_s hR ⟨fun _ _ => rfl, fun k hk => va_up_ne _ _ (fun z => hk (by rw [z]; decide))⟩ (q2.wk (by decide) (by decide)) ?_)
    intro t ht
    have f27 : (sCp σ 27 (nI (40 * s + i)) (nI (40 * o + j)) (nI n)).2.1 27 = va_cpy (σ.2.1 27) (σ.2.1 27) (40 * s + i) (40 * o + j) n := by
      show va_up σ.2.1 27 (va_cpy (σ.2.1 27) (σ.2.1 27) (nI (40 * s + i)).toNatClampNeg (nI (40 * o + j)).toNatClampNeg (nI n).toNatClampNeg) 27 = _
      rw [va_up_self, cl1, cl2, cl3]
    rw [f27, q2.2 30 (by decide), q2.2 31 (by decide), q2.2 32 (by decide)]
    rcases h10 t ht with g | ⟨r1, r2, r3, r4, r5, r6⟩
    · exact Or.inl g
    · refine Or.inr ⟨r1, r2, r3, r4, r5, fun k hk => ?_⟩
      have r7 := r5.2
      rw [q3]
      unfold va_cpy
      by_cases hq : 40 * o + j ≤ 40 * t + k ∧ 40 * t + k < 40 * o + j + n
      · rw [if_pos hq, if_pos hq]
        have := g6 (i + (40 * t + k - (40 * o + j))) (by rw [em, nI_toInt (by omega)]; omega)
        rw [show 40 * s + i + (40 * t + k - (40 * o + j)) = 40 * s + (i + (40 * t + k - (40 * o + j))) by omega]
        exact this
      · rw [if_neg hq, if_neg hq]
        exact r6 k hk
  · rw [if_neg h5, if_neg (by rw [le_n, e2] at h5; omega)]
    exact Both.mk hR
/-! men by a sheet -/
theorem q_itemOf {N s m i : Nat} {σ : St} (hs : s < 4) (hm : m ≤ 40) (h : σ.2.1 26 s = nI m) (hi : i < m) : fC_H_itemOf N σ (nI s) (nI i) = some (σ, σ.2.1 27 (40 * s + i)) := by
  unfold fC_H_itemOf
  rw [q_H_has hs (by omega) h, if_pos ⟨by rw [nI_toInt (by omega)]; omega, by rw [nI_toInt (by omega)]; omega⟩]
  simp only [cal_eq]
  rw [if_neg (by decide), ix40', giN 160 (nI_b (by omega) (by decide)), nI_clamp (by omega)]
theorem men_l {s m n : Nat} (hs : s < 4) (hm : m ≤ 40) (hn : n ≤ 10) {a3 : Int32} : ∀ (d k FC FM : Nat) (σ τ : St) (cm : Int32), k + d = n → d < FC → d < FM → (3 * k ≤ m + 3) → Rel σ τ → bt (σ.2.1 25 s) 0 2 → σ.2.1 26 s = nI m → (∀ j, j < k → 0 ≤ a3.toInt ∧ a3.toInt + 3 * j + 3 ≤ m) →
    Both (fC_men_l77 N0 FC σ (nI s) a3 (nI n) cm (nI k)) (fM_men_l75 N0 FM τ (nI s) a3 (nI n) cm (nI k)) := by
  intro d
  induction d with
  | zero =>
    intro k FC FM σ τ cm h1 h2 h2' hk0 hR h25 h26 hpre
    obtain ⟨FC, rfl⟩ : ∃ k, FC = k + 1 := ⟨FC - 1, by omega⟩
    obtain ⟨FM, rfl⟩ : ∃ k, FM = k + 1 := ⟨FM - 1, by omega⟩
    show Both (if nI n ≤ nI k then _ else _) (if nI n ≤ nI k then _ else _)
    rw [if_pos (by rw [nI_leI (by omega) (by omega)]; omega), if_pos (by rw [nI_leI (by omega) (by omega)]; omega)]
    exact Both.mk hR
  | succ d ih =>
    intro k FC FM σ τ cm h1 h2 h2' hk0 hR h25 h26 hpre
    have z0 : (0 : Int32).toInt = 0 := rfl
    have h10 := Rel_10 hR
    have ec : (nI s).toNatClampNeg = s := nI_clamp (by omega)
    have hg := nI_b hs (show 4 < 2 ^ 31 by decide)
    obtain ⟨FC, rfl⟩ : ∃ k, FC = k + 1 := ⟨FC - 1, by omega⟩
    obtain ⟨FM, rfl⟩ : ∃ k, FM = k + 1 := ⟨FM - 1, by omega⟩
    show Both (if nI n ≤ nI k then _ else _) (if nI n ≤ nI k then _ else _)
    rw [if_neg (by rw [nI_leI (by omega) (by omega)]; omega), if_neg (by rw [nI_leI (by omega) (by omega)]; omega)]
    rcases h10 s hs with ⟨g1, g2, g3⟩ | ⟨g1, g2, g3, g4, g5, g6⟩
    · exact absurd g1 (bt_ne h25)
    have g4' : τ.2.1 32 s = nI m := g4.trans h26
    have e3k : (3 : Int32) * nI k = nI (3 * k) := by rw [show (3 : Int32) = nI 3 from rfl, pk_mul]
    rw [bnd_eq, e3k, q_hasRun hs hm h26, giN 4 hg, ec, g4']
    simp only [cal_eq, ite_b]
    have e3 : (3 : Int32).toInt = 3 := rfl
    have esub : (nI m - nI (3 * k) - 3).toInt = (m : Int) - 3 * k - 3 := by
      rw [Int32.toInt_sub, Int32.toInt_sub, nI_toInt (by omega), nI_toInt (by omega), e3]
      rw [Int.bmod_eq_of_le (n := (m : Int) - ((3 * k : Nat) : Int)) (by omega) (by omega), Int.bmod_eq_of_le (by omega) (by omega)]
      omega
    by_cases hneg : a3 < 0
    · rw [if_pos hneg, if_neg ?_]
      · exact Both.mk hR
      · intro q
        rw [lt_n] at hneg
        by_cases hk : k = 0
        · rw [hk] at q
          have e : a3 + nI (3 * 0) = a3 := by rw [Nat.mul_zero, nI_0, Int32.add_zero]
          rw [e] at q; omega
        · have := hpre 0 (by omega); omega
    · rw [if_neg hneg]
      rw [lt_n] at hneg
      obtain ⟨f, hf, rfl, ef⟩ := nn_of (x := a3) (by omega)
      by_cases hin : nI f ≤ nI m - nI (3 * k) - 3
      · rw [if_pos hin]
        rw [le_n, esub, ef] at hin
        rw [nI_add, if_pos (by rw [nI_toInt (by omega), e3]; omega)]
        have e12 : nI (f + 3 * k) + 1 = nI (f + 3 * k + 1) := nI_1 _
        have e13 : nI (f + 3 * k) + 2 = nI (f + 3 * k + 2) := nI_add _ 2
        rw [e12, e13, q_itemOf (i := f + 3 * k) hs hm h26 (by omega), cal_eq, q_itemOf (i := f + 3 * k + 1) hs hm h26 (by omega), cal_eq, q_itemOf (i := f + 3 * k + 2) hs hm h26 (by omega)]
        simp only [cal_eq]
        rw [ix40, nI_add, bnd_eq]
        have e14 : nI (40 * s + f + 3 * k) + 1 = nI (40 * s + f + 3 * k + 1) := nI_1 _
        have e15 : nI (40 * s + f + 3 * k) + 2 = nI (40 * s + f + 3 * k + 2) := nI_add _ 2
        rw [e14, e15, giN 160 (nI_b (by omega) (by decide)), giN 160 (nI_b (by omega) (by decide)), giN 160 (nI_b (by omega) (by decide)), nI_clamp (by omega), nI_clamp (by omega), nI_clamp (by omega)]
        have i1 := g6 (f + 3 * k) (by rw [h26, nI_toInt (by omega)]; omega)
        have i2 := g6 (f + 3 * k + 1) (by rw [h26, nI_toInt (by omega)]; omega)
        have i3 := g6 (f + 3 * k + 2) (by rw [h26, nI_toInt (by omega)]; omega)
        rw [show 40 * s + f + 3 * k = 40 * s + (f + 3 * k) by omega, show 40 * s + (f + 3 * k) + 1 = 40 * s + (f + 3 * k + 1) by omega, show 40 * s + (f + 3 * k) + 2 = 40 * s + (f + 3 * k + 2) by omega, ← i1, ← i2, ← i3]
        obtain ⟨σ1, τ1, r, q1, q2, qR, qC, qM⟩ := m_add hR (σ.2.1 27 (40 * s + (f + 3 * k))) (σ.2.1 27 (40 * s + (f + 3 * k + 1))) (σ.2.1 27 (40 * s + (f + 3 * k + 2)))
        rw [q1, q2]
        simp only [cal_eq]
        unfold fC_men_j163 fM_men_j158
        simp only [bnd_eq, nI_1]
        have next : ∀ cm', Both (fC_men_l77 N0 FC σ1 (nI s) (nI f) (nI n) cm' (nI (k + 1))) (fM_men_l75 N0 FM τ1 (nI s) (nI f) (nI n) cm' (nI (k + 1))) := fun cm' =>
          ih (k + 1) FC FM σ1 τ1 cm' (by omega) (by omega) (by omega) (by omega) qR (by rw [qC.2 25 (by decide)]; exact h25) (by rw [qC.2 26 (by decide)]; exact h26) (fun j hj => by
            by_cases hjk : j = k
            · rw [hjk, ef]; omega
            · exact hpre j (by omega))
        by_cases hr : r < 0
        · rw [if_pos hr, if_pos hr, Int32.add_zero]; exact next _
        · rw [if_neg hr, if_neg hr]; exact next _
      · rw [if_neg hin, if_neg ?_]
        · exact Both.mk hR
        · rw [le_n, esub, ef] at hin
          by_cases hk : k = 0
          · subst hk
            rw [Nat.mul_zero, nI_0, Int32.add_zero, ef, e3]; omega
          · have := hpre 0 (by omega)
            rw [nI_add, nI_toInt (by omega), e3]; omega
theorem e_men {σ τ : St} (hR : Rel σ τ) (a1 a2 a3 a4 : Int32) : Both (fC_men N0 σ a1 a2 a3 a4) (fM_men N0 τ a1 a2 a3 a4) := by
  have h10 := Rel_10 hR
  unfold fC_men fM_men
  simp only [cal_eq, ite_b, q_isSheet, qm_isSheet, i_0_2, w_0_2]
  refine Both.same (fun c1 => ?_) (fun c => Both.mk hR)
  refine Both.same (fun c2 => ?_) (fun c => Both.mk hR)
  simp only [cal_eq, ite_b, i_0_10, w_0_10]
  refine Both.same (fun c3 => ?_) (fun c => Both.mk hR)
  obtain ⟨s, hs, hs2, rfl⟩ := bt_nI c1
  have hs : s < 4 := by omega
  have ec : (nI s).toNatClampNeg = s := nI_clamp (by omega)
  have hg := nI_b hs (show 4 < 2 ^ 31 by decide)
  unfold fC_men_j57 fM_men_j57
  simp only [q_H_miss hs, giN 4 hg, ec, cal_eq]
  rcases h10 s hs with ⟨g1, g2, g3⟩ | ⟨g1, g2, g3, g4, g5, g6⟩
  · have A1 : ¬ (if σ.2.1 25 s = -1 then (1 : Int32) else 0) = 0 := by rw [if_pos g1]; decide
    simp only [if_neg A1, if_pos g3]
    exact Both.mk hR
  · have A1 : (if σ.2.1 25 s = -1 then (1 : Int32) else 0) = 0 := by rw [if_neg (bt_ne g1)]
    have A2 : ¬ τ.2.1 30 s = 0 := by rw [g2]; decide
    simp only [if_pos A1, if_neg A2, g3]
    refine Both.same (fun c4 => ?_) (fun c => Both.mk hR)
    obtain ⟨m, hm, hm2, em⟩ := bt_nI g5
    obtain ⟨n, hn, hn2, rfl⟩ := bt_nI c3
    exact men_l hs (by omega) (by omega) n 0 N0 N0 σ τ 0 (by omega) (by unfold N0; omega) (by unfold N0; omega) (by omega) hR g1 em (fun j hj => by omega)
