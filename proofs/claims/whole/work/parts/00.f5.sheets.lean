theorem q_H_has {N s m : Nat} {σ : St} {a : Int32} (hs : s < 4) (hm : m < 2 ^ 30) (h : σ.2.1 26 s = nI m) : fC_H_has N σ (nI s) a = some (σ, if bt a 0 (m - 1) then 1 else 0) := by
  unfold fC_H_has
  rw [giN 4 (nI_b hs (by decide)), nI_clamp (by omega), q_has hm h]
  split <;> rfl
theorem q_H_miss {N s : Nat} {σ : St} (hs : s < 4) : fC_H_isMissing N σ (nI s) = some (σ, if σ.2.1 25 s = -1 then 1 else 0) := by
  unfold fC_H_isMissing
  rw [giN 4 (nI_b hs (by decide)), nI_clamp (by omega)]
  split <;> rfl
theorem bt_ne {x : Int32} {h : Int} (hb : bt x 0 h) : ¬ x = -1 := by
  intro e; rw [e] at hb; exact absurd hb.1 (by decide)
theorem q_cellput {s i m : Nat} {σ τ : St} {v : Int32} (hR : Rel σ τ) (hs : s < 4) (hi : i < m) (hm : m ≤ 40) (h26 : σ.2.1 26 s = nI m) : Both (fC_H_put_j33 N0 σ (nI s) (nI i) v) (gi (nI (40 * s + i)) 160 <| bnd (sA τ 33 (nI (40 * s + i)) v) fun τ2 => some (τ2, ())) := by
  have h10 := Rel_10 hR
  have hg : 0 ≤ (nI (40 * s + i)).toInt ∧ (nI (40 * s + i)).toInt < ((160 : Nat) : Int) := nI_b (by omega) (by decide)
  unfold fC_H_put_j33
  rw [ix40']
  simp only [giN 160 hg, bnd_eq]
  have ec : (nI (40 * s + i)).toNatClampNeg = 40 * s + i := nI_clamp (by omega)
  refine Both.mk (Rel_s hR (KP.a (by decide)) (KP.a (by decide)) ?_)
  intro t ht
  rcases h10 t ht with g | ⟨g1, g2, g3, g4, g5, g6⟩
  · exact Or.inl g
  · refine Or.inr ⟨g1, g2, g3, g4, g5, fun j hj => ?_⟩
    show upd (σ.2.1 27) (nI (40 * s + i)).toNatClampNeg v (40 * t + j) = upd (τ.2.1 33) (nI (40 * s + i)).toNatClampNeg v (40 * t + j)
    rw [ec]
    unfold upd
    split
    · rfl
    · exact g6 j hj
theorem e_cell {σ τ : St} (hR : Rel σ τ) (a1 a2 a3 : Int32) : Both (fC_cell N0 σ a1 a2 a3) (fM_cell N0 τ a1 a2 a3) := by
  have h10 := Rel_10 hR
  unfold fC_cell fM_cell
  simp only [cal_eq, ite_b, q_isSheet, qm_isSheet]
  refine Both.same (fun c1 => ?_) (fun c => Both.mk hR)
  obtain ⟨s, hs, hs2, rfl⟩ := bt_nI c1
  have hs : s < 4 := by omega
  have ec : (nI s).toNatClampNeg = s := nI_clamp (by omega)
  have hg := nI_b hs (show 4 < 2 ^ 31 by decide)
  simp only [q_H_miss hs, giN 4 hg, ec, cal_eq]
  rcases h10 s hs with ⟨g1, g2, g3⟩ | ⟨g1, g2, g3, g4, g5, g6⟩
  · rw [if_neg (by rw [if_pos g1]; decide), if_pos g3]
    exact Both.mk hR
  · rw [if_pos (by rw [if_neg (bt_ne g1)]), if_neg (by rw [g2]; decide)]
    obtain ⟨m, hm, hm2, e⟩ := bt_nI g5
    rw [q_H_has hs (by omega) e, qm_inn (n := m) (by omega) (g4.trans e)]
    simp only [cal_eq, ite_b]
    refine Both.same (fun c2 => ?_) (fun c => Both.mk hR)
    obtain ⟨i, hi, hi2, rfl⟩ := bt_nI c2
    have hp : ∀ v, Both (cal (fC_H_put_j33 N0 σ (nI s) (nI i) v) fun σ13 r14 => some (σ13, (1 : Int32))) (fM_cell_j83 N0 τ (40 * nI s + nI i) v) := by
      intro v
      obtain ⟨σ1, τ1, r, e1, e2, e3⟩ := q_cellput (m := m) (i := i) (v := v) hR hs (by omega) (by omega) e
      unfold fM_cell_j83
      rw [ix40]
      have hg2 : 0 ≤ (nI (40 * s + i)).toInt ∧ (nI (40 * s + i)).toInt < ((160 : Nat) : Int) := nI_b (by omega) (by decide)
      rw [giN 160 hg2, bnd_eq] at e2 ⊢
      have e2 := (ret2 e2).1
      rw [e1, e2]
      exact Both.mk e3
    unfold fC_H_put
    simp only [giN 4 hg, ec, bnd_eq, g3]
    by_cases z0 : σ.2.1 25 s = 0
    · rw [if_pos z0, if_pos z0]; exact hp _
    · rw [if_neg z0, if_neg z0]
      by_cases z1 : σ.2.1 25 s = 1
      · rw [if_pos z1, if_pos z1]; exact hp _
      · rw [if_neg z1, if_neg z1]; exact hp _
/-! copy -/
theorem q_hasRun {N s m : Nat} {σ : St} {a b : Int32} (hs : s < 4) (hm : m ≤ 40) (h : σ.2.1 26 s = nI m) : fC_H_hasRun N σ (nI s) a b = some (σ, if 0 ≤ a.toInt ∧ 0 ≤ b.toInt ∧ a.toInt + b.toInt ≤ m then 1 else 0) := by
  have z0 : (0 : Int32).toInt = 0 := rfl
  unfold fC_H_hasRun
  simp only [giN 4 (nI_b hs (show 4 < 2 ^ 31 by decide)), nI_clamp (show s < 2 ^ 31 by omega), h]
  by_cases h1 : a < 0
  · rw [if_pos h1, if_neg (by rw [lt_n] at h1; omega)]
  · rw [if_neg h1]
    rw [lt_n] at h1
    by_cases h2 : b < 0
    · rw [if_pos h2, if_neg (by rw [lt_n] at h2; omega)]
    · rw [if_neg h2]
      rw [lt_n] at h2
      by_cases h3 : nI m < a
      · rw [if_pos h3, if_neg (by rw [lt_n, nI_toInt (by omega)] at h3; omega)]
      · rw [if_neg h3]
        rw [lt_n, nI_toInt (by omega)] at h3
        obtain ⟨i, hi, rfl⟩ := nI_of (x := a) (nn32 (by omega))
        rw [nI_toInt hi] at h1 h3 ⊢
        rw [pk_sub (by omega)]
        by_cases h4 : nI (m - i) < b
        · rw [if_pos h4, if_neg (by rw [lt_n, nI_toInt (by omega)] at h4; omega)]
        · rw [if_neg h4, if_pos (by rw [lt_n, nI_toInt (by omega)] at h4; omega)]
/-- the reference's copying, from k steps on: lo .. hi - 1 are done -/
theorem qm_copy_fw {N s o i j n : Nat} (hs : s < 4) (ho : o < 4) (hi : i + n ≤ 40) (hj : j + n ≤ 40) (hd : s ≠ o ∨ j ≤ i) (f0 : Nat → Int32) : ∀ (d k F : Nat) (σ : St), k + d = n → d < F → (∀ z, σ.2.1 33 z = if 40 * o + j ≤ z ∧ z < 40 * o + j + k then f0 (40 * s + i + (z - (40 * o + j))) else f0 z) →
    ∃ σ', fM_copy_l121 N F σ (nI s) (nI i) (nI o) (nI j) (nI n) 0 (nI k) = some (σ', nI n) ∧ KP [] [33] σ σ' ∧ ∀ z, σ'.2.1 33 z = if 40 * o + j ≤ z ∧ z < 40 * o + j + n then f0 (40 * s + i + (z - (40 * o + j))) else f0 z := by
  intro d
  induction d with
  | zero =>
    intro k F σ h1 h2 h3
    obtain ⟨F, rfl⟩ : ∃ k, F = k + 1 := ⟨F - 1, by omega⟩
    refine ⟨σ, ?_, KP.rf, fun z => by rw [h3, show k = n by omega]⟩
    show (if nI n ≤ nI k then _ else _) = _
    rw [if_pos (by rw [nI_leI (by omega) (by omega)]; omega)]
  | succ d ih =>
    intro k F σ h1 h2 h3
    obtain ⟨F, rfl⟩ : ∃ k, F = k + 1 := ⟨F - 1, by omega⟩
    have e0 : (40 * s + i + k) = 40 * s + (i + k) := by omega
    obtain ⟨σ', e1, e2, e3⟩ := ih (k + 1) F (sA σ 33 (nI (40 * o + j + k)) (σ.2.1 33 (40 * s + i + k))) (by omega) (by omega) (by
      intro z
      rw [sA_a, if_pos rfl, nI_clamp (by omega)]
      unfold upd
      by_cases hz : z = 40 * o + j + k
      · rw [if_pos hz, if_pos (by omega), h3, hz]
        have e : 40 * s + i + (40 * o + j + k - (40 * o + j)) = 40 * s + i + k := by omega
        rw [e, if_neg (by rcases hd with hd | hd <;> omega)]
      · rw [if_neg hz, h3]
        by_cases hq : 40 * o + j ≤ z ∧ z < 40 * o + j + k
        · rw [if_pos hq, if_pos (by omega)]
        · rw [if_neg hq, if_neg (by omega)])
    refine ⟨σ', ?_, (KP.a (by decide)).tr e2, e3⟩
    show (if nI n ≤ nI k then _ else if (0 : Int32) = 0 then _ else _) = _
    rw [if_neg (by rw [nI_leI (by omega) (by omega)]; omega), if_pos rfl]
    unfold fM_copy_j145
    rw [ix40, ix40, nI_add, nI_add, giN 160 (nI_b (by omega) (by decide)), giN 160 (nI_b (by omega) (by decide)), bnd_eq, bnd_eq, nI_1, nI_clamp (show 40 * s + i + k < 2 ^ 31 by omega), e1]
theorem qm_copy_bw {N s i j n : Nat} (hs : s < 4) (hi : i + n ≤ 40) (hj : j + n ≤ 40) (hd : i ≤ j) (f0 : Nat → Int32) : ∀ (d k F : Nat) (σ : St), k + d = n → d < F → (∀ z, σ.2.1 33 z = if 40 * s + j + n - k ≤ z ∧ z < 40 * s + j + n then f0 (40 * s + i + (z - (40 * s + j))) else f0 z) →
    ∃ σ', fM_copy_l121 N F σ (nI s) (nI i) (nI s) (nI j) (nI n) 1 (nI k) = some (σ', nI n) ∧ KP [] [33] σ σ' ∧ ∀ z, σ'.2.1 33 z = if 40 * s + j ≤ z ∧ z < 40 * s + j + n then f0 (40 * s + i + (z - (40 * s + j))) else f0 z := by
  intro d
  induction d with
  | zero =>
    intro k F σ h1 h2 h3
    obtain ⟨F, rfl⟩ : ∃ k, F = k + 1 := ⟨F - 1, by omega⟩
    refine ⟨σ, ?_, KP.rf, fun z => by rw [h3, show 40 * s + j + n - k = 40 * s + j by omega]⟩
    show (if nI n ≤ nI k then _ else _) = _
    rw [if_pos (by rw [nI_leI (by omega) (by omega)]; omega)]
  | succ d ih =>
    intro k F σ h1 h2 h3
    obtain ⟨F, rfl⟩ : ∃ k, F = k + 1 := ⟨F - 1, by omega⟩
    obtain ⟨σ', e1, e2, e3⟩ := ih (k + 1) F (sA σ 33 (nI (40 * s + j + (n - 1 - k))) (σ.2.1 33 (40 * s + i + (n - 1 - k)))) (by omega) (by omega) (by
      intro z
      rw [sA_a, if_pos rfl, nI_clamp (by omega)]
      unfold upd
      by_cases hz : z = 40 * s + j + (n - 1 - k)
      · rw [if_pos hz, if_pos (by omega), h3, hz]
        have e : 40 * s + i + (40 * s + j + (n - 1 - k) - (40 * s + j)) = 40 * s + i + (n - 1 - k) := by omega
        rw [e, if_neg (by omega)]
      · rw [if_neg hz, h3]
        by_cases hq : 40 * s + j + n - k ≤ z ∧ z < 40 * s + j + n
        · rw [if_pos hq, if_pos (by omega)]
        · rw [if_neg hq, if_neg (by omega)])
    refine ⟨σ', ?_, (KP.a (by decide)).tr e2, e3⟩
    show (if nI n ≤ nI k then _ else if (1 : Int32) = 0 then _ else _) = _
    rw [if_neg (by rw [nI_leI (by omega) (by omega)]; omega), if_neg (by decide)]
    unfold fM_copy_j145
    have en : nI n - 1 - nI k = nI (n - 1 - k) := by
      rw [show (1 : Int32) = nI 1 from rfl, pk_sub (by omega), pk_sub (by omega)]
    rw [en, ix40, ix40, nI_add, nI_add, giN 160 (nI_b (by omega) (by decide)), giN 160 (nI_b (by omega) (by decide)), bnd_eq, bnd_eq, nI_1, nI_clamp (show 40 * s + i + (n - 1 - k) < 2 ^ 31 by omega), e1]
