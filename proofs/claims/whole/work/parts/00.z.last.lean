theorem R5_grow {n1 n3 n4 m1 m3 m4 k : Nat} {σ τ : St} (h : R5 n1 n3 n4 k σ τ) (h1 : n1 ≤ m1) (h3 : n3 ≤ m3) (h4 : n4 ≤ m4) : R5 m1 m3 m4 k σ τ := by
  obtain ⟨g1, g2, g3, g4, g5, g6, g7, g8, g9, g10⟩ := h
  refine ⟨g1, g2, g3, g4, g5, g6, g7, g8, g9, fun i hi => ?_⟩
  obtain ⟨q1, q2, q3, q4, q5, q6, q7⟩ := g10 i hi
  exact ⟨q1, ⟨q2.1, by omega⟩, ⟨q3.1, by omega⟩, q4, ⟨q5.1, by omega⟩, ⟨q6.1, by omega⟩, q7⟩
/-! men, cameras, crossers, widths: simple calls -/
theorem e_camera {σ τ : St} (hR : Rel σ τ) (a1 a2 a3 : Int32) : ∃ (σ1 τ1 : St) (r : Int32), fC_camera N0 σ a1 a2 a3 = some (σ1, r) ∧ fM_camera N0 τ a1 a2 a3 = some (τ1, r) ∧ Rel σ1 τ1 := by
  obtain ⟨n1, n3, n4, n5, n6, n7, n8, h1, h2, h3, h4, h5, h6, h7, h8, h9, h10⟩ := hR
  have h3' := h3
  obtain ⟨k1, k2, k3, k4, k5, k6, k7, k8, k9⟩ := h3
  have same : Rel σ τ := ⟨n1, n3, n4, n5, n6, n7, n8, h1, h2, h3', h4, h5, h6, h7, h8, h9, h10⟩
  unfold fC_camera fC_A_add fM_camera
  rw [q_w32 (l := 1) (h := 20) rfl rfl, q_in32 (l := 1) (h := 20) rfl rfl]
  simp only [cal_eq, ite_b]
  by_cases c1 : bt a1 1 20
  · rw [if_pos c1, if_pos c1, q_w32 (l := 0) (h := 19) rfl rfl, q_in32 (l := 0) (h := 19) rfl rfl]
    simp only [cal_eq, ite_b]
    by_cases c2 : bt a2 0 19
    · rw [if_pos c2, if_pos c2, q_w32 (l := -9) (h := 9) rfl rfl, q_in32 (l := -9) (h := 9) rfl rfl]
      simp only [cal_eq, ite_b]
      by_cases c3 : bt a3 (-9) 9
      · rw [if_pos c3, if_pos c3]
        by_cases c4 : n3 = 4
        · rw [if_neg (by rw [k2, c4]; decide), if_pos (by rw [k3, c4]; rfl)]
          exact ⟨σ, τ, -4, rfl, rfl, same⟩
        · have hl : n3 < 4 := by omega
          rw [if_pos (by rw [k2]; exact nI_lt hl (by decide)), if_neg (by rw [k3]; intro h; exact c4 ((nI_eq (by omega) (by decide)).mp h))]
          simp only [bnd_eq]
          rw [k2, k3]
          have e1 : ∀ s : St, ∀ k i v, (sA s k i v).1 = s.1 := fun _ _ _ _ => rfl
          simp only [e1, k2, k3]
          repeat rw [gi_nI hl (by decide)]
          refine ⟨_, _, _, rfl, rfl, n1, n3 + 1, n4, n5, n6, n7, n8, h1, h2, ?_, h4, ?_, h6, h7, h8, h9, h10⟩
          · refine ⟨by omega, ?_, ?_, ?_, ?_, ?_, ?_, ?_, ?_⟩
            · exact nI_1 n3
            · exact nI_1 n3
            · show upd _ _ _ = upd _ _ _; rw [k4]
            · show upd _ _ _ = upd _ _ _; rw [k5]
            · show upd _ _ _ = upd _ _ _; rw [k6]
            · intro i hi
              show bt (upd _ _ _ i) 1 20
              rw [nI_clamp (by omega)]
              unfold upd
              split
              · exact c1
              · exact k7 i (by omega)
            · exact bt_upd k8 c2
            · exact bt_upd k9 c3
          · exact R5_grow h5 (Nat.le_refl _) (Nat.le_succ _) (Nat.le_refl _)
      · rw [if_neg c3, if_neg c3]
        exact ⟨σ, τ, -2, rfl, rfl, same⟩
    · rw [if_neg c2, if_neg c2]
      exact ⟨σ, τ, -2, rfl, rfl, same⟩
  · rw [if_neg c1, if_neg c1]
    exact ⟨σ, τ, -2, rfl, rfl, same⟩
