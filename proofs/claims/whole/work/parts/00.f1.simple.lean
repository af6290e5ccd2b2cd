theorem e_width {σ τ : St} (hR : Rel σ τ) (a1 : Int32) : Both (fC_width N0 σ a1) (fM_width N0 τ a1) := by
  have hR' := hR
  obtain ⟨n1, n3, n4, n5, n6, n7, n8, h1, h2, h3, h4, h5, h6, h7, h8, h9, h10⟩ := hR
  obtain ⟨k1, k2, k3⟩ := h2
  unfold fC_width fM_width
  simp only [q_isWidth, qm_isWidth, cal_eq, ite_b, bnd_eq]
  refine Both.same (fun c => ?_) (fun c => Both.mk hR')
  exact Both.mk2 k1 ⟨n1, n3, n4, n5, n6, n7, n8, h1, ⟨rfl, c, k3⟩, h3, h4, h5, h6, h7, h8, h9, h10⟩
theorem e_force {σ τ : St} (hR : Rel σ τ) (a1 : Int32) : Both (fC_force N0 σ a1) (fM_force N0 τ a1) := by
  have hR' := hR
  obtain ⟨n1, n3, n4, n5, n6, n7, n8, h1, h2, h3, h4, h5, h6, h7, h8, h9, h10⟩ := hR
  obtain ⟨k1, k2, k3, k4, k5, k6, k7, k8⟩ := h8
  unfold fC_force fM_force
  rw [q_T_has (n := n8) (by omega) k3, qm_inn (n := n8) (by omega) k4]
  simp only [cal_eq, ite_b, bnd_eq]
  refine Both.same (fun c => ?_) (fun c => Both.mk hR')
  exact Both.mk2 k5 ⟨n1, n3, n4, n5, n6, n7, n8, h1, h2, h3, h4, h5, h6, h7, ⟨k1, k2, k3, k4, rfl, c, k7, k8⟩, h9, h10⟩
theorem e_count {σ τ : St} (hR : Rel σ τ) (a1 : Int32) : Both (fC_count N0 σ a1) (fM_count N0 τ a1) := by
  have hR' := hR
  obtain ⟨n1, n3, n4, n5, n6, n7, n8, h1, h2, h3, h4, h5, h6, h7, h8, h9, h10⟩ := hR
  obtain ⟨_, _, _, _, _, _, _, t, _, t1, t2, _⟩ := h8
  unfold fC_count fM_count
  refine Both.same (fun c => Both.mk2 (by rw [h1.2.1, h1.2.2.1]) hR') (fun c => ?_)
  refine Both.same (fun c => Both.mk2 (by rw [h3.2.1, h3.2.2.1]) hR') (fun c => ?_)
  refine Both.same (fun c => Both.mk2 (by rw [h4.2.1, h4.2.2.1]) hR') (fun c => ?_)
  refine Both.same (fun c => Both.mk2 (by rw [h5.2.1, h5.2.2.1]) hR') (fun c => ?_)
  refine Both.same (fun c => Both.mk2 (by rw [h6.2.1, h6.2.2.1]) hR') (fun c => ?_)
  refine Both.same (fun c => Both.mk2 (by rw [h7.2.1, h7.2.2.1]) hR') (fun c => ?_)
  refine Both.same (fun c => Both.mk2 (by simp only [*]) hR') (fun c => ?_)
  refine Both.same (fun c => Both.mk2 (by simp only [*]) hR') (fun c => ?_)
  refine Both.same (fun c => Both.mk2 (by simp only [*]) hR') (fun c => ?_)
  refine Both.same (fun c => Both.mk2 h2.1 hR') (fun c => ?_)
  exact Both.mk hR'
theorem q_frameFor {N k : Nat} {σ τ : St} (h : R3 k σ τ) {c t : Int32} (hc : bt c 0 (k - 1)) : ∃ v, fC_A_frameFor N σ c t = some (σ, v) ∧ fM_frameOf N τ c t = some (τ, v) := by
  obtain ⟨k1, k2, k3, k4, k5, k6, k7, k8, k9⟩ := h
  have hb : 0 ≤ c.toInt ∧ c.toInt < ((4 : Nat) : Int) := bt_b hc (by omega)
  obtain ⟨j, hj, hj2, rfl⟩ := bt_nI hc
  have he := k7 j (by omega)
  unfold fC_A_frameFor fM_frameOf
  simp only [giN 4 hb, bnd_eq, k4, k5, nI_clamp hj2]
  by_cases h1 : t < τ.2.1 9 j
  · rw [if_pos h1, if_neg (by rw [le_n]; rw [lt_n] at h1; omega)]
    exact ⟨_, rfl, rfl⟩
  · rw [if_neg h1, if_pos (by rw [le_n]; exact he.1), if_pos (by rw [le_n]; rw [lt_n] at h1; omega)]
    have h2 : ¬ τ.2.1 8 j = 0 := by
      intro h; rw [h] at he; exact absurd he.1 (by decide)
    rw [gd_ok h2, gd_ok h2]
    exact ⟨_, rfl, rfl⟩
theorem e_frame {σ τ : St} (hR : Rel σ τ) (a1 a2 : Int32) : Both (fC_frame N0 σ a1 a2) (fM_frame N0 τ a1 a2) := by
  have hR' := hR
  obtain ⟨n1, n3, n4, n5, n6, n7, n8, h1, h2, h3, h4, h5, h6, h7, h8, h9, h10⟩ := hR
  have h3' := h3
  obtain ⟨k1, k2, k3, k4, k5, k6, k7, k8, k9⟩ := h3
  unfold fC_frame fM_frame
  rw [q_A_has (n := n3) (by omega) k2, qm_inn (n := n3) (by omega) k3]
  simp only [cal_eq, ite_b, q_isTick, qm_isTick]
  refine Both.same (fun c => ?_) (fun c => Both.mk hR')
  refine Both.same (fun c2 => ?_) (fun c => Both.mk hR')
  obtain ⟨v, e1, e2⟩ := q_frameFor (N := N0) h3' c (t := a2)
  rw [e1, e2]
  exact Both.mk hR'
theorem q_seenAt {N k : Nat} {σ τ : St} (h : R3 k σ τ) {c t : Int32} (hc : bt c 0 (k - 1)) : ∃ v, fC_A_seenAt N σ c t = some (σ, v) ∧ fM_seen N τ c t = some (τ, v) := by
  obtain ⟨k1, k2, k3, k4, k5, k6, k7, k8, k9⟩ := h
  have hb : 0 ≤ c.toInt ∧ c.toInt < ((4 : Nat) : Int) := bt_b hc (by omega)
  unfold fC_A_seenAt fM_seen
  rw [giN 4 hb, giN 4 hb, k6]
  exact ⟨_, rfl, rfl⟩
theorem e_sees {σ τ : St} (hR : Rel σ τ) (a1 a2 : Int32) : Both (fC_sees N0 σ a1 a2) (fM_sees N0 τ a1 a2) := by
  have hR' := hR
  obtain ⟨n1, n3, n4, n5, n6, n7, n8, h1, h2, h3, h4, h5, h6, h7, h8, h9, h10⟩ := hR
  have h3' := h3
  obtain ⟨k1, k2, k3, k4, k5, k6, k7, k8, k9⟩ := h3
  unfold fC_sees fM_sees
  rw [q_A_has (n := n3) (by omega) k2, qm_inn (n := n3) (by omega) k3]
  simp only [cal_eq, ite_b, i_m99999_99999, w_m99999_99999]
  refine Both.same (fun c => ?_) (fun c => Both.mk hR')
  refine Both.same (fun c2 => ?_) (fun c => Both.mk hR')
  obtain ⟨v, e1, e2⟩ := q_seenAt (N := N0) h3' c (t := a2)
  rw [e1, e2]
  exact Both.mk hR'
theorem nI_lt4 {n m : Nat} (hn : n ≤ m) (hm : m < 2 ^ 31) {x y : Int32} (hx : x = nI n) (hy : y = nI n) {M : Int32} (hM : M = nI m) : (x < M ↔ ¬ y = M) := by
  subst hx hy hM
  rw [nI_ltI (by omega) hm, nI_eq (by omega) hm]; omega
theorem Both.full {P : St → St → Prop} {β : Type} {n m : Nat} (hn : n ≤ m) (hm : m < 2 ^ 31) {x y : Int32} (hx : x = nI n) (hy : y = nI n) {M : Int32} (hM : M = nI m) {A B C D : Option (St × β)} (h1 : n < m → BothP P A D) (h2 : BothP P B C) : BothP P (if x < M then A else B) (if y = M then C else D) := by
  have := nI_lt4 hn hm hx hy hM
  by_cases hc : x < M
  · rw [if_pos hc, if_neg (this.mp hc)]
    refine h1 ?_
    rw [hx, hM, nI_ltI (by omega) hm] at hc; exact hc
  · rw [if_neg hc, if_pos (Classical.byContradiction fun z => hc (this.mpr z))]; exact h2
theorem upd_lt {f : Nat → Int32} {n : Nat} {v : Int32} {P : Nat → Int32 → Prop} (h : ∀ i, i < n → P i (f i)) (hv : P n v) : ∀ i, i < n + 1 → P i (upd f n v i) := by
  intro i hi
  unfold upd
  split
  · next h1 => rw [h1]; exact hv
  · exact h i (by omega)
theorem e_camera {σ τ : St} (hR : Rel σ τ) (a1 a2 a3 : Int32) : Both (fC_camera N0 σ a1 a2 a3) (fM_camera N0 τ a1 a2 a3) := by
  have hR' := hR
  obtain ⟨n1, n3, n4, n5, n6, n7, n8, h1, h2, h3, h4, h5, h6, h7, h8, h9, h10⟩ := hR
  obtain ⟨k1, k2, k3, k4, k5, k6, k7, k8, k9⟩ := h3
  unfold fC_camera fC_A_add fM_camera
  simp only [cal_eq, ite_b, i_1_20, w_1_20]
  rw [show ∀ (o : Option (St × Int32)), (cal o fun σ1 r2 => some (σ1, r2)) = o from fun o => by cases o <;> rfl]
  refine Both.same (fun c1 => ?_) (fun c => Both.mk hR')
  simp only [cal_eq, ite_b, i_0_19, w_0_19]
  refine Both.same (fun c2 => ?_) (fun c => Both.mk hR')
  simp only [cal_eq, ite_b, i_m9_9, w_m9_9]
  refine Both.same (fun c3 => ?_) (fun c => Both.mk hR')
  refine Both.full k1 (by decide) k2 k3 rfl (fun hl => ?_) (Both.mk hR')
  have hg := nI_b hl (by decide)
  simp only [bnd_eq, sA_i, sI_i, reduceIte, k2, k3, giN 4 hg]
  refine Both.mk ⟨n1, n3 + 1, n4, n5, n6, n7, n8, h1, h2, ?_, h4, ?_, h6, h7, h8, h9, h10⟩
  · refine ⟨by omega, nI_1 n3, nI_1 n3, congrArg (fun f => upd f _ a1) k4, congrArg (fun f => upd f _ a2) k5, congrArg (fun f => upd f _ a3) k6, ?_, bt_upd k8 c2, bt_upd k9 c3⟩
    have e : (nI n3).toNatClampNeg = n3 := nI_clamp (by omega)
    show ∀ i, i < n3 + 1 → bt (upd (τ.2.1 8) (nI n3).toNatClampNeg a1 i) 1 20
    rw [e]
    exact upd_lt (P := fun _ x => bt x 1 20) k7 c1
  · exact R5_grow h5 (Nat.le_refl _) (Nat.le_succ _) (Nat.le_refl _)
theorem e_crosser {σ τ : St} (hR : Rel σ τ) (a1 a2 : Int32) : Both (fC_crosser N0 σ a1 a2) (fM_crosser N0 τ a1 a2) := by
  have hR' := hR
  obtain ⟨n1, n3, n4, n5, n6, n7, n8, h1, h2, h3, h4, h5, h6, h7, h8, h9, h10⟩ := hR
  obtain ⟨k1, k2, k3, k4, k5, k6, k7⟩ := h4
  unfold fC_crosser fC_O_add fM_crosser
  rw [show ∀ (o : Option (St × Int32)), (cal o fun σ1 r2 => some (σ1, r2)) = o from fun o => by cases o <;> rfl]
  simp only [cal_eq, ite_b, i_m20_20, w_m20_20]
  refine Both.same (fun c1 => ?_) (fun c => Both.mk hR')
  simp only [cal_eq, ite_b, i_0_9, w_0_9]
  refine Both.same (fun c2 => ?_) (fun c => Both.mk hR')
  refine Both.full k1 (by decide) k2 k3 rfl (fun hl => ?_) (Both.mk hR')
  have hg := nI_b hl (by decide)
  simp only [bnd_eq, sA_i, sI_i, reduceIte, k2, k3, giN 6 hg]
  refine Both.mk ⟨n1, n3, n4 + 1, n5, n6, n7, n8, h1, h2, h3, ?_, ?_, h6, h7, h8, h9, h10⟩
  · exact ⟨by omega, nI_1 n4, nI_1 n4, congrArg (fun f => upd f _ a1) k4, congrArg (fun f => upd f _ a2) k5, bt_upd k6 c1, bt_upd k7 c2⟩
  · exact R5_grow h5 (Nat.le_refl _) (Nat.le_refl _) (Nat.le_succ _)
theorem e_shown {σ τ : St} (hR : Rel σ τ) (a1 a2 : Int32) : Both (fC_shown N0 σ a1 a2) (fM_shown N0 τ a1 a2) := by
  have hR' := hR
  obtain ⟨n1, n3, n4, n5, n6, n7, n8, h1, h2, h3, h4, h5, h6, h7, h8, h9, h10⟩ := hR
  obtain ⟨k1, k2, k3, k4, k5, k6, k7⟩ := h7
  unfold fC_shown fC_K_add fM_shown
  rw [show ∀ (o : Option (St × Int32)), (cal o fun σ1 r2 => some (σ1, r2)) = o from fun o => by cases o <;> rfl]
  simp only [cal_eq, ite_b, i_0_63, w_0_63]
  refine Both.same (fun c1 => ?_) (fun c => Both.mk hR')
  simp only [cal_eq, ite_b, i_0_3, w_0_3]
  refine Both.same (fun c2 => ?_) (fun c => Both.mk hR')
  refine Both.full k1 (by decide) k2 k3 rfl (fun hl => ?_) (Both.mk hR')
  have hg := nI_b hl (by decide)
  simp only [bnd_eq, sA_i, sI_i, reduceIte, k2, k3, giN 40 hg]
  refine Both.mk ⟨n1, n3, n4, n5, n6, n7 + 1, n8, h1, h2, h3, h4, h5, h6, ?_, h8, h9, h10⟩
  exact ⟨by omega, nI_1 n7, nI_1 n7, congrArg (fun f => upd f _ a1) k4, congrArg (fun f => upd f _ a2) k5, bt_upd k6 c1, bt_upd k7 c2⟩
