theorem KP.fw {f g : List Nat} {a b : St} (h : KP f g a b) {k : Nat} (hk : k ∉ f) {v : Int32} (hv : a.1 k = v) : b.1 k = v := (h.1 k hk).trans hv
/-- the reference's next token, from place h on -/
theorem q_next {sz x h : Nat} {b : Nat → Int32} {τ : St} (hh : h ≤ sz) (hR : RX b sz x τ) (h11 : τ.1 11 = nI h) : ∃ τ', fM_next N0 τ = some (τ', ()) ∧ KP [8, 9, 11] [] τ τ' ∧ TMt (tk b sz h) τ' := by
  have hs := hR.2.1
  have hle := sk_end (b := b) hh hs
  have hge : h ≤ skF b sz h := sk_ge
  obtain ⟨τ1, a1, a2, a3⟩ := next_s (N := N0) (skF b sz h - h) h N0 τ (by omega) (by unfold N0; omega) hh hR h11
  unfold fM_next
  rw [a1]
  unfold fM_next_j39
  rw [bnd_eq, a3]
  have hR1 : RX b sz x τ1 := hR.kp a2 (by decide)
  have hR2 : RX b sz x (sI τ1 9 (nI (skF b sz h))) := hR1.kp (KP.i (by decide) : KP [9] [] τ1 _) (by decide)
  have k2 : KP [8, 9, 11] [] τ (sI (sI τ1 9 (nI (skF b sz h))) 8 4) := ((a2.wk (by decide) (by decide)).tr (KP.i (by decide))).tr (KP.i (by decide))
  rw [show (sI τ1 9 (nI (skF b sz h))).1 11 = nI (skF b sz h) from a3, qm_byteAt hR2 (by omega), cal_eq, bnd_eq]
  have hR3 : RX b sz x (sI (sI τ1 9 (nI (skF b sz h))) 8 4) := hR.kp k2 (by decide)
  have c9 : (sI (sI τ1 9 (nI (skF b sz h))) 8 4).1 9 = nI (skF b sz h) := rfl
  have c8 : (sI (sI τ1 9 (nI (skF b sz h))) 8 4).1 8 = 4 := rfl
  have c11 : (sI (sI τ1 9 (nI (skF b sz h))) 8 4).1 11 = nI (skF b sz h) := a3
  generalize sI (sI τ1 9 (nI (skF b sz h))) 8 4 = υ at *
  have c7 : υ.1 7 = nI sz := hR3.2.2.2.1
  by_cases hz : sz ≤ skF b sz h
  · have hj : skF b sz h = sz := by omega
    rw [tk_end hz, bA_out hz, if_neg (by decide)]
    simp only [bnd_eq]
    refine ⟨_, rfl, (k2.tr (KP.i (by decide))).tr (KP.i (by decide)), ?_, fun _ => ?_, Or.inl ⟨rfl, rfl⟩⟩
    · show υ.1 7 = _
      exact c7
    · show υ.1 11 = _
      rw [c11, hj]
  · have hj : skF b sz h < sz := by omega
    have hby := (hR.2.2.2.2 _ hj).2
    rw [bA_in hj, if_pos (by rw [le_n]; exact hby.1), i_97_122, cal_eq]
    unfold tk
    rw [if_neg hz]
    by_cases hl : isL (b (skF b sz h)) = true
    · rw [if_pos hl, if_pos (isL_iff.mp hl), if_neg (by decide)]
      obtain ⟨g1, g2, g3, g4⟩ := we_gt hj hs hl
      rw [bnd_eq, bnd_eq]
      obtain ⟨τ', e1, e2, e3, e4⟩ := next_w (N := N0) (x := x) g2 g3 g4 (weF b sz (skF b sz h) - skF b sz h) 0 N0 (sL (sI υ 8 1) 10 0) (by omega) (by unfold N0; omega) (hR3.kp ((KP.i (by decide)).tr KP.l : KP [8] [] υ _) (by decide)) c11 rfl
      rw [nI_0] at e1
      refine ⟨τ', e1, (k2.tr ((KP.i (by decide)).tr KP.l)).tr (e2.wk (by decide) (by decide)), ?_, fun _ => e3, Or.inr (Or.inr (Or.inr (Or.inl ⟨wFind b (skF b sz h) (weF b sz (skF b sz h) - skF b sz h) 12 0, ?_, ?_, rfl, rfl, fun i hi => ?_⟩)))⟩
      · rw [e2.1 9 (by decide)]; exact c9
      · have := wFind_le (b := b) (j := skF b sz h) (n := weF b sz (skF b sz h) - skF b sz h) 12 0; omega
      · rw [e2.1 8 (by decide)]; rfl
      · rw [e4, wv_iff hi (fun z hz => g3 _ (by omega) (by omega))]
        exact (wFind_iff hi).symm
    · rw [if_neg hl, if_neg (fun z => hl (isL_iff.mpr z)), if_pos rfl, i_48_57, cal_eq]
      by_cases hd : isDg (b (skF b sz h)) = true
      · rw [if_pos hd, if_pos (isDg_iff.mp hd), if_neg (by decide)]
        obtain ⟨g1, g2, g3, g4⟩ := ne_gt hj hs hd
        rw [bnd_eq, bnd_eq]
        obtain ⟨τ', e1, e2, e3, e4⟩ := next_d (N := N0) (x := x) g2 g3 g4 (neF b sz (skF b sz h) - skF b sz h) 0 N0 (sL (sI υ 8 2) 10 0) (by omega) (by unfold N0; omega) (hR3.kp ((KP.i (by decide)).tr KP.l : KP [8] [] υ _) (by decide)) c11 rfl
        rw [nI_0] at e1
        rw [e1]
        unfold fM_next_j286 fM_next_j297
        have kk : KP [8, 9, 11] [] τ τ' := (k2.tr ((KP.i (by decide)).tr KP.l)).tr (e2.wk (by decide) (by decide))
        have t9 : τ'.1 9 = nI (skF b sz h) := by rw [e2.1 9 (by decide)]; exact c9
        by_cases h4 : neF b sz (skF b sz h) - skF b sz h ≤ 4
        · rw [if_pos (by rw [show (4 : Int32) = nI 4 from rfl, nI_leI (by omega) (by decide)]; exact h4), if_pos h4, bnd_eq]
          exact ⟨_, rfl, kk.tr (KP.i (by decide)), t9, fun _ => e3, Or.inr (Or.inl ⟨rfl, rfl, by show (τ'.2.2 10).toInt32 = _; rw [e4]; exact dL_num b _ _ h4⟩)⟩
        · rw [if_neg (by rw [show (4 : Int32) = nI 4 from rfl, nI_leI (by omega) (by decide)]; exact h4), if_neg h4, bnd_eq]
          exact ⟨_, rfl, kk.tr (KP.i (by decide)), t9, fun z => absurd rfl z, Or.inr (Or.inr (Or.inr (Or.inr ⟨rfl, rfl⟩)))⟩
      · rw [if_neg hd, if_neg (fun z => hd (isDg_iff.mpr z)), if_pos rfl]
        have sg : isSg (b (skF b sz h)) = true → ∃ τ', fM_next_j351 N0 υ (b (skF b sz h)) = some (τ', ()) ∧ KP [8, 9, 11] [] τ τ' ∧ TMt (b (skF b sz h), 0, skF b sz h, skF b sz h + 1) τ' := by
          intro hg
          unfold fM_next_j351
          simp only [bnd_eq]
          refine ⟨_, rfl, ((k2.tr (KP.i (by decide))).tr KP.l).tr (KP.i (by decide)), c9, fun _ => ?_, Or.inr (Or.inr (Or.inl ⟨hg, rfl, rfl⟩))⟩
          show υ.1 11 + 1 = _
          rw [c11, nI_1]
        by_cases hg : isSg (b (skF b sz h)) = true
        · rw [if_pos hg]
          have hg2 := of_decide_eq_true hg
          rcases hg2 with z | z | z | z | z | z | z | z <;> rw [z] at sg ⊢
          · rw [if_pos rfl]; exact sg (by decide)
          · rw [if_neg (by decide), if_pos rfl]; exact sg (by decide)
          · rw [if_neg (by decide), if_neg (by decide), if_pos rfl]; exact sg (by decide)
          · rw [if_neg (by decide), if_neg (by decide), if_neg (by decide), if_pos rfl]; exact sg (by decide)
          · rw [if_neg (by decide), if_neg (by decide), if_neg (by decide), if_neg (by decide), if_pos rfl]; exact sg (by decide)
          · rw [if_neg (by decide), if_neg (by decide), if_neg (by decide), if_neg (by decide), if_neg (by decide), if_pos rfl]; exact sg (by decide)
          · rw [if_neg (by decide), if_neg (by decide), if_neg (by decide), if_neg (by decide), if_neg (by decide), if_neg (by decide), if_pos rfl]; exact sg (by decide)
          · rw [if_neg (by decide), if_neg (by decide), if_neg (by decide), if_neg (by decide), if_neg (by decide), if_neg (by decide), if_neg (by decide), if_pos rfl]; exact sg (by decide)
        · rw [if_neg hg]
          have hg2 := of_decide_eq_false (show isSg (b (skF b sz h)) = false by cases hq : isSg (b (skF b sz h)) with | true => exact absurd hq hg | false => rfl)
          simp only [not_or] at hg2
          obtain ⟨z1, z2, z3, z4, z5, z6, z7, z8⟩ := hg2
          rw [if_neg z1, if_neg z2, if_neg z3, if_neg z4, if_neg z5, if_neg z6, if_neg z7, if_neg z8]
          exact ⟨υ, rfl, k2, c9, fun z => absurd rfl z, Or.inr (Or.inr (Or.inr (Or.inr ⟨rfl, c8⟩)))⟩
