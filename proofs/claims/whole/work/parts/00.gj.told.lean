theorem e_told {σ τ : St} (hR : Rel σ τ) (a1 a2 : Int32) : Both (fC_told N0 σ a1 a2) (fM_told N0 τ a1 a2) := by
  obtain ⟨n1, n3, n4, n5, r, c, D, h2⟩ := Rel_all hR
  have hn5 := D.2.2.2.1.1
  unfold fC_told fM_told
  rw [q_F_has (n := n5) (by omega) D.2.2.2.1.2.1, qm_isCall (n := n5) (by omega) D.2.2.2.1.2.2.1]
  simp only [cal_eq, ite_b]
  refine Both.same (fun c1 => ?_) (fun c => Both.mk hR)
  obtain ⟨q, hq, hq2, rfl⟩ := bt_nI c1
  have hq : q < n5 := by omega
  obtain ⟨b1, ⟨k, hk, ek⟩, b3, b4, b5, b6, b7, b8, b9, b10, b11⟩ := call_at D hq
  have cl : (nI q).toNatClampNeg = q := nI_clamp (by omega)
  have hg := nI_b b1 (show 24 < 2 ^ 31 by decide)
  obtain ⟨σ1, e1, Q⟩ := QC_look (σ := σ) (τ := τ) (σ.1 3)
  have QM0 := QM_now h2
  obtain ⟨e46, e47, e48, e49, e50, _⟩ := QC_arr D Q
  have es := spreadM D QM0 hk hq ek
  rw [e1, cal_eq, giN 24 hg, giN 24 hg, bnd_eq, bnd_eq, cl, e46, ek, es, cal_eq, bnd_eq]
  have e5 : σ.1 3 = τ.1 5 := h2.1
  have fin : ∀ {σ' τ' : St}, KP [] [44, 45] σ1 σ' → KP fE [] τ τ' → Rel σ' τ' := fun k1 k2 => Rel_q hR (Q.kp k1) k2
  refine Both.same (fun _ => Both.mk (fin KP.rf KP.rf)) (fun _ => ?_)
  refine Both.same (fun _ => ?_) (fun _ => ?_)
  · obtain ⟨σ2, f1, f2⟩ := marginC D Q hk hq
    obtain ⟨τ2, g1, g2⟩ := marginM D QM0 hk hq
    rw [f1, g1]; exact Both.mk (fin f2 g2)
  refine Both.same (fun _ => ?_) (fun _ => ?_)
  · obtain ⟨σ2, f1, f2⟩ := bandC D Q hk hq
    obtain ⟨τ2, g1, g2⟩ := bandM D QM0 hk hq
    rw [f1, g1]; exact Both.mk (fin f2 g2)
  refine Both.same (fun _ => ?_) (fun _ => ?_)
  · obtain ⟨σ2, f1, f2⟩ := marginC D Q hk hq
    obtain ⟨σ3, f3, f4⟩ := bandC D (Q.kp f2) hk hq
    obtain ⟨τ2, g1, g2⟩ := aheadM D QM0 hk hq
    rw [f1, cal_eq, f3, cal_eq, g1, cal_eq]
    unfold aheadS
    by_cases h : marginS τ c (σ.1 3) (-1) 0 k q ≤ bandS τ c (σ.1 3) k q
    · have hz : ¬ (decide (bandS τ c (σ.1 3) k q < marginS τ c (σ.1 3) (-1) 0 k q) = true) := by
        simp only [decide_eq_true_eq]; rw [lt_n]; rw [le_n] at h; omega
      rw [if_pos h, if_neg hz, if_pos rfl]
      exact Both.mk (fin (f2.tr f4) g2)
    · have hz : decide (bandS τ c (σ.1 3) k q < marginS τ c (σ.1 3) (-1) 0 k q) = true := by
        simp only [decide_eq_true_eq]; rw [lt_n]; rw [le_n] at h; omega
      rw [if_neg h, if_pos hz, if_neg (show ¬ (1 : Int32) = 0 by decide)]
      exact Both.mk (fin (f2.tr f4) g2)
  refine Both.same (fun _ => ?_) (fun _ => ?_)
  · obtain ⟨σ2, f1, f2⟩ := offC D Q hk hq
    obtain ⟨τ2, g1, g2⟩ := offM D QM0 hk hq
    rw [f1, g1, cal_eq, cal_eq]
    refine Both.same (fun _ => Both.mk (fin f2 g2)) (fun _ => Both.mk (fin f2 g2))
  refine Both.same (fun _ => ?_) (fun _ => ?_)
  · obtain ⟨σ2, f1, f2⟩ := offC D Q hk hq
    obtain ⟨σ3, f3, f4⟩ := offC D (Q.kp f2) (k := 0) (by decide) hq
    obtain ⟨τ2, g1, g2⟩ := offM D QM0 hk hq
    obtain ⟨τ3, g3, g4⟩ := offM D (QM0.kp g2) (k := 0) (by decide) hq
    rw [nI_0] at f3 g3
    rw [f1, g1, cal_eq, cal_eq, f3, g3, cal_eq, cal_eq]
    refine Both.same (fun _ => Both.mk (fin (f2.tr f4) (g2.tr g4))) (fun _ => Both.mk (fin (f2.tr f4) (g2.tr g4)))
  refine Both.same (fun _ => ?_) (fun _ => ?_)
  · obtain ⟨σ2, f1, f2⟩ := marginC D Q hk hq
    obtain ⟨σ3, f3, f4⟩ := bandC D (Q.kp f2) hk hq
    obtain ⟨τ2, g1, g2⟩ := marginM D QM0 hk hq
    obtain ⟨τ3, g3, g4⟩ := bandM D (QM0.kp g2) hk hq
    have s3 := spreadC D ((Q.kp f2).kp f4) hk hq ek
    have t3 := spreadM D ((QM0.kp g2).kp g4) hk hq ek
    obtain ⟨x13, _⟩ := QM_arr D (QM0.kp g2)
    unfold fC_P_waysOf fM_waysOf
    rw [giN 24 hg, giN 24 hg, bnd_eq, cl, e46, ek, f1, cal_eq, f3, cal_eq, bnd_eq, s3, cal_eq, bnd_eq, g1, cal_eq, giN 24 hg, x13, ek, g3, cal_eq, t3, cal_eq, bnd_eq]
    have hsp : bt (spreadS τ k q) 0 9 := by
      unfold spreadS
      split
      · exact D.2.2.1.2.2.2.2.2.2 _
      · exact ⟨by decide, by decide⟩
    have hn := neg_sp hsp
    have h9 := hsp.2
    have h0 := hsp.1
    obtain ⟨n', p1, p2⟩ := ways_out (N1 := N0) (N2 := N0) (σ := σ3) (τ := τ3) (by decide) (by decide) (bd_margin (w := σ.1 3) (s := -1) (k := k) D hq) (bd_band (τ0 := τ) (c := c) (w := σ.1 3) (k := k) (q := q)) hsp (2 * (spreadS τ k q).toInt + 1).toNat N0 N0 (-(spreadS τ k q)) 0 (by rw [hn]; omega) ⟨by rw [hn]; omega, by rw [hn]; omega⟩ (by unfold N0; omega) (by unfold N0; omega)
    rw [p1, p2]
    exact Both.mk (fin (f2.tr f4) (g2.tr g4))
  refine Both.same (fun _ => ?_) (fun _ => ?_)
  · unfold fC_P_pairsOf
    rw [spreadC D Q hk hq ek, cal_eq, bnd_eq, cal_eq]
    exact Both.mk (fin KP.rf KP.rf)
  refine Both.same (fun _ => ?_) (fun _ => ?_)
  · unfold fC_P_frameErrorOf
    rw [giN 24 hg, bnd_eq, giN 24 hg, cl, e49, e50, b9, frameC D Q b7, cal_eq, giN 24 hg, giN 24 hg]
    obtain ⟨m13, m14, m15, m16, m17, _⟩ := QM_arr D QM0
    rw [frameM D QM0 b7, cal_eq]
    obtain ⟨σ2, f1, f2⟩ := trueC D Q (t := frameS τ (caN τ q) (τ.2.1 16 q)) hq
    obtain ⟨σ3, f3, f4⟩ := trueC D (Q.kp f2) (t := τ.2.1 16 q) hq
    obtain ⟨τ2, g1, g2⟩ := trueM D QM0 (t := frameS τ (caN τ q) (τ.2.1 16 q)) hq
    obtain ⟨τ3, g3, g4⟩ := trueM D (QM0.kp g2) (t := τ.2.1 16 q) hq
    obtain ⟨_, _, _, x16, _⟩ := QM_arr D (QM0.kp g2)
    rw [f1, cal_eq, f3, cal_eq, cal_eq, g1, cal_eq, giN 24 hg, x16, g3, cal_eq]
    exact Both.mk (fin (f2.tr f4) (g2.tr g4))
  refine Both.same (fun _ => ?_) (fun _ => Both.mk (fin KP.rf KP.rf))
  · obtain ⟨σ2, w', s', f', f1, f2⟩ := turnC D Q hk hq ek
    obtain ⟨τ2, g1, g2⟩ := turnM D QM0 hk hq ek
    rw [f1, g1, cal_eq, cal_eq]
    rw [e5] at g2
    exact Both.mk (Rel_qq hR f2 g2)
