section SPECM
variable {n1 n3 n4 n5 r : Nat} {c : Nat → List Int32} {σ0 τ0 : St} {w s f : Int32}
theorem readM (D : DD n1 n3 n4 n5 r c σ0 τ0) {τ : St} (Q : QM τ0 w s f τ) {key m k : Nat} {t : Int32} (hkey : key < 3) (hm : m < 10) (hk : k < 4) : ∃ τ', fM_read N0 τ (τ.1 2) (nI m) (nI k) t (nI key) = some (τ', wS τ0 c key m k t w) ∧ KP fE [] τ τ' ∧ τ'.1 20 = τ.1 20 := by
  obtain ⟨_, _, _, _, hr, _, h2, ⟨b, sz, j, g1, g2, g3, g4⟩, _⟩ := D
  have e2 : τ.1 2 = nI r := by rw [Q.1.1 2 (by decide)]; exact h2
  rw [e2]
  obtain ⟨τ', v, e1, k1, e3⟩ := q_read (x := r) (m := m) (k := k) (b := b) (sz := sz) (τ := τ) (t := t) (wh := nI key) hr g1 (by rw [Q.1.2 2 (by decide)]; exact g2) (fun i hi => by rw [Q.1.2 1 (by decide)]; exact g3 i hi) hm hk
  rw [g4] at e3
  have en : nmF τ m k t = nmW τ0 m k t w := by
    unfold nmF nmW
    rw [Q.1.2 7 (by decide), Q.1.2 6 (by decide), Q.1.2 4 (by decide), Q.2.1]
  refine ⟨τ', ?_, k1.wk (by decide) (by decide), k1.1 20 (by decide)⟩
  rcases e3 with ⟨_, _, v0, v1, v2, E0, E1, E2, ev⟩ | ⟨z, _⟩
  · rw [en] at E0 E1 E2
    rw [e1, ev]
    unfold wS
    rcases lt3 hkey with rfl | rfl | rfl
    · rw [E0.val]; rfl
    · rw [E1.val]; rfl
    · rw [E2.val]; rfl
  · cases z
def oB (o : Option Nat) : Nat := match o with
  | none => 3
  | some l => l
def oA (o : Option Nat) : Int32 := match o with
  | none => 0
  | some _ => 1
theorem foreM_l (D : DD n1 n3 n4 n5 r c σ0 τ0) {m : Nat} {t : Int32} (hm : m < 10) : ∀ (d k F : Nat) (τ : St) (acc : Option Nat), k + d = 4 → d < F → QM τ0 w s f τ → τ.1 20 = oA acc → (∀ l, acc = some l → l < 4) →
    ∃ τ', fM_foremost_l10 N0 F τ (nI m) t (nI (oB acc)) (nI k) = some (τ', nI (oB (ldF (fun k => decide (wS τ0 c 0 m k t w ≠ 0)) (fun k => τ0.2.1 7 (4 * m + k)) d k acc))) ∧ KP fE [] τ τ' ∧ τ'.1 20 = oA (ldF (fun k => decide (wS τ0 c 0 m k t w ≠ 0)) (fun k => τ0.2.1 7 (4 * m + k)) d k acc) := by
  intro d
  induction d with
  | zero =>
    intro k F τ acc h1 h2 Q h20 ha
    obtain ⟨F, rfl⟩ : ∃ k, F = k + 1 := ⟨F - 1, by omega⟩
    refine ⟨τ, ?_, KP.rf, h20⟩
    show (if (4 : Int32) ≤ nI k then _ else _) = _
    rw [if_pos (by rw [show k = 4 by omega]; decide)]
    rfl
  | succ d ih =>
    intro k F τ acc h1 h2 Q h20 ha
    obtain ⟨F, rfl⟩ : ∃ k, F = k + 1 := ⟨F - 1, by omega⟩
    obtain ⟨τ1, w1, w2, w3⟩ := readM D Q (key := 0) (k := k) (t := t) (by decide) hm (by omega)
    rw [nI_0] at w1
    have Q1 := Q.kp w2
    have e7 : τ1.2.1 7 = τ0.2.1 7 := Q1.1.2 7 (by decide)
    have nxt : ∀ (acc' : Option Nat) (τ2 : St), stp (fun k => decide (wS τ0 c 0 m k t w ≠ 0)) (fun k => τ0.2.1 7 (4 * m + k)) acc k = acc' → KP fE [] τ τ2 → τ2.1 20 = oA acc' → ∃ τ', fM_foremost_j74 N0 (fM_foremost_l10 N0 F) τ2 (nI m) t (nI (oB acc')) (nI k) = some (τ', nI (oB (ldF (fun k => decide (wS τ0 c 0 m k t w ≠ 0)) (fun k => τ0.2.1 7 (4 * m + k)) (d + 1) k acc))) ∧ KP fE [] τ τ' ∧ τ'.1 20 = oA (ldF (fun k => decide (wS τ0 c 0 m k t w ≠ 0)) (fun k => τ0.2.1 7 (4 * m + k)) (d + 1) k acc) := by
      intro acc' τ2 q1 q2 q3
      unfold fM_foremost_j74
      rw [bnd_eq, nI_1]
      obtain ⟨τ', e1, e2, e3⟩ := ih (k + 1) F τ2 acc' (by omega) (by omega) (Q.kp q2) q3 (by rw [← q1]; exact stp_lt (by omega) ha)
      refine ⟨τ', ?_, q2.tr e2, ?_⟩
      · subst q1; exact e1
      · subst q1; exact e3
    show ∃ τ', (if (4 : Int32) ≤ nI k then _ else _) = _ ∧ _
    rw [if_neg (by rw [show (4 : Int32) = nI 4 from rfl, nI_leI (by decide) (by omega)]; omega), w1, cal_eq]
    unfold fM_foremost_j66 fM_foremost_j69
    rw [bnd_eq]
    have k2 : KP fE [] τ (sI τ1 20 1) := w2.tr (KP.i (by decide))
    by_cases hz : wS τ0 c 0 m k t w = 0
    · rw [if_pos hz]
      exact nxt acc τ1 (by unfold stp; rw [if_neg (show ¬ decide (wS τ0 c 0 m k t w ≠ 0) = true by rw [hz]; decide)]) w2 (w3.trans h20)
    · rw [if_neg hz, w3, h20]
      have hc : decide (wS τ0 c 0 m k t w ≠ 0) = true := decide_eq_true hz
      cases acc with
      | none =>
        rw [if_pos (show oA none = 0 from rfl)]
        exact nxt (some k) _ (by unfold stp; rw [if_pos hc]) k2 rfl
      | some l =>
        have hl := ha l rfl
        rw [if_neg (show ¬ oA (some l) = 0 from (by decide : ¬ (1 : Int32) = 0)), show oB (some l) = l from rfl, ix4, ix4, giN 40 (nI_b (by omega) (by decide)), giN 40 (nI_b (by omega) (by decide)), nI_clamp (by omega), nI_clamp (by omega), e7]
        by_cases hle : τ0.2.1 7 (4 * m + k) ≤ τ0.2.1 7 (4 * m + l)
        · rw [if_pos hle]
          refine nxt (some l) _ ?_ k2 rfl
          unfold stp
          rw [if_pos hc]
          show (if τ0.2.1 7 (4 * m + l) < τ0.2.1 7 (4 * m + k) then some k else some l) = some l
          rw [if_neg (by rw [lt_n]; rw [le_n] at hle; omega)]
        · rw [if_neg hle]
          refine nxt (some k) _ ?_ k2 rfl
          unfold stp
          rw [if_pos hc]
          show (if τ0.2.1 7 (4 * m + l) < τ0.2.1 7 (4 * m + k) then some k else some l) = some k
          rw [if_pos (by rw [lt_n]; rw [le_n] at hle; omega)]
theorem foreM (D : DD n1 n3 n4 n5 r c σ0 τ0) {τ : St} (Q : QM τ0 w s f τ) {m : Nat} {t : Int32} (hm : m < 10) : ∃ τ', fM_foremost N0 τ (nI m) t = some (τ', nI (footS τ0 c m t w)) ∧ KP fE [] τ τ' ∧ τ'.1 20 = oA (leadS τ0 c m t w) := by
  unfold fM_foremost
  rw [bnd_eq]
  have k1 : KP fE [] τ (sI τ 20 0) := KP.i (by decide)
  obtain ⟨τ', e1, e2, e3⟩ := foreM_l D (t := t) hm 4 0 N0 (sI τ 20 0) none rfl (by decide) (Q.kp k1) rfl (fun l h => by cases h)
  refine ⟨τ', ?_, k1.tr e2, e3⟩
  rw [← nI_0, show (3 : Int32) = nI (oB none) from rfl]
  exact e1
theorem whereM (D : DD n1 n3 n4 n5 r c σ0 τ0) {τ : St} (Q : QM τ0 w s f τ) {m : Nat} {t : Int32} (hm : m < 10) : fM_whereOf N0 τ (nI m) t = some (τ, whereS τ0 s f m t) := by
  have cl : (nI m).toNatClampNeg = m := nI_clamp (by omega)
  have hg := nI_b hm (show 10 < 2 ^ 31 by decide)
  have e4 : τ.2.1 4 = τ0.2.1 4 := Q.1.2 4 (by decide)
  have e5 : τ.2.1 5 = τ0.2.1 5 := Q.1.2 5 (by decide)
  have e6 : τ.2.1 6 = τ0.2.1 6 := Q.1.2 6 (by decide)
  unfold fM_whereOf fM_whereOf_j33 fM_whereOf_j34 whereS
  simp only [giN 10 hg, cl, e4, e5, e6, Q.2.2.1]
  by_cases hf : f = 0
  · subst hf
    rw [if_pos rfl]
    have : (if τ0.2.1 4 m = s then (0 : Int32) else 0) = 0 := by split <;> rfl
    rw [this]
  · rw [if_neg hf, Q.2.2.2.resolve_left hf]
    split <;> rfl
theorem frontM (D : DD n1 n3 n4 n5 r c σ0 τ0) {τ : St} (Q : QM τ0 w s f τ) {m : Nat} {t : Int32} (hm : m < 10) : MV1 τ (fM_frontOf N0 τ (nI m) t) (frontS τ0 c w s f m t) := by
  obtain ⟨τ1, a1, a2, a3⟩ := foreM D Q (t := t) hm
  have Q1 := Q.kp a2
  have e7 : τ1.2.1 7 = τ0.2.1 7 := Q1.1.2 7 (by decide)
  unfold fM_frontOf
  rw [a1, cal_eq, whereM D Q1 hm, cal_eq, a3]
  unfold frontS footS
  cases h : leadS τ0 c m t w with
  | none =>
    rw [if_pos (show oA none = 0 from rfl)]
    exact ⟨τ1, rfl, a2⟩
  | some l =>
    have hl := leadS_lt h
    rw [if_neg (show ¬ oA (some l) = 0 from (by decide : ¬ (1 : Int32) = 0))]
    show MV1 τ (gi (4 * nI m + nI l) 40 (some (τ1, whereS τ0 s f m t + τ1.2.1 7 (4 * nI m + nI l).toNatClampNeg))) _
    rw [ix4, giN 40 (nI_b (by omega) (by decide)), nI_clamp (by omega), e7]
    exact ⟨τ1, rfl, a2⟩
/-- what a rule says of the part that is foremost -/
theorem ruledM (D : DD n1 n3 n4 n5 r c σ0 τ0) {τ : St} (Q : QM τ0 w s f τ) {key m : Nat} {t : Int32} (hkey : key < 3) (hm : m < 10) {β : Type} {k : St → Int32 → Option (St × β)} : ∃ τ1 τ', fM_foremost N0 τ (nI m) t = some (τ1, nI (footS τ0 c m t w)) ∧ KP fE [] τ τ1 ∧ fM_read N0 τ1 (τ1.1 2) (nI m) (nI (footS τ0 c m t w)) t (nI key) = some (τ', ruleS τ0 c key m t w) ∧ KP fE [] τ τ' := by
  obtain ⟨τ1, a1, a2, _⟩ := foreM D Q (t := t) hm
  obtain ⟨τ2, b1, b2, _⟩ := readM D (Q.kp a2) (key := key) (k := footS τ0 c m t w) (t := t) hkey hm footS_lt
  exact ⟨τ1, τ2, a1, a2, b1, a2.tr b2⟩
end SPECM
theorem Rel_all {σ τ : St} (h : Rel σ τ) : ∃ n1 n3 n4 n5 r c, DD n1 n3 n4 n5 r c σ τ ∧ R2 σ τ := by
  obtain ⟨n1, n3, n4, n5, n6, n7, n8, h1, h2, h3, h4, h5, h6, h7, h8, h9, h10⟩ := h
  obtain ⟨r, c, D⟩ := DD_of h1 h3 h4 h5 h8
  exact ⟨n1, n3, n4, n5, r, c, D, h2⟩
/-- looked at as it stands -/
theorem QC_look {σ τ : St} (w : Int32) : ∃ σ1, fC_P_lookAs N0 σ w = some (σ1, ()) ∧ QC σ w (-1) 0 σ1 := by
  refine ⟨_, rfl, ⟨((KP.i (by decide)).tr (KP.i (by decide))).tr (KP.i (by decide)), rfl, rfl, rfl⟩⟩
theorem QM_now {σ τ : St} (h : R2 σ τ) : QM τ (σ.1 3) (-1) 0 τ := ⟨KP.rf, h.1.symm, h.2.2, Or.inl rfl⟩
theorem Rel_q {σ τ σ' τ' : St} {w s f : Int32} (h : Rel σ τ) (hC : QC σ w s f σ') (hM : KP fE [] τ τ') : Rel σ' τ' := Rel_f h (hC.1.wk (by decide) (by decide)) (hM.wk (by decide) (by decide))
theorem e_front {σ τ : St} (hR : Rel σ τ) (a1 a2 a3 : Int32) : Both (fC_front N0 σ a1 a2 a3) (fM_front N0 τ a1 a2 a3) := by
  obtain ⟨n1, n3, n4, n5, r, c, D, h2⟩ := Rel_all hR
  unfold fC_front fM_front
  rw [q_S_has (n := n1) (by have := D.1.1; omega) D.1.2.1, qm_isMan (n := n1) (by have := D.1.1; omega) D.1.2.2.1]
  simp only [cal_eq, ite_b, q_isTick, qm_isTick]
  refine Both.same (fun c1 => ?_) (fun c => Both.mk hR)
  refine Both.same (fun c2 => ?_) (fun c => Both.mk hR)
  obtain ⟨m, hm, hm2, rfl⟩ := bt_nI c1
  have hm : m < 10 := by have := D.1.1; omega
  obtain ⟨σ1, e1, Q⟩ := QC_look (σ := σ) (τ := τ) (σ.1 3)
  rw [e1, cal_eq]
  simp only [i_0_2, cal_eq, ite_b]
  have QM0 := QM_now h2
  by_cases z0 : a3 = 0
  · subst z0
    rw [if_pos (by decide), if_pos (by decide), if_pos rfl]
    obtain ⟨σ2, f1, f2⟩ := frontC D Q (t := a2) hm
    obtain ⟨τ2, g1, g2⟩ := frontM D QM0 (t := a2) hm
    rw [f1, g1]
    exact Both.mk (Rel_q hR (Q.kp f2) g2)
  rw [if_neg z0]
  by_cases z1 : a3 = 1
  · subst z1
    rw [if_pos rfl, if_pos (by decide), if_neg z0, if_pos rfl]
    obtain ⟨σ2, f1, f2⟩ := leadC D Q (t := a2) hm
    obtain ⟨τ2, g1, g2, _⟩ := foreM D QM0 (t := a2) hm
    rw [f1, g1, cal_eq, cal_eq, footC, cal_eq]
    exact Both.mk (Rel_q hR (Q.kp f2) g2)
  rw [if_neg z1]
  by_cases z2 : a3 = 2
  · subst z2
    rw [if_pos rfl, if_pos (by decide), if_neg z0, if_neg z1]
    rw [whereC D Q hm, whereM D QM0 hm]
    exact Both.mk (Rel_q hR Q KP.rf)
  rw [if_neg z2, if_neg (fun z => ?_)]
  · exact Both.mk (Rel_q hR Q KP.rf)
  · have h0 : ¬ a3.toInt = 0 := fun z => z0 (Int32.toInt_inj.mp (z.trans rfl))
    have h1 : ¬ a3.toInt = 1 := fun z => z1 (Int32.toInt_inj.mp (z.trans rfl))
    have h2 : ¬ a3.toInt = 2 := fun z => z2 (Int32.toInt_inj.mp (z.trans rfl))
    have := z.1; have := z.2; omega
theorem e_says {σ τ : St} (hR : Rel σ τ) (a1 a2 a3 a4 : Int32) : Both (fC_says N0 σ a1 a2 a3 a4) (fM_says N0 τ a1 a2 a3 a4) := by
  obtain ⟨n1, n3, n4, n5, r, c, D, h2⟩ := Rel_all hR
  unfold fC_says fM_says
  rw [q_S_has (n := n1) (by have := D.1.1; omega) D.1.2.1, qm_isMan (n := n1) (by have := D.1.1; omega) D.1.2.2.1]
  simp only [cal_eq, ite_b, q_isPart, i_0_3]
  refine Both.same (fun c1 => ?_) (fun c => Both.mk hR)
  refine Both.same (fun c2 => ?_) (fun c => Both.mk hR)
  simp only [cal_eq, ite_b, q_isTick, qm_isTick]
  refine Both.same (fun c3 => ?_) (fun c => Both.mk hR)
  simp only [cal_eq, ite_b, i_0_2, w_0_2]
  refine Both.same (fun c4 => ?_) (fun c => Both.mk hR)
  obtain ⟨m, hm, hm2, rfl⟩ := bt_nI c1
  obtain ⟨k, hk, hk2, rfl⟩ := bt_nI c2
  obtain ⟨key, hq, hq2, rfl⟩ := bt_nI c4
  have hm : m < 10 := by have := D.1.1; omega
  obtain ⟨σ1, e1, Q⟩ := QC_look (σ := σ) (τ := τ) (σ.1 3)
  rw [e1, cal_eq]
  obtain ⟨σ2, f1, f2⟩ := worthOfC D Q (key := key) (k := k) (t := a3) (by omega) hm (by omega)
  obtain ⟨τ2, g1, g2, _⟩ := readM D (QM_now h2) (key := key) (k := k) (t := a3) (by omega) hm (by omega)
  rw [f1, g1]
  exact Both.mk (Rel_q hR (Q.kp f2) g2)
