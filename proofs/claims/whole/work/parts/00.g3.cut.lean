/-- the class's tokens: T of them, an end behind -/
def CT (b : Nat → Int32) (sz T : Nat) (σ : St) : Prop := T ≤ 160 ∧ σ.1 21 = nI (T + 1) ∧ (∀ k, k ≤ T → σ.2.1 54 k = tK b sz k ∧ σ.2.1 55 k = tV b sz k ∧ σ.2.1 56 k = nI (tS b sz k)) ∧ ∀ k, T ≤ k → tK b sz k = -1
theorem cut_l {sz : Nat} {b : Nat → Int32} (hs : sz ≤ 160) : ∀ (d p n k F : Nat) (σ : St), p + d = sz → d < F → n ≤ p → k ≤ p → σ.1 20 = nI sz → (∀ i, i < sz → σ.2.1 53 i = b i) → σ.1 21 = nI k → tPos b sz k ≤ sz → skF b sz p = skF b sz (tPos b sz k) →
    (∀ q, q < k → σ.2.1 54 q = tK b sz q ∧ σ.2.1 55 q = tV b sz q ∧ σ.2.1 56 q = nI (tS b sz q)) →
    ∃ σ' T, fC_B_cut_l9 N0 F σ (nI p) (nI n) = some (σ', ()) ∧ KP [21] [54, 55, 56] σ σ' ∧ CT b sz T σ' := by
  intro d
  induction d using Nat.strongRecOn with
  | ind d ih =>
    intro p n k F σ h1 h2 hn hk h20 hb h21 htp hsk hrec
    obtain ⟨F, rfl⟩ : ∃ k, F = k + 1 := ⟨F - 1, by omega⟩
    have stop : sz ≤ p → ∃ σ' T, fC_B_cut_j108 N0 σ = some (σ', ()) ∧ KP [21] [54, 55, 56] σ σ' ∧ CT b sz T σ' := by
      intro hp
      have hend : sz ≤ skF b sz (tPos b sz k) := by
        rw [← hsk]; exact Nat.le_trans hp sk_ge
      obtain ⟨σ', e1, e2, e3, e4, e5, e6⟩ := q_note (N := N0) (K := -1) (V := 0) (S := nI sz) (show k ≤ 160 by omega) h21
      have hst := tk_stay hs hend
      unfold fC_B_cut_j108
      rw [h20, e1]
      refine ⟨σ', k, rfl, e2, by omega, e3, fun q hq => ?_, fun q hq => ?_⟩
      · rw [e4, e5, e6]
        by_cases hqk : q = k
        · subst hqk
          simp only [pk_us]
          unfold tK tV tS
          rw [hst q (Nat.le_refl _)]
          exact ⟨rfl, rfl, rfl⟩
        · rw [pk_un hqk, pk_un hqk, pk_un hqk]
          exact hrec q (by omega)
      · unfold tK; rw [hst q hq]
    show ∃ σ' T, (if (160 : Int32) ≤ nI n then _ else if σ.1 20 ≤ nI p then _ else _) = _ ∧ _
    by_cases hp : sz ≤ p
    · obtain ⟨σ', T, q1, q2⟩ := stop hp
      refine ⟨σ', T, ?_, q2⟩
      rw [h20, if_pos (show nI sz ≤ nI p by rw [nI_leI (by omega) (by omega)]; exact hp), q1]
      split <;> rfl
    · rw [if_neg (by rw [show (160 : Int32) = nI 160 from rfl, nI_leI (by decide) (by omega)]; omega), if_neg (by rw [h20, nI_leI (by omega) (by omega)]; exact hp), q_byteAt hs h20 hb (by omega), cal_eq]
      have hpl : p < sz := by omega
      -- one more token, taken at p
      have tok : ∀ (K V : Int32) (e : Nat) (σ1 : St), isBl (b p) = false → tk b sz (tPos b sz k) = (K, V, p, e) → p < e → e ≤ sz → Noted k K V (nI p) σ σ1 →
          ∃ σ' T, fC_B_cut_j102 N0 (fC_B_cut_l9 N0 F) σ1 (nI e) (nI n) = some (σ', ()) ∧ KP [21] [54, 55, 56] σ σ' ∧ CT b sz T σ' := by
        intro K V e σ1 hnb htk hpe hes hN
        obtain ⟨n1, n2, n3, n4, n5⟩ := hN
        have hpos : tPos b sz (k + 1) = e := by show (tk b sz (tPos b sz k)).2.2.2 = e; rw [htk]
        unfold fC_B_cut_j102
        rw [bnd_eq, nI_1]
        obtain ⟨σ', T, q1, q2, q3⟩ := ih (sz - e) (by omega) e (n + 1) (k + 1) F σ1 (by omega) (by omega) (by omega) (by omega) (by rw [n1.1 20 (by decide)]; exact h20) (fun i hi => by rw [n1.2 53 (by decide)]; exact hb i hi) n2 (by rw [hpos]; exact hes) (by rw [hpos]) (fun q hq => by
          rw [n3, n4, n5]
          by_cases hqk : q = k
          · subst hqk
            simp only [pk_us]
            unfold tK tV tS
            rw [htk]
            exact ⟨rfl, rfl, rfl⟩
          · rw [pk_un hqk, pk_un hqk, pk_un hqk]
            exact hrec q (by omega))
        exact ⟨σ', T, q1, n1.tr q2, q3⟩
      by_cases hbl : isBl (b p) = true
      · have hstep : ∃ σ' T, fC_B_cut_j42 N0 (fC_B_cut_l9 N0 F) σ (nI p) (nI n) = some (σ', ()) ∧ KP [21] [54, 55, 56] σ σ' ∧ CT b sz T σ' := by
          unfold fC_B_cut_j42 fC_B_cut_j102
          rw [bnd_eq, bnd_eq, nI_1, nI_1]
          exact ih (sz - (p + 1)) (by omega) (p + 1) (n + 1) k F σ (by omega) (by omega) (by omega) (by omega) h20 hb h21 htp (by rw [← hsk]; exact (sk_step (by rw [bA_in hpl]; exact hbl) hs).symm) hrec
        unfold isBl at hbl
        rcases of_decide_eq_true hbl with z | z
        · rw [if_pos z]; exact hstep
        · rw [if_neg (by rw [z]; decide), if_pos z]; exact hstep
      · have hnb : isBl (b p) = false := by
          cases hq : isBl (b p) with
          | true => exact absurd hq hbl
          | false => rfl
        have hskp : skF b sz (tPos b sz k) = p := by rw [← hsk]; exact sk_at (by rw [bA_in hpl]; exact hnb)
        have hnb2 : ¬ (b p = 32 ∨ b p = 10) := of_decide_eq_false hnb
        rw [if_neg (fun z => hnb2 (Or.inl z)), if_neg (fun z => hnb2 (Or.inr z)), q_isLetter, cal_eq]
        have htk0 : tk b sz (tPos b sz k) = if isL (b p) = true then ((tkW (wFind b p (weF b sz p - p) 12 0)).1, (tkW (wFind b p (weF b sz p - p) 12 0)).2, p, weF b sz p) else if isDg (b p) = true then (if neF b sz p - p ≤ 4 then -3 else -2, numF b (neF b sz p - p) p 0, p, neF b sz p) else if isSg (b p) = true then (b p, 0, p, p + 1) else (-2, 0, p, p + 1) := by
          unfold tk
          rw [hskp, if_neg hp]
        by_cases hl : isL (b p) = true
        · rw [if_pos hl] at htk0 ⊢
          rw [if_neg (by decide)]
          obtain ⟨σ1, e1, e2⟩ := q_cutWord hs h20 hb hpl hl (show k ≤ 160 by omega) h21
          obtain ⟨g1, g2, _⟩ := we_gt hpl hs hl
          rw [e1, cal_eq]
          exact tok _ _ _ σ1 hnb htk0 g1 g2 e2
        · rw [if_neg hl] at htk0 ⊢
          rw [if_pos rfl, q_isDigit, cal_eq]
          by_cases hd : isDg (b p) = true
          · rw [if_pos hd] at htk0 ⊢
            rw [if_neg (by decide)]
            obtain ⟨σ1, e1, e2⟩ := q_cutNumber hs h20 hb hpl hd (show k ≤ 160 by omega) h21
            obtain ⟨g1, g2, _⟩ := ne_gt hpl hs hd
            rw [e1, cal_eq]
            exact tok _ _ _ σ1 hnb htk0 g1 g2 e2
          · rw [if_neg hd] at htk0 ⊢
            rw [if_pos rfl, q_B_isSign, cal_eq]
            unfold fC_B_cut_j94
            by_cases hg : isSg (b p) = true
            · rw [if_pos hg] at htk0 ⊢
              rw [if_neg (by decide)]
              obtain ⟨σ1, e1, e2⟩ := q_note (N := N0) (K := b p) (V := 0) (S := nI p) (show k ≤ 160 by omega) h21
              rw [e1, cal_eq, bnd_eq, nI_1]
              exact tok _ _ _ σ1 hnb htk0 (by omega) (by omega) e2
            · rw [if_neg hg] at htk0 ⊢
              rw [if_pos rfl]
              obtain ⟨σ1, e1, e2⟩ := q_note (N := N0) (K := -2) (V := 0) (S := nI p) (show k ≤ 160 by omega) h21
              rw [e1, cal_eq, bnd_eq, nI_1]
              exact tok _ _ _ σ1 hnb htk0 (by omega) (by omega) e2
theorem q_cut {sz : Nat} {b : Nat → Int32} {σ : St} (hs : sz ≤ 160) (h20 : σ.1 20 = nI sz) (hb : ∀ i, i < sz → σ.2.1 53 i = b i) : ∃ σ' T, fC_B_cut N0 σ = some (σ', ()) ∧ KP [21] [54, 55, 56] σ σ' ∧ CT b sz T σ' := by
  obtain ⟨σ', T, e1, e2, e3⟩ := cut_l hs sz 0 0 0 N0 (sI σ 21 0) (by omega) (by unfold N0; omega) (Nat.le_refl _) (Nat.le_refl _) h20 hb rfl (Nat.zero_le _) rfl (fun q hq => by omega)
  rw [nI_0] at e1
  refine ⟨σ', T, ?_, (KP.i (by decide)).tr e2, e3⟩
  unfold fC_B_cut
  exact e1
