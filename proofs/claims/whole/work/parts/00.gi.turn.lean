/-! where a call would turn -/
def turnF (A : Nat → Bool) : Nat → Nat → Int32
  | 0, _ => -1
  | d + 1, v => if A v = true then turnF A d (v + 1) else nI v
theorem turnF_const {A : Nat → Bool} (h : ∀ v, A v = true) : ∀ d v, turnF A d v = -1 := by
  intro d
  induction d with
  | zero => intro v; rfl
  | succ d ih => intro v; unfold turnF; rw [if_pos (h v)]; exact ih (v + 1)
section TURN
variable {n1 n3 n4 n5 r : Nat} {c : Nat → List Int32} {σ0 τ0 : St}
theorem wS_now {key m k : Nat} {t w w' : Int32} (h : ∀ x ∈ c key, x ≠ -6) : wS τ0 c key m k t w = wS τ0 c key m k t w' := by
  unfold wS rv
  rw [rcO_now (nm := nmW τ0 m k t w) (nm' := nmW τ0 m k t w') (fun i hi => by
    have : i = 0 ∨ i = 1 ∨ i = 2 ∨ i = 3 ∨ i = 4 := by omega
    rcases this with rfl | rfl | rfl | rfl | rfl <;> rfl) (c key) [] h]
theorem leadS_now {m : Nat} {t w w' : Int32} (h : ∀ x ∈ c 0, x ≠ -6) : leadS τ0 c m t w = leadS τ0 c m t w' := by
  unfold leadS
  have e : (fun k => decide (wS τ0 c 0 m k t w ≠ 0)) = (fun k => decide (wS τ0 c 0 m k t w' ≠ 0)) := by
    funext k; rw [wS_now (w := w) (w' := w') h]
  rw [e]
theorem frontS_now {m : Nat} {t w w' s f : Int32} (h : ∀ x ∈ c 0, x ≠ -6) : frontS τ0 c w s f m t = frontS τ0 c w' s f m t := by
  unfold frontS; rw [leadS_now (w := w) (w' := w') h]
theorem marginS_now {k q : Nat} {w w' s f : Int32} (h : ∀ x ∈ c 0, x ≠ -6) : marginS τ0 c w s f k q = marginS τ0 c w' s f k q := by
  unfold marginS trueS crossS
  simp only [frontS_now (τ0 := τ0) (w := w) (w' := w') h]
theorem bandS_now {k q : Nat} {w w' : Int32} (h : ∀ x ∈ c 0, x ≠ -6) (h1 : k = 3 → ∀ x ∈ c 1, x ≠ -6) : bandS τ0 c w k q = bandS τ0 c w' k q := by
  unfold bandS
  by_cases k3 : k = 3
  · unfold ruleS footS
    rw [leadS_now (w := w) (w' := w') h]
    rw [wS_now (key := 1) (w := w) (w' := w') (h1 k3)]
  · rw [if_neg k3, if_neg k3]
theorem minds_l {N w e : Nat} (hw : w < 18) (he : e ≤ 960) {σ : St} (h43 : σ.2.1 43 w = nI e) : ∀ (cs : List Int32) (a F : Nat), a + cs.length = e → cs.length < F → (∀ i, i < cs.length → σ.2.1 41 (a + i) = cs.getD i 0) → ∃ r, fC_T_mindsWidth_l16 N F σ (nI w) (nI a) = some (σ, r) ∧ ((r = 1 ∧ -6 ∈ cs) ∨ (r = 0 ∧ ∀ x ∈ cs, x ≠ -6)) := by
  intro cs
  induction cs with
  | nil =>
    intro a F h1 h2 h3
    have h1 : a + 0 = e := h1
    obtain ⟨F, rfl⟩ : ∃ k, F = k + 1 := ⟨F - 1, by omega⟩
    refine ⟨0, ?_, Or.inr ⟨rfl, fun x hx => absurd hx (List.not_mem_nil)⟩⟩
    show gi (nI w) 18 _ = _
    rw [giN 18 (nI_b hw (by decide)), nI_clamp (by omega), h43, if_pos (by rw [nI_leI (by omega) (by omega)]; omega)]
  | cons x cs ih =>
    intro a F h1 h2 h3
    have h1 : a + (cs.length + 1) = e := h1
    have h2 : cs.length + 1 < F := h2
    obtain ⟨F, rfl⟩ : ∃ k, F = k + 1 := ⟨F - 1, by omega⟩
    have hx : σ.2.1 41 a = x := h3 0 (by simp)
    show ∃ r, gi (nI w) 18 _ = _ ∧ _
    rw [giN 18 (nI_b hw (by decide)), nI_clamp (show w < 2 ^ 31 by omega), h43, if_neg (by rw [nI_leI (by omega) (by omega)]; omega), giN 960 (nI_b (by omega) (by decide)), nI_clamp (by omega), hx]
    by_cases h6 : x = -6
    · rw [if_pos h6]
      exact ⟨1, rfl, Or.inl ⟨rfl, by rw [h6]; exact List.mem_cons_self ..⟩⟩
    · rw [if_neg h6, bnd_eq, nI_1]
      obtain ⟨r, e1, e2⟩ := ih (a + 1) F (by omega) (by omega) (fun i hi => by
        rw [show a + 1 + i = a + (i + 1) by omega]
        exact h3 (i + 1) (by simp; omega))
      refine ⟨r, e1, ?_⟩
      rcases e2 with ⟨g1, g2⟩ | ⟨g1, g2⟩
      · exact Or.inl ⟨g1, List.mem_cons_of_mem _ g2⟩
      · refine Or.inr ⟨g1, fun y hy => ?_⟩
        rcases List.mem_cons.mp hy with rfl | hy
        · exact h6
        · exact g2 y hy
theorem q_minds (D : DD n1 n3 n4 n5 r c σ0 τ0) {σ : St} {w s f : Int32} (Q : QC σ0 w s f σ) {key : Nat} (hkey : key < 3) : ∃ r, fC_T_mindsWidth N0 σ (nI key) = some (σ, r) ∧ ((r = 1 ∧ -6 ∈ c key) ∨ (r = 0 ∧ ∀ x ∈ c key, x ≠ -6)) := by
  obtain ⟨_, _, _, _, hr, h18, _, _, hco⟩ := D
  obtain ⟨a, a1, a2, a3, a4, a5⟩ := hco key hkey
  unfold fC_T_mindsWidth
  rw [Q.1.1 18 (by decide), h18, ix3', bnd_eq, giN 18 (nI_b (by omega) (by decide)), bnd_eq, nI_clamp (by omega), Q.1.2 42 (by decide), a3]
  exact minds_l (N := N0) (by omega) a1 (by rw [Q.1.2 43 (by decide)]; exact a4) (c key) a N0 rfl (by unfold N0; omega) (fun i hi => by rw [Q.1.2 41 (by decide)]; exact a5 i hi)
theorem look_at {σ : St} {w s f : Int32} (Q : QC σ0 w s f σ) (v : Int32) : ∃ σ1, fC_P_lookAs N0 σ v = some (σ1, ()) ∧ QC σ0 v (-1) 0 σ1 ∧ KP [4, 5, 6] [] σ σ1 := by
  have k : KP [4, 5, 6] [] σ (sI (sI (sI σ 4 v) 5 (-1)) 6 0) := ((KP.i (by decide)).tr (KP.i (by decide))).tr (KP.i (by decide))
  exact ⟨_, rfl, ⟨Q.1.tr (k.wk (by decide) (by decide)), rfl, rfl, rfl⟩, k⟩
/-- from width v on, d widths are left -/
theorem turnC_l (D : DD n1 n3 n4 n5 r c σ0 τ0) {k q last : Nat} {mv : Int32} (hk : k < 6) (hq : q < n5) (hlast : last ≤ 999) (hmv : mv = 0 → ∀ x ∈ c 0, x ≠ -6) : ∀ (d v F : Nat) (σ : St) (w s f mg : Int32), v + d = last + 1 → d < F → QC σ0 w s f σ → (v ≠ 0 → mv = 0 → mg = marginS τ0 c 0 (-1) 0 k q) →
    ∃ σ' w' s' f', fC_P_turnOf_l66 N0 F σ (nI q) (nI k) mv (nI last) mg (nI v) = some (σ', turnF (fun v => aheadS τ0 c (nI v) (-1) 0 k q) d v) ∧ QC σ0 w' s' f' σ' := by
  intro d
  induction d with
  | zero =>
    intro v F σ w s f mg h1 h2 Q h3
    obtain ⟨F, rfl⟩ : ∃ k, F = k + 1 := ⟨F - 1, by omega⟩
    refine ⟨σ, w, s, f, ?_, Q⟩
    show (if nI last < nI v then _ else _) = _
    rw [if_pos (by rw [nI_ltI (by omega) (by omega)]; omega)]
    rfl
  | succ d ih =>
    intro v F σ w s f mg h1 h2 Q h3
    obtain ⟨F, rfl⟩ : ∃ k, F = k + 1 := ⟨F - 1, by omega⟩
    show ∃ σ' w' s' f', (if nI last < nI v then _ else _) = _ ∧ _
    rw [if_neg (by rw [nI_ltI (by omega) (by omega)]; omega)]
    obtain ⟨σ1, a1, Q1, _⟩ := look_at Q (nI v)
    rw [a1, cal_eq]
    have j96 : ∀ (σ2 : St) (mg' : Int32), QC σ0 (nI v) (-1) 0 σ2 → mg' = marginS τ0 c (nI v) (-1) 0 k q → ∃ σ' w' s' f', fC_P_turnOf_j96 N0 (fC_P_turnOf_l66 N0 F) σ2 (nI q) (nI k) mv (nI last) mg' (nI v) = some (σ', turnF (fun v => aheadS τ0 c (nI v) (-1) 0 k q) (d + 1) v) ∧ QC σ0 w' s' f' σ' := by
      intro σ2 mg' Q2 hm
      obtain ⟨σ3, b1, b2⟩ := bandC D Q2 hk hq
      have Q3 := Q2.kp b2
      unfold fC_P_turnOf_j96
      rw [b1, cal_eq, hm]
      have eA : aheadS τ0 c (nI v) (-1) 0 k q = decide (bandS τ0 c (nI v) k q < marginS τ0 c (nI v) (-1) 0 k q) := rfl
      have eT : turnF (fun v => aheadS τ0 c (nI v) (-1) 0 k q) (d + 1) v = if aheadS τ0 c (nI v) (-1) 0 k q = true then turnF (fun v => aheadS τ0 c (nI v) (-1) 0 k q) d (v + 1) else nI v := rfl
      rw [eT, eA]
      by_cases hb : bandS τ0 c (nI v) k q < marginS τ0 c (nI v) (-1) 0 k q
      · rw [if_pos hb, bnd_eq, nI_1, if_pos (decide_eq_true hb), ← hm]
        exact ih (v + 1) F σ3 _ _ _ mg' (by omega) (by omega) Q3 (fun _ hz => by rw [hm]; exact marginS_now (hmv hz))
      · rw [if_neg hb, if_neg (by simp only [decide_eq_true_eq]; exact hb)]
        exact ⟨σ3, _, _, _, rfl, Q3⟩
    have j88 : ∃ σ' w' s' f', fC_P_turnOf_j88 N0 (fC_P_turnOf_l66 N0 F) σ1 (nI q) (nI k) mv (nI last) (nI v) = some (σ', turnF (fun v => aheadS τ0 c (nI v) (-1) 0 k q) (d + 1) v) ∧ QC σ0 w' s' f' σ' := by
      obtain ⟨σ2, b1, b2⟩ := marginC D Q1 hk hq
      unfold fC_P_turnOf_j88
      rw [b1, cal_eq]
      exact j96 σ2 _ (Q1.kp b2) rfl
    by_cases hv : v = 0
    · rw [if_pos (by rw [hv]; rfl)]; exact j88
    · rw [if_neg (nI_ne0 (by omega) (by omega))]
      by_cases hm : mv = 0
      · rw [if_pos hm]
        exact j96 σ1 mg Q1 (by rw [h3 hv hm]; exact marginS_now (hmv hm))
      · rw [if_neg hm]; exact j88
theorem turnC (D : DD n1 n3 n4 n5 r c σ0 τ0) {σ : St} {w s f : Int32} (Q : QC σ0 w s f σ) {k q : Nat} (hk : k < 6) (hq : q < n5) (ek : τ0.2.1 13 q = nI k) : ∃ σ' w' s' f', fC_P_turnOf N0 σ (nI q) = some (σ', turnF (fun v => aheadS τ0 c (nI v) (-1) 0 k q) 1000 0) ∧ QC σ0 w' s' f' σ' := by
  obtain ⟨c1, _⟩ := call_at D hq
  obtain ⟨e46, _⟩ := QC_arr D Q
  obtain ⟨mv, m1, m2⟩ := q_minds D Q (key := 0) (by decide)
  rw [nI_0] at m1
  unfold fC_P_turnOf
  rw [giN 24 (nI_b c1 (by decide)), bnd_eq, nI_clamp (by omega), e46, ek, m1, cal_eq]
  have hmv : mv = 0 → ∀ x ∈ c 0, x ≠ -6 := by
    intro z
    rcases m2 with ⟨g1, _⟩ | ⟨_, g2⟩
    · rw [g1] at z; exact absurd z (by decide)
    · exact g2
  have run : ∀ last : Nat, last ≤ 999 → ∃ σ' w' s' f', fC_P_turnOf_j58 N0 σ (nI q) (nI k) mv (nI last) = some (σ', turnF (fun v => aheadS τ0 c (nI v) (-1) 0 k q) (last + 1) 0) ∧ QC σ0 w' s' f' σ' := by
    intro last hl
    have := turnC_l D hk hq hl hmv (last + 1) 0 N0 σ w s f 0 (by omega) (by unfold N0; omega) Q (fun z => absurd rfl z)
    exact this
  have far : ∃ σ' w' s' f', fC_P_turnOf_j51 N0 σ (nI q) (nI k) mv = some (σ', turnF (fun v => aheadS τ0 c (nI v) (-1) 0 k q) 1000 0) ∧ QC σ0 w' s' f' σ' := run 999 (by decide)
  have near : (mv = 0) → (k = 3 → ∀ x ∈ c 1, x ≠ -6) → ∃ σ' w' s' f', fC_P_turnOf_j58 N0 σ (nI q) (nI k) mv 0 = some (σ', turnF (fun v => aheadS τ0 c (nI v) (-1) 0 k q) 1000 0) ∧ QC σ0 w' s' f' σ' := by
    intro hz h1
    obtain ⟨σ', w', s', f', e1, e2⟩ := run 0 (by decide)
    refine ⟨σ', w', s', f', ?_, e2⟩
    rw [nI_0] at e1
    rw [e1]
    have hc : ∀ v, aheadS τ0 c (nI v) (-1) 0 k q = aheadS τ0 c (nI 0) (-1) 0 k q := by
      intro v
      unfold aheadS
      rw [marginS_now (w := nI v) (w' := nI 0) (hmv hz), bandS_now (w := nI v) (w' := nI 0) (hmv hz) h1]
    by_cases hA : aheadS τ0 c (nI 0) (-1) 0 k q = true
    · rw [turnF_const (fun v => (hc v).trans hA), turnF_const (fun v => (hc v).trans hA)]
    · show some (σ', if aheadS τ0 c (nI 0) (-1) 0 k q = true then _ else nI 0) = some (σ', if aheadS τ0 c (nI 0) (-1) 0 k q = true then _ else nI 0)
      rw [if_neg hA, if_neg hA]
  unfold fC_P_turnOf_j39 fC_P_turnOf_j40
  by_cases h3 : k = 3
  · rw [if_pos (by rw [h3]; rfl)]
    obtain ⟨nv, p1, p2⟩ := q_minds D Q (key := 1) (by decide)
    rw [show (1 : Int32) = nI 1 from rfl, p1, cal_eq]
    by_cases hz : mv = 0
    · rw [if_pos hz, if_pos hz, if_pos rfl, if_neg (show ¬ nI 1 = 0 by decide)]
      rcases p2 with ⟨g1, _⟩ | ⟨g1, g2⟩
      · rw [g1, if_neg (by decide)]; exact far
      · rw [g1, if_pos rfl]; exact near hz (fun _ => g2)
    · rw [if_neg hz, if_neg hz]
      by_cases hn : nv = 0
      · rw [if_pos hn]; exact far
      · rw [if_neg hn]; exact far
  · have hk3 : ¬ nI k = (3 : Int32) := fun z => h3 ((nI_eq (by omega) (by decide)).mp z)
    rw [if_neg hk3]
    by_cases hz : mv = 0
    · rw [if_pos hz, if_pos rfl]; exact near hz (fun z => absurd z h3)
    · rw [if_neg hz]; exact far
theorem turnM_l (D : DD n1 n3 n4 n5 r c σ0 τ0) {k q : Nat} {was : Int32} (hk : k < 6) (hq : q < n5) (ek : τ0.2.1 13 q = nI k) : ∀ (d v F : Nat) (τ : St) (w : Int32), v + d = 1000 → d + 1 < F → QM τ0 w (-1) 0 τ →
    ∃ τ', fM_turnsOf_l10 N0 F τ (nI q) was (-1) (nI v) = some (τ', turnF (fun v => aheadS τ0 c (nI v) (-1) 0 k q) d v) ∧ QM τ0 was (-1) 0 τ' := by
  intro d
  induction d with
  | zero =>
    intro v F τ w h1 h2 Q
    obtain ⟨F, rfl⟩ : ∃ k, F = k + 1 := ⟨F - 1, by omega⟩
    show ∃ τ', (if (999 : Int32) < nI v then _ else _) = _ ∧ _
    rw [if_pos (by rw [show v = 1000 by omega]; decide)]
    exact ⟨_, rfl, Q.1.tr (KP.i (by decide)), rfl, Q.2.2.1, Q.2.2.2⟩
  | succ d ih =>
    intro v F τ w h1 h2 Q
    obtain ⟨F, rfl⟩ : ∃ k, F = k + 1 := ⟨F - 1, by omega⟩
    obtain ⟨c1, _⟩ := call_at D hq
    have Q1 : QM τ0 (nI v) (-1) 0 (sI τ 5 (nI v)) := ⟨Q.1.tr (KP.i (by decide)), rfl, Q.2.2.1, Q.2.2.2⟩
    obtain ⟨e13, _⟩ := QM_arr D Q1
    show ∃ τ', (if (999 : Int32) < nI v then _ else if (-1 : Int32) = -1 then _ else _) = _ ∧ _
    rw [if_neg (by rw [show (999 : Int32) = nI 999 from rfl, nI_ltI (by decide) (by omega)]; omega), if_pos rfl, bnd_eq, giN 24 (nI_b c1 (by decide)), nI_clamp (by omega), e13, ek]
    obtain ⟨τ1, a1, a2⟩ := aheadM D Q1 hk hq
    have Q2 := Q1.kp a2
    rw [a1, cal_eq]
    unfold fM_turnsOf_j46
    have eT : turnF (fun v => aheadS τ0 c (nI v) (-1) 0 k q) (d + 1) v = if aheadS τ0 c (nI v) (-1) 0 k q = true then turnF (fun v => aheadS τ0 c (nI v) (-1) 0 k q) d (v + 1) else nI v := rfl
    rw [eT, bnd_eq, nI_1]
    by_cases hA : aheadS τ0 c (nI v) (-1) 0 k q = true
    · rw [if_pos hA, if_neg (by decide), if_pos hA, bnd_eq]
      exact ih (v + 1) F τ1 (nI v) (by omega) (by omega) Q2
    · rw [if_neg hA, if_pos rfl, if_neg hA]
      obtain ⟨F, rfl⟩ : ∃ k, F = k + 1 := ⟨F - 1, by omega⟩
      show ∃ τ', (if (999 : Int32) < nI (v + 1) then fM_turnsOf_j52 N0 τ1 was (nI v) else if nI v = (-1 : Int32) then _ else fM_turnsOf_j52 N0 τ1 was (nI v)) = _ ∧ _
      have ej : fM_turnsOf_j52 N0 τ1 was (nI v) = some (sI τ1 5 was, nI v) := rfl
      have hQ : QM τ0 was (-1) 0 (sI τ1 5 was) := ⟨Q2.1.tr (KP.i (by decide)), rfl, Q2.2.2.1, Q2.2.2.2⟩
      rw [if_neg (nI_ne1 (show v < 2 ^ 31 by omega)), ej]
      refine ⟨_, ?_, hQ⟩
      split <;> rfl
theorem turnM (D : DD n1 n3 n4 n5 r c σ0 τ0) {τ : St} {w : Int32} (Q : QM τ0 w (-1) 0 τ) {k q : Nat} (hk : k < 6) (hq : q < n5) (ek : τ0.2.1 13 q = nI k) : ∃ τ', fM_turnsOf N0 τ (nI q) = some (τ', turnF (fun v => aheadS τ0 c (nI v) (-1) 0 k q) 1000 0) ∧ QM τ0 w (-1) 0 τ' := by
  unfold fM_turnsOf
  rw [bnd_eq, Q.2.1]
  exact turnM_l D hk hq ek 1000 0 N0 τ w rfl (by decide) Q
end TURN
theorem Rel_qq {σ τ σ' τ' : St} {w s f : Int32} (h : Rel σ τ) (hC : QC σ w s f σ') (hM : QM τ (τ.1 5) (-1) 0 τ') : Rel σ' τ' := by
  have k : KP fM0 gM0 τ τ' := by
    have h2 : τ.1 19 = 0 := by
      obtain ⟨n1, n3, n4, n5, n6, n7, n8, h1, h2, _⟩ := h
      exact h2.2.2
    refine ⟨fun i hi => ?_, fun i hi => hM.1.2 i hi⟩
    by_cases h5 : i = 5
    · rw [h5]; exact hM.2.1
    by_cases h19 : i = 19
    · rw [h19, h2]; exact hM.2.2.1
    exact hM.1.1 i (fun z => by simp only [List.mem_cons, List.not_mem_nil, or_false] at z hi; omega)
  exact Rel_f h (hC.1.wk (by decide) (by decide)) k
