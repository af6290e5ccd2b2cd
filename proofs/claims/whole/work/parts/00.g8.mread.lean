/-! the reference's reading -/
abbrev fR : List Nat := [8, 9, 11, 12, 13, 14]
abbrev TMk (b : Nat → Int32) (sz : Nat) (τ : St) (i : Nat) : Prop := TMt (tk b sz (tPos b sz i)) τ
/-- what the names stand for -/
def NM (nm : Nat → Int32) (m p : Nat) (τ : St) : Prop := m < 10 ∧ p < 4 ∧ τ.1 15 = nI m ∧ τ.1 16 = nI p ∧ nm 0 = nI p ∧ nm 1 = τ.2.1 7 (4 * m + p) ∧ nm 2 = τ.2.1 6 m ∧ nm 3 = τ.2.1 4 m ∧ nm 4 = τ.1 17 ∧ nm 5 = τ.1 5
theorem NM.kp {nm : Nat → Int32} {m p : Nat} {τ τ' : St} (h : NM nm m p τ) (hk : KP fR [] τ τ') : NM nm m p τ' := by
  obtain ⟨h1, h2, h3, h4, h5, h6, h7, h8, h9, h10⟩ := h
  refine ⟨h1, h2, ?_, ?_, h5, ?_, ?_, ?_, ?_, ?_⟩
  · rw [hk.1 15 (by decide)]; exact h3
  · rw [hk.1 16 (by decide)]; exact h4
  · rw [hk.2 7 (by decide)]; exact h6
  · rw [hk.2 6 (by decide)]; exact h7
  · rw [hk.2 4 (by decide)]; exact h8
  · rw [hk.1 17 (by decide)]; exact h9
  · rw [hk.1 5 (by decide)]; exact h10
theorem mSign_bad {N : Nat} {τ : St} {s : Int32} (h : τ.1 13 = 1) : fM_isSign N τ s = some (τ, 0) := by
  unfold fM_isSign; rw [h, if_neg (by decide)]
theorem mWord_bad {N : Nat} {τ : St} {s : Int64} (h : τ.1 13 = 1) : fM_isWord N τ s = some (τ, 0) := by
  unfold fM_isWord; rw [h, if_neg (by decide)]
theorem mSign {N sz i : Nat} {b : Nat → Int32} {τ : St} {s : Int32} (h : TMk b sz τ i) (hb : τ.1 13 = 0) (hs : isSg s = true) : fM_isSign N τ s = some (τ, if tK b sz i = s then 1 else 0) := by
  have hi : (τ.1 8 = 3 ∧ τ.2.2 10 = s.toInt64) ↔ tK b sz i = s := h.2.2.sign hs
  unfold fM_isSign
  rw [if_pos hb]
  by_cases h8 : τ.1 8 = 3
  · rw [if_pos h8]
    by_cases hw : τ.2.2 10 = s.toInt64
    · rw [if_pos ((lg_cmp_eq _ _).mpr hw), if_pos (hi.mp ⟨h8, hw⟩)]
    · rw [if_neg (fun z => hw ((lg_cmp_eq _ _).mp z)), if_neg (fun z => hw (hi.mpr z).2)]
  · rw [if_neg h8, if_neg (fun z => h8 (hi.mpr z).1)]
theorem mWord {N sz i k : Nat} {b : Nat → Int32} {τ : St} (h : TMk b sz τ i) (hb : τ.1 13 = 0) (hk : k < 12) : fM_isWord N τ (hsh k) = some (τ, if τ.1 8 = 1 ∧ τ.2.2 10 = hsh k then 1 else 0) := by
  unfold fM_isWord
  rw [if_pos hb]
  by_cases h8 : τ.1 8 = 1
  · rw [if_pos h8]
    by_cases hw : τ.2.2 10 = hsh k
    · rw [if_pos ((lg_cmp_eq _ _).mpr hw), if_pos ⟨h8, hw⟩]
    · rw [if_neg (fun z => hw ((lg_cmp_eq _ _).mp z)), if_neg (fun z => hw z.2)]
  · rw [if_neg h8, if_neg (fun z => h8 z.1)]
theorem mKey {N sz i k : Nat} {b : Nat → Int32} {τ : St} {w : Int64} {K0 : Int32} (h : TMk b sz τ i) (hb : τ.1 13 = 0) (hw : w = hsh k) (hk : k < 12) (h6 : 6 ≤ k) (hK : K0 = (tkW k).1) : fM_isWord N τ w = some (τ, if tK b sz i = K0 then 1 else 0) := by
  rw [hw, mWord h hb hk]
  have hi : (τ.1 8 = 1 ∧ τ.2.2 10 = hsh k) ↔ (tK b sz i = (tkW k).1 ∧ (6 ≤ k ∨ tV b sz i = (tkW k).2)) := h.2.2.word hk
  rw [hK]
  by_cases h1 : tK b sz i = (tkW k).1
  · rw [if_pos h1, if_pos (hi.mpr ⟨h1, Or.inl h6⟩)]
  · rw [if_neg h1, if_neg (fun z => h1 (hi.mp z).1)]
theorem mFail {N : Nat} {τ : St} (h : τ.1 13 = 0) : fM_fail N τ = some (sI (sI τ 13 1) 14 (τ.1 9), ()) := by
  unfold fM_fail; rw [if_pos h]; rfl
theorem mFail_bad {N : Nat} {τ : St} (h : τ.1 13 = 1) : fM_fail N τ = some (τ, ()) := by
  unfold fM_fail; rw [h, if_neg (by decide)]
theorem mNext {sz x i : Nat} {b : Nat → Int32} {τ : St} (hR : RX b sz x τ) (h : TMk b sz τ i) (hk : tK b sz i ≠ -2) : ∃ τ', fM_next N0 τ = some (τ', ()) ∧ KP [8, 9, 11] [] τ τ' ∧ TMk b sz τ' (i + 1) :=
  q_next (tPos_le hR.2.1 (i + 1)) hR (h.2.1 hk)
def OutM (b : Nat → Int32) (sz : Nat) (nm : Nat → Int32) (τ τ' : St) (o : Nat) (v : Int32) (i : Nat) (q : PR) : Prop := KP fR [] τ τ' ∧ ((q.1 = true ∧ τ'.1 13 = 0 ∧ τ'.1 12 = nI o ∧ TMk b sz τ' q.2.1 ∧ Ev nm q.2.2 v ∧ i ≤ q.2.1) ∨ (q.1 = false ∧ τ'.1 13 = 1 ∧ τ'.1 14 = nI (tS b sz q.2.1)))
def RM (b : Nat → Int32) (sz x m p : Nat) (nm : Nat → Int32) (o : Nat) (f : St → Option (St × Int32)) (q : Nat → PR) : Prop := ∀ (τ : St) (i : Nat), RX b sz x τ → NM nm m p τ → TMk b sz τ i → τ.1 13 = 0 → τ.1 12 = nI o → ∃ τ' v, f τ = some (τ', v) ∧ OutM b sz nm τ τ' o v i (q i)
theorem OutM.fail {b : Nat → Int32} {sz o i0 i : Nat} {nm : Nat → Int32} {τ : St} {v : Int32} {c : List Int32} (h : TMk b sz τ i) : OutM b sz nm τ (sI (sI τ 13 1) 14 (τ.1 9)) o v i0 (false, i, c) := ⟨(KP.i (by decide)).tr (KP.i (by decide)), Or.inr ⟨rfl, rfl, h.1⟩⟩
theorem mOpens {sz x i o : Nat} {b : Nat → Int32} {τ : St} (ho : o ≤ 5) (hR : RX b sz x τ) (h : TMk b sz τ i) (hk : tK b sz i ≠ -2) (hb : τ.1 13 = 0) (h12 : τ.1 12 = nI o) : (o = 5 ∧ fM_opens N0 τ = some (sI (sI τ 13 1) 14 (τ.1 9), 0)) ∨ (o < 5 ∧ ∃ τ', fM_opens N0 τ = some (τ', 1) ∧ KP [8, 9, 11, 12] [] τ τ' ∧ TMk b sz τ' (i + 1) ∧ τ'.1 12 = nI (o + 1)) := by
  unfold fM_opens
  by_cases h5 : o = 5
  · refine Or.inl ⟨h5, ?_⟩
    rw [h12, if_pos (by rw [h5]; rfl), mFail hb]
    rfl
  · refine Or.inr ⟨by omega, ?_⟩
    rw [h12, if_neg (by rw [show (5 : Int32) = nI 5 from rfl, nI_eq (by omega) (by decide)]; exact h5), bnd_eq, nI_1]
    obtain ⟨τ', e1, e2, e3⟩ := mNext (τ := sI τ 12 (nI (o + 1))) (hR.kp (KP.i (by decide) : KP [12] [] τ _) (by decide)) (i := i) ⟨h.1, h.2.1, h.2.2⟩ hk
    rw [e1, cal_eq]
    exact ⟨τ', rfl, (KP.i (by decide)).tr (e2.wk (by decide) (by decide)), e3, by rw [e2.1 12 (by decide)]; rfl⟩
theorem op2_18 (v w : Int32) : op2 (-18) v w = v * w := rfl
theorem op2_17 (v w : Int32) : op2 (-17) v w = v - w := rfl
theorem op2_16 (v w : Int32) : op2 (-16) v w = v + w := rfl
theorem op2_15 (v w : Int32) : op2 (-15) v w = if v = w then 1 else 0 := rfl
theorem op2_14 (v w : Int32) : op2 (-14) v w = if v < w then 1 else 0 := rfl
theorem op2_12 (v w : Int32) : op2 (-12) v w = if v ≠ 0 ∧ w ≠ 0 then 1 else 0 := rfl
theorem op2_11 (v w : Int32) : op2 (-11) v w = if v ≠ 0 ∨ w ≠ 0 then 1 else 0 := rfl
section MPARSE
variable {sz x m p o : Nat} {b : Nat → Int32} {nm : Nat → Int32} {kA kB kC : St → Option (St × Int32)}
theorem mName {i : Nat} {τ : St} (hN : NM nm m p τ) (h : TMk b sz τ i) (hb : τ.1 13 = 0) : (tK b sz i = -4 → ∃ v, fM_name N0 τ = some (τ, v) ∧ Ev nm [tV b sz i] v) ∧ (tK b sz i ≠ -4 → fM_name N0 τ = some (sI (sI τ 13 1) 14 (τ.1 9), 0)) := by
  obtain ⟨n1, n2, n3, n4, n5, n6, n7, n8, n9, n10⟩ := hN
  have hw : ∀ k, k < 6 → fM_isWord N0 τ (hsh k) = some (τ, if τ.1 8 = 1 ∧ τ.2.2 10 = hsh k then 1 else 0) := fun k hk => mWord h hb (by omega)
  have w0 := hw 0 (by decide)
  have w1 := hw 1 (by decide)
  have w2 := hw 2 (by decide)
  have w3 := hw 3 (by decide)
  have w4 := hw 4 (by decide)
  have w5 := hw 5 (by decide)
  have e : fM_name N0 τ = if τ.1 8 = 1 ∧ τ.2.2 10 = hsh 0 then some (τ, nm 0) else if τ.1 8 = 1 ∧ τ.2.2 10 = hsh 1 then some (τ, nm 1) else if τ.1 8 = 1 ∧ τ.2.2 10 = hsh 2 then some (τ, nm 2) else if τ.1 8 = 1 ∧ τ.2.2 10 = hsh 3 then some (τ, nm 3) else if τ.1 8 = 1 ∧ τ.2.2 10 = hsh 4 then some (τ, nm 4) else if τ.1 8 = 1 ∧ τ.2.2 10 = hsh 5 then some (τ, nm 5) else some (sI (sI τ 13 1) 14 (τ.1 9), 0) := by
    have cl : (nI m).toNatClampNeg = m := nI_clamp (by omega)
    have cl2 : (nI (4 * m + p)).toNatClampNeg = 4 * m + p := nI_clamp (by omega)
    unfold fM_name
    rw [show (316163 : Int64) = hsh 0 from rfl, w0, cal_eq, show (11103 : Int64) = hsh 1 from rfl, w1, cal_eq, show (10416091 : Int64) = hsh 2 from rfl, w2, cal_eq, show (397345 : Int64) = hsh 3 from rfl, w3, cal_eq, show (400313 : Int64) = hsh 4 from rfl, w4, cal_eq, show (12403754 : Int64) = hsh 5 from rfl, w5, cal_eq, mFail hb, cal_eq]
    simp only [ite_b, n3, n4, ix4, giN 10 (nI_b n1 (by decide)), giN 40 (nI_b (show 4 * m + p < 40 by omega) (by decide)), cl, cl2, n5, n6, n7, n8, n9, n10]
  constructor
  · intro hk
    obtain ⟨t1, W, hW, hV, hh⟩ := h.2.2.name hk
    rw [e]
    have hV : tV b sz i = -1 - nI W := hV
    rw [hV]
    refine ⟨nm W, ?_, Ev.name W hW⟩
    have h01 : ∀ k, k < 6 → ((τ.1 8 = 1 ∧ τ.2.2 10 = hsh k) ↔ W = k) := fun k hk => ⟨fun z => (hh k (by omega)).mp z.2, fun z => ⟨t1, (hh k (by omega)).mpr z⟩⟩
    simp only [h01 0 (by decide), h01 1 (by decide), h01 2 (by decide), h01 3 (by decide), h01 4 (by decide), h01 5 (by decide)]
    have : W = 0 ∨ W = 1 ∨ W = 2 ∨ W = 3 ∨ W = 4 ∨ W = 5 := by omega
    rcases this with rfl | rfl | rfl | rfl | rfl | rfl <;> rfl
  · intro hk
    have hn := h.2.2.noname hk
    rw [e, if_neg (hn 0 (by decide)), if_neg (hn 1 (by decide)), if_neg (hn 2 (by decide)), if_neg (hn 3 (by decide)), if_neg (hn 4 (by decide)), if_neg (hn 5 (by decide))]
theorem RM_one {pE pO : Nat → PR} (ho : o ≤ 5) (hA : o < 5 → RM b sz x m p nm (o + 1) kA pE) (hB : o < 5 → RM b sz x m p nm (o + 1) kB pO) : RM b sz x m p nm o (fM_one N0 kA kB kC) (pOne (tK b sz) (tV b sz) pE pO (5 - o)) := by
  intro τ i hR hN h hb h12
  unfold fM_one pOne
  rw [mSign h hb (by decide), cal_eq]
  by_cases h45 : tK b sz i = 45
  · have n3 : ¬ (tK b sz i = -3 ∨ tK b sz i = -4) := by rw [h45]; decide
    have n4 : ¬ tK b sz i = 40 := by rw [h45]; decide
    rw [if_pos h45, if_neg (by decide), if_neg n3, if_neg n4, if_pos h45]
    rcases mOpens ho hR h (by rw [h45]; decide) hb h12 with ⟨h5, e⟩ | ⟨h5, τ1, e1, e2, e3, e4⟩
    · rw [e, cal_eq, if_pos rfl, if_pos (by omega)]
      exact ⟨_, _, rfl, OutM.fail h⟩
    · rw [e1, cal_eq, if_neg (by decide), if_neg (by omega)]
      have kk : KP fR [] τ τ1 := e2.wk (by decide) (by decide)
      obtain ⟨τ2, v, f1, f2, f3⟩ := hB h5 τ1 (i + 1) (hR.kp kk (by decide)) (hN.kp kk) e3 (by rw [e2.1 13 (by decide)]; exact hb) e4
      rw [f1, cal_eq, bnd_eq, bnd_eq]
      have kf : KP fR [] τ (sI τ2 12 (τ2.1 12 - 1)) := (kk.tr f2).tr (KP.i (by decide))
      rcases f3 with ⟨g1, g2, g3, g4, g5, g6⟩ | ⟨g1, g2, g3⟩
      · rw [pAnd_t g1]
        exact ⟨_, _, rfl, kf, Or.inl ⟨rfl, g2, by show τ2.1 12 - 1 = _; rw [g3, nI_pred], g4, g5.neg, by show i ≤ (pO (i + 1)).2.1; omega⟩⟩
      · rw [pAnd_f g1]
        exact ⟨_, _, rfl, kf, Or.inr ⟨rfl, g2, g3⟩⟩
  rw [if_neg h45, if_pos rfl, mSign h hb (by decide), cal_eq]
  by_cases h40 : tK b sz i = 40
  · have n3 : ¬ (tK b sz i = -3 ∨ tK b sz i = -4) := by rw [h40]; decide
    rw [if_pos h40, if_neg (by decide), if_neg n3, if_pos h40]
    rcases mOpens ho hR h (by rw [h40]; decide) hb h12 with ⟨h5, e⟩ | ⟨h5, τ1, e1, e2, e3, e4⟩
    · rw [e, cal_eq, if_pos rfl, if_pos (by omega)]
      exact ⟨_, _, rfl, OutM.fail h⟩
    · rw [e1, cal_eq, if_neg (by decide), if_neg (by omega)]
      have kk : KP fR [] τ τ1 := e2.wk (by decide) (by decide)
      obtain ⟨τ2, v, f1, f2, f3⟩ := hA h5 τ1 (i + 1) (hR.kp kk (by decide)) (hN.kp kk) e3 (by rw [e2.1 13 (by decide)]; exact hb) e4
      rw [f1, cal_eq]
      unfold fM_one_j71
      rcases f3 with ⟨g1, g2, g3, g4, g5, g6⟩ | ⟨g1, g2, g3⟩
      · rw [pAnd_t g1, mSign g4 g2 (by decide), cal_eq]
        by_cases h41 : tK b sz (pE (i + 1)).2.1 = 41
        · rw [if_pos h41, if_neg (by decide), if_pos h41, bnd_eq]
          have g2' : (sI τ2 12 (τ2.1 12 - 1)).1 13 = 0 := g2
          rw [if_pos g2']
          have kf : KP fR [] τ (sI τ2 12 (τ2.1 12 - 1)) := (kk.tr f2).tr (KP.i (by decide))
          obtain ⟨τ3, q1, q2, q3⟩ := mNext (τ := sI τ2 12 (τ2.1 12 - 1)) (hR.kp kf (by decide)) (i := (pE (i + 1)).2.1) ⟨g4.1, g4.2.1, g4.2.2⟩ (by rw [h41]; decide)
          rw [q1, cal_eq]
          exact ⟨_, _, rfl, kf.tr (q2.wk (by decide) (by decide)), Or.inl ⟨rfl, by rw [q2.1 13 (by decide)]; exact g2', by rw [q2.1 12 (by decide)]; show τ2.1 12 - 1 = _; rw [g3, nI_pred], q3, g5, by show i ≤ (pE (i + 1)).2.1 + 1; omega⟩⟩
        · rw [if_neg h41, if_pos rfl, if_neg h41, mFail g2, cal_eq, bnd_eq, if_neg (show ¬ ((sI (sI (sI τ2 13 1) 14 (τ2.1 9)) 12 ((sI (sI τ2 13 1) 14 (τ2.1 9)).1 12 - 1)).1 13 = 0) from (by decide : ¬ (1 : Int32) = 0))]
          exact ⟨_, _, rfl, ((kk.tr f2).tr ((KP.i (by decide)).tr (KP.i (by decide)))).tr (KP.i (by decide)), Or.inr ⟨rfl, rfl, g4.1⟩⟩
      · rw [pAnd_f g1, mSign_bad g2, cal_eq, if_pos rfl, mFail_bad g2, cal_eq, bnd_eq]
        have g2' : ¬ (sI τ2 12 (τ2.1 12 - 1)).1 13 = 0 := by show ¬ τ2.1 13 = 0; rw [g2]; decide
        rw [if_neg g2']
        exact ⟨_, _, rfl, (kk.tr f2).tr (KP.i (by decide)), Or.inr ⟨rfl, g2, g3⟩⟩
  rw [if_neg h40, if_pos rfl, if_pos hb]
  by_cases h3 : tK b sz i = -3
  · rw [if_pos (h.2.2.isnum.mpr h3), bnd_eq, if_pos (Or.inl h3)]
    obtain ⟨τ1, e1, e2, e3⟩ := mNext hR h (by rw [h3]; decide)
    rw [e1, cal_eq]
    have ev : (τ.2.2 10).toInt32 = tV b sz i := h.2.2.numv h3
    exact ⟨_, _, rfl, e2.wk (by decide) (by decide), Or.inl ⟨rfl, by rw [e2.1 13 (by decide)]; exact hb, by rw [e2.1 12 (by decide)]; exact h12, e3, by rw [ev]; exact Ev.num (num_nn hR.2.1 h3), Nat.le_succ i⟩⟩
  rw [if_neg (fun z => h3 (h.2.2.isnum.mp z))]
  unfold fM_one_j123 fM_one_j157
  rw [if_pos hb]
  by_cases h4 : tK b sz i = -4
  · obtain ⟨v, e0, ev⟩ := (mName hN h hb).1 h4
    rw [if_pos (h.2.2.name h4).1, if_pos (Or.inr h4), e0, cal_eq, if_pos hb]
    obtain ⟨τ1, e1, e2, e3⟩ := mNext hR h (by rw [h4]; decide)
    rw [e1, cal_eq]
    exact ⟨_, _, rfl, e2.wk (by decide) (by decide), Or.inl ⟨rfl, by rw [e2.1 13 (by decide)]; exact hb, by rw [e2.1 12 (by decide)]; exact h12, e3, ev, Nat.le_succ i⟩⟩
  · have h34 : ¬ (tK b sz i = -3 ∨ tK b sz i = -4) := fun z => z.elim h3 h4
    rw [if_neg h34, if_neg h40, if_neg h45]
    by_cases h8 : τ.1 8 = 1
    · rw [if_pos h8, (mName hN h hb).2 h4, cal_eq, if_neg (show ¬ ((sI (sI τ 13 1) 14 (τ.1 9)).1 13 = 0) from (by decide : ¬ (1 : Int32) = 0))]
      exact ⟨_, _, rfl, OutM.fail h⟩
    · rw [if_neg h8, mFail hb, cal_eq]
      exact ⟨_, _, rfl, OutM.fail h⟩
theorem RM_term_l {one : Nat → PR} (h1 : RM b sz x m p nm o (fM_one N0 kA kB kC) one) {τ0 : St} {i0 : Nat} (hR : RX b sz x τ0) (hN : NM nm m p τ0) : ∀ (f n F : Nat) (τ : St) (i : Nat) (c : List Int32) (v : Int32), n + f = 161 → f < F → n ≤ i → i0 ≤ i → KP fR [] τ0 τ → τ.1 13 = 0 → τ.1 12 = nI o → TMk b sz τ i → Ev nm c v →
    ∃ τ' v', fM_term_l5 N0 kA kB kC F τ v = some (τ', v') ∧ OutM b sz nm τ0 τ' o v' i0 (pTermL (tK b sz) one f i c) := by
  intro f
  induction f with
  | zero =>
    intro n F τ i c v a1 a2 a3 ai a4 a5 a6 a7 a8
    obtain ⟨F, rfl⟩ : ∃ k, F = k + 1 := ⟨F - 1, by omega⟩
    have hk : ¬ tK b sz i = 42 := by
      intro z
      have := tK_lt hR.2.1 i (by rw [z]; decide)
      have := hR.2.1
      omega
    show ∃ τ' v', cal (fM_isSign N0 τ 42) _ = _ ∧ _
    rw [mSign a7 a5 (by decide), cal_eq, if_neg hk, if_pos rfl]
    exact ⟨_, _, rfl, a4, Or.inl ⟨rfl, a5, a6, a7, a8, ai⟩⟩
  | succ f ih =>
    intro n F τ i c v a1 a2 a3 ai a4 a5 a6 a7 a8
    obtain ⟨F, rfl⟩ : ∃ k, F = k + 1 := ⟨F - 1, by omega⟩
    show ∃ τ' v', cal (fM_isSign N0 τ 42) _ = _ ∧ _
    unfold pTermL
    rw [mSign a7 a5 (by decide), cal_eq]
    by_cases hk : tK b sz i = 42
    · rw [if_pos hk, if_neg (by decide), if_pos hk]
      obtain ⟨τ1, e1, e2, e3⟩ := mNext (hR.kp a4 (by decide)) a7 (by rw [hk]; decide)
      have k1 : KP fR [] τ0 τ1 := a4.tr (e2.wk (by decide) (by decide))
      obtain ⟨τ2, w, f1, f2, f3⟩ := h1 τ1 (i + 1) (hR.kp k1 (by decide)) (hN.kp k1) e3 (by rw [e2.1 13 (by decide)]; exact a5) (by rw [e2.1 12 (by decide)]; exact a6)
      rw [e1, cal_eq, f1, cal_eq]
      rw [bnd_eq]
      rcases f3 with ⟨g1, g2, g3, g4, g5, g6⟩ | ⟨g1, g2, g3⟩
      · rw [pAnd_t g1]
        have ev := a8.bin g5 (op := -18) (by decide)
        have nx : ∀ z, op2 (-18) v w = z → ∃ τ' v', fM_term_l5 N0 kA kB kC F τ2 z = some (τ', v') ∧ OutM b sz nm τ0 τ' o v' i0 (pTermL (tK b sz) one f (one (i + 1)).2.1 (c ++ (one (i + 1)).2.2 ++ [-18])) := fun z hz =>
          ih (n + 1) F τ2 _ _ _ (by omega) (by omega) (by omega) (by omega) (k1.tr f2) g2 g3 g4 (hz ▸ ev)
        exact nx _ rfl
      · rw [pAnd_f g1]
        have nx : ∀ z, ∃ τ' v', fM_term_l5 N0 kA kB kC F τ2 z = some (τ', v') ∧ OutM b sz nm τ0 τ' o v' i0 (false, (one (i + 1)).2.1, []) := by
          intro z
          obtain ⟨F, rfl⟩ : ∃ k, F = k + 1 := ⟨F - 1, by omega⟩
          show ∃ τ' v', cal (fM_isSign N0 τ2 42) _ = _ ∧ _
          rw [mSign_bad g2, cal_eq, if_pos rfl]
          exact ⟨_, _, rfl, k1.tr f2, Or.inr ⟨rfl, g2, g3⟩⟩
        exact nx _
    · rw [if_neg hk, if_pos rfl, if_neg hk]
      exact ⟨_, _, rfl, a4, Or.inl ⟨rfl, a5, a6, a7, a8, ai⟩⟩
theorem RM_term {one : Nat → PR} (h1 : RM b sz x m p nm o (fM_one N0 kA kB kC) one) : RM b sz x m p nm o (fM_term N0 kA kB kC) (pTerm (tK b sz) one) := by
  intro τ i hR hN h hb h12
  unfold fM_term pTerm
  obtain ⟨τ1, v, e1, e2, e3⟩ := h1 τ i hR hN h hb h12
  rw [e1, cal_eq]
  rcases e3 with ⟨g1, g2, g3, g4, g5, g6⟩ | ⟨g1, g2, g3⟩
  · rw [pAnd_t g1]
    exact RM_term_l h1 hR hN 161 0 N0 τ1 _ _ v rfl (by decide) (Nat.zero_le _) g6 e2 g2 g3 g4 g5
  · rw [pAnd_f g1]
    have bd : ∀ F, 0 < F → fM_term_l5 N0 kA kB kC F τ1 v = some (τ1, v) := by
      intro F hF
      obtain ⟨F, rfl⟩ : ∃ k, F = k + 1 := ⟨F - 1, by omega⟩
      show cal (fM_isSign N0 τ1 42) _ = _
      rw [mSign_bad g2, cal_eq, if_pos rfl]
    exact ⟨_, _, bd N0 (by decide), e2, Or.inr ⟨rfl, g2, g3⟩⟩
theorem RM_added_l {one : Nat → PR} (h1 : RM b sz x m p nm o (fM_term N0 kA kB kC) one) {τ0 : St} {i0 : Nat} (hR : RX b sz x τ0) (hN : NM nm m p τ0) : ∀ (f n F : Nat) (τ : St) (i : Nat) (c : List Int32) (v : Int32), n + f = 161 → f < F → n ≤ i → i0 ≤ i → KP fR [] τ0 τ → τ.1 13 = 0 → τ.1 12 = nI o → TMk b sz τ i → Ev nm c v →
    ∃ τ' v', fM_added_l5 N0 kA kB kC F τ v = some (τ', v') ∧ OutM b sz nm τ0 τ' o v' i0 (pSumL (tK b sz) one f i c) := by
  intro f
  induction f with
  | zero =>
    intro n F τ i c v a1 a2 a3 ai a4 a5 a6 a7 a8
    obtain ⟨F, rfl⟩ : ∃ k, F = k + 1 := ⟨F - 1, by omega⟩
    have hk : tK b sz i = -1 := Classical.byContradiction fun z => by
      have := tK_lt hR.2.1 i z
      have := hR.2.1
      omega
    show ∃ τ' v', cal (fM_isSign N0 τ 43) _ = _ ∧ _
    have q43 : ¬ tK b sz i = 43 := by rw [hk]; decide
    have q45 : ¬ tK b sz i = 45 := by rw [hk]; decide
    rw [mSign a7 a5 (by decide), cal_eq, if_neg q43, if_pos rfl, mSign a7 a5 (by decide), cal_eq, if_neg q45, if_pos rfl]
    exact ⟨_, _, rfl, a4, Or.inl ⟨rfl, a5, a6, a7, a8, ai⟩⟩
  | succ f ih =>
    intro n F τ i c v a1 a2 a3 ai a4 a5 a6 a7 a8
    obtain ⟨F, rfl⟩ : ∃ k, F = k + 1 := ⟨F - 1, by omega⟩
    show ∃ τ' v', cal (fM_isSign N0 τ 43) _ = _ ∧ _
    unfold pSumL
    rw [mSign a7 a5 (by decide), cal_eq]
    have go : ∀ t0 op, (tK b sz i = 43 ∨ tK b sz i = 45) → ((t0 = 1 ∧ op = (-16 : Int32)) ∨ (t0 = 0 ∧ op = -17)) → ∃ τ' v', fM_added_j39 N0 kA kB kC (fM_added_l5 N0 kA kB kC F) τ v t0 = some (τ', v') ∧ OutM b sz nm τ0 τ' o v' i0 (pAnd (one (i + 1)) fun j c2 => pSumL (tK b sz) one f j (c ++ c2 ++ [op])) := by
      intro t0 op hk hop
      obtain ⟨τ1, e1, e2, e3⟩ := mNext (hR.kp a4 (by decide)) a7 (by rcases hk with z | z <;> rw [z] <;> decide)
      have k1 : KP fR [] τ0 τ1 := a4.tr (e2.wk (by decide) (by decide))
      obtain ⟨τ2, w, f1, f2, f3⟩ := h1 τ1 (i + 1) (hR.kp k1 (by decide)) (hN.kp k1) e3 (by rw [e2.1 13 (by decide)]; exact a5) (by rw [e2.1 12 (by decide)]; exact a6)
      unfold fM_added_j39 fM_added_j62
      rw [e1, cal_eq, f1, cal_eq]
      rcases f3 with ⟨g1, g2, g3, g4, g5, g6⟩ | ⟨g1, g2, g3⟩
      · rw [pAnd_t g1]
        have nx : ∀ z, Ev nm (c ++ (one (i + 1)).2.2 ++ [op]) z → ∃ τ' v', fM_added_l5 N0 kA kB kC F τ2 z = some (τ', v') ∧ OutM b sz nm τ0 τ' o v' i0 (pSumL (tK b sz) one f (one (i + 1)).2.1 (c ++ (one (i + 1)).2.2 ++ [op])) := fun z ev =>
          ih (n + 1) F τ2 _ _ _ (by omega) (by omega) (by omega) (by omega) (k1.tr f2) g2 g3 g4 ev
        rcases hop with ⟨rfl, rfl⟩ | ⟨rfl, rfl⟩
        · rw [if_neg (by decide)]; exact nx _ (a8.bin g5 (op := -16) (by decide))
        · rw [if_pos rfl]; exact nx _ (a8.bin g5 (op := -17) (by decide))
      · rw [pAnd_f g1]
        have nx : ∀ z, ∃ τ' v', fM_added_l5 N0 kA kB kC F τ2 z = some (τ', v') ∧ OutM b sz nm τ0 τ' o v' i0 (false, (one (i + 1)).2.1, []) := by
          intro z
          obtain ⟨F, rfl⟩ : ∃ k, F = k + 1 := ⟨F - 1, by omega⟩
          show ∃ τ' v', cal (fM_isSign N0 τ2 43) _ = _ ∧ _
          rw [mSign_bad g2, cal_eq, if_pos rfl, mSign_bad g2, cal_eq, if_pos rfl]
          exact ⟨_, _, rfl, k1.tr f2, Or.inr ⟨rfl, g2, g3⟩⟩
        by_cases ht : t0 = 0
        · rw [if_pos ht]; exact nx _
        · rw [if_neg ht]; exact nx _
    by_cases h43 : tK b sz i = 43
    · rw [if_pos h43, if_neg (by decide), if_pos (Or.inl h43)]
      unfold fM_added_j23
      have hw : τ.2.2 10 = (43 : Int64) := ((a7.2.2.sign (s := 43) (by decide)).mpr h43).2
      rw [if_pos ((lg_cmp_eq _ _).mpr hw)]
      rw [if_pos h43]
      exact go 1 (-16) (Or.inl h43) (Or.inl ⟨rfl, rfl⟩)
    · rw [if_neg h43, if_pos rfl, mSign a7 a5 (by decide), cal_eq]
      by_cases h45 : tK b sz i = 45
      · rw [if_pos h45, if_neg (by decide), if_pos (Or.inr h45)]
        unfold fM_added_j23
        have hw : τ.2.2 10 = (45 : Int64) := ((a7.2.2.sign (s := 45) (by decide)).mpr h45).2
        rw [if_neg (fun z => by have := (lg_cmp_eq _ _).mp z; rw [hw] at this; exact absurd this (by decide))]
        rw [if_neg h43]
        exact go 0 (-17) (Or.inr h45) (Or.inr ⟨rfl, rfl⟩)
      · have hn : ¬ (tK b sz i = 43 ∨ tK b sz i = 45) := fun z => z.elim h43 h45
        rw [if_neg h45, if_pos rfl, if_neg hn]
        exact ⟨_, _, rfl, a4, Or.inl ⟨rfl, a5, a6, a7, a8, ai⟩⟩
theorem RM_added {one : Nat → PR} (h1 : RM b sz x m p nm o (fM_term N0 kA kB kC) one) : RM b sz x m p nm o (fM_added N0 kA kB kC) (pSum (tK b sz) one) := by
  intro τ i hR hN h hb h12
  unfold fM_added pSum
  obtain ⟨τ1, v, e1, e2, e3⟩ := h1 τ i hR hN h hb h12
  rw [e1, cal_eq]
  rcases e3 with ⟨g1, g2, g3, g4, g5, g6⟩ | ⟨g1, g2, g3⟩
  · rw [pAnd_t g1]
    exact RM_added_l h1 hR hN 161 0 N0 τ1 _ _ v rfl (by decide) (Nat.zero_le _) g6 e2 g2 g3 g4 g5
  · rw [pAnd_f g1]
    have bd : ∀ F, 0 < F → fM_added_l5 N0 kA kB kC F τ1 v = some (τ1, v) := by
      intro F hF
      obtain ⟨F, rfl⟩ : ∃ k, F = k + 1 := ⟨F - 1, by omega⟩
      show cal (fM_isSign N0 τ1 43) _ = _
      rw [mSign_bad g2, cal_eq, if_pos rfl, mSign_bad g2, cal_eq, if_pos rfl]
    exact ⟨_, _, bd N0 (by decide), e2, Or.inr ⟨rfl, g2, g3⟩⟩
theorem RM_not {sum pN : Nat → PR} (ho : o ≤ 5) (h1 : RM b sz x m p nm o (fM_added N0 kA kB kC) sum) (hNn : o < 5 → RM b sz x m p nm (o + 1) kC pN) : RM b sz x m p nm o (fM_not N0 kA kB kC) (pNot (tK b sz) sum pN (5 - o)) := by
  intro τ i hR hN h hb h12
  unfold fM_not pNot
  rw [mKey (w := 10631) (K0 := 267) (k := 11) h hb rfl (by decide) (by decide) (by decide), cal_eq]
  by_cases hk : tK b sz i = 267
  · rw [if_pos hk, if_neg (by decide), if_pos hk]
    rcases mOpens ho hR h (by rw [hk]; decide) hb h12 with ⟨h5, e⟩ | ⟨h5, τ1, e1, e2, e3, e4⟩
    · rw [e, cal_eq, if_pos rfl, if_pos (by omega)]
      exact ⟨_, _, rfl, OutM.fail h⟩
    · rw [e1, cal_eq, if_neg (by decide), if_neg (by omega)]
      have kk : KP fR [] τ τ1 := e2.wk (by decide) (by decide)
      obtain ⟨τ2, v, f1, f2, f3⟩ := hNn h5 τ1 (i + 1) (hR.kp kk (by decide)) (hN.kp kk) e3 (by rw [e2.1 13 (by decide)]; exact hb) e4
      rw [f1, cal_eq, bnd_eq]
      have kf : KP fR [] τ (sI τ2 12 (τ2.1 12 - 1)) := (kk.tr f2).tr (KP.i (by decide))
      rcases f3 with ⟨g1, g2, g3, g4, g5, g6⟩ | ⟨g1, g2, g3⟩
      · rw [pAnd_t g1]
        have ev := g5.not
        have fin : ∀ z, (if v = 0 then (1 : Int32) else 0) = z → OutM b sz nm τ (sI τ2 12 (τ2.1 12 - 1)) o z i (true, (pN (i + 1)).2.1, (pN (i + 1)).2.2 ++ [-13]) := fun z hz =>
          ⟨kf, Or.inl ⟨rfl, g2, by show τ2.1 12 - 1 = _; rw [g3, nI_pred], g4, hz ▸ ev, by show i ≤ (pN (i + 1)).2.1; omega⟩⟩
        by_cases hv : v = 0
        · rw [if_pos hv]; exact ⟨_, _, rfl, fin _ (if_pos hv)⟩
        · rw [if_neg hv]; exact ⟨_, _, rfl, fin _ (if_neg hv)⟩
      · rw [pAnd_f g1]
        by_cases hv : v = 0
        · rw [if_pos hv]; exact ⟨_, _, rfl, kf, Or.inr ⟨rfl, g2, g3⟩⟩
        · rw [if_neg hv]; exact ⟨_, _, rfl, kf, Or.inr ⟨rfl, g2, g3⟩⟩
  rw [if_neg hk, if_pos rfl, if_neg hk]
  obtain ⟨τ1, v, e1, e2, e3⟩ := h1 τ i hR hN h hb h12
  rw [e1, cal_eq]
  rcases e3 with ⟨g1, g2, g3, g4, g5, g6⟩ | ⟨g1, g2, g3⟩
  · rw [pAnd_t g1]
    generalize hj : (sum i).2.1 = j at *
    generalize hc : (sum i).2.2 = c at *
    rw [mSign g4 g2 (by decide), cal_eq]
    have go : ∀ t0 op, (tK b sz j = 60 ∨ tK b sz j = 61) → ((t0 = 1 ∧ op = (-14 : Int32)) ∨ (t0 = 0 ∧ op = -15)) → ∃ τ' v', fM_not_j85 N0 kA kB kC τ1 v t0 = some (τ', v') ∧ OutM b sz nm τ τ' o v' i (pAnd (sum (j + 1)) fun j2 c2 => (true, j2, c ++ c2 ++ [op])) := by
      intro t0 op hk hop
      obtain ⟨τ2, p1, p2, p3⟩ := mNext (hR.kp e2 (by decide)) g4 (by rcases hk with z | z <;> rw [z] <;> decide)
      have k1 : KP fR [] τ τ2 := e2.tr (p2.wk (by decide) (by decide))
      obtain ⟨τ3, w, f1, f2, f3⟩ := h1 τ2 (j + 1) (hR.kp k1 (by decide)) (hN.kp k1) p3 (by rw [p2.1 13 (by decide)]; exact g2) (by rw [p2.1 12 (by decide)]; exact g3)
      unfold fM_not_j85
      rw [p1, cal_eq, f1, cal_eq]
      rcases f3 with ⟨q1, q2, q3, q4, q5, q6⟩ | ⟨q1, q2, q3⟩
      · rw [pAnd_t q1]
        have fin : ∀ z, Ev nm (c ++ (sum (j + 1)).2.2 ++ [op]) z → OutM b sz nm τ τ3 o z i (true, (sum (j + 1)).2.1, c ++ (sum (j + 1)).2.2 ++ [op]) := fun z ev =>
          ⟨k1.tr f2, Or.inl ⟨rfl, q2, q3, q4, ev, by show i ≤ (sum (j + 1)).2.1; omega⟩⟩
        rcases hop with ⟨rfl, rfl⟩ | ⟨rfl, rfl⟩
        · have ev := g5.bin q5 (op := -14) (by decide)
          rw [op2_14] at ev
          rw [if_neg (by decide)]
          by_cases hvw : w ≤ v
          · rw [if_pos hvw]
            rw [if_neg (by rw [lt_n]; rw [le_n] at hvw; omega)] at ev
            exact ⟨_, _, rfl, fin _ ev⟩
          · rw [if_neg hvw]
            rw [if_pos (by rw [lt_n]; rw [le_n] at hvw; omega)] at ev
            exact ⟨_, _, rfl, fin _ ev⟩
        · have ev := g5.bin q5 (op := -15) (by decide)
          rw [op2_15] at ev
          rw [if_pos rfl]
          by_cases hvw : v = w
          · rw [if_pos hvw]
            rw [if_pos hvw] at ev
            exact ⟨_, _, rfl, fin _ ev⟩
          · rw [if_neg hvw]
            rw [if_neg hvw] at ev
            exact ⟨_, _, rfl, fin _ ev⟩
      · rw [pAnd_f q1]
        have nx : ∀ z, ∃ τ' v', some (τ3, z) = some (τ', v') ∧ OutM b sz nm τ τ' o v' i (false, (sum (j + 1)).2.1, []) := fun z => ⟨_, _, rfl, k1.tr f2, Or.inr ⟨rfl, q2, q3⟩⟩
        by_cases ht : t0 = 0
        · rw [if_pos ht]
          by_cases hvw : v = w
          · rw [if_pos hvw]; exact nx _
          · rw [if_neg hvw]; exact nx _
        · rw [if_neg ht]
          by_cases hvw : w ≤ v
          · rw [if_pos hvw]; exact nx _
          · rw [if_neg hvw]; exact nx _
    by_cases h60 : tK b sz j = 60
    · rw [if_pos h60, if_neg (by decide), if_pos (Or.inl h60)]
      unfold fM_not_j69
      have hw : τ1.2.2 10 = (60 : Int64) := ((g4.2.2.sign (s := 60) (by decide)).mpr h60).2
      rw [if_pos ((lg_cmp_eq _ _).mpr hw)]
      rw [if_pos h60]
      exact go 1 (-14) (Or.inl h60) (Or.inl ⟨rfl, rfl⟩)
    · rw [if_neg h60, if_pos rfl, mSign g4 g2 (by decide), cal_eq]
      by_cases h61 : tK b sz j = 61
      · rw [if_pos h61, if_neg (by decide), if_pos (Or.inr h61)]
        unfold fM_not_j69
        have hw : τ1.2.2 10 = (61 : Int64) := ((g4.2.2.sign (s := 61) (by decide)).mpr h61).2
        rw [if_neg (fun z => by have := (lg_cmp_eq _ _).mp z; rw [hw] at this; exact absurd this (by decide))]
        rw [if_neg h60]
        exact go 0 (-15) (Or.inr h61) (Or.inr ⟨rfl, rfl⟩)
      · have hn : ¬ (tK b sz j = 60 ∨ tK b sz j = 61) := fun z => z.elim h60 h61
        rw [if_neg h61, if_pos rfl, if_neg hn]
        exact ⟨_, _, rfl, e2, Or.inl ⟨rfl, g2, g3, g4, g5, g6⟩⟩
  · rw [pAnd_f g1, mSign_bad g2, cal_eq, if_pos rfl, mSign_bad g2, cal_eq, if_pos rfl]
    exact ⟨_, _, rfl, e2, Or.inr ⟨rfl, g2, g3⟩⟩
theorem RM_both_l {one : Nat → PR} (h1 : RM b sz x m p nm o (fM_not N0 kA kB kC) one) {τ0 : St} {i0 : Nat} (hR : RX b sz x τ0) (hN : NM nm m p τ0) : ∀ (f n F : Nat) (τ : St) (i : Nat) (c : List Int32) (v : Int32), n + f = 161 → f < F → n ≤ i → i0 ≤ i → KP fR [] τ0 τ → τ.1 13 = 0 → τ.1 12 = nI o → TMk b sz τ i → Ev nm c v →
    ∃ τ' v', fM_both_l5 N0 kA kB kC F τ v = some (τ', v') ∧ OutM b sz nm τ0 τ' o v' i0 (pAndL (tK b sz) one f i c) := by
  intro f
  induction f with
  | zero =>
    intro n F τ i c v a1 a2 a3 ai a4 a5 a6 a7 a8
    obtain ⟨F, rfl⟩ : ∃ k, F = k + 1 := ⟨F - 1, by omega⟩
    have hk : ¬ tK b sz i = 266 := by
      intro z
      have := tK_lt hR.2.1 i (by rw [z]; decide)
      have := hR.2.1
      omega
    show ∃ τ' v', cal (fM_isWord N0 τ 1111) _ = _ ∧ _
    rw [mKey (w := 1111) (K0 := 266) (k := 10) a7 a5 rfl (by decide) (by decide) (by decide), cal_eq, if_neg hk, if_pos rfl]
    exact ⟨_, _, rfl, a4, Or.inl ⟨rfl, a5, a6, a7, a8, ai⟩⟩
  | succ f ih =>
    intro n F τ i c v a1 a2 a3 ai a4 a5 a6 a7 a8
    obtain ⟨F, rfl⟩ : ∃ k, F = k + 1 := ⟨F - 1, by omega⟩
    show ∃ τ' v', cal (fM_isWord N0 τ 1111) _ = _ ∧ _
    unfold pAndL
    rw [mKey (w := 1111) (K0 := 266) (k := 10) a7 a5 rfl (by decide) (by decide) (by decide), cal_eq]
    by_cases hk : tK b sz i = 266
    · rw [if_pos hk, if_neg (by decide), if_pos hk]
      obtain ⟨τ1, e1, e2, e3⟩ := mNext (hR.kp a4 (by decide)) a7 (by rw [hk]; decide)
      have k1 : KP fR [] τ0 τ1 := a4.tr (e2.wk (by decide) (by decide))
      obtain ⟨τ2, w, f1, f2, f3⟩ := h1 τ1 (i + 1) (hR.kp k1 (by decide)) (hN.kp k1) e3 (by rw [e2.1 13 (by decide)]; exact a5) (by rw [e2.1 12 (by decide)]; exact a6)
      rw [e1, cal_eq, f1, cal_eq]
      unfold fM_both_j36 fM_both_j37
      rcases f3 with ⟨g1, g2, g3, g4, g5, g6⟩ | ⟨g1, g2, g3⟩
      · rw [pAnd_t g1]
        have ev := a8.bin g5 (op := -12) (by decide)
        have nx : ∀ z, op2 (-12) v w = z → ∃ τ' v', fM_both_l5 N0 kA kB kC F τ2 z = some (τ', v') ∧ OutM b sz nm τ0 τ' o v' i0 (pAndL (tK b sz) one f (one (i + 1)).2.1 (c ++ (one (i + 1)).2.2 ++ [-12])) := fun z hz =>
          ih (n + 1) F τ2 _ _ _ (by omega) (by omega) (by omega) (by omega) (k1.tr f2) g2 g3 g4 (hz ▸ ev)
        by_cases hv : v = 0
        · rw [if_pos hv]; exact nx _ (by rw [op2_12, if_neg (fun z => z.1 hv)])
        · rw [if_neg hv]
          by_cases hw : w = 0
          · rw [if_pos hw]; exact nx _ (by rw [op2_12, if_neg (fun z => z.2 hw)])
          · rw [if_neg hw]; exact nx _ (by rw [op2_12, if_pos ⟨hv, hw⟩])
      · rw [pAnd_f g1]
        have nx : ∀ z, ∃ τ' v', fM_both_l5 N0 kA kB kC F τ2 z = some (τ', v') ∧ OutM b sz nm τ0 τ' o v' i0 (false, (one (i + 1)).2.1, []) := by
          intro z
          obtain ⟨F, rfl⟩ : ∃ k, F = k + 1 := ⟨F - 1, by omega⟩
          show ∃ τ' v', cal (fM_isWord N0 τ2 1111) _ = _ ∧ _
          rw [mWord_bad g2, cal_eq, if_pos rfl]
          exact ⟨_, _, rfl, k1.tr f2, Or.inr ⟨rfl, g2, g3⟩⟩
        by_cases hv : v = 0
        · rw [if_pos hv]; exact nx _
        · rw [if_neg hv]
          by_cases hw : w = 0
          · rw [if_pos hw]; exact nx _
          · rw [if_neg hw]; exact nx _
    · rw [if_neg hk, if_pos rfl, if_neg hk]
      exact ⟨_, _, rfl, a4, Or.inl ⟨rfl, a5, a6, a7, a8, ai⟩⟩
theorem RM_both {one : Nat → PR} (h1 : RM b sz x m p nm o (fM_not N0 kA kB kC) one) : RM b sz x m p nm o (fM_both N0 kA kB kC) (pBoth (tK b sz) one) := by
  intro τ i hR hN h hb h12
  unfold fM_both pBoth
  obtain ⟨τ1, v, e1, e2, e3⟩ := h1 τ i hR hN h hb h12
  rw [e1, cal_eq]
  rcases e3 with ⟨g1, g2, g3, g4, g5, g6⟩ | ⟨g1, g2, g3⟩
  · rw [pAnd_t g1]
    exact RM_both_l h1 hR hN 161 0 N0 τ1 _ _ v rfl (by decide) (Nat.zero_le _) g6 e2 g2 g3 g4 g5
  · rw [pAnd_f g1]
    have bd : ∀ F, 0 < F → fM_both_l5 N0 kA kB kC F τ1 v = some (τ1, v) := by
      intro F hF
      obtain ⟨F, rfl⟩ : ∃ k, F = k + 1 := ⟨F - 1, by omega⟩
      show cal (fM_isWord N0 τ1 1111) _ = _
      rw [mWord_bad g2, cal_eq, if_pos rfl]
    exact ⟨_, _, bd N0 (by decide), e2, Or.inr ⟨rfl, g2, g3⟩⟩
theorem RM_either_l {one : Nat → PR} (h1 : RM b sz x m p nm o (fM_both N0 kA kB kC) one) {τ0 : St} {i0 : Nat} (hR : RX b sz x τ0) (hN : NM nm m p τ0) : ∀ (f n F : Nat) (τ : St) (i : Nat) (c : List Int32) (v : Int32), n + f = 161 → f < F → n ≤ i → i0 ≤ i → KP fR [] τ0 τ → τ.1 13 = 0 → τ.1 12 = nI o → TMk b sz τ i → Ev nm c v →
    ∃ τ' v', fM_either_l5 N0 kA kB kC F τ v = some (τ', v') ∧ OutM b sz nm τ0 τ' o v' i0 (pOrL (tK b sz) one f i c) := by
  intro f
  induction f with
  | zero =>
    intro n F τ i c v a1 a2 a3 ai a4 a5 a6 a7 a8
    obtain ⟨F, rfl⟩ : ∃ k, F = k + 1 := ⟨F - 1, by omega⟩
    have hk : ¬ tK b sz i = 265 := by
      intro z
      have := tK_lt hR.2.1 i (by rw [z]; decide)
      have := hR.2.1
      omega
    show ∃ τ' v', cal (fM_isWord N0 τ 423) _ = _ ∧ _
    rw [mKey (w := 423) (K0 := 265) (k := 9) a7 a5 rfl (by decide) (by decide) (by decide), cal_eq, if_neg hk, if_pos rfl]
    exact ⟨_, _, rfl, a4, Or.inl ⟨rfl, a5, a6, a7, a8, ai⟩⟩
  | succ f ih =>
    intro n F τ i c v a1 a2 a3 ai a4 a5 a6 a7 a8
    obtain ⟨F, rfl⟩ : ∃ k, F = k + 1 := ⟨F - 1, by omega⟩
    show ∃ τ' v', cal (fM_isWord N0 τ 423) _ = _ ∧ _
    unfold pOrL
    rw [mKey (w := 423) (K0 := 265) (k := 9) a7 a5 rfl (by decide) (by decide) (by decide), cal_eq]
    by_cases hk : tK b sz i = 265
    · rw [if_pos hk, if_neg (by decide), if_pos hk]
      obtain ⟨τ1, e1, e2, e3⟩ := mNext (hR.kp a4 (by decide)) a7 (by rw [hk]; decide)
      have k1 : KP fR [] τ0 τ1 := a4.tr (e2.wk (by decide) (by decide))
      obtain ⟨τ2, w, f1, f2, f3⟩ := h1 τ1 (i + 1) (hR.kp k1 (by decide)) (hN.kp k1) e3 (by rw [e2.1 13 (by decide)]; exact a5) (by rw [e2.1 12 (by decide)]; exact a6)
      rw [e1, cal_eq, f1, cal_eq]
      unfold fM_either_j32 fM_either_j37
      rcases f3 with ⟨g1, g2, g3, g4, g5, g6⟩ | ⟨g1, g2, g3⟩
      · rw [pAnd_t g1]
        have ev := a8.bin g5 (op := -11) (by decide)
        have nx : ∀ z, op2 (-11) v w = z → ∃ τ' v', fM_either_l5 N0 kA kB kC F τ2 z = some (τ', v') ∧ OutM b sz nm τ0 τ' o v' i0 (pOrL (tK b sz) one f (one (i + 1)).2.1 (c ++ (one (i + 1)).2.2 ++ [-11])) := fun z hz =>
          ih (n + 1) F τ2 _ _ _ (by omega) (by omega) (by omega) (by omega) (k1.tr f2) g2 g3 g4 (hz ▸ ev)
        by_cases hv : v = 0
        · rw [if_pos hv]
          by_cases hw : w = 0
          · rw [if_pos hw]; exact nx _ (by rw [op2_11, if_neg (fun z => z.elim (fun q => q hv) (fun q => q hw))])
          · rw [if_neg hw]; exact nx _ (by rw [op2_11, if_pos (Or.inr hw)])
        · rw [if_neg hv]; exact nx _ (by rw [op2_11, if_pos (Or.inl hv)])
      · rw [pAnd_f g1]
        have nx : ∀ z, ∃ τ' v', fM_either_l5 N0 kA kB kC F τ2 z = some (τ', v') ∧ OutM b sz nm τ0 τ' o v' i0 (false, (one (i + 1)).2.1, []) := by
          intro z
          obtain ⟨F, rfl⟩ : ∃ k, F = k + 1 := ⟨F - 1, by omega⟩
          show ∃ τ' v', cal (fM_isWord N0 τ2 423) _ = _ ∧ _
          rw [mWord_bad g2, cal_eq, if_pos rfl]
          exact ⟨_, _, rfl, k1.tr f2, Or.inr ⟨rfl, g2, g3⟩⟩
        by_cases hv : v = 0
        · rw [if_pos hv]
          by_cases hw : w = 0
          · rw [if_pos hw]; exact nx _
          · rw [if_neg hw]; exact nx _
        · rw [if_neg hv]; exact nx _
    · rw [if_neg hk, if_pos rfl, if_neg hk]
      exact ⟨_, _, rfl, a4, Or.inl ⟨rfl, a5, a6, a7, a8, ai⟩⟩
theorem RM_either {one : Nat → PR} (h1 : RM b sz x m p nm o (fM_both N0 kA kB kC) one) : RM b sz x m p nm o (fM_either N0 kA kB kC) (pEither (tK b sz) one) := by
  intro τ i hR hN h hb h12
  unfold fM_either pEither
  obtain ⟨τ1, v, e1, e2, e3⟩ := h1 τ i hR hN h hb h12
  rw [e1, cal_eq]
  rcases e3 with ⟨g1, g2, g3, g4, g5, g6⟩ | ⟨g1, g2, g3⟩
  · rw [pAnd_t g1]
    exact RM_either_l h1 hR hN 161 0 N0 τ1 _ _ v rfl (by decide) (Nat.zero_le _) g6 e2 g2 g3 g4 g5
  · rw [pAnd_f g1]
    have bd : ∀ F, 0 < F → fM_either_l5 N0 kA kB kC F τ1 v = some (τ1, v) := by
      intro F hF
      obtain ⟨F, rfl⟩ : ∃ k, F = k + 1 := ⟨F - 1, by omega⟩
      show cal (fM_isWord N0 τ1 423) _ = _
      rw [mWord_bad g2, cal_eq, if_pos rfl]
    exact ⟨_, _, bd N0 (by decide), e2, Or.inr ⟨rfl, g2, g3⟩⟩
end MPARSE
theorem RM_lv {sz x m p : Nat} {b : Nat → Int32} {nm : Nat → Int32} : ∀ (q o : Nat), o ≤ 5 → 6 - o ≤ q → RM b sz x m p nm o (fM_lv N0 q).1 (pLv (tK b sz) (tV b sz) (5 - o)).1 ∧ RM b sz x m p nm o (fM_lv N0 q).2.1 (pLv (tK b sz) (tV b sz) (5 - o)).2.1 ∧ RM b sz x m p nm o (fM_lv N0 q).2.2 (pLv (tK b sz) (tV b sz) (5 - o)).2.2 := by
  intro q
  induction q with
  | zero => intro o h1 h2; omega
  | succ q ih =>
    intro o h1 h2
    have all : ∀ pE pO pN, (o < 5 → RM b sz x m p nm (o + 1) (fM_lv N0 q).1 pE) → (o < 5 → RM b sz x m p nm (o + 1) (fM_lv N0 q).2.1 pO) → (o < 5 → RM b sz x m p nm (o + 1) (fM_lv N0 q).2.2 pN) →
        RM b sz x m p nm o (fM_lv N0 (q + 1)).1 (pEither (tK b sz) (pBoth (tK b sz) (pNot (tK b sz) (pSum (tK b sz) (pTerm (tK b sz) (pOne (tK b sz) (tV b sz) pE pO (5 - o)))) pN (5 - o)))) ∧ RM b sz x m p nm o (fM_lv N0 (q + 1)).2.1 (pOne (tK b sz) (tV b sz) pE pO (5 - o)) ∧ RM b sz x m p nm o (fM_lv N0 (q + 1)).2.2 (pNot (tK b sz) (pSum (tK b sz) (pTerm (tK b sz) (pOne (tK b sz) (tV b sz) pE pO (5 - o)))) pN (5 - o)) := by
      intro pE pO pN a1 a2 a3
      have r1 := RM_one (kC := (fM_lv N0 q).2.2) h1 a1 a2
      have r2 := RM_not h1 (RM_added (RM_term r1)) a3
      exact ⟨RM_either (RM_both r2), r1, r2⟩
    by_cases ho : o = 5
    · subst ho
      exact all (fun i => (false, i, [])) (fun i => (false, i, [])) (fun i => (false, i, [])) (fun z => by omega) (fun z => by omega) (fun z => by omega)
    · obtain ⟨g1, g2, g3⟩ := ih (o + 1) (by omega) (by omega)
      have e : 5 - o = (5 - (o + 1)) + 1 := by omega
      have := all _ _ _ (fun _ => g1) (fun _ => g2) (fun _ => g3)
      rw [e] at this ⊢
      exact this
