/-! a text, by the reference -/
theorem RM_sec {sz x m p k : Nat} {b : Nat → Int32} {nm : Nat → Int32} {w : Int64} {K0 : Int32} (hw : w = hsh k) (hk : k < 12) (h6 : 6 ≤ k) (hK : K0 = (tkW k).1) : RM b sz x m p nm 0 (fun τ => fM_section N0 τ w) (pSec (tK b sz) (tV b sz) K0) := by
  intro τ i hR hN h hb h12
  show ∃ τ' v, fM_section N0 τ w = some (τ', v) ∧ _
  unfold fM_section pSec
  rw [mKey h hb hw hk h6 hK, cal_eq]
  by_cases hi : tK b sz i = K0
  · rw [if_pos hi, if_neg (by decide), if_pos hi]
    unfold fM_section_j12
    rw [if_pos hb]
    have hne : tK b sz i ≠ -2 := by rw [hi, hK]; exact (tkW_inj k hk).1.2.1
    obtain ⟨τ1, e1, e2, e3⟩ := mNext hR h hne
    rw [e1, cal_eq]
    unfold fM_section_j23
    have b1 : τ1.1 13 = 0 := by rw [e2.1 13 (by decide)]; exact hb
    rw [if_pos b1]
    have k1 : KP fR [] τ τ1 := e2.wk (by decide) (by decide)
    obtain ⟨τ2, v, f1, f2, f3⟩ := (RM_lv (x := x) (m := m) (p := p) (nm := nm) (b := b) (sz := sz) 7 0 (by decide) (by decide)).1 τ1 (i + 1) (hR.kp k1 (by decide)) (hN.kp k1) e3 b1 (by rw [e2.1 12 (by decide)]; exact h12)
    rw [f1, cal_eq]
    unfold fM_section_j38 fM_section_j52
    have e50 : 5 - 0 = 5 := rfl
    rw [e50] at f3
    generalize (pLv (tK b sz) (tV b sz) 5).1 (i + 1) = q at f3 ⊢
    rcases f3 with ⟨g1, g2, g3, g4, g5, g6⟩ | ⟨g1, g2, g3⟩
    · rw [pAnd_t g1, mSign g4 g2 (by decide), cal_eq]
      by_cases h59 : tK b sz q.2.1 = 59
      · rw [if_pos h59, if_neg (by decide), if_pos h59, if_pos g2]
        have kf : KP fR [] τ τ2 := k1.tr f2
        obtain ⟨τ3, q1, q2, q3⟩ := mNext (hR.kp kf (by decide)) g4 (by rw [h59]; decide)
        rw [q1, cal_eq]
        exact ⟨_, _, rfl, kf.tr (q2.wk (by decide) (by decide)), Or.inl ⟨rfl, by rw [q2.1 13 (by decide)]; exact g2, by rw [q2.1 12 (by decide)]; exact g3, q3, g5, by show i ≤ q.2.1 + 1; omega⟩⟩
      · rw [if_neg h59, if_pos rfl, if_neg h59, mFail g2, cal_eq, if_neg (show ¬ ((sI (sI τ2 13 1) 14 (τ2.1 9)).1 13 = 0) from (by decide : ¬ (1 : Int32) = 0))]
        exact ⟨_, _, rfl, (k1.tr f2).tr ((KP.i (by decide)).tr (KP.i (by decide))), Or.inr ⟨rfl, rfl, g4.1⟩⟩
    · rw [pAnd_f g1, mSign_bad g2, cal_eq, if_pos rfl, mFail_bad g2, cal_eq, if_neg (by rw [g2]; decide)]
      exact ⟨_, _, rfl, k1.tr f2, Or.inr ⟨rfl, g2, g3⟩⟩
  · rw [if_neg hi, if_pos rfl, if_neg hi, mFail hb, cal_eq]
    have b1 : (sI (sI τ 13 1) 14 (τ.1 9)).1 13 = 1 := rfl
    unfold fM_section_j12
    rw [if_neg (by rw [b1]; decide)]
    unfold fM_section_j23
    rw [if_neg (by rw [b1]; decide)]
    unfold fM_section_j38
    rw [mSign_bad b1, cal_eq, if_pos rfl, mFail_bad b1, cal_eq]
    unfold fM_section_j52
    rw [if_neg (by rw [b1]; decide)]
    exact ⟨_, _, rfl, OutM.fail h⟩
/-- the names of a man's part in a tick -/
def nmF (τ : St) (m k : Nat) (t : Int32) : Nat → Int32 := fun i => if i = 0 then nI k else if i = 1 then τ.2.1 7 (4 * m + k) else if i = 2 then τ.2.1 6 m else if i = 3 then τ.2.1 4 m else if i = 4 then t else τ.1 5
abbrev fRd : List Nat := [6, 7, 8, 9, 11, 12, 13, 14, 15, 16, 17]
theorem q_read {sz x m k : Nat} {b : Nat → Int32} {τ : St} {t wh : Int32} (hx : x < 6) (hs : sz ≤ 160) (h2 : τ.2.1 2 x = nI sz) (hb : ∀ i, i < sz → τ.2.1 1 (160 * x + i) = b i ∧ bt (b i) 0 255) (hm : m < 10) (hk : k < 4) :
    ∃ τ' v, fM_read N0 τ (nI x) (nI m) (nI k) t wh = some (τ', v) ∧ KP fRd [] τ τ' ∧ (((pText (tK b sz) (tV b sz)).1 = true ∧ τ'.1 13 = 0 ∧ ∃ v0 v1 v2, Ev (nmF τ m k t) (pText (tK b sz) (tV b sz)).2.2.1 v0 ∧ Ev (nmF τ m k t) (pText (tK b sz) (tV b sz)).2.2.2.1 v1 ∧ Ev (nmF τ m k t) (pText (tK b sz) (tV b sz)).2.2.2.2 v2 ∧ v = if wh = 0 then v0 else if wh = 1 then v1 else v2) ∨ ((pText (tK b sz) (tV b sz)).1 = false ∧ τ'.1 13 = 1 ∧ τ'.1 14 = nI (tS b sz (pText (tK b sz) (tV b sz)).2.1))) := by
  unfold fM_read
  simp only [bnd_eq]
  rw [giN 6 (nI_b hx (by decide))]
  have cl : (nI x).toNatClampNeg = x := nI_clamp (by omega)
  rw [show (160 : Int32) * nI x = nI (160 * x) by rw [show (160 : Int32) = nI 160 from rfl, pk_mul]]
  rw [show (sI (sI (sI (sI τ 15 (nI m)) 16 (nI k)) 17 t) 6 (nI (160 * x))).2.1 2 (nI x).toNatClampNeg = nI sz by rw [cl]; exact h2]
  have kk : KP fRd [] τ (sI (sI (sI (sI (sI (sI (sI (sI τ 15 (nI m)) 16 (nI k)) 17 t) 6 (nI (160 * x))) 7 (nI sz)) 11 0) 12 0) 13 0) := (((((((KP.i (by decide)).tr (KP.i (by decide))).tr (KP.i (by decide))).tr (KP.i (by decide))).tr (KP.i (by decide))).tr (KP.i (by decide))).tr (KP.i (by decide))).tr (KP.i (by decide))
  have hN : NM (nmF τ m k t) m k (sI (sI (sI (sI (sI (sI (sI (sI τ 15 (nI m)) 16 (nI k)) 17 t) 6 (nI (160 * x))) 7 (nI sz)) 11 0) 12 0) 13 0) := ⟨hm, hk, rfl, rfl, rfl, rfl, rfl, rfl, rfl, rfl⟩
  have hR : RX b sz x (sI (sI (sI (sI (sI (sI (sI (sI τ 15 (nI m)) 16 (nI k)) 17 t) 6 (nI (160 * x))) 7 (nI sz)) 11 0) 12 0) 13 0) := ⟨hx, hs, rfl, rfl, hb⟩
  have c11 : (sI (sI (sI (sI (sI (sI (sI (sI τ 15 (nI m)) 16 (nI k)) 17 t) 6 (nI (160 * x))) 7 (nI sz)) 11 0) 12 0) 13 0).1 11 = nI 0 := rfl
  have c12 : (sI (sI (sI (sI (sI (sI (sI (sI τ 15 (nI m)) 16 (nI k)) 17 t) 6 (nI (160 * x))) 7 (nI sz)) 11 0) 12 0) 13 0).1 12 = nI 0 := rfl
  have c13 : (sI (sI (sI (sI (sI (sI (sI (sI τ 15 (nI m)) 16 (nI k)) 17 t) 6 (nI (160 * x))) 7 (nI sz)) 11 0) 12 0) 13 0).1 13 = 0 := rfl
  generalize (sI (sI (sI (sI (sI (sI (sI (sI τ 15 (nI m)) 16 (nI k)) 17 t) 6 (nI (160 * x))) 7 (nI sz)) 11 0) 12 0) 13 0) = υ at *
  generalize nmF τ m k t = nm at *
  obtain ⟨τ0, a1, a2, a3⟩ := q_next (b := b) (Nat.zero_le sz) hR c11
  rw [a1, cal_eq]
  have k0 : KP fR [] υ τ0 := a2.wk (by decide) (by decide)
  obtain ⟨τ1, v0, b1, b2, b3⟩ := RM_sec (x := x) (m := m) (p := k) (nm := nm) (b := b) (sz := sz) (w := 1905275) (K0 := 262) (k := 6) rfl (by decide) (by decide) (by decide) τ0 0 (hR.kp k0 (by decide)) (hN.kp k0) a3 (by rw [a2.1 13 (by decide)]; exact c13) (by rw [a2.1 12 (by decide)]; exact c12)
  have b1 : fM_section N0 τ0 1905275 = some (τ1, v0) := b1
  rw [b1, cal_eq]
  have k1 : KP fR [] υ τ1 := k0.tr b2
  unfold fM_read_j81 fM_read_j101 fM_read_j121
  unfold pText
  generalize pSec (tK b sz) (tV b sz) 262 0 = r0 at *
  have fin : ∀ (τ' : St), KP fR [] υ τ' → KP fRd [] τ τ' := fun τ' z => kk.tr (z.wk (by decide) (by decide))
  have ch : ∀ (τ' : St) (u0 u1 u2 : Int32), ∃ v, (if wh = 0 then some (τ', u0) else if wh = 1 then some (τ', u1) else some (τ', u2)) = some (τ', v) ∧ v = (if wh = 0 then u0 else if wh = 1 then u1 else u2) := by
    intro τ' u0 u1 u2
    by_cases w0 : wh = 0
    · rw [if_pos w0, if_pos w0]; exact ⟨_, rfl, rfl⟩
    · rw [if_neg w0, if_neg w0]
      by_cases w1 : wh = 1
      · rw [if_pos w1, if_pos w1]; exact ⟨_, rfl, rfl⟩
      · rw [if_neg w1, if_neg w1]; exact ⟨_, rfl, rfl⟩
  rcases b3 with ⟨g1, g2, g3, g4, g5, g6⟩ | ⟨g1, g2, g3⟩
  · rw [if_pos g2]
    simp only [if_pos g1]
    obtain ⟨τ2, v1, d1, d2, d3⟩ := RM_sec (x := x) (m := m) (p := k) (nm := nm) (b := b) (sz := sz) (w := 279252) (K0 := 263) (k := 7) rfl (by decide) (by decide) (by decide) τ1 r0.2.1 (hR.kp k1 (by decide)) (hN.kp k1) g4 g2 g3
    have d1 : fM_section N0 τ1 279252 = some (τ2, v1) := d1
    rw [d1, cal_eq]
    have k2 : KP fR [] υ τ2 := k1.tr d2
    generalize pSec (tK b sz) (tV b sz) 263 r0.2.1 = r1 at *
    rcases d3 with ⟨h1, h2, h3, h4, h5, h6⟩ | ⟨h1, h2, h3⟩
    · rw [if_pos h2]
      simp only [if_pos h1]
      obtain ⟨τ3, v2, e1, e2, e3⟩ := RM_sec (x := x) (m := m) (p := k) (nm := nm) (b := b) (sz := sz) (w := 323728) (K0 := 264) (k := 8) rfl (by decide) (by decide) (by decide) τ2 r1.2.1 (hR.kp k2 (by decide)) (hN.kp k2) h4 h2 h3
      have e1 : fM_section N0 τ2 323728 = some (τ3, v2) := e1
      rw [e1, cal_eq]
      have k3 : KP fR [] υ τ3 := k2.tr e2
      generalize pSec (tK b sz) (tV b sz) 264 r1.2.1 = r2 at *
      rcases e3 with ⟨j1, j2, j3, j4, j5, j6⟩ | ⟨j1, j2, j3⟩
      · rw [if_pos j2]
        simp only [if_pos j1]
        have hend : τ3.1 8 = 0 ↔ tK b sz r2.2.1 = -1 := j4.2.2.isend
        by_cases he : tK b sz r2.2.1 = -1
        · rw [if_pos (hend.mpr he)]
          simp only [if_pos he]
          obtain ⟨v, p1, p2⟩ := ch τ3 v0 v1 v2
          exact ⟨τ3, v, p1, fin _ k3, Or.inl ⟨trivial, j2, v0, v1, v2, g5, h5, j5, p2⟩⟩
        · rw [if_neg (fun z => he (hend.mp z)), mFail j2, cal_eq]
          simp only [if_neg he]
          obtain ⟨v, p1, p2⟩ := ch (sI (sI τ3 13 1) 14 (τ3.1 9)) v0 v1 v2
          exact ⟨_, v, p1, fin _ (k3.tr ((KP.i (by decide)).tr (KP.i (by decide)))), Or.inr ⟨trivial, rfl, j4.1⟩⟩
      · have nb : ¬ τ3.1 13 = 0 := by rw [j2]; decide
        rw [if_neg nb]
        have nj : ¬ r2.1 = true := by rw [j1]; decide
        simp only [if_neg nj]
        obtain ⟨v, p1, p2⟩ := ch τ3 v0 v1 v2
        exact ⟨_, v, p1, fin _ k3, Or.inr ⟨trivial, j2, j3⟩⟩
    · have nb : ¬ τ2.1 13 = 0 := by rw [h2]; decide
      rw [if_neg nb, if_neg nb]
      have nj : ¬ r1.1 = true := by rw [h1]; decide
      simp only [if_neg nj]
      obtain ⟨v, p1, p2⟩ := ch τ2 v0 v1 0
      exact ⟨_, v, p1, fin _ k2, Or.inr ⟨trivial, h2, h3⟩⟩
  · have nb : ¬ τ1.1 13 = 0 := by rw [g2]; decide
    rw [if_neg nb, if_neg nb, if_neg nb]
    have nj : ¬ r0.1 = true := by rw [g1]; decide
    simp only [if_neg nj]
    obtain ⟨v, p1, p2⟩ := ch τ1 v0 0 0
    exact ⟨_, v, p1, fin _ k1, Or.inr ⟨trivial, g2, g3⟩⟩
