/-! the table -/
def LG (σ τ : St) : Prop := ∀ s, s < 4 → σ.2.1 19 s = τ.2.1 24 s ∧ σ.2.1 20 s = τ.2.1 25 s ∧ σ.2.1 21 s = τ.2.1 26 s
theorem upd_at (f : Nat → Int32) (k : Nat) (v : Int32) (i : Nat) : upd f k v i = if i = k then v else f i := rfl
theorem q_score {N1 N2 h : Nat} (hh : h < 4) {a b : Int32} {σ τ : St} (L : LG σ τ) : ∃ σ' τ', fC_L_score N1 σ (nI h) a b = some (σ', ()) ∧ fM_counts N2 τ (nI h) a b = some (τ', ()) ∧ KP [] [19, 20, 21] σ σ' ∧ KP [] [24, 25, 26] τ τ' ∧ LG σ' τ' := by
  have cl : (nI h).toNatClampNeg = h := nI_clamp (by omega)
  have hg := nI_b hh (show 4 < 2 ^ 31 by decide)
  unfold fC_L_score fM_counts fM_counts_j26
  simp only [giN 4 hg, bnd_eq]
  have tM : ∀ x : Int32, KP [] [24, 25, 26] τ (sA (sA (sA τ 24 (nI h) (τ.2.1 24 (nI h).toNatClampNeg + x)) 25 (nI h) ((sA τ 24 (nI h) (τ.2.1 24 (nI h).toNatClampNeg + x)).2.1 25 (nI h).toNatClampNeg + a)) 26 (nI h) ((sA (sA τ 24 (nI h) (τ.2.1 24 (nI h).toNatClampNeg + x)) 25 (nI h) ((sA τ 24 (nI h) (τ.2.1 24 (nI h).toNatClampNeg + x)).2.1 25 (nI h).toNatClampNeg + a)).2.1 26 (nI h).toNatClampNeg + b)) := fun x => ((KP.a (by decide)).tr (KP.a (by decide))).tr (KP.a (by decide))
  have tC : KP [] [19, 20, 21] σ (sA (sA σ 20 (nI h) (σ.2.1 20 (nI h).toNatClampNeg + a)) 21 (nI h) ((sA σ 20 (nI h) (σ.2.1 20 (nI h).toNatClampNeg + a)).2.1 21 (nI h).toNatClampNeg + b)) := (KP.a (by decide)).tr (KP.a (by decide))
  have fin : ∀ (x : Int32) (σ' : St), σ'.2.1 19 = upd (σ.2.1 19) h (σ.2.1 19 h + x) → σ'.2.1 20 = upd (σ.2.1 20) h (σ.2.1 20 h + a) → σ'.2.1 21 = upd (σ.2.1 21) h (σ.2.1 21 h + b) → LG σ' (sA (sA (sA τ 24 (nI h) (τ.2.1 24 (nI h).toNatClampNeg + x)) 25 (nI h) ((sA τ 24 (nI h) (τ.2.1 24 (nI h).toNatClampNeg + x)).2.1 25 (nI h).toNatClampNeg + a)) 26 (nI h) ((sA (sA τ 24 (nI h) (τ.2.1 24 (nI h).toNatClampNeg + x)) 25 (nI h) ((sA τ 24 (nI h) (τ.2.1 24 (nI h).toNatClampNeg + x)).2.1 25 (nI h).toNatClampNeg + a)).2.1 26 (nI h).toNatClampNeg + b)) := by
    intro x σ' e1 e2 e3 s hs
    obtain ⟨l1, l2, l3⟩ := L h hh
    obtain ⟨k1, k2, k3⟩ := L s hs
    rw [e1, e2, e3]
    show _ = upd (τ.2.1 24) (nI h).toNatClampNeg (τ.2.1 24 (nI h).toNatClampNeg + x) s ∧ _ = upd (τ.2.1 25) (nI h).toNatClampNeg (τ.2.1 25 (nI h).toNatClampNeg + a) s ∧ _ = upd (τ.2.1 26) (nI h).toNatClampNeg (τ.2.1 26 (nI h).toNatClampNeg + b) s
    rw [cl, upd_at, upd_at, upd_at, upd_at, upd_at, upd_at, l1, l2, l3, k1, k2, k3]
    exact ⟨rfl, rfl, rfl⟩
  have c20 : (sA (sA σ 20 (nI h) (σ.2.1 20 (nI h).toNatClampNeg + a)) 21 (nI h) ((sA σ 20 (nI h) (σ.2.1 20 (nI h).toNatClampNeg + a)).2.1 21 (nI h).toNatClampNeg + b)).2.1 20 = upd (σ.2.1 20) h (σ.2.1 20 h + a) := by
    show upd (σ.2.1 20) (nI h).toNatClampNeg (σ.2.1 20 (nI h).toNatClampNeg + a) = _
    rw [cl]
  have c21 : (sA (sA σ 20 (nI h) (σ.2.1 20 (nI h).toNatClampNeg + a)) 21 (nI h) ((sA σ 20 (nI h) (σ.2.1 20 (nI h).toNatClampNeg + a)).2.1 21 (nI h).toNatClampNeg + b)).2.1 21 = upd (σ.2.1 21) h (σ.2.1 21 h + b) := by
    show upd (σ.2.1 21) (nI h).toNatClampNeg (σ.2.1 21 (nI h).toNatClampNeg + b) = _
    rw [cl]
  have c19 : (sA (sA σ 20 (nI h) (σ.2.1 20 (nI h).toNatClampNeg + a)) 21 (nI h) ((sA σ 20 (nI h) (σ.2.1 20 (nI h).toNatClampNeg + a)).2.1 21 (nI h).toNatClampNeg + b)).2.1 19 = σ.2.1 19 := rfl
  by_cases hab : a ≤ b
  · rw [if_pos hab, if_pos hab]
    by_cases he : a = b
    · rw [if_pos he, if_pos he]
      refine ⟨_, _, rfl, rfl, tC.tr (KP.a (by decide)), tM 1, fin 1 _ ?_ c20 c21⟩
      show upd (σ.2.1 19) (nI h).toNatClampNeg (σ.2.1 19 (nI h).toNatClampNeg + 1) = _
      rw [cl]
    · rw [if_neg he, if_neg he]
      refine ⟨_, _, rfl, rfl, tC, tM 0, fin 0 _ ?_ c20 c21⟩
      rw [c19, Int32.add_zero]
      funext i
      rw [upd_at]
      split
      · next z => rw [z]
      · rfl
  · rw [if_neg hab, if_neg hab]
    refine ⟨_, _, rfl, rfl, tC.tr (KP.a (by decide)), tM 3, fin 3 _ ?_ c20 c21⟩
    show upd (σ.2.1 19) (nI h).toNatClampNeg (σ.2.1 19 (nI h).toNatClampNeg + 3) = _
    rw [cl]
theorem zeroC {N : Nat} {off : Int32} : ∀ (d i F : Nat) (σ : St), i + d = 4 → d < F → ∃ σ', fC_L_playAll_l2 N F σ off (nI i) = fC_L_playAll_j34 N σ' off ∧ KP [] [19, 20, 21] σ σ' ∧ ∀ s, s < 4 → (σ'.2.1 19 s = if i ≤ s then 0 else σ.2.1 19 s) ∧ (σ'.2.1 20 s = if i ≤ s then 0 else σ.2.1 20 s) ∧ (σ'.2.1 21 s = if i ≤ s then 0 else σ.2.1 21 s) := by
  intro d
  induction d with
  | zero =>
    intro i F σ h1 h2
    obtain ⟨F, rfl⟩ : ∃ k, F = k + 1 := ⟨F - 1, by omega⟩
    refine ⟨σ, ?_, KP.rf, fun s hs => ⟨by rw [if_neg (by omega)], by rw [if_neg (by omega)], by rw [if_neg (by omega)]⟩⟩
    show (if (4 : Int32) ≤ nI i then _ else _) = _
    rw [if_pos (by rw [show i = 4 by omega]; decide)]
  | succ d ih =>
    intro i F σ h1 h2
    obtain ⟨F, rfl⟩ : ∃ k, F = k + 1 := ⟨F - 1, by omega⟩
    have cl : (nI i).toNatClampNeg = i := nI_clamp (by omega)
    have hg := nI_b (show i < 4 by omega) (show 4 < 2 ^ 31 by decide)
    obtain ⟨σ', e1, e2, e3⟩ := ih (i + 1) F (sA (sA (sA σ 19 (nI i) 0) 20 (nI i) 0) 21 (nI i) 0) (by omega) (by omega)
    refine ⟨σ', ?_, (((KP.a (by decide)).tr (KP.a (by decide))).tr (KP.a (by decide))).tr e2, fun s hs => ?_⟩
    · show (if (4 : Int32) ≤ nI i then _ else _) = _
      rw [if_neg (by rw [show (4 : Int32) = nI 4 from rfl, nI_leI (by decide) (by omega)]; omega)]
      simp only [giN 4 hg, bnd_eq, nI_1]
      exact e1
    · obtain ⟨g1, g2, g3⟩ := e3 s hs
      rw [g1, g2, g3]
      show (if i + 1 ≤ s then 0 else upd (σ.2.1 19) (nI i).toNatClampNeg 0 s) = _ ∧ (if i + 1 ≤ s then 0 else upd (σ.2.1 20) (nI i).toNatClampNeg 0 s) = _ ∧ (if i + 1 ≤ s then 0 else upd (σ.2.1 21) (nI i).toNatClampNeg 0 s) = _
      rw [cl, upd_at, upd_at, upd_at]
      by_cases h3 : s = i
      · rw [if_neg (by omega), if_pos h3, if_pos (by omega), if_neg (by omega), if_pos h3, if_pos (by omega), if_neg (by omega), if_pos h3, if_pos (by omega)]
        exact ⟨rfl, rfl, rfl⟩
      · by_cases h4 : i + 1 ≤ s
        · have : i ≤ s := by omega
          simp only [if_pos h4, if_pos this]
          exact ⟨trivial, trivial, trivial⟩
        · have : ¬ i ≤ s := by omega
          simp only [if_neg h4, if_neg this, if_neg h3]
          exact ⟨trivial, trivial, trivial⟩
theorem zeroM {N : Nat} {was off : Int32} : ∀ (d i F : Nat) (τ : St), i + d = 4 → d < F → ∃ τ', fM_tables_l22 N F τ was off (nI i) = fM_tables_j58 N τ' was off ∧ KP [] [24, 25, 26] τ τ' ∧ ∀ s, s < 4 → (τ'.2.1 24 s = if i ≤ s then 0 else τ.2.1 24 s) ∧ (τ'.2.1 25 s = if i ≤ s then 0 else τ.2.1 25 s) ∧ (τ'.2.1 26 s = if i ≤ s then 0 else τ.2.1 26 s) := by
  intro d
  induction d with
  | zero =>
    intro i F τ h1 h2
    obtain ⟨F, rfl⟩ : ∃ k, F = k + 1 := ⟨F - 1, by omega⟩
    refine ⟨τ, ?_, KP.rf, fun s hs => ⟨by rw [if_neg (by omega)], by rw [if_neg (by omega)], by rw [if_neg (by omega)]⟩⟩
    show (if (4 : Int32) ≤ nI i then _ else _) = _
    rw [if_pos (by rw [show i = 4 by omega]; decide)]
  | succ d ih =>
    intro i F τ h1 h2
    obtain ⟨F, rfl⟩ : ∃ k, F = k + 1 := ⟨F - 1, by omega⟩
    have cl : (nI i).toNatClampNeg = i := nI_clamp (by omega)
    have hg := nI_b (show i < 4 by omega) (show 4 < 2 ^ 31 by decide)
    obtain ⟨τ', e1, e2, e3⟩ := ih (i + 1) F (sA (sA (sA τ 24 (nI i) 0) 25 (nI i) 0) 26 (nI i) 0) (by omega) (by omega)
    refine ⟨τ', ?_, (((KP.a (by decide)).tr (KP.a (by decide))).tr (KP.a (by decide))).tr e2, fun s hs => ?_⟩
    · show (if (4 : Int32) ≤ nI i then _ else _) = _
      rw [if_neg (by rw [show (4 : Int32) = nI 4 from rfl, nI_leI (by decide) (by omega)]; omega)]
      simp only [giN 4 hg, bnd_eq, nI_1]
      exact e1
    · obtain ⟨g1, g2, g3⟩ := e3 s hs
      rw [g1, g2, g3]
      show (if i + 1 ≤ s then 0 else upd (τ.2.1 24) (nI i).toNatClampNeg 0 s) = _ ∧ (if i + 1 ≤ s then 0 else upd (τ.2.1 25) (nI i).toNatClampNeg 0 s) = _ ∧ (if i + 1 ≤ s then 0 else upd (τ.2.1 26) (nI i).toNatClampNeg 0 s) = _
      rw [cl, upd_at, upd_at, upd_at]
      by_cases h3 : s = i
      · rw [if_neg (by omega), if_pos h3, if_pos (by omega), if_neg (by omega), if_pos h3, if_pos (by omega), if_neg (by omega), if_pos h3, if_pos (by omega)]
        exact ⟨rfl, rfl, rfl⟩
      · by_cases h4 : i + 1 ≤ s
        · have : i ≤ s := by omega
          simp only [if_pos h4, if_pos this]
          exact ⟨trivial, trivial, trivial⟩
        · have : ¬ i ≤ s := by omega
          simp only [if_neg h4, if_neg this, if_neg h3]
          exact ⟨trivial, trivial, trivial⟩
/-- a match's further goals -/
def pS (τ : St) (g off side : Int32) (i : Nat) : Bool := (bit g i && !bit off i) && decide (τ.2.1 4 (aN τ i) = side)
section LEAGUE
variable {n1 n3 n4 n5 r : Nat} {c : Nat → List Int32} {σ0 τ0 : St} {w : Int32}
theorem goalsM_l (D : DD n1 n3 n4 n5 r c σ0 τ0) {was off : Int32} {mi : Nat} (hmi : mi < 12) {k61 : St → Int32 → Int32 → Int32 → Option (St × Unit)} {τ : St} {s f : Int32} (Q : QM τ0 w s f τ) : ∀ (d i F : Nat) (a b : Int32), i + d = n5 → d < F → fM_tables_l91 N0 k61 F τ was off (nI mi) a b (nI i) = fM_tables_j192 N0 k61 τ was off (nI mi) (cF (pS τ0 (τ0.2.1 23 mi) off (τ0.2.1 19 mi)) d i a) (cF (pS τ0 (τ0.2.1 23 mi) off (τ0.2.1 20 mi)) d i b) := by
  have hn5 := D.2.2.2.1.1
  have clm : (nI mi).toNatClampNeg = mi := nI_clamp (by omega)
  have hgm := nI_b hmi (show 12 < 2 ^ 31 by decide)
  obtain ⟨_, e14, _, _, _, _, _, _, _, e23⟩ := QM_arr D Q
  have e4 : τ.2.1 4 = τ0.2.1 4 := Q.1.2 4 (by decide)
  have e19 : τ.2.1 19 = τ0.2.1 19 := Q.1.2 19 (by decide)
  have e20 : τ.2.1 20 = τ0.2.1 20 := Q.1.2 20 (by decide)
  have eg : τ.2.1 23 = τ0.2.1 23 := Q.1.2 23 (by decide)
  intro d
  induction d with
  | zero =>
    intro i F a b h1 h2
    obtain ⟨F, rfl⟩ : ∃ k, F = k + 1 := ⟨F - 1, by omega⟩
    show (if τ.1 23 ≤ nI i then _ else _) = _
    rw [e23, if_pos (by rw [nI_leI (by omega) (by omega)]; omega)]
    rfl
  | succ d ih =>
    intro i F a b h1 h2
    obtain ⟨F, rfl⟩ : ∃ k, F = k + 1 := ⟨F - 1, by omega⟩
    obtain ⟨c1, _, c3, c4, _⟩ := call_at D (show i < n5 by omega)
    have st : ∀ a' b', (if pS τ0 (τ0.2.1 23 mi) off (τ0.2.1 19 mi) i = true then a + 1 else a) = a' → (if pS τ0 (τ0.2.1 23 mi) off (τ0.2.1 20 mi) i = true then b + 1 else b) = b' → fM_tables_j186 N0 k61 (fM_tables_l91 N0 k61 F) τ was off (nI mi) a' b' (nI i) = fM_tables_j192 N0 k61 τ was off (nI mi) (cF (pS τ0 (τ0.2.1 23 mi) off (τ0.2.1 19 mi)) (d + 1) i a) (cF (pS τ0 (τ0.2.1 23 mi) off (τ0.2.1 20 mi)) (d + 1) i b) := by
      intro a' b' q1 q2
      unfold fM_tables_j186
      rw [bnd_eq, nI_1, ih (i + 1) F a' b' (by omega) (by omega), ← q1, ← q2]
      rfl
    show (if τ.1 23 ≤ nI i then _ else _) = _
    rw [e23, if_neg (by rw [nI_leI (by omega) (by omega)]; omega), giN 12 hgm, clm, eg]
    by_cases hb : (τ0.2.1 23 mi >>> (nI i &&& 31)) &&& (1 : Int32) = 1
    · have hb' : bit (τ0.2.1 23 mi) i = true := decide_eq_true hb
      rw [if_neg (by rw [hb]; decide)]
      by_cases ho : (off >>> (nI i &&& 31)) &&& (1 : Int32) = 1
      · have ho' : bit off i = true := decide_eq_true ho
        rw [if_pos ho]
        exact st a b (by unfold pS; rw [hb', ho']; rfl) (by unfold pS; rw [hb', ho']; rfl)
      · have ho' : bit off i = false := decide_eq_false ho
        rw [if_neg ho, giN 24 (nI_b c1 (by decide)), nI_clamp (show i < 2 ^ 31 by omega), e14, c4, giN 10 (nI_b c3 (by decide)), nI_clamp (show aN τ0 i < 2 ^ 31 by omega), e4, bnd_eq, giN 12 hgm, e19]
        unfold fM_tables_j161 fM_tables_j183
        simp only [bnd_eq, giN 12 hgm, clm, e20]
        have eS : ∀ side, pS τ0 (τ0.2.1 23 mi) off side i = decide (τ0.2.1 4 (aN τ0 i) = side) := by
          intro side; unfold pS; rw [hb', ho']; rfl
        by_cases x1 : τ0.2.1 4 (aN τ0 i) = τ0.2.1 19 mi
        · rw [if_pos x1]
          have y1 : (if pS τ0 (τ0.2.1 23 mi) off (τ0.2.1 19 mi) i = true then a + 1 else a) = a + 1 := by rw [eS, if_pos (decide_eq_true x1)]
          by_cases x2 : τ0.2.1 4 (aN τ0 i) = τ0.2.1 20 mi
          · rw [if_pos x2]
            exact st _ _ y1 (by rw [eS, if_pos (decide_eq_true x2)])
          · rw [if_neg x2]
            exact st _ _ y1 (by rw [eS, if_neg (by simp only [decide_eq_true_eq]; exact x2), Int32.add_zero])
        · rw [if_neg x1]
          have y1 : (if pS τ0 (τ0.2.1 23 mi) off (τ0.2.1 19 mi) i = true then a + 1 else a) = a + 0 := by rw [eS, if_neg (by simp only [decide_eq_true_eq]; exact x1), Int32.add_zero]
          by_cases x2 : τ0.2.1 4 (aN τ0 i) = τ0.2.1 20 mi
          · rw [if_pos x2]
            exact st _ _ y1 (by rw [eS, if_pos (decide_eq_true x2)])
          · rw [if_neg x2]
            exact st _ _ y1 (by rw [eS, if_neg (by simp only [decide_eq_true_eq]; exact x2), Int32.add_zero])
    · have hb' : bit (τ0.2.1 23 mi) i = false := decide_eq_false hb
      rw [if_pos (bit_0.resolve_right hb)]
      exact st a b (by unfold pS; rw [hb']; rfl) (by unfold pS; rw [hb']; rfl)
theorem goalsC (D : DD n1 n3 n4 n5 r c σ0 τ0) {σ : St} {s f : Int32} (Q : QC σ0 w s f σ) {g off side : Int32} : ∃ v, fC_F_attackedBy N0 σ side (g &&& (off ^^^ (-1 : Int32))) = some (σ, v) ∧ bcv v = nI (cN (pS τ0 g off side) n5 0) := by
  have hn5 := D.2.2.2.1.1
  refine ⟨_, attC D Q, ?_⟩
  rw [bcv_ofF hn5]
  have key : ∀ (d i : Nat), i + d ≤ 24 → cN (fun i => bit (g &&& (off ^^^ (-1 : Int32))) i && decide (τ0.2.1 4 (aN τ0 i) = side)) d i = cN (pS τ0 g off side) d i := by
    intro d
    induction d with
    | zero => intro i _; rfl
    | succ d ih =>
      intro i hi
      show (if (bit (g &&& (off ^^^ (-1 : Int32))) i && decide (τ0.2.1 4 (aN τ0 i) = side)) = true then 1 else 0) + _ = (if ((bit g i && !bit off i) && decide (τ0.2.1 4 (aN τ0 i) = side)) = true then 1 else 0) + _
      rw [ih (i + 1) (by omega), bit_andnot (by omega)]
  rw [key n5 0 (by omega)]
theorem play_l (D : DD n1 n3 n4 n5 r c σ0 τ0) {n6 : Nat} (h6 : R6 n6 σ0 τ0) {was off : Int32} : ∀ (d i FC FM : Nat) (σ τ : St) (s f s2 f2 : Int32), i + d = n6 → d < FC → d < FM → QC σ0 w s f σ → QM τ0 w s2 f2 τ → LG σ τ →
    ∃ σ' τ', fC_L_playAll_l36 N0 FC σ off (nI i) = some (σ', ()) ∧ fM_tables_l61 N0 FM τ was off (nI i) = some (τ', ()) ∧ QC σ0 w s f σ' ∧ QM τ0 was s2 f2 τ' ∧ LG σ' τ' := by
  obtain ⟨k1, k2, k3, k4, k5, k6, k7⟩ := h6
  intro d
  induction d with
  | zero =>
    intro i FC FM σ τ s f s2 f2 h1 h2 h3 Q QMτ L
    obtain ⟨FC, rfl⟩ : ∃ k, FC = k + 1 := ⟨FC - 1, by omega⟩
    obtain ⟨FM, rfl⟩ : ∃ k, FM = k + 1 := ⟨FM - 1, by omega⟩
    have e : nI n6 ≤ nI i := by rw [nI_leI (by omega) (by omega)]; omega
    have x1 : σ.1 11 = nI n6 := by rw [Q.1.1 11 (by decide)]; exact k2
    have x2 : τ.1 24 = nI n6 := by rw [QMτ.1.1 24 (by decide)]; exact k3
    refine ⟨σ, sI τ 5 was, ?_, ?_, Q, ⟨QMτ.1.tr (KP.i (by decide)), rfl, QMτ.2.2.1, QMτ.2.2.2⟩, L⟩
    · show (if σ.1 11 ≤ nI i then _ else _) = _
      rw [x1, if_pos e]
    · show (if τ.1 24 ≤ nI i then _ else _) = _
      rw [x2, if_pos e]; rfl
  | succ d ih =>
    intro i FC FM σ τ s f s2 f2 h1 h2 h3 Q QMτ L
    have hn5 := D.2.2.2.1.1
    obtain ⟨FC, rfl⟩ : ∃ k, FC = k + 1 := ⟨FC - 1, by omega⟩
    obtain ⟨FM, rfl⟩ : ∃ k, FM = k + 1 := ⟨FM - 1, by omega⟩
    have e : ¬ nI n6 ≤ nI i := by rw [nI_leI (by omega) (by omega)]; omega
    have x1 : σ.1 11 = nI n6 := by rw [Q.1.1 11 (by decide)]; exact k2
    have x2 : τ.1 24 = nI n6 := by rw [QMτ.1.1 24 (by decide)]; exact k3
    have hi : i < n6 := by omega
    have cl : (nI i).toNatClampNeg = i := nI_clamp (by omega)
    have hg := nI_b (show i < 12 by omega) (show 12 < 2 ^ 31 by decide)
    obtain ⟨q1, q2, q3, q4, q5, q6⟩ := k7 i hi
    obtain ⟨hm, hm1, hm2, em⟩ := bt_nI q1
    obtain ⟨gt, gt1, gt2, eg⟩ := bt_nI q2
    have y15 : σ.2.1 15 = τ0.2.1 19 := (Q.1.2 15 (by decide)).trans k4
    have y16 : σ.2.1 16 = τ0.2.1 20 := (Q.1.2 16 (by decide)).trans k5
    have y18 : σ.2.1 18 = τ0.2.1 23 := (Q.1.2 18 (by decide)).trans k6
    have y17 : σ.2.1 17 = σ0.2.1 17 := Q.1.2 17 (by decide)
    obtain ⟨v1, a1, a2⟩ := goalsC D Q (g := τ0.2.1 23 i) (off := off) (side := τ0.2.1 19 i)
    obtain ⟨v2, b1, b2⟩ := goalsC D Q (g := τ0.2.1 23 i) (off := off) (side := τ0.2.1 20 i)
    have A : cF (pS τ0 (τ0.2.1 23 i) off (τ0.2.1 19 i)) n5 0 (τ0.2.1 21 i) = σ0.2.1 17 i / (10 : Int32) + bcv v1 := by rw [cF_cN, a2, q4]
    have B : cF (pS τ0 (τ0.2.1 23 i) off (τ0.2.1 20 i)) n5 0 (τ0.2.1 22 i) = (σ0.2.1 17 i - σ0.2.1 17 i / (10 : Int32) * (10 : Int32)) + bcv v2 := by rw [cF_cN, b2, q5]
    obtain ⟨σ1, τ1, c1, c2, c3, c4, c5⟩ := q_score (N1 := N0) (N2 := N0) (h := hm) (by omega) (a := σ0.2.1 17 i / (10 : Int32) + bcv v1) (b := (σ0.2.1 17 i - σ0.2.1 17 i / (10 : Int32) * (10 : Int32)) + bcv v2) L
    obtain ⟨σ2, τ2, d1, d2, d3, d4, d5⟩ := q_score (N1 := N0) (N2 := N0) (h := gt) (by omega) (a := (σ0.2.1 17 i - σ0.2.1 17 i / (10 : Int32) * (10 : Int32)) + bcv v2) (b := σ0.2.1 17 i / (10 : Int32) + bcv v1) c5
    have kC : KP [] [19, 20, 21] σ σ2 := c3.tr d3
    have kM : KP [] [24, 25, 26] τ τ2 := c4.tr d4
    have Q2 : QC σ0 w s f σ2 := ⟨Q.1.tr (kC.wk (by decide) (by decide)), by rw [kC.1 4 (by decide)]; exact Q.2.1, by rw [kC.1 5 (by decide)]; exact Q.2.2.1, by rw [kC.1 6 (by decide)]; exact Q.2.2.2⟩
    have QM2 : QM τ0 w s2 f2 τ2 := ⟨QMτ.1.tr (kM.wk (by decide) (by decide)), by rw [kM.1 5 (by decide)]; exact QMτ.2.1, by rw [kM.1 19 (by decide)]; exact QMτ.2.2.1, by rw [kM.1 18 (by decide)]; exact QMτ.2.2.2⟩
    obtain ⟨σ', τ', e1, e2, e3, e4, e5⟩ := ih (i + 1) FC FM σ2 τ2 s f s2 f2 (by omega) (by omega) (by omega) Q2 QM2 d5
    refine ⟨σ', τ', ?_, ?_, e3, e4, e5⟩
    · show (if σ.1 11 ≤ nI i then _ else _) = _
      rw [x1, if_neg e]
      simp only [giN 12 hg, bnd_eq, cl, y15, y16, y17, y18]
      rw [a1, cal_eq, q_bitCount, cal_eq]
      simp only [y15, y16, y17, y18]
      rw [b1, cal_eq, q_bitCount, cal_eq]
      simp only [y15, y16, y17, y18]
      rw [em, c1, cal_eq, c3.2 16 (by decide), y16, eg, d1, cal_eq, nI_1]
      exact e1
    · show (if τ.1 24 ≤ nI i then _ else _) = _
      rw [x2, if_neg e]
      have z21 : τ.2.1 21 = τ0.2.1 21 := QMτ.1.2 21 (by decide)
      have z22 : τ.2.1 22 = τ0.2.1 22 := QMτ.1.2 22 (by decide)
      have z19 : τ.2.1 19 = τ0.2.1 19 := QMτ.1.2 19 (by decide)
      have z20 : τ.2.1 20 = τ0.2.1 20 := QMτ.1.2 20 (by decide)
      simp only [giN 12 hg, bnd_eq, cl, z21, z22]
      rw [← nI_0, goalsM_l D (show i < 12 by omega) QMτ n5 0 N0 _ _ (by omega) (by unfold N0; omega), A, B]
      unfold fM_tables_j192
      rw [giN 12 hg, cl, z19, em, c2, cal_eq, giN 12 hg, c4.2 20 (by decide), z20, eg, d2, cal_eq, bnd_eq, nI_1]
      exact e2
theorem q_tables (D : DD n1 n3 n4 n5 r c σ0 τ0) {n6 : Nat} (h6 : R6 n6 σ0 τ0) {v w1 s f : Int32} {σ τ : St} (Q : QC σ0 w1 s f σ) (QMτ : QM τ0 w (-1) 0 τ) : ∃ σ1 σ2 σ' τ' off, fC_P_lookAs N0 σ v = some (σ1, ()) ∧ fC_F_all N0 σ1 = some (σ1, nI (2 ^ n5 - 1)) ∧ fC_P_offsideAmong N0 σ1 (nI (2 ^ n5 - 1)) = some (σ2, off) ∧ fC_L_playAll N0 σ2 off = some (σ', ()) ∧ fM_tables N0 τ v = some (τ', ()) ∧ QC σ0 v (-1) 0 σ' ∧ QM τ0 w (-1) 0 τ' ∧ LG σ' τ' := by
  have hn5 := D.2.2.2.1.1
  obtain ⟨σ1, a1, Q1, _⟩ := look_at Q v
  obtain ⟨_, _, _, _, _, _, _, _, _, e19⟩ := QC_arr D Q1
  obtain ⟨σ2, b1, b2⟩ := offsC D Q1 (bits := nI (2 ^ n5 - 1))
  have Q2 := Q1.kp b2
  have QM1 : QM τ0 v (-1) 0 (sI τ 5 v) := ⟨QMτ.1.tr (KP.i (by decide)), rfl, QMτ.2.2.1, QMτ.2.2.2⟩
  obtain ⟨_, _, _, _, _, _, _, _, _, m23⟩ := QM_arr D QM1
  obtain ⟨τ2, g1, g2⟩ := offsM D QM1 (bits := nI (2 ^ n5 - 1))
  have QM2 := QM1.kp g2
  generalize hoff : ofF (fun i => bit (nI (2 ^ n5 - 1)) i && offS τ0 c v (-1) 0 (kN τ0 i) i) n5 0 0 = off at *
  obtain ⟨σ3, c1, c2, c3⟩ := zeroC (N := N0) (off := off) 4 0 N0 σ2 rfl (by decide)
  obtain ⟨τ3, d1, d2, d3⟩ := zeroM (N := N0) (was := w) (off := off) 4 0 N0 τ2 rfl (by decide)
  have L : LG σ3 τ3 := by
    intro s hs
    obtain ⟨x1, x2, x3⟩ := c3 s hs
    obtain ⟨y1, y2, y3⟩ := d3 s hs
    rw [x1, x2, x3, y1, y2, y3]
    exact ⟨rfl, rfl, rfl⟩
  have Q3 : QC σ0 v (-1) 0 σ3 := ⟨Q2.1.tr (c2.wk (by decide) (by decide)), by rw [c2.1 4 (by decide)]; exact Q2.2.1, by rw [c2.1 5 (by decide)]; exact Q2.2.2.1, by rw [c2.1 6 (by decide)]; exact Q2.2.2.2⟩
  have QM3 : QM τ0 v (-1) 0 τ3 := ⟨QM2.1.tr (d2.wk (by decide) (by decide)), by rw [d2.1 5 (by decide)]; exact QM2.2.1, by rw [d2.1 19 (by decide)]; exact QM2.2.2.1, by rw [d2.1 18 (by decide)]; exact QM2.2.2.2⟩
  obtain ⟨σ', τ', e1, e2, e3, e4, e5⟩ := play_l D h6 (w := v) (was := w) (off := off) n6 0 N0 N0 σ3 τ3 _ _ _ _ (by omega) (by have := h6.1; unfold N0; omega) (by have := h6.1; unfold N0; omega) Q3 QM3 L
  rw [nI_0] at c1 d1 e1 e2
  refine ⟨σ1, σ2, σ', τ', off, a1, q_all hn5 e19, b1, ?_, ?_, e3, e4, e5⟩
  · unfold fC_L_playAll
    rw [c1]; exact e1
  · unfold fM_tables
    rw [bnd_eq, bnd_eq, qm_all hn5 m23, cal_eq, g1, cal_eq, QMτ.2.1, d1]
    exact e2
end LEAGUE
