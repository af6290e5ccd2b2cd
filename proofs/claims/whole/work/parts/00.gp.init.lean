/-! the first rule -/
section LEAF
variable {K V : Nat → Int32}
theorem leaf_term {pE pO : Nat → PR} {d i : Nat} (h : K i = -3 ∨ K i = -4) (h1 : ¬ K (i + 1) = 42) : pTerm K (pOne K V pE pO d) i = (true, i + 1, [V i]) := by
  have e : pOne K V pE pO d i = (true, i + 1, [V i]) := if_pos h
  unfold pTerm
  rw [e, pAnd_t rfl]
  show (if K (i + 1) = 42 then _ else _) = _
  rw [if_neg h1]
theorem leaf_sum {pE pO : Nat → PR} {d i : Nat} (h : K i = -3 ∨ K i = -4) (h1 : ¬ K (i + 1) = 42) (h2 : ¬ (K (i + 1) = 43 ∨ K (i + 1) = 45)) : pSum K (pTerm K (pOne K V pE pO d)) i = (true, i + 1, [V i]) := by
  unfold pSum
  rw [leaf_term h h1, pAnd_t rfl]
  show (if K (i + 1) = 43 ∨ K (i + 1) = 45 then _ else _) = _
  rw [if_neg h2]
theorem up_either {nt : Nat → PR} {i j : Nat} {c : List Int32} (h : nt i = (true, j, c)) (h1 : ¬ K j = 266) (h2 : ¬ K j = 265) : pEither K (pBoth K nt) i = (true, j, c) := by
  have e : pBoth K nt i = (true, j, c) := by
    unfold pBoth
    rw [h, pAnd_t rfl]
    show (if K j = 266 then _ else _) = _
    rw [if_neg h1]
  unfold pEither
  rw [e, pAnd_t rfl]
  show (if K j = 265 then _ else _) = _
  rw [if_neg h2]
end LEAF
theorem rule_text {K V : Nat → Int32} (h0 : K 0 = 262) (h1 : K 1 = 267) (h2 : K 2 = -4) (h3 : K 3 = 61) (h4 : K 4 = -3) (h5 : K 5 = 59) (h6 : K 6 = 263) (h7 : K 7 = -4) (h8 : K 8 = 59) (h9 : K 9 = 264) (h10 : K 10 = -3) (h11 : K 11 = 59) (h12 : K 12 = -1) : pText K V = (true, 12, [V 2, V 4, -15, -13], [V 7], [V 10]) := by
  -- one leaf, a sign behind it
  have sum1 : ∀ {pE pO : Nat → PR} {d i : Nat}, (K i = -3 ∨ K i = -4) → (K (i + 1) = 59 ∨ K (i + 1) = 61) → pSum K (pTerm K (pOne K V pE pO d)) i = (true, i + 1, [V i]) := by
    intro pE pO d i a b
    refine leaf_sum a ?_ ?_ <;> rcases b with b | b <;> rw [b] <;> decide
  have not1 : ∀ {pE pO pN : Nat → PR} {d d' i : Nat}, (K i = -3 ∨ K i = -4) → K (i + 1) = 59 → pNot K (pSum K (pTerm K (pOne K V pE pO d))) pN d' i = (true, i + 1, [V i]) := by
    intro pE pO pN d d' i a b
    unfold pNot
    rw [if_neg (by rcases a with a | a <;> rw [a] <;> decide), sum1 a (Or.inl b), pAnd_t rfl]
    show (if K (i + 1) = 60 ∨ K (i + 1) = 61 then _ else _) = _
    rw [if_neg (by rw [b]; decide)]
  have lv1 : ∀ {i : Nat}, (K i = -3 ∨ K i = -4) → K (i + 1) = 59 → (pLv K V 5).1 i = (true, i + 1, [V i]) := by
    intro i a b
    refine up_either (not1 a b) ?_ ?_ <;> rw [b] <;> decide
  have not2 : ∀ {pE pO pN : Nat → PR} {d d' : Nat}, pNot K (pSum K (pTerm K (pOne K V pE pO d))) pN d' 2 = (true, 5, [V 2, V 4, -15]) := by
    intro pE pO pN d d'
    unfold pNot
    rw [if_neg (by rw [h2]; decide), sum1 (Or.inr h2) (Or.inr h3), pAnd_t rfl]
    show (if K 3 = 60 ∨ K 3 = 61 then _ else _) = _
    rw [if_pos (Or.inr h3), sum1 (i := 4) (Or.inl h4) (Or.inl h5), pAnd_t rfl]
    show (true, 5, [V 2] ++ [V 4] ++ [if K 3 = 60 then -14 else -15]) = _
    rw [if_neg (by rw [h3]; decide)]
    rfl
  have lv2 : (pLv K V 5).1 1 = (true, 5, [V 2, V 4, -15, -13]) := by
    refine up_either ?_ ?_ ?_
    · unfold pNot
      rw [if_pos h1, if_neg (by decide)]
      have e : (pLv K V 4).2.2 (1 + 1) = (true, 5, [V 2, V 4, -15]) := not2
      rw [e, pAnd_t rfl]
      rfl
    · rw [h5]; decide
    · rw [h5]; decide
  have s0 : pSec K V 262 0 = (true, 6, [V 2, V 4, -15, -13]) := by
    unfold pSec
    rw [if_pos h0, lv2, pAnd_t rfl]
    show (if K 5 = 59 then _ else _) = _
    rw [if_pos h5]
  have s1 : pSec K V 263 6 = (true, 9, [V 7]) := by
    unfold pSec
    rw [if_pos h6, lv1 (i := 7) (Or.inr h7) h8, pAnd_t rfl]
    show (if K 8 = 59 then _ else _) = _
    rw [if_pos h8]
  have s2 : pSec K V 264 9 = (true, 12, [V 10]) := by
    unfold pSec
    rw [if_pos h9, lv1 (i := 10) (Or.inl h10) h11, pAnd_t rfl]
    show (if K 11 = 59 then _ else _) = _
    rw [if_pos h11]
  unfold pText
  simp only [s0, s1, s2, if_true, h12]
def bR (i : Nat) : Int32 := if i < 42 then sch 0 i else 32
theorem bR_tk42 : (tk bR 42 0 = (262, 0, 0, 5) ∧ tk bR 42 5 = (267, 0, 6, 9) ∧ tk bR 42 9 = (-4, -1, 10, 14) ∧ tk bR 42 14 = (61, 0, 15, 16) ∧ tk bR 42 16 = (-3, 0, 17, 18) ∧ tk bR 42 18 = (59, 0, 19, 20) ∧ tk bR 42 20 = (263, 0, 21, 25)) ∧ (tk bR 42 25 = (-4, -6, 26, 31) ∧ tk bR 42 31 = (59, 0, 32, 33) ∧ tk bR 42 33 = (264, 0, 34, 38) ∧ tk bR 42 38 = (-3, 1, 39, 40) ∧ tk bR 42 40 = (59, 0, 41, 42) ∧ tk bR 42 42 = (-1, 0, 42, 42)) :=
  ⟨⟨by decide +kernel, by decide +kernel, by decide +kernel, by decide +kernel, by decide +kernel, by decide +kernel, by decide +kernel⟩, by decide +kernel, by decide +kernel, by decide +kernel, by decide +kernel, by decide +kernel, by decide +kernel⟩
theorem bR_tk48 : (tk bR 48 0 = (262, 0, 0, 5) ∧ tk bR 48 5 = (267, 0, 6, 9) ∧ tk bR 48 9 = (-4, -1, 10, 14) ∧ tk bR 48 14 = (61, 0, 15, 16) ∧ tk bR 48 16 = (-3, 0, 17, 18) ∧ tk bR 48 18 = (59, 0, 19, 20) ∧ tk bR 48 20 = (263, 0, 21, 25)) ∧ (tk bR 48 25 = (-4, -6, 26, 31) ∧ tk bR 48 31 = (59, 0, 32, 33) ∧ tk bR 48 33 = (264, 0, 34, 38) ∧ tk bR 48 38 = (-3, 1, 39, 40) ∧ tk bR 48 40 = (59, 0, 41, 42) ∧ tk bR 48 42 = (-1, 0, 48, 48)) :=
  ⟨⟨by decide +kernel, by decide +kernel, by decide +kernel, by decide +kernel, by decide +kernel, by decide +kernel, by decide +kernel⟩, by decide +kernel, by decide +kernel, by decide +kernel, by decide +kernel, by decide +kernel, by decide +kernel⟩
theorem rule_sz {sz : Nat} (h : (tk bR sz 0 = (262, 0, 0, 5) ∧ tk bR sz 5 = (267, 0, 6, 9) ∧ tk bR sz 9 = (-4, -1, 10, 14) ∧ tk bR sz 14 = (61, 0, 15, 16) ∧ tk bR sz 16 = (-3, 0, 17, 18) ∧ tk bR sz 18 = (59, 0, 19, 20) ∧ tk bR sz 20 = (263, 0, 21, 25)) ∧ (tk bR sz 25 = (-4, -6, 26, 31) ∧ tk bR sz 31 = (59, 0, 32, 33) ∧ tk bR sz 33 = (264, 0, 34, 38) ∧ tk bR sz 38 = (-3, 1, 39, 40) ∧ tk bR sz 40 = (59, 0, 41, 42) ∧ tk bR sz 42 = (-1, 0, sz, sz))) : pText (tK bR sz) (tV bR sz) = (true, 12, [-1, 0, -15, -13], [-6], [1]) := by
  obtain ⟨⟨a0, a1, a2, a3, a4, a5, a6⟩, a7, a8, a9, a10, a11, a12⟩ := h
  have p0 : tPos bR sz 0 = 0 := rfl
  have st : ∀ {k p e : Nat} {K V : Int32} {S : Nat}, tPos bR sz k = p → tk bR sz p = (K, V, S, e) → tPos bR sz (k + 1) = e ∧ tK bR sz k = K ∧ tV bR sz k = V := by
    intro k p e K V S h1 h2
    refine ⟨?_, ?_, ?_⟩
    · show (tk bR sz (tPos bR sz k)).2.2.2 = e
      rw [h1, h2]
    · unfold tK; rw [h1, h2]
    · unfold tV; rw [h1, h2]
  obtain ⟨p1, k0, _⟩ := st p0 a0
  obtain ⟨p2, k1, _⟩ := st p1 a1
  obtain ⟨p3, k2, v2⟩ := st p2 a2
  obtain ⟨p4, k3, _⟩ := st p3 a3
  obtain ⟨p5, k4, v4⟩ := st p4 a4
  obtain ⟨p6, k5, _⟩ := st p5 a5
  obtain ⟨p7, k6, _⟩ := st p6 a6
  obtain ⟨p8, k7, v7⟩ := st p7 a7
  obtain ⟨p9, k8, _⟩ := st p8 a8
  obtain ⟨p10, k9, _⟩ := st p9 a9
  obtain ⟨p11, k10, v10⟩ := st p10 a10
  obtain ⟨p12, k11, _⟩ := st p11 a11
  obtain ⟨p13, k12, _⟩ := st p12 a12
  rw [rule_text k0 k1 k2 k3 k4 k5 k6 k7 k8 k9 k10 k11 k12, v2, v4, v7, v10]
theorem initC_l : ∀ (d i F : Nat) (σ : St), i + d = 42 → d < F → σ.1 20 = nI i → ∃ σ', fC_init_l72 N0 F σ (nI i) = fC_init_j103 N0 σ' ∧ KP [20] [53] σ σ' ∧ σ'.1 20 = nI 42 ∧ ∀ z, σ'.2.1 53 z = if i ≤ z ∧ z < 42 then sch 0 z else σ.2.1 53 z := by
  intro d
  induction d with
  | zero =>
    intro i F σ h1 h2 h3
    obtain ⟨F, rfl⟩ : ∃ k, F = k + 1 := ⟨F - 1, by omega⟩
    have hi : i = 42 := by omega
    subst hi
    refine ⟨σ, ?_, KP.rf, h3, fun z => by rw [if_neg (by omega)]⟩
    show (if (42 : Int32) ≤ nI 42 then _ else _) = _
    rw [if_pos (by decide)]
  | succ d ih =>
    intro i F σ h1 h2 h3
    obtain ⟨F, rfl⟩ : ∃ k, F = k + 1 := ⟨F - 1, by omega⟩
    have cl : (nI i).toNatClampNeg = i := nI_clamp (by omega)
    obtain ⟨σ', e1, e2, e3, e4⟩ := ih (i + 1) F (sI (sA σ 53 (nI i) (sch 0 i)) 20 (nI i + 1)) (by omega) (by omega) (by rw [nI_1]; rfl)
    refine ⟨σ', ?_, ((KP.a (by decide)).tr (KP.i (by decide))).tr e2, e3, fun z => ?_⟩
    · show (if (42 : Int32) ≤ nI i then _ else _) = _
      rw [if_neg (by rw [show (42 : Int32) = nI 42 from rfl, nI_leI (by decide) (by omega)]; omega), giN 42 (nI_b (by omega) (by decide)), cl]
      unfold fC_B_put
      rw [h3, if_neg (by rw [show (160 : Int32) = nI 160 from rfl, nI_leI (by decide) (by omega)]; omega), giN 160 (nI_b (by omega) (by decide)), bnd_eq, bnd_eq, cal_eq, bnd_eq, nI_1]
      rw [show (sA σ 53 (nI i) (sch 0 i)).1 20 = nI i from h3]
      exact e1
    · rw [e4]
      show (if _ then sch 0 z else upd (σ.2.1 53) (nI i).toNatClampNeg (sch 0 i) z) = _
      rw [cl, upd_at]
      by_cases hz : z = i
      · rw [if_neg (by omega), if_pos hz, if_pos (by omega), hz]
      · rw [if_neg hz]
        by_cases hz2 : i ≤ z ∧ z < 42
        · rw [if_pos hz2, if_pos (by omega)]
        · rw [if_neg hz2, if_neg (by omega)]
theorem spell_l {wd : Int64} {a : Nat} (ha : a + 8 ≤ 960) : ∀ (d i F : Nat) (τ : St), i + d = 8 → d < F → ∃ τ', fM_spell_l3 N0 F τ (nI a) wd (nI i) = some (τ', ()) ∧ KP [] [1] τ τ' ∧ ∀ z, τ'.2.1 1 z = if a + i ≤ z ∧ z < a + 8 then ((wd >>> (((56 : Int32) - ((8 : Int32) * nI (z - a))).toInt64 &&& 63)) &&& (255 : Int64)).toInt32 else τ.2.1 1 z := by
  intro d
  induction d with
  | zero =>
    intro i F τ h1 h2
    obtain ⟨F, rfl⟩ : ∃ k, F = k + 1 := ⟨F - 1, by omega⟩
    refine ⟨τ, ?_, KP.rf, fun z => by rw [if_neg (by omega)]⟩
    show (if (8 : Int32) ≤ nI i then _ else _) = _
    rw [if_pos (by rw [show i = 8 by omega]; decide)]
  | succ d ih =>
    intro i F τ h1 h2
    obtain ⟨F, rfl⟩ : ∃ k, F = k + 1 := ⟨F - 1, by omega⟩
    have cl : (nI (a + i)).toNatClampNeg = a + i := nI_clamp (by omega)
    obtain ⟨τ', e1, e2, e3⟩ := ih (i + 1) F (sA τ 1 (nI (a + i)) (((wd >>> (((56 : Int32) - ((8 : Int32) * nI i)).toInt64 &&& 63)) &&& (255 : Int64)).toInt32)) (by omega) (by omega)
    refine ⟨τ', ?_, (KP.a (by decide)).tr e2, fun z => ?_⟩
    · show (if (8 : Int32) ≤ nI i then _ else _) = _
      rw [if_neg (by rw [show (8 : Int32) = nI 8 from rfl, nI_leI (by decide) (by omega)]; omega), nI_add, giN 960 (nI_b (by omega) (by decide)), bnd_eq, bnd_eq, nI_1]
      exact e1
    · rw [e3]
      show (if _ then _ else upd (τ.2.1 1) (nI (a + i)).toNatClampNeg _ z) = _
      rw [cl, upd_at]
      by_cases hz : z = a + i
      · rw [if_neg (by omega), if_pos hz, if_pos (by omega), hz, show a + i - a = i by omega]
      · rw [if_neg hz]
        by_cases hz2 : a + i ≤ z ∧ z < a + 8
        · rw [if_pos hz2, if_pos (by omega)]
        · rw [if_neg hz2, if_neg (by omega)]
def spW (k : Nat) : Int64 := ([7165074649424883311, 8367811671488733245, 2319389246415070561, 8223704214119147552, 4260528858286596145, 2322485355189641248] : List Int64).getD k 0
theorem spW_b : ∀ k, k < 6 → ∀ j, j < 8 → ((spW k >>> (((56 : Int32) - ((8 : Int32) * nI j)).toInt64 &&& 63)) &&& (255 : Int64)).toInt32 = bR (8 * k + j) := by decide +kernel
theorem q_spell {k : Nat} (hk : k < 6) (τ : St) (h : ∀ z, z < 8 * k → τ.2.1 1 z = bR z) : ∃ τ', fM_spell N0 τ (nI (8 * k)) (spW k) = some (τ', ()) ∧ KP [] [1] τ τ' ∧ ∀ z, z < 8 * (k + 1) → τ'.2.1 1 z = bR z := by
  obtain ⟨τ', e1, e2, e3⟩ := spell_l (wd := spW k) (a := 8 * k) (by omega) 8 0 N0 τ rfl (by decide)
  rw [nI_0] at e1
  refine ⟨τ', e1, e2, fun z hz => ?_⟩
  rw [e3]
  by_cases h1 : 8 * k + 0 ≤ z ∧ z < 8 * k + 8
  · rw [if_pos h1, spW_b k hk (z - 8 * k) (by omega), show 8 * k + (z - 8 * k) = z by omega]
  · rw [if_neg h1]; exact h z (by omega)
theorem bR_bt : ∀ i, i < 48 → bt (bR i) 0 255 := by decide +kernel
theorem e_init : ∃ (σ τ : St), fC_init N0 σC0 = some (σ, ()) ∧ fM_init N0 σM0 = some (τ, ()) ∧ Rel σ τ := by
  obtain ⟨σ1, a1, a2, a3, a4⟩ := initC_l 42 0 N0 σC0 rfl (by decide) rfl
  rw [nI_0] at a1
  have hb : ∀ i, i < 42 → σ1.2.1 53 i = bR i := fun i hi => by
    rw [a4, if_pos (by omega)]
    show _ = if i < 42 then sch 0 i else 32
    rw [if_pos hi]
  obtain ⟨σ2, r, b1, b2, b3, b4⟩ := q_readTape (b := bR) (sz := 42) (by decide) a3 hb
  rw [rule_sz bR_tk42] at b4
  rcases b4 with ⟨_, p2, p3, p4, p5, p6, p7⟩ | ⟨z, _⟩
  rotate_left
  · cases z
  have s17 : σ2.1 17 = nI 0 := by rw [b2.1 17 (by decide), a2.1 17 (by decide)]; rfl
  obtain ⟨σ3, d1, d2, d3, d4, d5, d6⟩ := q_keep (n := 0) (e0 := 4) (e1 := 5) (e2 := 6) (σ := σ2) (by decide) s17 p5 p6 p7
  obtain ⟨τ0, f0, g0, h0⟩ := q_spell (k := 0) (by decide) σM0 (fun z hz => absurd hz (by omega))
  obtain ⟨τ1, f1, g1, h1⟩ := q_spell (k := 1) (by decide) τ0 h0
  obtain ⟨τ2, f2, g2, h2⟩ := q_spell (k := 2) (by decide) τ1 h1
  obtain ⟨τ3, f3, g3, h3⟩ := q_spell (k := 3) (by decide) τ2 h2
  obtain ⟨τ4, f4, g4, h4⟩ := q_spell (k := 4) (by decide) τ3 h3
  obtain ⟨τ5, f5, g5, h5⟩ := q_spell (k := 5) (by decide) τ4 h4
  have kC : KP [9, 10, 17, 20, 21] [13, 14, 41, 42, 43, 53, 54, 55, 56] σC0 σ3 := ((a2.wk (by decide) (by decide)).tr (b2.wk (by decide) (by decide))).tr (d2.wk (by decide) (by decide))
  have kM : KP [1] [1, 2] σM0 (sI (sA τ5 2 0 48) 1 1) := (((((((g0.tr g1).tr g2).tr g3).tr g4).tr g5).wk (by decide) (by decide)).tr (KP.a (by decide))).tr (KP.i (by decide))
  have b0 : bt (0 : Int32) 0 0 := by decide
  refine ⟨σ3, sI (sA τ5 2 0 48) 1 1, ?_, ?_, 0, 0, 0, 0, 0, 0, 1, ?_, ?_, ?_, ?_, ?_, ?_, ?_, ?_, ?_, ?_⟩
  · unfold fC_init
    rw [a1]
    unfold fC_init_j103
    rw [b1, cal_eq, d1, cal_eq]
  · unfold fM_init
    have f0 : fM_spell N0 σM0 0 7165074649424883311 = some (τ0, ()) := f0
    have f1 : fM_spell N0 τ0 8 8367811671488733245 = some (τ1, ()) := f1
    have f2 : fM_spell N0 τ1 16 2319389246415070561 = some (τ2, ()) := f2
    have f3 : fM_spell N0 τ2 24 8223704214119147552 = some (τ3, ()) := f3
    have f4 : fM_spell N0 τ3 32 4260528858286596145 = some (τ4, ()) := f4
    have f5 : fM_spell N0 τ4 40 2322485355189641248 = some (τ5, ()) := f5
    rw [f0, cal_eq, f1, cal_eq, f2, cal_eq, f3, cal_eq, f4, cal_eq, f5, cal_eq, giN 6 (by decide), bnd_eq, bnd_eq]
  · exact R1_f (σ := σC0) (τ := σM0) ⟨by decide, rfl, rfl, rfl, rfl, rfl, rfl, fun _ => bt_wk b0 (by decide) (by decide), fun _ => bt_wk b0 (by decide) (by decide), fun _ => bt_wk b0 (by decide) (by decide), fun _ => bt_wk b0 (by decide) (by decide), fun _ _ => rfl⟩ kC kM (by decide)
  · exact R2_f (σ := σC0) (τ := σM0) ⟨rfl, bt_wk b0 (by decide) (by decide), rfl⟩ kC kM (by decide)
  · exact R3_f (σ := σC0) (τ := σM0) ⟨by decide, rfl, rfl, rfl, rfl, rfl, fun i hi => absurd hi (Nat.not_lt_zero i), fun _ => bt_wk b0 (by decide) (by decide), fun _ => bt_wk b0 (by decide) (by decide)⟩ kC kM (by decide)
  · exact R4_f (σ := σC0) (τ := σM0) ⟨by decide, rfl, rfl, rfl, rfl, fun _ => bt_wk b0 (by decide) (by decide), fun _ => bt_wk b0 (by decide) (by decide)⟩ kC kM (by decide)
  · exact R5_f (σ := σC0) (τ := σM0) ⟨by decide, rfl, rfl, rfl, rfl, rfl, rfl, rfl, rfl, fun i hi => absurd hi (Nat.not_lt_zero i)⟩ kC kM (by decide)
  · exact R6_f (σ := σC0) (τ := σM0) ⟨by decide, rfl, rfl, rfl, rfl, rfl, fun i hi => absurd hi (Nat.not_lt_zero i)⟩ kC kM (by decide)
  · exact R7_f (σ := σC0) (τ := σM0) ⟨by decide, rfl, rfl, rfl, rfl, fun _ => bt_wk b0 (by decide) (by decide), fun _ => bt_wk b0 (by decide) (by decide)⟩ kC kM (by decide)
  · refine ⟨by decide, by decide, d3, rfl, ?_, ?_, fun t ht => ?_, 0, by decide, ?_, ?_, fun i hi => absurd hi (Nat.not_lt_zero i)⟩
    · rw [kC.1 18 (by decide), kM.1 2 (by decide)]; rfl
    · rw [kM.1 2 (by decide)]; exact bt_wk b0 (by decide) (by decide)
    · have ht : t = 0 := by omega
      subst ht
      refine ⟨bR, 48, 12, [-1, 0, -15, -13], [-6], [1], by decide, rfl, fun i hi => ?_, rule_sz bR_tk48, by decide, fun i hi => ?_, ?_, ?_, ?_, ?_, ?_, ?_⟩
      · show τ5.2.1 1 (160 * 0 + i) = _ ∧ _
        rw [show 160 * 0 + i = i by omega, h5 i hi]
        exact ⟨rfl, bR_bt i hi⟩
      · rw [d4, if_pos (by have hi : i < 6 := hi; omega), show 160 * 0 + i - 160 * 0 = i by omega]
        exact p4 i hi
      · rw [d5]; rfl
      · rw [d6]; rfl
      · rw [d5]; rfl
      · rw [d6]; rfl
      · rw [d5]; rfl
      · rw [d6]; rfl
    · rw [d2.1 20 (by decide), b3]; rfl
    · rw [kM.1 3 (by decide)]; rfl
  · exact Or.inl ⟨by rw [kC.1 2 (by decide)]; rfl, by rw [kM.1 26 (by decide)]; rfl⟩
  · refine R10_f (σ := σC0) (τ := σM0) (fun s hs => Or.inl ⟨?_, rfl, rfl⟩) kC kM (by decide)
    have : s = 0 ∨ s = 1 ∨ s = 2 ∨ s = 3 := by omega
    rcases this with rfl | rfl | rfl | rfl <;> rfl
