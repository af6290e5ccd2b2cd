theorem tC6_in {N m : Nat} {k2 : St → Int32 → Option (St × Unit)} (hm : m < 10) : ∀ (d p F : Nat) (σ : St), p + d = 4 → d < F → ∃ σ', fC_S_takeMenOf_6_l44 N k2 F σ (nI m) (nI (4 * m + p)) = k2 σ' (nI (m + 1)) ∧ KP [] [31] σ σ' ∧ ∀ z, σ'.2.1 31 z = if 4 * m + p ≤ z ∧ z < 4 * m + 4 then σ.2.1 35 z else σ.2.1 31 z := by
  intro d
  induction d with
  | zero =>
    intro p F σ h1 h2
    obtain ⟨F, rfl⟩ : ∃ k, F = k + 1 := ⟨F - 1, by omega⟩
    refine ⟨σ, ?_, KP.rf, fun z => by rw [if_neg (by omega)]⟩
    show (if nI m * 4 + 4 ≤ nI (4 * m + p) then _ else _) = _
    rw [show (4 : Int32) = nI 4 from rfl, pk_mul, nI_add, if_pos (by rw [nI_leI (by omega) (by omega)]; omega)]
    unfold fC_S_takeMenOf_6_j71
    rw [bnd_eq, nI_1]
  | succ d ih =>
    intro p F σ h1 h2
    obtain ⟨F, rfl⟩ : ∃ k, F = k + 1 := ⟨F - 1, by omega⟩
    obtain ⟨σ', e1, e2, e3⟩ := ih (p + 1) F (sA σ 31 (nI (4 * m + p)) (σ.2.1 35 (4 * m + p))) (by omega) (by omega)
    refine ⟨σ', ?_, (KP.a (by decide)).tr e2, fun z => ?_⟩
    · show (if nI m * 4 + 4 ≤ nI (4 * m + p) then _ else _) = _
      rw [show (4 : Int32) = nI 4 from rfl, pk_mul, nI_add, if_neg (by rw [nI_leI (by omega) (by omega)]; omega), giN 40 (nI_b (by omega) (by decide)), giN 40 (nI_b (by omega) (by decide)), bnd_eq, bnd_eq, nI_1, nI_clamp (by omega), show 4 * m + p + 1 = 4 * m + (p + 1) by omega, e1]
    · rw [e3]
      show (if _ then σ.2.1 35 z else upd (σ.2.1 31) (nI (4 * m + p)).toNatClampNeg (σ.2.1 35 (4 * m + p)) z) = _
      rw [nI_clamp (by omega)]
      unfold upd
      by_cases hk : z = 4 * m + p
      · rw [if_pos hk, if_pos (show 4 * m + p ≤ z ∧ z < 4 * m + 4 by omega), hk]; split <;> rfl
      · rw [if_neg hk]
        by_cases hk2 : 4 * m + p ≤ z ∧ z < 4 * m + 4
        · rw [if_pos hk2, if_pos (by omega)]
        · rw [if_neg hk2, if_neg (by omega)]
theorem tC6_out {N n : Nat} (hN : 5 ≤ N) (hn : n ≤ 10) : ∀ (d m F : Nat) (σ : St), m + d = n → d < F → σ.1 14 = nI n → ∃ σ', fC_S_takeMenOf_6_l2 N F σ (nI m) = some (σ', ()) ∧ KP [] [29, 30, 31] σ σ' ∧ (∀ z, σ'.2.1 29 z = if m ≤ z ∧ z < n then σ.2.1 33 z else σ.2.1 29 z) ∧ (∀ z, σ'.2.1 30 z = if m ≤ z ∧ z < n then σ.2.1 34 z else σ.2.1 30 z) ∧ (∀ z, σ'.2.1 31 z = if 4 * m ≤ z ∧ z < 4 * n then σ.2.1 35 z else σ.2.1 31 z) := by
  intro d
  induction d with
  | zero =>
    intro m F σ h1 h2 h3
    obtain ⟨F, rfl⟩ : ∃ k, F = k + 1 := ⟨F - 1, by omega⟩
    refine ⟨σ, ?_, KP.rf, fun z => by rw [if_neg (by omega)], fun z => by rw [if_neg (by omega)], fun z => by rw [if_neg (by omega)]⟩
    show (if σ.1 14 ≤ nI m then _ else _) = _
    rw [h3, if_pos (by rw [nI_leI (by omega) (by omega)]; omega)]
  | succ d ih =>
    intro m F σ h1 h2 h3
    obtain ⟨F, rfl⟩ : ∃ k, F = k + 1 := ⟨F - 1, by omega⟩
    obtain ⟨σ1, i1, i2, i3⟩ := tC6_in (N := N) (m := m) (k2 := fC_S_takeMenOf_6_l2 N F) (by omega) 4 0 N (sA (sA σ 29 (nI m) (σ.2.1 33 m)) 30 (nI m) (σ.2.1 34 m)) rfl (by omega)
    obtain ⟨σ', e1, e2, e3, e4, e5⟩ := ih (m + 1) F σ1 (by omega) (by omega) (by rw [i2.1 14 (by decide)]; exact h3)
    have cl : (nI m).toNatClampNeg = m := nI_clamp (by omega)
    refine ⟨σ', ?_, (((KP.a (by decide)).tr (KP.a (by decide))).tr (i2.wk (by decide) (by decide))).tr e2, fun z => ?_, fun z => ?_, fun z => ?_⟩
    · show (if σ.1 14 ≤ nI m then _ else if (10 : Int32) ≤ nI m then _ else _) = _
      rw [h3, if_neg (by rw [nI_leI (by omega) (by omega)]; omega), if_neg (by rw [show (10 : Int32) = nI 10 from rfl, nI_leI (by omega) (by omega)]; omega)]
      simp only [giN 10 (nI_b (show m < 10 by omega) (by decide)), bnd_eq, cl]
      rw [show nI m * 4 = nI (4 * m + 0) by rw [show (4 : Int32) = nI 4 from rfl, pk_mul, Nat.mul_comm]; rfl]
      exact i1.trans e1
    · rw [e3, i2.2 29 (by decide), i2.2 33 (by decide)]
      show (if _ then σ.2.1 33 z else upd (σ.2.1 29) (nI m).toNatClampNeg (σ.2.1 33 m) z) = _
      rw [cl]; unfold upd
      by_cases hz : z = m
      · rw [if_neg (by omega), if_pos hz, if_pos (by omega), hz]
      · rw [if_neg hz]
        by_cases hk2 : m ≤ z ∧ z < n
        · rw [if_pos hk2, if_pos (by omega)]
        · rw [if_neg hk2, if_neg (by omega)]
    · rw [e4, i2.2 30 (by decide), i2.2 34 (by decide)]
      show (if _ then σ.2.1 34 z else upd (σ.2.1 30) (nI m).toNatClampNeg (σ.2.1 34 m) z) = _
      rw [cl]; unfold upd
      by_cases hz : z = m
      · rw [if_neg (by omega), if_pos hz, if_pos (by omega), hz]
      · rw [if_neg hz]
        by_cases hk2 : m ≤ z ∧ z < n
        · rw [if_pos hk2, if_pos (by omega)]
        · rw [if_neg hk2, if_neg (by omega)]
    · rw [e5, i3, i2.2 35 (by decide)]
      show (if _ then σ.2.1 35 z else if _ then σ.2.1 35 z else σ.2.1 31 z) = _
      by_cases hz : 4 * (m + 1) ≤ z ∧ z < 4 * n
      · rw [if_pos hz, if_pos (by omega)]
      · rw [if_neg hz]
        by_cases hk2 : 4 * m + 0 ≤ z ∧ z < 4 * m + 4
        · rw [if_pos hk2, if_pos (by omega)]
        · rw [if_neg hk2, if_neg (by omega)]
theorem tC7_in {N m : Nat} {k2 : St → Int32 → Option (St × Unit)} (hm : m < 10) : ∀ (d p F : Nat) (σ : St), p + d = 4 → d < F → ∃ σ', fC_S_takeMenOf_7_l44 N k2 F σ (nI m) (nI (4 * m + p)) = k2 σ' (nI (m + 1)) ∧ KP [] [35] σ σ' ∧ ∀ z, σ'.2.1 35 z = if 4 * m + p ≤ z ∧ z < 4 * m + 4 then σ.2.1 31 z else σ.2.1 35 z := by
  intro d
  induction d with
  | zero =>
    intro p F σ h1 h2
    obtain ⟨F, rfl⟩ : ∃ k, F = k + 1 := ⟨F - 1, by omega⟩
    refine ⟨σ, ?_, KP.rf, fun z => by rw [if_neg (by omega)]⟩
    show (if nI m * 4 + 4 ≤ nI (4 * m + p) then _ else _) = _
    rw [show (4 : Int32) = nI 4 from rfl, pk_mul, nI_add, if_pos (by rw [nI_leI (by omega) (by omega)]; omega)]
    unfold fC_S_takeMenOf_7_j71
    rw [bnd_eq, nI_1]
  | succ d ih =>
    intro p F σ h1 h2
    obtain ⟨F, rfl⟩ : ∃ k, F = k + 1 := ⟨F - 1, by omega⟩
    obtain ⟨σ', e1, e2, e3⟩ := ih (p + 1) F (sA σ 35 (nI (4 * m + p)) (σ.2.1 31 (4 * m + p))) (by omega) (by omega)
    refine ⟨σ', ?_, (KP.a (by decide)).tr e2, fun z => ?_⟩
    · show (if nI m * 4 + 4 ≤ nI (4 * m + p) then _ else _) = _
      rw [show (4 : Int32) = nI 4 from rfl, pk_mul, nI_add, if_neg (by rw [nI_leI (by omega) (by omega)]; omega), giN 40 (nI_b (by omega) (by decide)), giN 40 (nI_b (by omega) (by decide)), bnd_eq, bnd_eq, nI_1, nI_clamp (by omega), show 4 * m + p + 1 = 4 * m + (p + 1) by omega, e1]
    · rw [e3]
      show (if _ then σ.2.1 31 z else upd (σ.2.1 35) (nI (4 * m + p)).toNatClampNeg (σ.2.1 31 (4 * m + p)) z) = _
      rw [nI_clamp (by omega)]
      unfold upd
      by_cases hk : z = 4 * m + p
      · rw [if_pos hk, if_pos (show 4 * m + p ≤ z ∧ z < 4 * m + 4 by omega), hk]; split <;> rfl
      · rw [if_neg hk]
        by_cases hk2 : 4 * m + p ≤ z ∧ z < 4 * m + 4
        · rw [if_pos hk2, if_pos (by omega)]
        · rw [if_neg hk2, if_neg (by omega)]
theorem tC7_out {N n : Nat} (hN : 5 ≤ N) (hn : n ≤ 10) : ∀ (d m F : Nat) (σ : St), m + d = n → d < F → σ.1 13 = nI n → ∃ σ', fC_S_takeMenOf_7_l2 N F σ (nI m) = some (σ', ()) ∧ KP [] [33, 34, 35] σ σ' ∧ (∀ z, σ'.2.1 33 z = if m ≤ z ∧ z < n then σ.2.1 29 z else σ.2.1 33 z) ∧ (∀ z, σ'.2.1 34 z = if m ≤ z ∧ z < n then σ.2.1 30 z else σ.2.1 34 z) ∧ (∀ z, σ'.2.1 35 z = if 4 * m ≤ z ∧ z < 4 * n then σ.2.1 31 z else σ.2.1 35 z) := by
  intro d
  induction d with
  | zero =>
    intro m F σ h1 h2 h3
    obtain ⟨F, rfl⟩ : ∃ k, F = k + 1 := ⟨F - 1, by omega⟩
    refine ⟨σ, ?_, KP.rf, fun z => by rw [if_neg (by omega)], fun z => by rw [if_neg (by omega)], fun z => by rw [if_neg (by omega)]⟩
    show (if σ.1 13 ≤ nI m then _ else _) = _
    rw [h3, if_pos (by rw [nI_leI (by omega) (by omega)]; omega)]
  | succ d ih =>
    intro m F σ h1 h2 h3
    obtain ⟨F, rfl⟩ : ∃ k, F = k + 1 := ⟨F - 1, by omega⟩
    obtain ⟨σ1, i1, i2, i3⟩ := tC7_in (N := N) (m := m) (k2 := fC_S_takeMenOf_7_l2 N F) (by omega) 4 0 N (sA (sA σ 33 (nI m) (σ.2.1 29 m)) 34 (nI m) (σ.2.1 30 m)) rfl (by omega)
    obtain ⟨σ', e1, e2, e3, e4, e5⟩ := ih (m + 1) F σ1 (by omega) (by omega) (by rw [i2.1 13 (by decide)]; exact h3)
    have cl : (nI m).toNatClampNeg = m := nI_clamp (by omega)
    refine ⟨σ', ?_, (((KP.a (by decide)).tr (KP.a (by decide))).tr (i2.wk (by decide) (by decide))).tr e2, fun z => ?_, fun z => ?_, fun z => ?_⟩
    · show (if σ.1 13 ≤ nI m then _ else if (10 : Int32) ≤ nI m then _ else _) = _
      rw [h3, if_neg (by rw [nI_leI (by omega) (by omega)]; omega), if_neg (by rw [show (10 : Int32) = nI 10 from rfl, nI_leI (by omega) (by omega)]; omega)]
      simp only [giN 10 (nI_b (show m < 10 by omega) (by decide)), bnd_eq, cl]
      rw [show nI m * 4 = nI (4 * m + 0) by rw [show (4 : Int32) = nI 4 from rfl, pk_mul, Nat.mul_comm]; rfl]
      exact i1.trans e1
    · rw [e3, i2.2 33 (by decide), i2.2 29 (by decide)]
      show (if _ then σ.2.1 29 z else upd (σ.2.1 33) (nI m).toNatClampNeg (σ.2.1 29 m) z) = _
      rw [cl]; unfold upd
      by_cases hz : z = m
      · rw [if_neg (by omega), if_pos hz, if_pos (by omega), hz]
      · rw [if_neg hz]
        by_cases hk2 : m ≤ z ∧ z < n
        · rw [if_pos hk2, if_pos (by omega)]
        · rw [if_neg hk2, if_neg (by omega)]
    · rw [e4, i2.2 34 (by decide), i2.2 30 (by decide)]
      show (if _ then σ.2.1 30 z else upd (σ.2.1 34) (nI m).toNatClampNeg (σ.2.1 30 m) z) = _
      rw [cl]; unfold upd
      by_cases hz : z = m
      · rw [if_neg (by omega), if_pos hz, if_pos (by omega), hz]
      · rw [if_neg hz]
        by_cases hk2 : m ≤ z ∧ z < n
        · rw [if_pos hk2, if_pos (by omega)]
        · rw [if_neg hk2, if_neg (by omega)]
    · rw [e5, i3, i2.2 31 (by decide)]
      show (if _ then σ.2.1 31 z else if _ then σ.2.1 31 z else σ.2.1 35 z) = _
      by_cases hz : 4 * (m + 1) ≤ z ∧ z < 4 * n
      · rw [if_pos hz, if_pos (by omega)]
      · rw [if_neg hz]
        by_cases hk2 : 4 * m + 0 ≤ z ∧ z < 4 * m + 4
        · rw [if_pos hk2, if_pos (by omega)]
        · rw [if_neg hk2, if_neg (by omega)]
theorem ix6 (m p : Nat) : (6 : Int32) * nI m + 2 + nI p = nI (6 * m + 2 + p) := by
  rw [show (6 : Int32) = nI 6 from rfl, pk_mul, show (2 : Int32) = nI 2 from rfl, nI_add, nI_add]
theorem tMi_in {N m : Nat} {k2 : St → Int32 → Option (St × Int32)} (hm : m < 10) : ∀ (d p F : Nat) (σ : St), p + d = 4 → d < F → ∃ σ', fM_image_l73 N k2 F σ (nI m) (nI p) = k2 σ' (nI (m + 1)) ∧ KP [] [29] σ σ' ∧ ∀ z, σ'.2.1 29 z = if 6 * m + 2 + p ≤ z ∧ z < 6 * m + 6 then σ.2.1 7 (4 * m + (z - (6 * m + 2))) else σ.2.1 29 z := by
  intro d
  induction d with
  | zero =>
    intro p F σ h1 h2
    obtain ⟨F, rfl⟩ : ∃ k, F = k + 1 := ⟨F - 1, by omega⟩
    refine ⟨σ, ?_, KP.rf, fun z => by rw [if_neg (by omega)]⟩
    show (if (4 : Int32) ≤ nI p then _ else _) = _
    rw [show (4 : Int32) = nI 4 from rfl, if_pos (by rw [nI_leI (by omega) (by omega)]; omega)]
    unfold fM_image_j107
    rw [bnd_eq, nI_1]
  | succ d ih =>
    intro p F σ h1 h2
    obtain ⟨F, rfl⟩ : ∃ k, F = k + 1 := ⟨F - 1, by omega⟩
    obtain ⟨σ', e1, e2, e3⟩ := ih (p + 1) F (sA σ 29 (nI (6 * m + 2 + p)) (σ.2.1 7 (4 * m + p))) (by omega) (by omega)
    refine ⟨σ', ?_, (KP.a (by decide)).tr e2, fun z => ?_⟩
    · show (if (4 : Int32) ≤ nI p then _ else _) = _
      rw [if_neg (by rw [show (4 : Int32) = nI 4 from rfl, nI_leI (by omega) (by omega)]; omega), ix4, ix6, giN 40 (nI_b (by omega) (by decide)), giN 60 (nI_b (by omega) (by decide)), bnd_eq, bnd_eq, nI_1, nI_clamp (by omega), e1]
    · rw [e3]
      show (if _ then σ.2.1 7 (4 * m + (z - (6 * m + 2))) else upd (σ.2.1 29) (nI (6 * m + 2 + p)).toNatClampNeg (σ.2.1 7 (4 * m + p)) z) = _
      rw [nI_clamp (by omega)]
      unfold upd
      by_cases hk : z = 6 * m + 2 + p
      · rw [if_neg (by omega), if_pos hk, if_pos (by omega), hk, show 6 * m + 2 + p - (6 * m + 2) = p by omega]
      · rw [if_neg hk]
        by_cases hk2 : 6 * m + 2 + p ≤ z ∧ z < 6 * m + 6
        · rw [if_pos hk2, if_pos (by omega)]
        · rw [if_neg hk2, if_neg (by omega)]
theorem tMi_out {N n : Nat} (hN : 5 ≤ N) (hn : n ≤ 10) : ∀ (d m F : Nat) (σ : St), m + d = n → d < F → σ.1 4 = nI n → ∃ σ', fM_image_l31 N F σ (nI m) = some (σ', σ.1 5) ∧ KP [] [29] σ σ' ∧ (∀ z, z < 6 * m → σ'.2.1 29 z = σ.2.1 29 z) ∧ ∀ j, m ≤ j → j < n → σ'.2.1 29 (6 * j) = σ.2.1 5 j ∧ σ'.2.1 29 (6 * j + 1) = σ.2.1 6 j ∧ ∀ p, p < 4 → σ'.2.1 29 (6 * j + 2 + p) = σ.2.1 7 (4 * j + p) := by
  intro d
  induction d with
  | zero =>
    intro m F σ h1 h2 h3
    obtain ⟨F, rfl⟩ : ∃ k, F = k + 1 := ⟨F - 1, by omega⟩
    refine ⟨σ, ?_, KP.rf, fun z _ => rfl, fun j _ _ => by omega⟩
    show (if σ.1 4 ≤ nI m then _ else _) = _
    rw [h3, if_pos (by rw [nI_leI (by omega) (by omega)]; omega)]
  | succ d ih =>
    intro m F σ h1 h2 h3
    obtain ⟨F, rfl⟩ : ∃ k, F = k + 1 := ⟨F - 1, by omega⟩
    have e6 : (6 : Int32) * nI m = nI (6 * m) := by rw [show (6 : Int32) = nI 6 from rfl, pk_mul]
    obtain ⟨σ1, i1, i2, i3⟩ := tMi_in (N := N) (m := m) (k2 := fM_image_l31 N F) (by omega) 4 0 N (sA (sA σ 29 (nI (6 * m)) (σ.2.1 5 m)) 29 (nI (6 * m + 1)) (σ.2.1 6 m)) rfl (by omega)
    obtain ⟨σ', e1, e2, e3, e4⟩ := ih (m + 1) F σ1 (by omega) (by omega) (by rw [i2.1 4 (by decide)]; exact h3)
    have cl : (nI m).toNatClampNeg = m := nI_clamp (by omega)
    have q29 : ∀ z, (sA (sA σ 29 (nI (6 * m)) (σ.2.1 5 m)) 29 (nI (6 * m + 1)) (σ.2.1 6 m)).2.1 29 z = upd (upd (σ.2.1 29) (6 * m) (σ.2.1 5 m)) (6 * m + 1) (σ.2.1 6 m) z := by
      intro z
      show upd (upd (σ.2.1 29) (nI (6 * m)).toNatClampNeg (σ.2.1 5 m)) (nI (6 * m + 1)).toNatClampNeg (σ.2.1 6 m) z = _
      rw [nI_clamp (by omega), nI_clamp (by omega)]
    refine ⟨σ', ?_, (((KP.a (by decide)).tr (KP.a (by decide))).tr (i2.wk (by decide) (by decide))).tr e2, fun z hz => ?_, fun j h4 h5 => ?_⟩
    · show (if σ.1 4 ≤ nI m then _ else _) = _
      rw [h3, if_neg (by rw [nI_leI (by omega) (by omega)]; omega), e6, nI_1]
      simp only [giN 10 (nI_b (show m < 10 by omega) (by decide)), giN 60 (nI_b (show 6 * m < 60 by omega) (by decide)), giN 60 (nI_b (show 6 * m + 1 < 60 by omega) (by decide)), bnd_eq, cl]
      rw [← nI_0]
      refine (i1.trans e1).trans ?_
      rw [i2.1 5 (by decide)]; rfl
    · rw [e3 z (by omega), i3, if_neg (by omega), q29, pk_un (by omega), pk_un (by omega)]
    · by_cases hj : j = m
      · subst hj
        refine ⟨?_, ?_, fun p hp => ?_⟩
        · rw [e3 _ (by omega), i3, if_neg (by omega), q29, pk_un (by omega), pk_us]
        · rw [e3 _ (by omega), i3, if_neg (by omega), q29, pk_us]
        · rw [e3 _ (by omega), i3, if_pos (by omega), show 6 * j + 2 + p - (6 * j + 2) = p by omega]; rfl
      · have := e4 j (by omega) h5
        rw [i2.2 5 (by decide), i2.2 6 (by decide), i2.2 7 (by decide)] at this
        exact this
theorem tMb_in {N m : Nat} {k2 : St → Int32 → Option (St × Int32)} (hm : m < 10) : ∀ (d p F : Nat) (σ : St), p + d = 4 → d < F → ∃ σ', fM_back_l70 N k2 F σ (nI m) (nI p) = k2 σ' (nI (m + 1)) ∧ KP [] [7] σ σ' ∧ ∀ z, σ'.2.1 7 z = if 4 * m + p ≤ z ∧ z < 4 * m + 4 then σ.2.1 29 (6 * m + 2 + (z - 4 * m)) else σ.2.1 7 z := by
  intro d
  induction d with
  | zero =>
    intro p F σ h1 h2
    obtain ⟨F, rfl⟩ : ∃ k, F = k + 1 := ⟨F - 1, by omega⟩
    refine ⟨σ, ?_, KP.rf, fun z => by rw [if_neg (by omega)]⟩
    show (if (4 : Int32) ≤ nI p then _ else _) = _
    rw [show (4 : Int32) = nI 4 from rfl, if_pos (by rw [nI_leI (by omega) (by omega)]; omega)]
    unfold fM_back_j104
    rw [bnd_eq, nI_1]
  | succ d ih =>
    intro p F σ h1 h2
    obtain ⟨F, rfl⟩ : ∃ k, F = k + 1 := ⟨F - 1, by omega⟩
    obtain ⟨σ', e1, e2, e3⟩ := ih (p + 1) F (sA σ 7 (nI (4 * m + p)) (σ.2.1 29 (6 * m + 2 + p))) (by omega) (by omega)
    refine ⟨σ', ?_, (KP.a (by decide)).tr e2, fun z => ?_⟩
    · show (if (4 : Int32) ≤ nI p then _ else _) = _
      rw [if_neg (by rw [show (4 : Int32) = nI 4 from rfl, nI_leI (by omega) (by omega)]; omega), ix4, ix6, giN 60 (nI_b (by omega) (by decide)), giN 40 (nI_b (by omega) (by decide)), bnd_eq, bnd_eq, nI_1, nI_clamp (show 6 * m + 2 + p < 2 ^ 31 by omega), e1]
    · rw [e3]
      show (if _ then σ.2.1 29 (6 * m + 2 + (z - 4 * m)) else upd (σ.2.1 7) (nI (4 * m + p)).toNatClampNeg (σ.2.1 29 (6 * m + 2 + p)) z) = _
      rw [nI_clamp (by omega)]
      unfold upd
      by_cases hk : z = 4 * m + p
      · rw [if_neg (by omega), if_pos hk, if_pos (by omega), hk, show 4 * m + p - 4 * m = p by omega]
      · rw [if_neg hk]
        by_cases hk2 : 4 * m + p ≤ z ∧ z < 4 * m + 4
        · rw [if_pos hk2, if_pos (by omega)]
        · rw [if_neg hk2, if_neg (by omega)]
theorem tMb_out {N n : Nat} (hN : 5 ≤ N) (hn : n ≤ 10) : ∀ (d m F : Nat) (σ : St), m + d = n → d < F → σ.1 27 = nI n → ∃ σ', fM_back_l28 N F σ (nI m) = some (σ', σ.1 5) ∧ KP [] [5, 6, 7] σ σ' ∧ (∀ z, σ'.2.1 5 z = if m ≤ z ∧ z < n then σ.2.1 29 (6 * z) else σ.2.1 5 z) ∧ (∀ z, σ'.2.1 6 z = if m ≤ z ∧ z < n then σ.2.1 29 (6 * z + 1) else σ.2.1 6 z) ∧ (∀ j p, p < 4 → σ'.2.1 7 (4 * j + p) = if m ≤ j ∧ j < n then σ.2.1 29 (6 * j + 2 + p) else σ.2.1 7 (4 * j + p)) := by
  intro d
  induction d with
  | zero =>
    intro m F σ h1 h2 h3
    obtain ⟨F, rfl⟩ : ∃ k, F = k + 1 := ⟨F - 1, by omega⟩
    refine ⟨σ, ?_, KP.rf, fun z => by rw [if_neg (by omega)], fun z => by rw [if_neg (by omega)], fun j p _ => by rw [if_neg (by omega)]⟩
    show (if σ.1 27 ≤ nI m then _ else _) = _
    rw [h3, if_pos (by rw [nI_leI (by omega) (by omega)]; omega)]
  | succ d ih =>
    intro m F σ h1 h2 h3
    obtain ⟨F, rfl⟩ : ∃ k, F = k + 1 := ⟨F - 1, by omega⟩
    have e6 : (6 : Int32) * nI m = nI (6 * m) := by rw [show (6 : Int32) = nI 6 from rfl, pk_mul]
    obtain ⟨σ1, i1, i2, i3⟩ := tMb_in (N := N) (m := m) (k2 := fM_back_l28 N F) (by omega) 4 0 N (sA (sA σ 5 (nI m) (σ.2.1 29 (6 * m))) 6 (nI m) (σ.2.1 29 (6 * m + 1))) rfl (by omega)
    obtain ⟨σ', e1, e2, e3, e4, e5⟩ := ih (m + 1) F σ1 (by omega) (by omega) (by rw [i2.1 27 (by decide)]; exact h3)
    have cl : (nI m).toNatClampNeg = m := nI_clamp (by omega)
    have c1 : (nI (6 * m)).toNatClampNeg = 6 * m := nI_clamp (by omega)
    have c2 : (nI (6 * m + 1)).toNatClampNeg = 6 * m + 1 := nI_clamp (by omega)
    refine ⟨σ', ?_, (((KP.a (by decide)).tr (KP.a (by decide))).tr (i2.wk (by decide) (by decide))).tr e2, fun z => ?_, fun z => ?_, fun j p hp => ?_⟩
    · show (if σ.1 27 ≤ nI m then _ else _) = _
      rw [h3, if_neg (by rw [nI_leI (by omega) (by omega)]; omega), e6, nI_1]
      simp only [giN 10 (nI_b (show m < 10 by omega) (by decide)), giN 60 (nI_b (show 6 * m < 60 by omega) (by decide)), giN 60 (nI_b (show 6 * m + 1 < 60 by omega) (by decide)), bnd_eq, c1, c2]
      rw [← nI_0]
      refine (i1.trans e1).trans ?_
      rw [i2.1 5 (by decide)]; rfl
    · rw [e3, i2.2 5 (by decide), i2.2 29 (by decide)]
      show (if _ then σ.2.1 29 (6 * z) else upd (σ.2.1 5) (nI m).toNatClampNeg (σ.2.1 29 (6 * m)) z) = _
      rw [cl]; unfold upd
      by_cases hz : z = m
      · rw [if_neg (by omega), if_pos hz, if_pos (by omega), hz]
      · rw [if_neg hz]
        by_cases hk2 : m ≤ z ∧ z < n
        · rw [if_pos hk2, if_pos (by omega)]
        · rw [if_neg hk2, if_neg (by omega)]
    · rw [e4, i2.2 6 (by decide), i2.2 29 (by decide)]
      show (if _ then σ.2.1 29 (6 * z + 1) else upd (σ.2.1 6) (nI m).toNatClampNeg (σ.2.1 29 (6 * m + 1)) z) = _
      rw [cl]; unfold upd
      by_cases hz : z = m
      · rw [if_neg (by omega), if_pos hz, if_pos (by omega), hz]
      · rw [if_neg hz]
        by_cases hk2 : m ≤ z ∧ z < n
        · rw [if_pos hk2, if_pos (by omega)]
        · rw [if_neg hk2, if_neg (by omega)]
    · rw [e5 j p hp, i3, i2.2 29 (by decide)]
      show (if _ then σ.2.1 29 (6 * j + 2 + p) else if _ then σ.2.1 29 (6 * m + 2 + (4 * j + p - 4 * m)) else σ.2.1 7 (4 * j + p)) = _
      by_cases hz : m + 1 ≤ j ∧ j < n
      · rw [if_pos hz, if_pos (by omega)]
      · rw [if_neg hz]
        by_cases hk2 : j = m
        · rw [if_pos (by omega), if_pos (by omega), hk2, show 4 * m + p - 4 * m = p by omega]
        · rw [if_neg (by omega), if_neg (by omega)]
theorem e_image {σ τ : St} (hR : Rel σ τ) : Both (fC_image N0 σ) (fM_image N0 τ) := by
  obtain ⟨n1, n3, n4, n5, n6, n7, n8, h1, h2, h3, h4, h5, h6, h7, h8, h9, h10⟩ := hR
  obtain ⟨k1, k2, k3, k4, k5, k6, k7, k8, k9, k10, k11, k12⟩ := id h1
  obtain ⟨σ', a1, a2, a3, a4, a5⟩ := tC6_out (N := N0) (by decide) k1 n1 0 N0 (sI σ 13 (σ.1 14)) (by omega) (by unfold N0; omega) k2
  obtain ⟨τ', b1, b2, b3, b4⟩ := tMi_out (N := N0) (by decide) k1 n1 0 N0 (sI (sI (sI (sI τ 26 1) 27 (τ.1 4)) 28 (τ.1 5)) 29 (τ.1 2)) (by omega) (by unfold N0; omega) k3
  rw [nI_0] at a1 b1
  unfold fC_image fM_image fC_S_takeMenOf_6
  simp only [bnd_eq]
  have ca : (fC_S_takeMenOf_6_l2 N0 N0 (sI σ 13 (σ.1 14)) 0) = some (σ', ()) := a1
  rw [ca]
  simp only [cal_eq]
  have cb : fM_image_l31 N0 N0 (sI (sI (sI (sI τ 26 1) 27 ((sI τ 26 1).1 4)) 28 ((sI (sI τ 26 1) 27 ((sI τ 26 1).1 4)).1 5)) 29 ((sI (sI (sI τ 26 1) 27 ((sI τ 26 1).1 4)) 28 ((sI (sI τ 26 1) 27 ((sI τ 26 1).1 4)).1 5)).1 2)) 0 = some (τ', τ.1 5) := b1
  rw [cb]
  have hC : KP [0, 1, 2, 13] [29, 30, 31] σ (sI (sI (sI σ' 0 (σ'.1 3)) 1 ((sI σ' 0 (σ'.1 3)).1 18)) 2 1) := ((((KP.i (by decide)).tr (a2.wk (by decide) (by decide))).tr (KP.i (by decide))).tr (KP.i (by decide))).tr (KP.i (by decide))
  have hM : KP [26, 27, 28, 29] [29] τ τ' := ((((KP.i (by decide)).tr (KP.i (by decide))).tr (KP.i (by decide))).tr (KP.i (by decide))).tr (b2.wk (by decide) (by decide))
  have s3 : σ'.1 3 = σ.1 3 := a2.1 3 (by decide)
  have s18 : σ'.1 18 = σ.1 18 := a2.1 18 (by decide)
  refine Both.mk2 ?_ ⟨n1, n3, n4, n5, n6, n7, n8, R1_f h1 hC hM (by decide), R2_f h2 hC hM (by decide), R3_f h3 hC hM (by decide), R4_f h4 hC hM (by decide), R5_f h5 hC hM (by decide), R6_f h6 hC hM (by decide), R7_f h7 hC hM (by decide), R8_f h8 hC hM (by decide), Or.inr ⟨rfl, ?_, n1, Nat.le_refl _, ?_, ?_, ?_, ?_, ?_, ?_, ?_⟩, R10_f h10 hC hM (by decide)⟩
  · show σ'.1 3 = _
    rw [s3]; exact h2.1
  · rw [b2.1 26 (by decide)]; rfl
  · show σ'.1 13 = _
    rw [a2.1 13 (by decide)]; exact k2
  · rw [b2.1 27 (by decide)]; exact k3
  · show σ'.1 3 = _
    rw [s3, b2.1 28 (by decide)]; exact h2.1
  · rw [b2.1 28 (by decide)]; exact h2.2.1
  · show σ'.1 18 = _
    rw [s18, b2.1 29 (by decide)]; exact h8.2.2.2.2.1
  · rw [b2.1 29 (by decide)]; exact h8.2.2.2.2.2.1
  · intro m hm
    obtain ⟨c1, c2, c3⟩ := b4 m (by omega) hm
    show σ'.2.1 29 m = _ ∧ bt (σ'.2.1 29 m) 0 9999 ∧ σ'.2.1 30 m = _ ∧ bt (σ'.2.1 30 m) (-99) 99 ∧ ∀ p, p < 4 → σ'.2.1 31 (4 * m + p) = _ ∧ bt (σ'.2.1 31 (4 * m + p)) (-199) 199
    rw [a3, a4, c1, c2, if_pos (by omega), if_pos (by omega)]
    show σ.2.1 33 m = τ.2.1 5 m ∧ bt (σ.2.1 33 m) 0 9999 ∧ σ.2.1 34 m = τ.2.1 6 m ∧ bt (σ.2.1 34 m) (-99) 99 ∧ _
    rw [k5, k6]
    refine ⟨rfl, k9 m, rfl, k10 m, fun p hp => ?_⟩
    rw [a5, c3 p hp, if_pos (by omega)]
    show σ.2.1 35 (4 * m + p) = τ.2.1 7 (4 * m + p) ∧ bt (σ.2.1 35 (4 * m + p)) (-199) 199
    rw [k7]
    exact ⟨rfl, k11 _⟩
theorem e_back {σ τ : St} (hR : Rel σ τ) : Both (fC_back N0 σ) (fM_back N0 τ) := by
  have hR' := hR
  obtain ⟨n1, n3, n4, n5, n6, n7, n8, h1, h2, h3, h4, h5, h6, h7, h8, h9, h10⟩ := hR
  obtain ⟨k1, k2, k3, k4, k5, k6, k7, k8, k9, k10, k11, k12⟩ := id h1
  unfold fC_back fM_back fC_S_takeMenOf_7
  rcases id h9 with ⟨g1, g2⟩ | ⟨g1, g2, k, g3, g4, g5, g6, g7, g8, g9, g10⟩
  · rw [if_pos g1, if_pos g2]; exact Both.mk hR'
  rw [if_neg (by rw [g1]; decide), if_neg (by rw [g2]; decide)]
  obtain ⟨σ', a1, a2, a3, a4, a5⟩ := tC7_out (N := N0) (by decide) (show k ≤ 10 by omega) k 0 N0 σ (by omega) (by unfold N0; omega) g4
  obtain ⟨τ', b1, b2, b3, b4, b5⟩ := tMb_out (N := N0) (by decide) (show k ≤ 10 by omega) k 0 N0 (sI (sI τ 5 (τ.1 28)) 2 (τ.1 29)) (by omega) (by unfold N0; omega) g5
  rw [nI_0] at a1 b1
  rw [a1]
  simp only [bnd_eq, cal_eq]
  have cb : fM_back_l28 N0 N0 (sI (sI τ 5 (τ.1 28)) 2 ((sI τ 5 (τ.1 28)).1 29)) 0 = some (τ', τ.1 28) := b1
  rw [cb]
  have hC : KP [3, 18] [33, 34, 35] σ (sI (sI σ' 3 (σ'.1 0)) 18 ((sI σ' 3 (σ'.1 0)).1 1)) := ((a2.wk (by decide) (by decide)).tr (KP.i (by decide))).tr (KP.i (by decide))
  have hM : KP [2, 5] [5, 6, 7] τ τ' := ((KP.i (by decide)).tr (KP.i (by decide))).tr (b2.wk (by decide) (by decide))
  have s0 : σ'.1 0 = τ.1 28 := (a2.1 0 (by decide)).trans g6
  have s1 : σ'.1 1 = τ.1 29 := (a2.1 1 (by decide)).trans g8
  have t5 : τ'.1 5 = τ.1 28 := b2.1 5 (by decide)
  have t2 : τ'.1 2 = τ.1 29 := b2.1 2 (by decide)
  have p5 : ∀ z, σ'.2.1 33 z = τ'.2.1 5 z ∧ bt (τ'.2.1 5 z) 0 9999 := by
    intro z
    rw [a3, b3]
    show (if _ then σ.2.1 29 z else σ.2.1 33 z) = (if _ then τ.2.1 29 (6 * z) else τ.2.1 5 z) ∧ bt (if _ then τ.2.1 29 (6 * z) else τ.2.1 5 z) 0 9999
    by_cases hz : 0 ≤ z ∧ z < k
    · rw [if_pos hz, if_pos hz]
      obtain ⟨q1, q2, _⟩ := g10 z hz.2
      exact ⟨q1, q1 ▸ q2⟩
    · rw [if_neg hz, if_neg hz, k5]
      exact ⟨rfl, k9 z⟩
  have p6 : ∀ z, σ'.2.1 34 z = τ'.2.1 6 z ∧ bt (τ'.2.1 6 z) (-99) 99 := by
    intro z
    rw [a4, b4]
    show (if _ then σ.2.1 30 z else σ.2.1 34 z) = (if _ then τ.2.1 29 (6 * z + 1) else τ.2.1 6 z) ∧ bt (if _ then τ.2.1 29 (6 * z + 1) else τ.2.1 6 z) (-99) 99
    by_cases hz : 0 ≤ z ∧ z < k
    · rw [if_pos hz, if_pos hz]
      obtain ⟨_, _, q1, q2, _⟩ := g10 z hz.2
      exact ⟨q1, q1 ▸ q2⟩
    · rw [if_neg hz, if_neg hz, k6]
      exact ⟨rfl, k10 z⟩
  have p7 : ∀ z, σ'.2.1 35 z = τ'.2.1 7 z ∧ bt (τ'.2.1 7 z) (-199) 199 ∧ (4 * n1 ≤ z → τ'.2.1 7 z = 0) := by
    intro z
    obtain ⟨j, p, hp, rfl⟩ : ∃ j p, p < 4 ∧ z = 4 * j + p := ⟨z / 4, z % 4, Nat.mod_lt _ (by decide), by omega⟩
    rw [a5, b5 j p hp]
    show (if _ then σ.2.1 31 (4 * j + p) else σ.2.1 35 (4 * j + p)) = (if _ then τ.2.1 29 (6 * j + 2 + p) else τ.2.1 7 (4 * j + p)) ∧ bt (if _ then τ.2.1 29 (6 * j + 2 + p) else τ.2.1 7 (4 * j + p)) (-199) 199 ∧ (_ → (if _ then τ.2.1 29 (6 * j + 2 + p) else τ.2.1 7 (4 * j + p)) = 0)
    by_cases hz : 0 ≤ j ∧ j < k
    · rw [if_pos (by omega), if_pos hz]
      obtain ⟨_, _, _, _, q⟩ := g10 j hz.2
      obtain ⟨q1, q2⟩ := q p hp
      exact ⟨q1, q1 ▸ q2, fun h => by omega⟩
    · rw [if_neg (by omega), if_neg hz, k7]
      exact ⟨rfl, k11 _, k12 _⟩
  refine Both.mk2 ?_ ⟨n1, n3, n4, n5, n6, n7, n8, ?_, ?_, R3_f h3 hC hM (by decide), R4_f h4 hC hM (by decide), R5_f h5 hC hM (by decide), R6_f h6 hC hM (by decide), R7_f h7 hC hM (by decide), ?_, R9_f h9 hC hM (by decide), R10_f h10 hC hM (by decide)⟩
  · exact s0
  · refine ⟨k1, ?_, ?_, ?_, funext fun z => (p5 z).1, funext fun z => (p6 z).1, funext fun z => (p7 z).1, ?_, fun z => (p5 z).2, fun z => (p6 z).2, fun z => (p7 z).2.1, fun z => (p7 z).2.2⟩
    · rw [hC.1 14 (by decide)]; exact k2
    · rw [hM.1 4 (by decide)]; exact k3
    · rw [hC.2 32 (by decide), hM.2 4 (by decide)]; exact k4
    · rw [hM.2 4 (by decide)]; exact k8
  · refine ⟨?_, ?_, ?_⟩
    · rw [t5]; exact s0
    · rw [t5]; exact g7
    · rw [hM.1 19 (by decide)]; exact h2.2.2
  · obtain ⟨r1, r2, r3, r4, r5, r6, r7, r8⟩ := h8
    have hh : R8 n8 (sI σ 18 (τ.1 29)) (sI τ 2 (τ.1 29)) := ⟨r1, r2, r3, r4, rfl, g9, r7, r8⟩
    have e : R8 n8 (sI (sI (sI σ' 3 (σ'.1 0)) 18 ((sI σ' 3 (σ'.1 0)).1 1)) 18 (τ.1 29)) (sI τ' 2 (τ.1 29)) := by
      refine R8_f (f := [3]) (g := [33, 34, 35]) (f' := [5]) (g' := [5, 6, 7]) hh ⟨fun j hj => ?_, fun j hj => hC.2 j hj⟩ ⟨fun j hj => ?_, fun j hj => hM.2 j hj⟩ (by decide)
      · show (if j = 18 then τ.1 29 else _) = (if j = 18 then τ.1 29 else _)
        by_cases hj2 : j = 18
        · rw [if_pos hj2, if_pos hj2]
        · rw [if_neg hj2, if_neg hj2]
          exact hC.1 j (fun z => by simp only [List.mem_cons, List.not_mem_nil, or_false] at z hj; omega)
      · show (if j = 2 then τ.1 29 else _) = (if j = 2 then τ.1 29 else _)
        by_cases hj2 : j = 2
        · rw [if_pos hj2, if_pos hj2]
        · rw [if_neg hj2, if_neg hj2]
          exact hM.1 j (fun z => by simp only [List.mem_cons, List.not_mem_nil, or_false] at z hj; omega)
    obtain ⟨r1, r2, r3, r4, r5, r6, r7, r8⟩ := e
    exact ⟨r1, r2, r3, r4, s1.trans t2.symm, by rw [t2]; exact g9, r7, r8⟩
