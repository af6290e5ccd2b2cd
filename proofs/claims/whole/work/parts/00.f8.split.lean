/-! counting bits -/
def bcv (a0 : Int32) : Int32 :=
  let x1 := a0 - (((a0.toUInt32 >>> ((1 : Int32).toUInt32 &&& Int32.toUInt32 31)).toInt32) &&& (1431655765 : Int32))
  let x2 := (x1 &&& (858993459 : Int32)) + (((x1.toUInt32 >>> ((2 : Int32).toUInt32 &&& Int32.toUInt32 31)).toInt32) &&& (858993459 : Int32))
  let x3 := (x2 + ((x2.toUInt32 >>> ((4 : Int32).toUInt32 &&& Int32.toUInt32 31)).toInt32)) &&& (252645135 : Int32)
  let x4 := x3 + ((x3.toUInt32 >>> ((8 : Int32).toUInt32 &&& Int32.toUInt32 31)).toInt32)
  let x5 := x4 + ((x4.toUInt32 >>> ((16 : Int32).toUInt32 &&& Int32.toUInt32 31)).toInt32)
  x5 &&& (63 : Int32)
theorem q_bitCount {N : Nat} {σ : St} {a : Int32} : fC_Int_bitCount N σ a = some (σ, bcv a) := rfl
def bl : Nat → Int32 → Int32 → Option Int32
  | 0, _, _ => none
  | n + 1, a, b => if b = 0 then some a else bl n (a + 1) (b &&& (b - 1))
theorem q_bitsOf_l {N : Nat} {σ : St} : ∀ (n : Nat) (a b : Int32), fM_bitsOf_l4 N n σ a b = (bl n a b).map fun v => (σ, v) := by
  intro n
  induction n with
  | zero => intro a b; rfl
  | succ n ih =>
    intro a b
    show (if b = 0 then _ else _) = _
    unfold bl
    by_cases h : b = 0
    · rw [if_pos h, if_pos h]; rfl
    · rw [if_neg h, if_neg h, bnd_eq, bnd_eq, ih]
theorem bl_bc : ∀ j, j < 64 → bl 5000 0 (nI j) = some (bcv (nI j)) := by decide +kernel
theorem q_bitsOf {σ : St} {j : Nat} (hj : j < 64) : fM_bitsOf N0 σ (nI j) = some (σ, bcv (nI j)) := by
  unfold fM_bitsOf
  rw [q_bitsOf_l]
  have e : bl N0 0 (nI j) = some (bcv (nI j)) := bl_bc j hj
  rw [e]; rfl
/-! telling apart -/
def SPL (mk wd : Nat → Int32) (k : Nat) (s : Int32) : Prop := ∀ a, a < k → ∀ b, b < a → mk a &&& s = mk b &&& s → wd a = wd b
theorem and63 : ∀ a, a < 64 → ∀ b, b < 64 → nI a &&& nI b = nI (a &&& b) ∧ (a &&& b) < 64 := by decide +kernel
theorem q_spl_0 {N : Nat} {s : Int32} : ∀ (d i F : Nat) (σ : St), i + d = 64 → d < F → ∃ σ', fC_K_isSplitBy_l2 N F σ s (nI i) = fC_K_isSplitBy_j21 N σ' s ∧ KP [] [24] σ σ' ∧ ∀ z, σ'.2.1 24 z = if i ≤ z ∧ z < 64 then -1 else σ.2.1 24 z := by
  intro d
  induction d with
  | zero =>
    intro i F σ h1 h2
    obtain ⟨F, rfl⟩ : ∃ k, F = k + 1 := ⟨F - 1, by omega⟩
    refine ⟨σ, ?_, KP.rf, fun k => by rw [if_neg (by omega)]⟩
    show (if (64 : Int32) ≤ nI i then _ else _) = _
    rw [if_pos (by rw [show i = 64 by omega]; decide)]
  | succ d ih =>
    intro i F σ h1 h2
    obtain ⟨F, rfl⟩ : ∃ k, F = k + 1 := ⟨F - 1, by omega⟩
    obtain ⟨σ', e1, e2, e3⟩ := ih (i + 1) F (sA σ 24 (nI i) (-1)) (by omega) (by omega)
    refine ⟨σ', ?_, (KP.a (by decide)).tr e2, fun k => ?_⟩
    · show (if (64 : Int32) ≤ nI i then _ else _) = _
      rw [if_neg (by rw [show (64 : Int32) = nI 64 from rfl, nI_leI (by decide) (by omega)]; omega), giN 64 (nI_b (by omega) (by decide)), bnd_eq, bnd_eq, nI_1, e1]
    · rw [e3]
      show (if _ then (-1 : Int32) else upd (σ.2.1 24) (nI i).toNatClampNeg (-1) k) = _
      rw [nI_clamp (by omega)]
      unfold upd
      by_cases hk : k = i
      · rw [if_neg (by omega), if_pos hk, if_pos (by omega)]
      · rw [if_neg hk]
        by_cases hk2 : i ≤ k ∧ k < 64
        · rw [if_pos hk2, if_pos (by omega)]
        · rw [if_neg hk2, if_neg (by omega)]
theorem q_spl_1 {N k s : Nat} {mk wd : Nat → Int32} (hk : k ≤ 40) (hs : s < 64) (hm : ∀ i, bt (mk i) 0 63) (hw : ∀ i, bt (wd i) 0 3) : ∀ (d c F : Nat) (σ : St), c + d = k → d < F → σ.1 12 = nI k → σ.2.1 22 = mk → σ.2.1 23 = wd →
    (∀ l, l < 64 → (σ.2.1 24 l = -1 ∧ ∀ j, j < c → mk j &&& nI s ≠ nI l) ∨ (∃ j, j < c ∧ mk j &&& nI s = nI l ∧ σ.2.1 24 l = wd j)) → SPL mk wd c (nI s) →
    ∃ σ' r, fC_K_isSplitBy_l23 N F σ (nI s) (nI c) = some (σ', r) ∧ KP [] [24] σ σ' ∧ (r = 0 ∧ ¬ SPL mk wd k (nI s) ∨ r = 1 ∧ SPL mk wd k (nI s)) := by
  intro d
  induction d with
  | zero =>
    intro c F σ h1 h2 h3 h4 h5 h6 h7
    obtain ⟨F, rfl⟩ : ∃ k, F = k + 1 := ⟨F - 1, by omega⟩
    refine ⟨σ, 1, ?_, KP.rf, Or.inr ⟨rfl, by rw [show k = c by omega]; exact h7⟩⟩
    show (if σ.1 12 ≤ nI c then _ else _) = _
    rw [h3, if_pos (by rw [nI_leI (by omega) (by omega)]; omega)]
  | succ d ih =>
    intro c F σ h1 h2 h3 h4 h5 h6 h7
    obtain ⟨F, rfl⟩ : ∃ k, F = k + 1 := ⟨F - 1, by omega⟩
    obtain ⟨m, hm1, hm2, em⟩ := bt_nI (hm c)
    obtain ⟨ea, ha⟩ := and63 m (by omega) s hs
    have cl : (nI c).toNatClampNeg = c := nI_clamp (by omega)
    have cl2 : (nI (m &&& s)).toNatClampNeg = m &&& s := nI_clamp (by omega)
    have hx : mk c &&& nI s = nI (m &&& s) := by rw [em, ea]
    have st : ∃ q, fC_K_isSplitBy_l23 N (F + 1) σ (nI s) (nI c) = q ∧ q = (if σ.2.1 24 (m &&& s) = -1 then fC_K_isSplitBy_j67 N (fC_K_isSplitBy_l23 N F) σ (nI s) (nI c) (nI (m &&& s)) else if σ.2.1 24 (m &&& s) = wd c then fC_K_isSplitBy_j67 N (fC_K_isSplitBy_l23 N F) σ (nI s) (nI c) (nI (m &&& s)) else some (σ, 0)) := by
      refine ⟨_, rfl, ?_⟩
      show (if σ.1 12 ≤ nI c then _ else _) = _
      rw [h3, if_neg (by rw [nI_leI (by omega) (by omega)]; omega)]
      simp only [giN 40 (nI_b (show c < 40 by omega) (by decide)), bnd_eq, h4, h5, cl, hx, giN 64 (nI_b ha (by decide)), cl2]
    obtain ⟨q, e1, e2⟩ := st
    rw [e1, e2]
    have go : SPL mk wd (c + 1) (nI s) → ∃ σ' r, fC_K_isSplitBy_j67 N (fC_K_isSplitBy_l23 N F) σ (nI s) (nI c) (nI (m &&& s)) = some (σ', r) ∧ KP [] [24] σ σ' ∧ (r = 0 ∧ ¬ SPL mk wd k (nI s) ∨ r = 1 ∧ SPL mk wd k (nI s)) := by
      intro hS
      unfold fC_K_isSplitBy_j67
      simp only [giN 40 (nI_b (show c < 40 by omega) (by decide)), bnd_eq, h5, cl, giN 64 (nI_b ha (by decide)), nI_1]
      obtain ⟨σ', r, i1, i2, i3⟩ := ih (c + 1) F (sA σ 24 (nI (m &&& s)) (wd c)) (by omega) (by omega) h3 h4 h5 (by
        intro l hl
        show (upd (σ.2.1 24) (nI (m &&& s)).toNatClampNeg (wd c) l = -1 ∧ _) ∨ ∃ j, j < c + 1 ∧ _ ∧ upd (σ.2.1 24) (nI (m &&& s)).toNatClampNeg (wd c) l = wd j
        rw [cl2]
        by_cases hl2 : l = m &&& s
        · subst hl2
          exact Or.inr ⟨c, by omega, hx, pk_us⟩
        · rw [pk_un hl2]
          rcases h6 l hl with ⟨g1, g2⟩ | ⟨j, g1, g2, g3⟩
          · refine Or.inl ⟨g1, fun j hj => ?_⟩
            by_cases hjc : j = c
            · rw [hjc, hx]; intro z; exact hl2 ((nI_eq (by omega) (by omega)).mp z).symm
            · exact g2 j (by omega)
          · exact Or.inr ⟨j, by omega, g2, g3⟩) hS
      exact ⟨σ', r, i1, (KP.a (by decide)).tr i2, i3⟩
    rcases h6 _ ha with ⟨g1, g2⟩ | ⟨j, g1, g2, g3⟩
    · rw [if_pos g1]
      refine go (fun a h8 b h9 h10 => ?_)
      by_cases hac : a = c
      · rw [hac, hx] at h10
        exact absurd h10.symm (g2 b (by omega))
      · exact h7 a (by omega) b h9 h10
    · rw [if_neg (by rw [g3]; exact bt_ne (hw j)), g3]
      by_cases hwj : wd j = wd c
      · rw [if_pos hwj]
        refine go (fun a h8 b h9 h10 => ?_)
        by_cases hac : a = c
        · rw [hac] at h10 ⊢
          rw [← hwj]
          have h11 : mk j &&& nI s = mk b &&& nI s := by rw [g2, ← hx, h10]
          rcases Nat.lt_trichotomy j b with z | z | z
          · exact (h7 b (by omega) j z h11.symm).symm
          · rw [z]
          · exact h7 j g1 b z h11
        · exact h7 a (by omega) b h9 h10
      · rw [if_neg hwj]
        exact ⟨σ, 0, rfl, KP.rf, Or.inl ⟨rfl, fun z => hwj (z c (by omega) j g1 (by rw [hx, g2])).symm⟩⟩
theorem q_spl {k s : Nat} {σ : St} (hk : k ≤ 40) (hs : s < 64) (h3 : σ.1 12 = nI k) (hm : ∀ i, bt (σ.2.1 22 i) 0 63) (hw : ∀ i, bt (σ.2.1 23 i) 0 3) : ∃ σ' r, fC_K_isSplitBy N0 σ (nI s) = some (σ', r) ∧ KP [] [24] σ σ' ∧ (r = 0 ∧ ¬ SPL (σ.2.1 22) (σ.2.1 23) k (nI s) ∨ r = 1 ∧ SPL (σ.2.1 22) (σ.2.1 23) k (nI s)) := by
  obtain ⟨σ1, a1, a2, a3⟩ := q_spl_0 (N := N0) (s := nI s) 64 0 N0 σ rfl (by decide)
  obtain ⟨σ2, r, b1, b2, b3⟩ := q_spl_1 (N := N0) hk hs hm hw k 0 N0 σ1 (by omega) (by unfold N0; omega) (by rw [a2.1 12 (by decide)]; exact h3) (a2.2 22 (by decide)) (a2.2 23 (by decide)) (fun l hl => Or.inl ⟨by rw [a3, if_pos (by omega)], fun j hj => by omega⟩) (fun a ha => by omega)
  rw [nI_0] at a1 b1
  refine ⟨σ2, r, ?_, a2.tr b2, b3⟩
  unfold fC_K_isSplitBy
  rw [a1]
  exact b1
theorem qm_spl_in {N k a s : Nat} {σ : St} {b1 : Int32} {k4 : St → Int32 → Int32 → Option (St × Int32)} {k35 : St → Int32 → Int32 → Int32 → Int32 → Option (St × Int32)} (ha : a < 40) : ∀ (d b F : Nat), b + d = a → d < F → (∀ j, j < b → σ.2.1 27 a &&& nI s = σ.2.1 27 j &&& nI s → σ.2.1 28 a = σ.2.1 28 j) →
    ∃ r, fM_split_l51 N k4 k35 F σ b1 (nI s) 1 (nI a) (nI b) = fM_split_j112 N k4 k35 σ b1 (nI s) r (nI a) ∧ (r = 0 ∧ ¬ (∀ j, j < a → σ.2.1 27 a &&& nI s = σ.2.1 27 j &&& nI s → σ.2.1 28 a = σ.2.1 28 j) ∨ r = 1 ∧ (∀ j, j < a → σ.2.1 27 a &&& nI s = σ.2.1 27 j &&& nI s → σ.2.1 28 a = σ.2.1 28 j)) := by
  intro d
  induction d with
  | zero =>
    intro b F h1 h2 h3
    obtain ⟨F, rfl⟩ : ∃ k, F = k + 1 := ⟨F - 1, by omega⟩
    refine ⟨1, ?_, Or.inr ⟨rfl, by rw [show a = b by omega] at h3 ⊢; exact h3⟩⟩
    show (if nI a ≤ nI b then _ else _) = _
    rw [if_pos (by rw [nI_leI (by omega) (by omega)]; omega)]
  | succ d ih =>
    intro b F h1 h2 h3
    obtain ⟨F, rfl⟩ : ∃ k, F = k + 1 := ⟨F - 1, by omega⟩
    have cl : (nI b).toNatClampNeg = b := nI_clamp (by omega)
    have cl2 : (nI a).toNatClampNeg = a := nI_clamp (by omega)
    have st : fM_split_l51 N k4 k35 (F + 1) σ b1 (nI s) 1 (nI a) (nI b) = (if σ.2.1 27 a &&& nI s = σ.2.1 27 b &&& nI s then (if σ.2.1 28 a = σ.2.1 28 b then fM_split_l51 N k4 k35 F σ b1 (nI s) 1 (nI a) (nI (b + 1)) else fM_split_l51 N k4 k35 F σ b1 (nI s) 0 (nI a) (nI (b + 1))) else fM_split_l51 N k4 k35 F σ b1 (nI s) 1 (nI a) (nI (b + 1))) := by
      show (if nI a ≤ nI b then _ else if (1 : Int32) = 0 then _ else _) = _
      rw [if_neg (by rw [nI_leI (by omega) (by omega)]; omega), if_neg (by decide)]
      unfold fM_split_j100 fM_split_j105
      simp only [giN 40 (nI_b (show a < 40 by omega) (by decide)), giN 40 (nI_b (show b < 40 by omega) (by decide)), bnd_eq, cl, cl2, nI_1]
    rw [st]
    by_cases c1 : σ.2.1 27 a &&& nI s = σ.2.1 27 b &&& nI s
    · rw [if_pos c1]
      by_cases c2 : σ.2.1 28 a = σ.2.1 28 b
      · rw [if_pos c2]
        exact ih (b + 1) F (by omega) (by omega) (fun j hj hq => by
          by_cases hjb : j = b
          · rw [hjb]; exact c2
          · exact h3 j (by omega) hq)
      · rw [if_neg c2]
        refine ⟨0, ?_, Or.inl ⟨rfl, fun z => c2 (z b (by omega) c1)⟩⟩
        obtain ⟨F, rfl⟩ : ∃ k, F = k + 1 := ⟨F - 1, by omega⟩
        show (if nI a ≤ nI (b + 1) then _ else if (0 : Int32) = 0 then _ else _) = _
        rw [if_pos (show (0 : Int32) = 0 from rfl)]
        split <;> rfl
    · rw [if_neg c1]
      exact ih (b + 1) F (by omega) (by omega) (fun j hj hq => by
        by_cases hjb : j = b
        · rw [hjb] at hq; exact absurd hq c1
        · exact h3 j (by omega) hq)
theorem qm_spl_out {N k s : Nat} {σ : St} {b1 : Int32} {k4 : St → Int32 → Int32 → Option (St × Int32)} (hN : 50 ≤ N) (hk : k ≤ 40) (h : σ.1 25 = nI k) : ∀ (d a F : Nat), a + d = k → d < F → SPL (σ.2.1 27) (σ.2.1 28) a (nI s) →
    ∃ r, fM_split_l35 N k4 F σ b1 (nI s) 1 (nI a) = fM_split_j118 N k4 σ b1 (nI s) r ∧ (r = 0 ∧ ¬ SPL (σ.2.1 27) (σ.2.1 28) k (nI s) ∨ r = 1 ∧ SPL (σ.2.1 27) (σ.2.1 28) k (nI s)) := by
  intro d
  induction d with
  | zero =>
    intro a F h1 h2 h3
    obtain ⟨F, rfl⟩ : ∃ k, F = k + 1 := ⟨F - 1, by omega⟩
    refine ⟨1, ?_, Or.inr ⟨rfl, by rw [show k = a by omega]; exact h3⟩⟩
    show (if σ.1 25 ≤ nI a then _ else _) = _
    rw [h, if_pos (by rw [nI_leI (by omega) (by omega)]; omega)]
  | succ d ih =>
    intro a F h1 h2 h3
    obtain ⟨F, rfl⟩ : ∃ k, F = k + 1 := ⟨F - 1, by omega⟩
    obtain ⟨r, e1, e2⟩ := qm_spl_in (N := N) (σ := σ) (k := k) (a := a) (s := s) (b1 := b1) (k4 := k4) (k35 := fM_split_l35 N k4 F) (by omega) a 0 N (by omega) (by omega) (fun j hj => by omega)
    have st : fM_split_l35 N k4 (F + 1) σ b1 (nI s) 1 (nI a) = fM_split_l35 N k4 F σ b1 (nI s) r (nI (a + 1)) := by
      show (if σ.1 25 ≤ nI a then _ else if (1 : Int32) = 0 then _ else _) = _
      rw [h, if_neg (by rw [nI_leI (by omega) (by omega)]; omega), if_neg (by decide)]
      rw [nI_0] at e1
      rw [e1]
      unfold fM_split_j112
      rw [bnd_eq, nI_1]
    rw [st]
    rcases e2 with ⟨rfl, g⟩ | ⟨rfl, g⟩
    · refine ⟨0, ?_, Or.inl ⟨rfl, fun z => g (z a (by omega))⟩⟩
      obtain ⟨F, rfl⟩ : ∃ k, F = k + 1 := ⟨F - 1, by omega⟩
      show (if σ.1 25 ≤ nI (a + 1) then _ else if (0 : Int32) = 0 then _ else _) = _
      rw [if_pos (show (0 : Int32) = 0 from rfl)]
      split <;> rfl
    · exact ih (a + 1) F (by omega) (by omega) (fun x hx b hb hq => by
        by_cases hxa : x = a
        · rw [hxa] at hq hb ⊢; exact g b hb hq
        · exact h3 x (by omega) b hb hq)
theorem qm_spl_no {N F : Nat} {k4 : St → Int32 → Int32 → Option (St × Int32)} {σ : St} {b s a : Int32} (hF : 0 < F) : fM_split_l35 N k4 F σ b s 0 a = fM_split_j118 N k4 σ b s 0 := by
  obtain ⟨F, rfl⟩ : ∃ k, F = k + 1 := ⟨F - 1, by omega⟩
  show (if σ.1 25 ≤ a then _ else if (0 : Int32) = 0 then _ else _) = _
  rw [if_pos (show (0 : Int32) = 0 from rfl)]
  split <;> rfl
theorem split_tr {s FC FM : Nat} {σ τ : St} {best : Int32} (hs : s < 64) (hR : Rel σ τ) (hb : best = -1 ∨ ∃ j, j < 64 ∧ best = nI j) (nx : ∀ b, (b = -1 ∨ ∃ j, j < 64 ∧ b = nI j) → ∀ σ', KP [] [24] σ σ' → Both (fC_K_fewestMarks_l4 N0 FC σ' b (nI s + 1)) (fM_split_l4 N0 FM τ b (nI s + 1))) : Both (fC_K_fewestMarks_j26 N0 (fC_K_fewestMarks_l4 N0 FC) σ best (nI s)) (fM_split_j26 N0 (fM_split_l4 N0 FM) τ best (nI s)) := by
  obtain ⟨n1, n3, n4, n5, n6, n7, n8, g1, g2, g3, g4, g5, g6, g7, g8, g9, g10⟩ := hR
  obtain ⟨k1, k2, k3, k4, k5, k6, k7⟩ := g7
  obtain ⟨σ', r, a1, a2, a3⟩ := q_spl (k := n7) (s := s) k1 hs k2 (by rw [k4]; exact k6) (by rw [k5]; exact k7)
  obtain ⟨r2, b1, b2⟩ := qm_spl_out (N := N0) (k := n7) (s := s) (b1 := best) (k4 := fM_split_l4 N0 FM) (by decide) k1 k3 n7 0 N0 (by omega) (by unfold N0; omega) (fun a ha => by omega)
  rw [nI_0] at b1
  unfold fC_K_fewestMarks_j26 fM_split_j26 fC_K_fewestMarks_j31 fM_split_j31
  rw [if_neg (show ¬ (1 : Int32) = 0 by decide), a1, b1]
  unfold fC_K_fewestMarks_j46 fM_split_j118 fM_split_j124
  simp only [cal_eq, bnd_eq]
  rw [k4, k5] at a3
  rcases a3 with ⟨rfl, p⟩ | ⟨rfl, p⟩ <;> rcases b2 with ⟨rfl, q⟩ | ⟨rfl, q⟩
  · exact nx best hb σ' a2
  · exact absurd q p
  · exact absurd p q
  · exact nx (nI s) (Or.inr ⟨s, hs, rfl⟩) σ' a2
theorem split_l : ∀ (d s FC FM : Nat) (σ τ : St) (best : Int32), s + d = 64 → d < FC → d < FM → Rel σ τ → (best = -1 ∨ ∃ j, j < 64 ∧ best = nI j) → Both (fC_K_fewestMarks_l4 N0 FC σ best (nI s)) (fM_split_l4 N0 FM τ best (nI s)) := by
  intro d
  induction d with
  | zero =>
    intro s FC FM σ τ best h1 h2 h3 hR hb
    obtain ⟨FC, rfl⟩ : ∃ k, FC = k + 1 := ⟨FC - 1, by omega⟩
    obtain ⟨FM, rfl⟩ : ∃ k, FM = k + 1 := ⟨FM - 1, by omega⟩
    show Both (if (64 : Int32) ≤ nI s then _ else _) (if (64 : Int32) ≤ nI s then _ else _)
    have e : (64 : Int32) ≤ nI s := by rw [show s = 64 by omega]; decide
    rw [if_pos e, if_pos e]
    exact Both.mk hR
  | succ d ih =>
    intro s FC FM σ τ best h1 h2 h3 hR hb
    have hR' := hR
    obtain ⟨n1, n3, n4, n5, n6, n7, n8, g1, g2, g3, g4, g5, g6, g7, g8, g9, g10⟩ := hR
    obtain ⟨k1, k2, k3, k4, k5, k6, k7⟩ := g7
    obtain ⟨FC, rfl⟩ : ∃ k, FC = k + 1 := ⟨FC - 1, by omega⟩
    obtain ⟨FM, rfl⟩ : ∃ k, FM = k + 1 := ⟨FM - 1, by omega⟩
    show Both (if (64 : Int32) ≤ nI s then _ else _) (if (64 : Int32) ≤ nI s then _ else _)
    have e : ¬ (64 : Int32) ≤ nI s := by rw [show (64 : Int32) = nI 64 from rfl, nI_leI (by omega) (by omega)]; omega
    rw [if_neg e, if_neg e]
    have nx : ∀ b, (b = -1 ∨ ∃ j, j < 64 ∧ b = nI j) → ∀ σ', KP [] [24] σ σ' → Both (fC_K_fewestMarks_l4 N0 FC σ' b (nI s + 1)) (fM_split_l4 N0 FM τ b (nI s + 1)) := fun b hb σ' hk => by
      rw [nI_1]
      exact ih (s + 1) FC FM σ' τ b (by omega) (by omega) (by omega) (Rel_f hR' (hk.wk (by decide) (by decide)) KP.rf) hb
    have tr := split_tr (by omega) hR' hb nx
    by_cases hb1 : best = -1
    · rw [if_pos hb1, if_pos hb1]; exact tr
    · rw [if_neg hb1, if_neg hb1]
      obtain ⟨j, hj, rfl⟩ := hb.resolve_left hb1
      refine Both.casL (r := bcv (nI s)) q_bitCount (Both.casR (q_bitsOf (by omega)) ?_)
      refine Both.casL (r := bcv (nI j)) q_bitCount (Both.casR (q_bitsOf hj) ?_)
      refine Both.same (fun c => ?_) (fun c => tr)
      unfold fC_K_fewestMarks_j31 fM_split_j31
      rw [if_pos rfl]
      rw [qm_spl_no (by decide)]
      unfold fC_K_fewestMarks_j46 fM_split_j118 fM_split_j124
      rw [if_pos rfl]
      simp only [bnd_eq]
      exact nx _ hb σ KP.rf
theorem e_split {σ τ : St} (hR : Rel σ τ) : Both (fC_split N0 σ) (fM_split N0 τ) := by
  unfold fC_split fC_K_fewestMarks fM_split
  rw [cal_id, ← nI_0]
  exact split_l 64 0 N0 N0 σ τ (-1) rfl (by decide) (by decide) hR (Or.inl rfl)
