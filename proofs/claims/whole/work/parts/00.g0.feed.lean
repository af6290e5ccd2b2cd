theorem lo8 : ∀ i, i < 32 → ((255#32).getLsbD i = decide (i < 8)) ∧ ((255#64).getLsbD i = decide (i < 8)) := by decide +kernel
theorem feed_bits (x : BitVec 64) (k : Nat) (hk : k ≤ 56) : (x >>> k).setWidth 32 &&& 255#32 = ((x.sshiftRight k) &&& 255#64).setWidth 32 := by
  apply BitVec.eq_of_getLsbD_eq
  intro i hi
  obtain ⟨e1, e2⟩ := lo8 i hi
  simp only [BitVec.getLsbD_and, BitVec.getLsbD_setWidth, BitVec.getLsbD_ushiftRight, BitVec.getLsbD_sshiftRight, e1, e2]
  by_cases h8 : i < 8
  · have h1 : k + i < 64 := by omega
    have h2 : ¬ 64 ≤ i := by omega
    simp [h8, hi, h1, h2]
  · simp [h8]
theorem lt8 {k : Nat} (h : k < 8) : k = 0 ∨ k = 1 ∨ k = 2 ∨ k = 3 ∨ k = 4 ∨ k = 5 ∨ k = 6 ∨ k = 7 := by omega
theorem ush64 (x : Int64) (s : UInt64) (k : Nat) (hs : (s.toBitVec % 64).toNat = k) : (x.toUInt64 >>> s).toInt64.toBitVec = x.toBitVec >>> k := by
  rw [← hs]; rfl
theorem ssh64 (x s : Int64) (k : Nat) (hs : (s.toBitVec.smod 64).toNat = k) : (x >>> s).toBitVec = x.toBitVec.sshiftRight k := by
  rw [← hs]; rfl
theorem feed_sh : ∀ j, j < 8 → (((((8 : Int32) * nI j).toInt64.toUInt64 &&& Int64.toUInt64 63).toBitVec % 64).toNat = 8 * j) ∧ ((((8 : Int32) * nI j).toInt64 &&& 63).toBitVec.smod 64).toNat = 8 * j := by decide +kernel
theorem feed_byte (x : Int64) {j : Nat} (hj : j < 8) : (((x.toUInt64 >>> (((8 : Int32) * nI j).toInt64.toUInt64 &&& Int64.toUInt64 63)).toInt64).toInt32) &&& (255 : Int32) = ((x >>> (((8 : Int32) * nI j).toInt64 &&& 63)) &&& (255 : Int64)).toInt32 := by
  apply Int32.toBitVec_inj.mp
  obtain ⟨h1, h2⟩ := feed_sh j hj
  show ((x.toUInt64 >>> (((8 : Int32) * nI j).toInt64.toUInt64 &&& Int64.toUInt64 63)).toInt64.toBitVec.signExtend 32) &&& 255#32 = ((x >>> (((8 : Int32) * nI j).toInt64 &&& 63)).toBitVec &&& 255#64).signExtend 32
  rw [ush64 x _ _ h1, ssh64 x _ _ h2, BitVec.signExtend_eq_setWidth_of_le _ (by decide), BitVec.signExtend_eq_setWidth_of_le _ (by decide)]
  exact feed_bits x.toBitVec (8 * j) (by omega)
theorem and255 (x : Int32) : bt (x &&& 255) 0 255 := by
  rw [pk_and x 8 (m := 255) (by decide)]
  have : x.toBitVec.toNat % 2 ^ 8 < 2 ^ 8 := Nat.mod_lt _ (by decide)
  rw [show (2 : Nat) ^ 8 = 256 from rfl] at this ⊢
  constructor <;> rw [nI_toInt (by omega)] <;> omega
theorem feed_l {n : Nat} (hn : n ≤ 8) (a2 : Int64) : ∀ (d i k FC FM : Nat) (σ τ : St), i + d = n → d < FC → d < FM → Rel σ τ → τ.1 3 = nI k → k + d ≤ 160 → Both (fC_feed_l37 N0 FC σ (nI n) a2 (nI i)) (fM_feed_l33 N0 FM τ (nI n) a2 (nI i)) := by
  intro d
  induction d with
  | zero =>
    intro i k FC FM σ τ h1 h2 h3 hR h4 h5
    obtain ⟨FC, rfl⟩ : ∃ k, FC = k + 1 := ⟨FC - 1, by omega⟩
    obtain ⟨FM, rfl⟩ : ∃ k, FM = k + 1 := ⟨FM - 1, by omega⟩
    show Both (if nI n ≤ nI i then _ else _) (if nI n ≤ nI i then _ else _)
    have e : nI n ≤ nI i := by rw [nI_leI (by omega) (by omega)]; omega
    rw [if_pos e, if_pos e]
    have hR' := hR
    obtain ⟨n1, n3, n4, n5, n6, n7, n8, g1, g2, g3, g4, g5, g6, g7, g8, g9, g10⟩ := hR
    obtain ⟨_, _, _, _, _, _, _, z, z1, z2, z3, _⟩ := g8
    exact Both.mk2 (z2.trans z3.symm) hR'
  | succ d ih =>
    intro i k FC FM σ τ h1 h2 h3 hR h4 h5
    obtain ⟨FC, rfl⟩ : ∃ k, FC = k + 1 := ⟨FC - 1, by omega⟩
    obtain ⟨FM, rfl⟩ : ∃ k, FM = k + 1 := ⟨FM - 1, by omega⟩
    obtain ⟨n1, n3, n4, n5, n6, n7, n8, g1, g2, g3, g4, g5, g6, g7, g8, g9, g10⟩ := hR
    obtain ⟨y1, y2, y3, y4, y5, y6, y7, z, z1, z2, z3, z4⟩ := g8
    have hzk : z = k := (nI_eq (by omega) (by omega)).mp (z3.symm.trans h4)
    subst hzk
    show Both (if nI n ≤ nI i then _ else _) (if nI n ≤ nI i then _ else _)
    have e : ¬ nI n ≤ nI i := by rw [nI_leI (by omega) (by omega)]; omega
    rw [if_neg e, if_neg e]
    unfold fC_B_put
    have cl : (nI z).toNatClampNeg = z := nI_clamp (by omega)
    rw [z2, if_neg (by rw [show (160 : Int32) = nI 160 from rfl, nI_leI (by omega) (by omega)]; omega), h4]
    have hg := nI_b (show z < 160 by omega) (by decide)
    rw [giN 160 hg, giN 160 hg, ← feed_byte a2 (by omega)]
    generalize hy : (((a2.toUInt64 >>> (((8 : Int32) * nI i).toInt64.toUInt64 &&& Int64.toUInt64 63)).toInt64).toInt32) &&& (255 : Int32) = y
    have hby : bt y 0 255 := by rw [← hy]; exact and255 _
    simp only [bnd_eq, cal_eq, sA_i, z2, h4, nI_1]
    refine ih (i + 1) (z + 1) FC FM _ _ (by omega) (by omega) (by omega) ?_ rfl (by omega)
    refine ⟨n1, n3, n4, n5, n6, n7, n8, g1, g2, g3, g4, g5, g6, g7, ⟨y1, y2, y3, y4, y5, y6, y7, z + 1, by omega, rfl, rfl, ?_⟩, g9, g10⟩
    intro q hq
    show upd (σ.2.1 53) (nI z).toNatClampNeg y q = upd (τ.2.1 3) (nI z).toNatClampNeg y q ∧ bt (upd (τ.2.1 3) (nI z).toNatClampNeg y q) 0 255
    rw [cl]
    by_cases hqz : q = z
    · subst hqz; rw [pk_us, pk_us]; exact ⟨rfl, hby⟩
    · rw [pk_un hqz, pk_un hqz]; exact z4 q (by omega)
theorem e_feed {σ τ : St} (hR : Rel σ τ) (a1 : Int32) (a2 : Int64) : Both (fC_feed N0 σ a1 a2) (fM_feed N0 τ a1 a2) := by
  have hR' := hR
  obtain ⟨n1, n3, n4, n5, n6, n7, n8, g1, g2, g3, g4, g5, g6, g7, g8, g9, g10⟩ := hR
  obtain ⟨y1, y2, y3, y4, y5, y6, y7, z, z1, z2, z3, z4⟩ := g8
  unfold fC_feed fM_feed
  simp only [cal_eq, ite_b, i_1_8, w_1_8, z2, z3]
  refine Both.same (fun c1 => ?_) (fun c => Both.mk hR')
  refine Both.same (fun c2 => ?_) (fun c => Both.mk hR')
  obtain ⟨n, hn, hn2, rfl⟩ := bt_nI (bt_wk (c := 0) (d := 8) c1 (by decide) (by decide))
  rw [nI_add, show (160 : Int32) = nI 160 from rfl, nI_leI (by omega) (by decide)] at c2
  rw [← nI_0]
  exact feed_l (by omega) a2 n 0 z N0 N0 σ τ (by omega) (by unfold N0; omega) (by unfold N0; omega) hR' z3 (by omega)
