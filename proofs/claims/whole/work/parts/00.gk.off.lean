/-! which calls are offside -/
def kN (τ : St) (q : Nat) : Nat := (τ.2.1 13 q).toNatClampNeg
/-- bit i of a number -/
def bit (x : Int32) (i : Nat) : Bool := decide ((x >>> (nI i &&& 31)) &&& (1 : Int32) = 1)
def ofF (P : Nat → Bool) : Nat → Nat → Int32 → Int32
  | 0, _, acc => acc
  | d + 1, i, acc => ofF P d (i + 1) (if P i = true then acc ||| ((1 : Int32) <<< (nI i &&& 31)) else acc)
theorem or_0 (x : Int32) : x ||| 0 = x := by
  apply Int32.toBitVec_inj.mp
  show x.toBitVec ||| 0#32 = x.toBitVec
  exact BitVec.or_zero
section OFF
variable {n1 n3 n4 n5 r : Nat} {c : Nat → List Int32} {σ0 τ0 : St} {w s f : Int32}
theorem kind_at (D : DD n1 n3 n4 n5 r c σ0 τ0) {q : Nat} (hq : q < n5) : kN τ0 q < 6 ∧ τ0.2.1 13 q = nI (kN τ0 q) := by
  obtain ⟨_, ⟨k, hk, ek⟩, _⟩ := call_at D hq
  have : kN τ0 q = k := by unfold kN; rw [ek, nI_clamp (by omega)]
  rw [this]; exact ⟨hk, ek⟩
theorem offsC_l (D : DD n1 n3 n4 n5 r c σ0 τ0) {bits : Int32} : ∀ (d i F : Nat) (σ : St) (acc : Int32), i + d = n5 → d < F → QC σ0 w s f σ → ∃ σ', fC_P_offsideAmong_l4 N0 F σ bits acc (nI i) = some (σ', ofF (fun i => bit bits i && offS τ0 c w s f (kN τ0 i) i) d i acc) ∧ KP [] [44, 45] σ σ' := by
  have hn5 := D.2.2.2.1.1
  intro d
  induction d with
  | zero =>
    intro i F σ acc h1 h2 Q
    obtain ⟨F, rfl⟩ : ∃ k, F = k + 1 := ⟨F - 1, by omega⟩
    obtain ⟨_, _, _, _, _, _, _, _, _, e19⟩ := QC_arr D Q
    refine ⟨σ, ?_, KP.rf⟩
    show (if σ.1 19 ≤ nI i then _ else _) = _
    rw [e19, if_pos (by rw [nI_leI (by omega) (by omega)]; omega)]
    rfl
  | succ d ih =>
    intro i F σ acc h1 h2 Q
    obtain ⟨F, rfl⟩ : ∃ k, F = k + 1 := ⟨F - 1, by omega⟩
    obtain ⟨e46, _, _, _, _, _, _, _, _, e19⟩ := QC_arr D Q
    have hi : i < n5 := by omega
    obtain ⟨hk, ek⟩ := kind_at D hi
    have go : ∀ (P : Bool) (σ2 : St) (acc' : Int32), (bit bits i && offS τ0 c w s f (kN τ0 i) i) = P → (if P = true then acc ||| ((1 : Int32) <<< (nI i &&& 31)) else acc) = acc' → KP [] [44, 45] σ σ2 → ∃ σ', fC_P_offsideAmong_j47 N0 (fC_P_offsideAmong_l4 N0 F) σ2 bits acc' (nI i) = some (σ', ofF (fun i => bit bits i && offS τ0 c w s f (kN τ0 i) i) (d + 1) i acc) ∧ KP [] [44, 45] σ σ' := by
      intro P σ2 acc' q1 q2 q3
      unfold fC_P_offsideAmong_j47
      rw [bnd_eq, nI_1]
      obtain ⟨σ', e1, e2⟩ := ih (i + 1) F σ2 acc' (by omega) (by omega) (Q.kp q3)
      refine ⟨σ', ?_, q3.tr e2⟩
      subst q1; subst q2
      exact e1
    show ∃ σ', (if σ.1 19 ≤ nI i then _ else _) = _ ∧ _
    rw [e19, if_neg (by rw [nI_leI (by omega) (by omega)]; omega)]
    by_cases hb : (bits >>> (nI i &&& 31)) &&& (1 : Int32) = 1
    · have hb' : bit bits i = true := decide_eq_true hb
      obtain ⟨σ1, a1, a2⟩ := offC D Q hk hi
      rw [if_pos hb, giN 24 (nI_b (by omega) (by decide)), nI_clamp (by omega), e46, ek, a1, cal_eq]
      cases hO : offS τ0 c w s f (kN τ0 i) i with
      | true =>
        rw [if_neg (show ¬ (if true = true then (1 : Int32) else 0) = 0 by decide), bnd_eq]
        exact go true σ1 _ (by rw [hb', hO]; rfl) rfl a2
      | false =>
        rw [if_pos (show (if false = true then (1 : Int32) else 0) = 0 from rfl)]
        exact go false σ1 _ (by rw [hb', hO]; rfl) rfl a2
    · have hb' : bit bits i = false := decide_eq_false hb
      rw [if_neg hb]
      exact go false σ _ (by rw [hb']; rfl) rfl KP.rf
theorem offsC (D : DD n1 n3 n4 n5 r c σ0 τ0) {σ : St} (Q : QC σ0 w s f σ) {bits : Int32} : CV σ (fC_P_offsideAmong N0 σ bits) (ofF (fun i => bit bits i && offS τ0 c w s f (kN τ0 i) i) n5 0 0) := by
  have hn5 := D.2.2.2.1.1
  exact offsC_l D n5 0 N0 σ 0 (by omega) (by unfold N0; omega) Q
theorem offsM_l (D : DD n1 n3 n4 n5 r c σ0 τ0) {bits : Int32} : ∀ (d i F : Nat) (τ : St) (acc : Int32), i + d = n5 → d < F → QM τ0 w s f τ → ∃ τ', fM_offsides_l4 N0 F τ bits acc (nI i) = some (τ', ofF (fun i => bit bits i && offS τ0 c w s f (kN τ0 i) i) d i acc) ∧ KP fE [] τ τ' := by
  have hn5 := D.2.2.2.1.1
  intro d
  induction d with
  | zero =>
    intro i F τ acc h1 h2 Q
    obtain ⟨F, rfl⟩ : ∃ k, F = k + 1 := ⟨F - 1, by omega⟩
    obtain ⟨_, _, _, _, _, _, _, _, _, e19⟩ := QM_arr D Q
    refine ⟨τ, ?_, KP.rf⟩
    show (if τ.1 23 ≤ nI i then _ else _) = _
    rw [e19, if_pos (by rw [nI_leI (by omega) (by omega)]; omega)]
    rfl
  | succ d ih =>
    intro i F τ acc h1 h2 Q
    obtain ⟨F, rfl⟩ : ∃ k, F = k + 1 := ⟨F - 1, by omega⟩
    obtain ⟨e13, _, _, _, _, _, _, _, _, e19⟩ := QM_arr D Q
    have hi : i < n5 := by omega
    obtain ⟨hk, ek⟩ := kind_at D hi
    have go : ∀ (P : Bool) (τ2 : St) (t1 : Int32), (bit bits i && offS τ0 c w s f (kN τ0 i) i) = P → (if P = true then acc ||| ((1 : Int32) <<< (nI i &&& 31)) else acc) = acc ||| t1 → KP fE [] τ τ2 → ∃ τ', fM_offsides_j43 N0 (fM_offsides_l4 N0 F) τ2 bits (nI i) acc t1 = some (τ', ofF (fun i => bit bits i && offS τ0 c w s f (kN τ0 i) i) (d + 1) i acc) ∧ KP fE [] τ τ' := by
      intro P τ2 t1 q1 q2 q3
      unfold fM_offsides_j43
      rw [bnd_eq, bnd_eq, nI_1]
      obtain ⟨τ', e1, e2⟩ := ih (i + 1) F τ2 (acc ||| t1) (by omega) (by omega) (Q.kp q3)
      refine ⟨τ', ?_, q3.tr e2⟩
      rw [← q2] at e1 ⊢
      subst q1
      exact e1
    show ∃ τ', (if τ.1 23 ≤ nI i then _ else _) = _ ∧ _
    rw [e19, if_neg (by rw [nI_leI (by omega) (by omega)]; omega)]
    unfold fM_offsides_j42
    by_cases hb : (bits >>> (nI i &&& 31)) &&& (1 : Int32) = 1
    · have hb' : bit bits i = true := decide_eq_true hb
      obtain ⟨τ1, a1, a2⟩ := offM D Q hk hi
      rw [if_pos hb, giN 24 (nI_b (by omega) (by decide)), nI_clamp (by omega), e13, ek, a1, cal_eq]
      cases hO : offS τ0 c w s f (kN τ0 i) i with
      | true =>
        rw [if_neg (show ¬ (if true = true then (1 : Int32) else 0) = 0 by decide)]
        exact go true τ1 _ (by rw [hb', hO]; rfl) rfl a2
      | false =>
        rw [if_pos (show (if false = true then (1 : Int32) else 0) = 0 from rfl)]
        exact go false τ1 _ (by rw [hb', hO]; rfl) (or_0 acc).symm a2
    · have hb' : bit bits i = false := decide_eq_false hb
      rw [if_neg hb]
      exact go false τ _ (by rw [hb']; rfl) (or_0 acc).symm KP.rf
theorem offsM (D : DD n1 n3 n4 n5 r c σ0 τ0) {τ : St} (Q : QM τ0 w s f τ) {bits : Int32} : MV1 τ (fM_offsides N0 τ bits) (ofF (fun i => bit bits i && offS τ0 c w s f (kN τ0 i) i) n5 0 0) := by
  have hn5 := D.2.2.2.1.1
  exact offsM_l D n5 0 N0 τ 0 (by omega) (by unfold N0; omega) Q
/-- calls in which one of a side attacks -/
theorem attC_l {N : Nat} {att : Nat → Int32} {side bits : Int32} {n : Nat} (hn : n ≤ 24) {σ : St} (h19 : σ.1 19 = nI n) (h52 : ∀ i, i < n → σ.2.1 52 i = att i) : ∀ (d i F : Nat) (acc : Int32), i + d = n → d < F → fC_F_attackedBy_l5 N F σ side bits acc (nI i) = some (σ, ofF (fun i => bit bits i && decide (att i = side)) d i acc) := by
  intro d
  induction d with
  | zero =>
    intro i F acc h1 h2
    obtain ⟨F, rfl⟩ : ∃ k, F = k + 1 := ⟨F - 1, by omega⟩
    show (if σ.1 19 ≤ nI i then _ else _) = _
    rw [h19, if_pos (by rw [nI_leI (by omega) (by omega)]; omega)]
    rfl
  | succ d ih =>
    intro i F acc h1 h2
    obtain ⟨F, rfl⟩ : ∃ k, F = k + 1 := ⟨F - 1, by omega⟩
    have go : ∀ (P : Bool) (acc' : Int32), (bit bits i && decide (att i = side)) = P → (if P = true then acc ||| ((1 : Int32) <<< (nI i &&& 31)) else acc) = acc' → fC_F_attackedBy_j42 N (fC_F_attackedBy_l5 N F) σ side bits acc' (nI i) = some (σ, ofF (fun i => bit bits i && decide (att i = side)) (d + 1) i acc) := by
      intro P acc' q1 q2
      unfold fC_F_attackedBy_j42
      rw [bnd_eq, nI_1, ih (i + 1) F acc' (by omega) (by omega)]
      subst q1; subst q2; rfl
    show (if σ.1 19 ≤ nI i then _ else _) = _
    rw [h19, if_neg (by rw [nI_leI (by omega) (by omega)]; omega)]
    by_cases hb : (bits >>> (nI i &&& 31)) &&& (1 : Int32) = 1
    · have hb' : bit bits i = true := decide_eq_true hb
      rw [if_pos hb, giN 24 (nI_b (by omega) (by decide)), nI_clamp (by omega), h52 i (by omega)]
      by_cases ha : att i = side
      · rw [if_pos ha, bnd_eq]
        exact go true _ (by rw [hb', decide_eq_true ha]; rfl) rfl
      · rw [if_neg ha]
        exact go false _ (by rw [hb', decide_eq_false ha]; rfl) rfl
    · have hb' : bit bits i = false := decide_eq_false hb
      rw [if_neg hb]
      exact go false _ (by rw [hb']; rfl) rfl
theorem attS (D : DD n1 n3 n4 n5 r c σ0 τ0) {q : Nat} (hq : q < n5) : σ0.2.1 52 q = τ0.2.1 4 (aN τ0 q) := (D.2.2.2.1.2.2.2.2.2.2.2.2.2 q hq).2.2.2.2.2.2
theorem attC (D : DD n1 n3 n4 n5 r c σ0 τ0) {σ : St} (Q : QC σ0 w s f σ) {side bits : Int32} : fC_F_attackedBy N0 σ side bits = some (σ, ofF (fun i => bit bits i && decide (τ0.2.1 4 (aN τ0 i) = side)) n5 0 0) := by
  have hn5 := D.2.2.2.1.1
  obtain ⟨_, _, _, _, _, _, _, _, _, e19⟩ := QC_arr D Q
  exact attC_l (N := N0) (att := fun i => τ0.2.1 4 (aN τ0 i)) hn5 e19 (fun i hi => by rw [Q.1.2 52 (by decide)]; exact attS D hi) n5 0 N0 0 (by omega) (by unfold N0; omega)
theorem standM_l (D : DD n1 n3 n4 n5 r c σ0 τ0) {side bits was : Int32} {τ : St} (Q : QM τ0 w s f τ) : ∀ (d i F : Nat) (acc : Int32), i + d = n5 → d < F → fM_stand_l70 N0 F τ side bits was acc (nI i) = fM_stand_j124 N0 τ was (ofF (fun i => bit bits i && decide (τ0.2.1 4 (aN τ0 i) = side)) d i acc) := by
  have hn5 := D.2.2.2.1.1
  intro d
  induction d with
  | zero =>
    intro i F acc h1 h2
    obtain ⟨F, rfl⟩ : ∃ k, F = k + 1 := ⟨F - 1, by omega⟩
    obtain ⟨_, _, _, _, _, _, _, _, _, e19⟩ := QM_arr D Q
    show (if τ.1 23 ≤ nI i then _ else _) = _
    rw [e19, if_pos (by rw [nI_leI (by omega) (by omega)]; omega)]
    rfl
  | succ d ih =>
    intro i F acc h1 h2
    obtain ⟨F, rfl⟩ : ∃ k, F = k + 1 := ⟨F - 1, by omega⟩
    obtain ⟨_, e14, _, _, _, _, _, _, _, e19⟩ := QM_arr D Q
    have e4 : τ.2.1 4 = τ0.2.1 4 := Q.1.2 4 (by decide)
    obtain ⟨c1, _, c3, c4, _⟩ := call_at D (show i < n5 by omega)
    have go : ∀ (P : Bool) (t1 : Int32), (bit bits i && decide (τ0.2.1 4 (aN τ0 i) = side)) = P → (if P = true then acc ||| ((1 : Int32) <<< (nI i &&& 31)) else acc) = acc ||| t1 → fM_stand_j115 N0 (fM_stand_l70 N0 F) τ side bits was (nI i) acc t1 = fM_stand_j124 N0 τ was (ofF (fun i => bit bits i && decide (τ0.2.1 4 (aN τ0 i) = side)) (d + 1) i acc) := by
      intro P t1 q1 q2
      unfold fM_stand_j115
      rw [bnd_eq, bnd_eq, nI_1, ih (i + 1) F _ (by omega) (by omega), ← q2]
      subst q1; rfl
    show (if τ.1 23 ≤ nI i then _ else _) = _
    rw [e19, if_neg (by rw [nI_leI (by omega) (by omega)]; omega)]
    unfold fM_stand_j114
    by_cases hb : (bits >>> (nI i &&& 31)) &&& (1 : Int32) = 1
    · have hb' : bit bits i = true := decide_eq_true hb
      rw [if_pos hb, giN 24 (nI_b (by omega) (by decide)), nI_clamp (show i < 2 ^ 31 by omega), e14, c4, giN 10 (nI_b c3 (by decide)), nI_clamp (show aN τ0 i < 2 ^ 31 by omega), e4]
      by_cases ha : τ0.2.1 4 (aN τ0 i) = side
      · rw [if_pos ha]
        exact go true _ (by rw [hb', decide_eq_true ha]; rfl) rfl
      · rw [if_neg ha]
        exact go false _ (by rw [hb', decide_eq_false ha]; rfl) (or_0 acc).symm
    · have hb' : bit bits i = false := decide_eq_false hb
      rw [if_neg hb]
      exact go false _ (by rw [hb']; rfl) (or_0 acc).symm
end OFF
theorem e_offside {σ τ : St} (hR : Rel σ τ) : Both (fC_offside N0 σ) (fM_offside N0 τ) := by
  obtain ⟨n1, n3, n4, n5, r, c, D, h2⟩ := Rel_all hR
  have hn5 := D.2.2.2.1.1
  obtain ⟨σ1, e1, Q⟩ := QC_look (σ := σ) (τ := τ) (σ.1 3)
  have QM0 := QM_now h2
  obtain ⟨_, _, _, _, _, _, _, _, _, e19⟩ := QC_arr D Q
  unfold fC_offside fM_offside
  rw [e1, cal_eq, q_all hn5 e19, cal_eq, qm_all hn5 D.2.2.2.1.2.2.1, cal_eq]
  obtain ⟨σ2, f1, f2⟩ := offsC D Q (bits := nI (2 ^ n5 - 1))
  obtain ⟨τ2, g1, g2⟩ := offsM D QM0 (bits := nI (2 ^ n5 - 1))
  rw [f1, g1]
  exact Both.mk (Rel_q hR (Q.kp f2) g2)
theorem e_stand {σ τ : St} (hR : Rel σ τ) (a1 a2 a3 : Int32) : Both (fC_stand N0 σ a1 a2 a3) (fM_stand N0 τ a1 a2 a3) := by
  obtain ⟨n1, n3, n4, n5, r, c, D, h2⟩ := Rel_all hR
  have hn5 := D.2.2.2.1.1
  unfold fC_stand fM_stand
  simp only [cal_eq, ite_b, q_isSide, i_0_3]
  refine Both.same (fun c1 => ?_) (fun c => Both.mk hR)
  simp only [cal_eq, ite_b, q_isWidth, qm_isWidth]
  refine Both.same (fun c2 => ?_) (fun c => Both.mk hR)
  rw [q_hasAll hn5 D.2.2.2.1.2.1, qm_all hn5 D.2.2.2.1.2.2.1]
  simp only [cal_eq, ite_b, qm_inall hn5]
  refine Both.same (fun c3 => ?_) (fun c => Both.mk hR)
  have e5 : σ.1 3 = τ.1 5 := h2.1
  unfold fC_P_lookAsStanding
  simp only [bnd_eq, cal_eq]
  rw [e5]
  have QCs : QC σ a2 a1 ((a2 - τ.1 5) / 2) (sI (sI (sI σ 4 a2) 5 a1) 6 ((a2 - τ.1 5) / 2)) := ⟨((KP.i (by decide)).tr (KP.i (by decide))).tr (KP.i (by decide)), rfl, rfl, rfl⟩
  have QMs : QM τ a2 a1 ((a2 - τ.1 5) / 2) (sI (sI (sI τ 18 a1) 19 ((a2 - τ.1 5) / 2)) 5 a2) := ⟨((KP.i (by decide)).tr (KP.i (by decide))).tr (KP.i (by decide)), rfl, rfl, Or.inr rfl⟩
  rw [attC D QCs, cal_eq]
  rw [show (sI τ 18 a1).1 5 = τ.1 5 from rfl, ← nI_0, standM_l D QMs n5 0 N0 (nI 0) (by omega) (by unfold N0; omega), nI_0]
  unfold fM_stand_j124
  obtain ⟨σ2, f1, f2⟩ := offsC D QCs (bits := ofF (fun i => bit a3 i && decide (τ.2.1 4 (aN τ i) = a1)) n5 0 0)
  obtain ⟨τ2, g1, g2⟩ := offsM D QMs (bits := ofF (fun i => bit a3 i && decide (τ.2.1 4 (aN τ i) = a1)) n5 0 0)
  rw [f1, g1, cal_eq, cal_eq, bnd_eq, bnd_eq]
  have q2 := (QMs.kp g2).1
  refine Both.mk (Rel_qq hR (QCs.kp f2) ⟨(q2.tr (KP.i (by decide))).tr (KP.i (by decide)), rfl, rfl, Or.inl rfl⟩)
