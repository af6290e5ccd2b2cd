/-! what a rule comes to, in both programs -/
theorem rs1_congr {nm nm' : Nat → Int32} (h : ∀ i, i < 6 → nm i = nm' i) (st : List Int32) (c : Int32) : rs1 nm st c = rs1 nm' st c := by
  unfold rs1
  by_cases h1 : -6 ≤ c.toInt
  · rw [if_pos h1, if_pos h1]
    by_cases h2 : 0 ≤ c.toInt
    · rw [if_pos h2, if_pos h2]
    · rw [if_neg h2, if_neg h2]
      have h3 : (-1 - c).toNatClampNeg < 6 := by
        show (-1 - c).toInt.toNat < 6
        rw [Int32.toInt_sub]
        have e1 : (-1 : Int32).toInt = -1 := rfl
        rw [e1, Int.bmod_eq_of_le (by omega) (by omega)]
        omega
      rw [h _ h3]
  · rw [if_neg h1, if_neg h1]
theorem rcO_congr {nm nm' : Nat → Int32} (h : ∀ i, i < 6 → nm i = nm' i) : ∀ (c st : List Int32), rcO nm c st = rcO nm' c st := by
  intro c
  induction c with
  | nil => intro st; rfl
  | cons x c ih =>
    intro st
    show (match rs1 nm st x with | none => none | some s => rcO nm c s) = (match rs1 nm' st x with | none => none | some s => rcO nm' c s)
    rw [rs1_congr h]
    cases rs1 nm' st x with
    | none => rfl
    | some s => exact ih s
/-- no cell is the width's: the width doesn't matter -/
theorem rcO_now {nm nm' : Nat → Int32} (h : ∀ i, i < 5 → nm i = nm' i) : ∀ (c st : List Int32), (∀ x ∈ c, x ≠ -6) → rcO nm c st = rcO nm' c st := by
  intro c
  induction c with
  | nil => intro st _; rfl
  | cons x c ih =>
    intro st hc
    show (match rs1 nm st x with | none => none | some s => rcO nm c s) = (match rs1 nm' st x with | none => none | some s => rcO nm' c s)
    have e : rs1 nm st x = rs1 nm' st x := by
      have hx := hc x (List.mem_cons_self ..)
      unfold rs1
      by_cases h1 : -6 ≤ x.toInt
      · rw [if_pos h1, if_pos h1]
        by_cases h2 : 0 ≤ x.toInt
        · rw [if_pos h2, if_pos h2]
        · rw [if_neg h2, if_neg h2]
          have h3 : (-1 - x).toNatClampNeg < 5 := by
            show (-1 - x).toInt.toNat < 5
            have hx2 : x.toInt ≠ -6 := fun z => hx (Int32.toInt_inj.mp z)
            rw [Int32.toInt_sub]
            have e1 : (-1 : Int32).toInt = -1 := rfl
            rw [e1, Int.bmod_eq_of_le (by omega) (by omega)]
            omega
          rw [h _ h3]
      · rw [if_neg h1, if_neg h1]
    rw [e]
    cases rs1 nm' st x with
    | none => rfl
    | some s => exact ih s (fun y hy => hc y (List.mem_cons_of_mem _ hy))
theorem rs1_len {nm : Nat → Int32} {st s : List Int32} {c : Int32} (h : rs1 nm st c = some s) : s.length ≤ st.length + 1 := by
  unfold rs1 at h
  by_cases h1 : -6 ≤ c.toInt
  · rw [if_pos h1] at h; cases h; simp
  · rw [if_neg h1] at h
    by_cases h2 : c = -13 ∨ c = -19
    · rw [if_pos h2] at h
      cases st with
      | nil => cases h
      | cons a l => cases h; simp
    · rw [if_neg h2] at h
      cases st with
      | nil => cases h
      | cons a l =>
        cases l with
        | nil => cases h
        | cons a2 l => cases h; simp only [List.length_cons]; omega
/-- the class's stack: the first of the list is on top -/
def SK (f : Nat → Int32) (st : List Int32) : Prop := ∀ i, i < st.length → f (st.length - 1 - i) = st.getD i 0
theorem SK.push {f : Nat → Int32} {st : List Int32} {x : Int32} (h : SK f st) : SK (upd f st.length x) (x :: st) := by
  intro i hi
  have hi : i < st.length + 1 := hi
  cases i with
  | zero =>
    show upd f st.length x (st.length + 1 - 1 - 0) = x
    rw [show st.length + 1 - 1 - 0 = st.length by omega, pk_us]
  | succ i =>
    show upd f st.length x (st.length + 1 - 1 - (i + 1)) = st.getD i 0
    rw [pk_un (by omega), show st.length + 1 - 1 - (i + 1) = st.length - 1 - i by omega]
    exact h i (by omega)
theorem SK.pop {f : Nat → Int32} {st : List Int32} {a : Int32} (h : SK f (a :: st)) : f st.length = a ∧ SK f st := by
  constructor
  · have := h 0 (by simp)
    exact this
  · intro i hi
    have := h (i + 1) (by simp; omega)
    rw [show (a :: st).length - 1 - (i + 1) = st.length - 1 - i by simp; omega] at this
    exact this
theorem SK.set {f : Nat → Int32} {st : List Int32} {x : Int32} (h : SK f st) : SK (upd f st.length x) (x :: st) := h.push
theorem q_ofOne {N : Nat} {σ : St} {c a : Int32} : fC_T_ofOne N σ c a = some (σ, if c = -19 then -a else if a = 0 then 1 else 0) := by
  unfold fC_T_ofOne
  by_cases h : c = -19
  · rw [if_pos h, if_pos h]
  · rw [if_neg h, if_neg h]
    by_cases h2 : a = 0
    · rw [if_pos h2, if_pos h2]
    · rw [if_neg h2, if_neg h2]
theorem q_ofTwo {N : Nat} {σ : St} {c a b : Int32} (hc : ¬ c = -13) : fC_T_ofTwo N σ c a b = some (σ, op2 c a b) := by
  unfold fC_T_ofTwo op2
  by_cases h17 : c = -17
  · subst h17; rfl
  by_cases h16 : c = -16
  · subst h16; rfl
  by_cases h15 : c = -15
  · subst h15
    show (if a = b then some (σ, (1 : Int32)) else some (σ, 0)) = some (σ, if a = b then 1 else 0)
    by_cases h : a = b
    · rw [if_pos h, if_pos h]
    · rw [if_neg h, if_neg h]
  by_cases h14 : c = -14
  · subst h14
    show (if b ≤ a then some (σ, (0 : Int32)) else some (σ, 1)) = some (σ, if a < b then 1 else 0)
    by_cases h : b ≤ a
    · rw [if_pos h, if_neg (by rw [lt_n]; rw [le_n] at h; omega)]
    · rw [if_neg h, if_pos (by rw [lt_n]; rw [le_n] at h; omega)]
  by_cases h12 : c = -12
  · subst h12
    show (if a = 0 then some (σ, (0 : Int32)) else if b = 0 then some (σ, 0) else some (σ, 1)) = some (σ, if a ≠ 0 ∧ b ≠ 0 then 1 else 0)
    by_cases ha : a = 0
    · rw [if_pos ha, if_neg (fun z => z.1 ha)]
    · rw [if_neg ha]
      by_cases hb : b = 0
      · rw [if_pos hb, if_neg (fun z => z.2 hb)]
      · rw [if_neg hb, if_pos ⟨ha, hb⟩]
  by_cases h11 : c = -11
  · subst h11
    show (if a = 0 then (if b = 0 then some (σ, (0 : Int32)) else some (σ, 1)) else some (σ, 1)) = some (σ, if a ≠ 0 ∨ b ≠ 0 then 1 else 0)
    by_cases ha : a = 0
    · rw [if_pos ha]
      by_cases hb : b = 0
      · rw [if_pos hb, if_neg (fun z => z.elim (fun q => q ha) (fun q => q hb))]
      · rw [if_neg hb, if_pos (Or.inr hb)]
    · rw [if_neg ha, if_pos (Or.inl ha)]
  rw [if_neg h17, if_neg h16, if_neg h15, if_neg h14, if_neg hc, if_neg h12, if_neg h11, if_neg h11, if_neg h12, if_neg h14, if_neg h15, if_neg h16, if_neg h17]
theorem rs1_un {nm : Nat → Int32} {x : Int32} (hp : ¬ -6 ≤ x.toInt) (hu : x = -13 ∨ x = -19) : rs1 nm [] x = none ∧ ∀ a l, rs1 nm (a :: l) x = some ((if x = -19 then -a else if a = 0 then 1 else 0) :: l) := by
  constructor
  · unfold rs1; rw [if_neg hp, if_pos hu]
  · intro a l; unfold rs1; rw [if_neg hp, if_pos hu]
theorem rs1_bin {nm : Nat → Int32} {x : Int32} (hp : ¬ -6 ≤ x.toInt) (hu : ¬ (x = -13 ∨ x = -19)) : rs1 nm [] x = none ∧ (∀ a, rs1 nm [a] x = none) ∧ ∀ b a l, rs1 nm (b :: a :: l) x = some (op2 x a b :: l) := by
  refine ⟨?_, fun a => ?_, fun b a l => ?_⟩
  · unfold rs1; rw [if_neg hp, if_neg hu]
  · unfold rs1; rw [if_neg hp, if_neg hu]
  · unfold rs1; rw [if_neg hp, if_neg hu]
theorem q_worth_l {N w e : Nat} {nm : Nat → Int32} {v : Int32} (hw : w < 18) (he : e ≤ 960) : ∀ (c : List Int32) (a F : Nat) (σ : St) (st : List Int32), a + c.length = e → c.length < F → σ.2.1 43 w = nI e → (∀ i, i < c.length → σ.2.1 41 (a + i) = c.getD i 0) → (∀ i, i < 6 → σ.2.1 44 i = nm i) → SK (σ.2.1 45) st → st.length + c.length ≤ 160 → (∃ s, rcO nm c st = some (v :: s)) →
    ∃ σ', fC_T_worth_l36 N F σ (nI w) (nI st.length) (nI a) = some (σ', v) ∧ KP [] [45] σ σ' := by
  intro c
  induction c with
  | nil =>
    intro a F σ st h1 h2 h3 h4 h5 h6 h7 h8
    have h1 : a + 0 = e := h1
    have h7 : st.length + 0 ≤ 160 := h7
    obtain ⟨F, rfl⟩ : ∃ k, F = k + 1 := ⟨F - 1, by omega⟩
    obtain ⟨s, hs⟩ := h8
    have hs : some st = some (v :: s) := hs
    cases hs
    refine ⟨σ, ?_, KP.rf⟩
    show gi (nI w) 18 _ = _
    have hl : (v :: s).length = s.length + 1 := rfl
    rw [giN 18 (nI_b hw (by decide)), nI_clamp (by omega), h3, if_pos (by rw [nI_leI (by omega) (by omega)]; omega)]
    unfold fC_T_worth_j201
    rw [hl, if_neg (nI_nle (by omega) (by omega)), nI_pred, giN 160 (nI_b (by omega) (by decide)), nI_clamp (by omega), (SK.pop h6).1]
  | cons x c ih =>
    intro a F σ st h1 h2 h3 h4 h5 h6 h7 h8
    have h1 : a + (c.length + 1) = e := h1
    have h2 : c.length + 1 < F := h2
    have h7 : st.length + (c.length + 1) ≤ 160 := h7
    obtain ⟨F, rfl⟩ : ∃ k, F = k + 1 := ⟨F - 1, by omega⟩
    obtain ⟨s, hs⟩ := h8
    have hs : (match rs1 nm st x with | none => none | some s => rcO nm c s) = some (v :: s) := hs
    have hx : σ.2.1 41 a = x := h4 0 (by simp)
    have cla : (nI a).toNatClampNeg = a := nI_clamp (by omega)
    have nx : ∀ (st2 : List Int32) (σ2 : St), rs1 nm st x = some st2 → KP [] [45] σ σ2 → SK (σ2.2.1 45) st2 → ∃ σ', fC_T_worth_j195 N (fC_T_worth_l36 N F) σ2 (nI w) (nI st2.length) (nI a) = some (σ', v) ∧ KP [] [45] σ σ' := by
      intro st2 σ2 q1 q2 q3
      rw [q1] at hs
      unfold fC_T_worth_j195
      rw [bnd_eq, nI_1]
      obtain ⟨σ', e1, e2⟩ := ih (a + 1) F σ2 st2 (by omega) (by omega) (by rw [q2.2 43 (by decide)]; exact h3) (fun i hi => by
        rw [q2.2 41 (by decide), show a + 1 + i = a + (i + 1) by omega]
        exact h4 (i + 1) (by simp; omega)) (fun i hi => by rw [q2.2 44 (by decide)]; exact h5 i hi) q3 (by have := rs1_len q1; omega) ⟨s, hs⟩
      exact ⟨σ', e1, q2.tr e2⟩
    show ∃ σ', gi (nI w) 18 _ = _ ∧ _
    rw [giN 18 (nI_b hw (by decide)), nI_clamp (show w < 2 ^ 31 by omega), h3, if_neg (by rw [nI_leI (by omega) (by omega)]; omega), giN 960 (nI_b (by omega) (by decide)), cla, hx, bnd_eq]
    have hx6 : x < (-6 : Int32) ↔ ¬ -6 ≤ x.toInt := by
      rw [lt_n]
      have e6 : (-6 : Int32).toInt = -6 := rfl
      omega
    by_cases hp : -6 ≤ x.toInt
    · rw [if_neg (fun z => (hx6.mp z) hp), if_pos (by rw [show (160 : Int32) = nI 160 from rfl, nI_ltI (by omega) (by decide)]; omega)]
      have hr : rs1 nm st x = some ((if 0 ≤ x.toInt then x else nm (-1 - x).toNatClampNeg) :: st) := by
        unfold rs1; rw [if_pos hp]
      have fin : ∀ y, (if 0 ≤ x.toInt then x else nm (-1 - x).toNatClampNeg) = y → ∃ σ', fC_T_worth_j99 N (fC_T_worth_l36 N F) σ (nI w) (nI st.length) (nI a) (nI st.length) y = some (σ', v) ∧ KP [] [45] σ σ' := by
        intro y hy
        rw [hy] at hr
        unfold fC_T_worth_j99
        rw [giN 160 (nI_b (by omega) (by decide)), bnd_eq, bnd_eq, nI_1]
        refine nx (y :: st) _ hr (KP.a (by decide)) ?_
        show SK (upd (σ.2.1 45) (nI st.length).toNatClampNeg y) (y :: st)
        rw [nI_clamp (by omega)]
        exact h6.push
      by_cases hz : 0 ≤ x.toInt
      · rw [if_neg (nn32 hz)]
        exact fin _ (if_pos hz)
      · have hlt : (-1 - x).toInt = -1 - x.toInt := by
          rw [Int32.toInt_sub]
          have e1 : (-1 : Int32).toInt = -1 := rfl
          rw [e1, Int.bmod_eq_of_le (by omega) (by omega)]
        rw [if_pos (by rw [lt_n]; have e0 : (0 : Int32).toInt = 0 := rfl; omega), giN 6 (by rw [hlt]; omega)]
        have h6' : (-1 - x).toNatClampNeg < 6 := by
          show (-1 - x).toInt.toNat < 6
          rw [hlt]; omega
        rw [h5 _ h6']
        exact fin _ (if_neg hz)
    · rw [if_pos (hx6.mpr hp)]
      have un : (x = -13 ∨ x = -19) → ∃ σ', fC_T_worth_j120 N (fC_T_worth_l36 N F) σ (nI w) (nI st.length) (nI a) x = some (σ', v) ∧ KP [] [45] σ σ' := by
        intro hu
        obtain ⟨r0, r1⟩ := rs1_un (nm := nm) hp hu
        cases st with
        | nil => rw [r0] at hs; cases hs
        | cons y st =>
          have hr := r1 y st
          have hl : (y :: st).length = st.length + 1 := rfl
          obtain ⟨p1, p2⟩ := SK.pop h6
          unfold fC_T_worth_j120
          rw [hl, if_pos (by rw [show (1 : Int32) = nI 1 from rfl, nI_leI (by decide) (by omega)]; omega), nI_pred, giN 160 (nI_b (by omega) (by decide)), nI_clamp (by omega), p1, q_ofOne, cal_eq, giN 160 (nI_b (by omega) (by decide)), bnd_eq]
          refine nx _ _ hr (KP.a (by decide)) ?_
          show SK (upd (σ.2.1 45) (nI st.length).toNatClampNeg _) _
          rw [nI_clamp (by omega)]
          exact p2.push
      by_cases h13 : x = -13
      · rw [if_pos h13]; exact un (Or.inl h13)
      rw [if_neg h13]
      by_cases h19 : x = -19
      · rw [if_pos h19]; exact un (Or.inr h19)
      rw [if_neg h19]
      have hu : ¬ (x = -13 ∨ x = -19) := fun z => z.elim h13 h19
      obtain ⟨r0, r1, r2⟩ := rs1_bin (nm := nm) hp hu
      cases st with
      | nil => rw [r0] at hs; cases hs
      | cons y2 st =>
       cases st with
       | nil => rw [r1] at hs; cases hs
       | cons y1 st =>
        have hr := r2 y2 y1 st
        have hl : (y2 :: y1 :: st).length = st.length + 1 + 1 := rfl
        rw [hl] at h7
        obtain ⟨p1, p2⟩ := SK.pop h6
        obtain ⟨p3, p4⟩ := SK.pop p2
        have p1 : σ.2.1 45 (st.length + 1) = y2 := p1
        rw [hl, if_pos (by rw [show (2 : Int32) = nI 2 from rfl, nI_leI (by decide) (by omega)]; omega), pk_m1, bnd_eq, nI_pred, giN 160 (nI_b (by omega) (by decide)), giN 160 (nI_b (by omega) (by decide)), nI_clamp (by omega), nI_clamp (by omega), p1, p3, q_ofTwo h13, cal_eq, giN 160 (nI_b (by omega) (by decide)), bnd_eq]
        refine nx (op2 x y1 y2 :: st) _ hr (KP.a (by decide)) ?_
        show SK (upd (σ.2.1 45) (nI st.length).toNatClampNeg _) _
        rw [nI_clamp (by omega)]
        exact p4.push
