/-! the class's reading -/
theorem CT.kp {b : Nat → Int32} {sz T : Nat} {σ σ' : St} {f g : List Nat} (h : CT b sz T σ) (hk : KP f g σ σ') (hd : 21 ∉ f ∧ 54 ∉ g ∧ 55 ∉ g ∧ 56 ∉ g) : CT b sz T σ' := by
  obtain ⟨h1, h2, h3, h4⟩ := h
  refine ⟨h1, ?_, fun k hk2 => ?_, h4⟩
  · rw [hk.1 21 hd.1]; exact h2
  · rw [hk.2 54 hd.2.1, hk.2 55 hd.2.2.1, hk.2 56 hd.2.2.2]; exact h3 k hk2
/-- from σ0 on cells c have been laid down behind u -/
def GC (σ0 σ : St) (u : Nat) (c : List Int32) : Prop := KP [9, 10] [13] σ0 σ ∧ σ.1 9 = nI (u + c.length) ∧ (∀ k, k < u → σ.2.1 13 k = σ0.2.1 13 k) ∧ ∀ k, k < c.length → σ.2.1 13 (u + k) = c.getD k 0
theorem GC.nil {σ : St} {u : Nat} (h : σ.1 9 = nI u) : GC σ σ u [] := ⟨KP.rf, h, fun _ _ => rfl, fun k hk => absurd hk (Nat.not_lt_zero k)⟩
theorem GC.at {σ0 σ : St} {u : Nat} {c : List Int32} (h : GC σ0 σ u c) (v : Int32) : GC σ0 (sI σ 10 v) u c := ⟨h.1.tr (KP.i (by decide)), h.2.1, h.2.2.1, h.2.2.2⟩
theorem getD_l {c d : List Int32} {k : Nat} (h : k < c.length) : (c ++ d).getD k 0 = c.getD k 0 := by
  rw [List.getD_eq_getElem?_getD, List.getD_eq_getElem?_getD, List.getElem?_append_left h]
theorem getD_r {c d : List Int32} {k : Nat} (h : c.length ≤ k) : (c ++ d).getD k 0 = d.getD (k - c.length) 0 := by
  rw [List.getD_eq_getElem?_getD, List.getD_eq_getElem?_getD, List.getElem?_append_right h]
theorem GC.tr {σ0 σ σ' : St} {u : Nat} {c d : List Int32} (h : GC σ0 σ u c) (h' : GC σ σ' (u + c.length) d) : GC σ0 σ' u (c ++ d) := by
  obtain ⟨a1, a2, a3, a4⟩ := h
  obtain ⟨b1, b2, b3, b4⟩ := h'
  refine ⟨a1.tr b1, ?_, fun k hk => ?_, fun k hk => ?_⟩
  · rw [b2, List.length_append, Nat.add_assoc]
  · rw [b3 k (by omega), a3 k hk]
  · rw [List.length_append] at hk
    by_cases hc : k < c.length
    · rw [getD_l hc, b3 _ (by omega), a4 k hc]
    · rw [getD_r (by omega), ← b4 (k - c.length) (by omega)]
      exact congrArg _ (by omega)
theorem q_emit {N u : Nat} {σ : St} {x : Int32} (hu : u < 160) (h : σ.1 9 = nI u) : ∃ σ', fC_R_emit N σ x = some (σ', ()) ∧ GC σ σ' u [x] ∧ σ'.1 10 = σ.1 10 := by
  have cl : (nI u).toNatClampNeg = u := nI_clamp (by omega)
  unfold fC_R_emit
  rw [h, if_neg (by rw [show (160 : Int32) = nI 160 from rfl, nI_leI (by decide) (by omega)]; omega), giN 160 (nI_b hu (by decide)), bnd_eq, bnd_eq]
  refine ⟨_, rfl, ⟨(KP.a (by decide)).tr (KP.i (by decide)), ?_, fun k hk => ?_, fun k hk => ?_⟩, rfl⟩
  · show σ.1 9 + 1 = _
    rw [h, nI_1]; rfl
  · show upd (σ.2.1 13) (nI u).toNatClampNeg x k = _
    rw [cl, pk_un (by omega)]
  · have hk : k < 1 := hk
    have : k = 0 := by omega
    subst this
    show upd (σ.2.1 13) (nI u).toNatClampNeg x (u + 0) = x
    rw [cl, Nat.add_zero, pk_us]
theorem GC.emit {N : Nat} {σ0 σ : St} {u : Nat} {c : List Int32} {x : Int32} (h : GC σ0 σ u c) (hu : u + c.length < 160) : ∃ σ', fC_R_emit N σ x = some (σ', ()) ∧ GC σ0 σ' u (c ++ [x]) ∧ σ'.1 10 = σ.1 10 := by
  obtain ⟨σ', e1, e2, e3⟩ := q_emit (N := N) (x := x) hu h.2.1
  exact ⟨σ', e1, h.tr e2, e3⟩
theorem q_kindNow {N T sz i : Nat} {b : Nat → Int32} {σ : St} (h : CT b sz T σ) (hi : i ≤ T) (h10 : σ.1 10 = nI i) : fC_R_kindNow N σ = some (σ, tK b sz i) := by
  obtain ⟨h1, h2, h3, h4⟩ := h
  unfold fC_R_kindNow
  rw [h2, h10, if_neg (by rw [nI_leI (by omega) (by omega)]; omega), giN 161 (nI_b (by omega) (by decide)), nI_clamp (by omega), (h3 i hi).1]
theorem q_pass {N T sz i : Nat} {b : Nat → Int32} {σ : St} {x : Int32} (h : CT b sz T σ) (hi : i ≤ T) (h10 : σ.1 10 = nI i) : fC_R_pass N σ x = if tK b sz i = x then some (sI σ 10 (nI (i + 1)), 1) else some (σ, 0) := by
  unfold fC_R_pass
  rw [q_kindNow h hi h10, cal_eq, bnd_eq, h10, nI_1]
theorem CT.lt {b : Nat → Int32} {sz T i : Nat} {σ : St} (h : CT b sz T σ) (hi : i ≤ T) (hk : tK b sz i ≠ -1) : i < T := by
  rcases Nat.lt_or_ge i T with z | z
  · exact z
  · exact absurd (h.2.2.2 i z) hk
def OutC (T : Nat) (σ σ' : St) (u i : Nat) (r : Int32) (q : PR) : Prop := σ'.1 10 = nI q.2.1 ∧ q.2.1 ≤ T ∧ ((q.1 = true ∧ r = 1 ∧ GC σ σ' u q.2.2 ∧ i + q.2.2.length ≤ q.2.1) ∨ (q.1 = false ∧ r = 0 ∧ KP [9, 10] [13] σ σ'))
def RC (b : Nat → Int32) (sz T : Nat) (f : St → Option (St × Int32)) (p : Nat → PR) : Prop := ∀ (σ : St) (i u : Nat), CT b sz T σ → i ≤ T → u ≤ i → σ.1 10 = nI i → σ.1 9 = nI u → ∃ σ' r, f σ = some (σ', r) ∧ OutC T σ σ' u i r (p i)
theorem pAnd_t {r : PR} {k : Nat → List Int32 → PR} (h : r.1 = true) : pAnd r k = k r.2.1 r.2.2 := if_pos h
theorem pAnd_f {r : PR} {k : Nat → List Int32 → PR} (h : r.1 = false) : pAnd r k = (false, r.2.1, []) := if_neg (by rw [h]; decide)
section CPARSE
variable {N T sz o : Nat} {b : Nat → Int32} {kA kB kC : St → Int32 → Option (St × Int32)}
theorem RC_one {pE pO : Nat → PR} (ho : o ≤ 5) (hA : o < 5 → RC b sz T (fun σ => kA σ (nI (o + 1))) pE) (hB : o < 5 → RC b sz T (fun σ => kB σ (nI (o + 1))) pO) : RC b sz T (fun σ => fC_R_readOne N kA kB kC σ (nI o)) (pOne (tK b sz) (tV b sz) pE pO (5 - o)) := by
  intro σ i u hC hi hu h10 h9
  have hT := hC.1
  show ∃ σ' r, fC_R_readOne N kA kB kC σ (nI o) = some (σ', r) ∧ _
  unfold fC_R_readOne
  rw [q_kindNow hC hi h10, cal_eq]
  have leaf : (tK b sz i = -3 ∨ tK b sz i = -4) → ∃ σ' r, fC_R_readOne_j17 N kA kB kC σ = some (σ', r) ∧ OutC T σ σ' u i r (true, i + 1, [tV b sz i]) := by
    intro hk
    have hlt := hC.lt hi (by rcases hk with z | z <;> rw [z] <;> decide)
    unfold fC_R_readOne_j17
    rw [h10, giN 161 (nI_b (by omega) (by decide)), nI_clamp (by omega), (hC.2.2.1 i hi).2.1]
    obtain ⟨σ1, e1, e2, e3⟩ := (GC.nil h9).emit (N := N) (x := tV b sz i) (by show u + 0 < 160; omega)
    rw [e1, cal_eq, bnd_eq]
    exact ⟨_, _, rfl, by show σ1.1 10 + 1 = _; rw [e3, h10, nI_1], hlt, Or.inl ⟨rfl, rfl, e2.at _, by show i + 1 ≤ i + 1; omega⟩⟩
  have no : ∃ σ' r, some (σ, (0 : Int32)) = some (σ', r) ∧ OutC T σ σ' u i r (false, i, []) := ⟨σ, 0, rfl, h10, hi, Or.inr ⟨rfl, rfl, KP.rf⟩⟩
  unfold pOne
  by_cases h3 : tK b sz i = -3
  · rw [if_pos h3, if_pos (Or.inl h3)]; exact leaf (Or.inl h3)
  rw [if_neg h3]
  by_cases h4 : tK b sz i = -4
  · rw [if_pos h4, if_pos (Or.inr h4)]; exact leaf (Or.inr h4)
  have h34 : ¬ (tK b sz i = -3 ∨ tK b sz i = -4) := fun z => z.elim h3 h4
  rw [if_neg h4, if_neg h34]
  have ob : ∀ a2, fC_R_readOne_j57 N kA kB kC σ (nI o) a2 = if o < 5 then (if a2 = 40 then
      cal (kA (sI σ 10 (nI (i + 1))) (nI (o + 1))) fun σ11 r12 => if r12 = 0 then some (σ11, (0 : Int32)) else cal (fC_R_pass N σ11 (41 : Int32)) fun σ15 r16 => if r16 = 0 then some (σ15, (0 : Int32)) else some (σ15, (1 : Int32))
    else cal (kB (sI σ 10 (nI (i + 1))) (nI (o + 1))) fun σ4 r5 => if r5 = 0 then some (σ4, (0 : Int32)) else cal (fC_R_emit N σ4 (-19 : Int32)) fun σ8 r9 => some (σ8, (1 : Int32))) else some (σ, 0) := by
    intro a2
    unfold fC_R_readOne_j57
    by_cases ho5 : o < 5
    · rw [if_pos (by rw [show (5 : Int32) = nI 5 from rfl, nI_ltI (by omega) (by decide)]; exact ho5), if_pos ho5, bnd_eq, h10, nI_1, nI_1]
    · rw [if_neg (by rw [show (5 : Int32) = nI 5 from rfl, nI_ltI (by omega) (by decide)]; exact ho5), if_neg ho5]
  by_cases h40 : tK b sz i = 40
  · rw [if_pos h40, if_pos h40, ob]
    by_cases ho5 : o < 5
    · rw [if_pos ho5, if_pos h40, if_neg (by omega)]
      have hlt := hC.lt hi (by rw [h40]; decide)
      obtain ⟨σ1, r, e1, e2, e3, e4⟩ := hA ho5 (sI σ 10 (nI (i + 1))) (i + 1) u (hC.kp (KP.i (by decide) : KP [10] [] σ _) (by decide)) hlt (by omega) rfl h9
      have e1 : kA (sI σ 10 (nI (i + 1))) (nI (o + 1)) = some (σ1, r) := e1
      rw [e1, cal_eq]
      have hC1 : KP [9, 10] [13] σ σ1 → CT b sz T σ1 := fun z => hC.kp z (by decide)
      rcases e4 with ⟨g1, g2, g3, g4⟩ | ⟨g1, g2, g3⟩
      · rw [pAnd_t g1, g2, if_neg (by decide)]
        have g3' : GC σ σ1 u (pE (i + 1)).2.2 := ⟨(KP.i (by decide)).tr g3.1, g3.2.1, g3.2.2.1, g3.2.2.2⟩
        rw [q_pass (hC1 g3'.1) e3 e2]
        by_cases h41 : tK b sz (pE (i + 1)).2.1 = 41
        · have hlt2 := (hC1 g3'.1).lt e3 (by rw [h41]; decide)
          rw [if_pos h41, if_pos h41, cal_eq, if_neg (by decide)]
          exact ⟨_, _, rfl, rfl, hlt2, Or.inl ⟨rfl, rfl, g3'.at _, by show i + (pE (i + 1)).2.2.length ≤ (pE (i + 1)).2.1 + 1; omega⟩⟩
        · rw [if_neg h41, if_neg h41, cal_eq, if_pos rfl]
          exact ⟨_, _, rfl, e2, e3, Or.inr ⟨rfl, rfl, g3'.1⟩⟩
      · rw [pAnd_f g1, g2, if_pos rfl]
        exact ⟨_, _, rfl, e2, e3, Or.inr ⟨rfl, rfl, (KP.i (by decide)).tr g3⟩⟩
    · rw [if_neg ho5, if_pos (by omega)]; exact no
  rw [if_neg h40, if_neg h40]
  by_cases h45 : tK b sz i = 45
  · rw [if_pos h45, if_pos h45, ob]
    by_cases ho5 : o < 5
    · rw [if_pos ho5, if_neg h40, if_neg (by omega)]
      have hlt := hC.lt hi (by rw [h45]; decide)
      obtain ⟨σ1, r, e1, e2, e3, e4⟩ := hB ho5 (sI σ 10 (nI (i + 1))) (i + 1) u (hC.kp (KP.i (by decide) : KP [10] [] σ _) (by decide)) hlt (by omega) rfl h9
      have e1 : kB (sI σ 10 (nI (i + 1))) (nI (o + 1)) = some (σ1, r) := e1
      rw [e1, cal_eq]
      rcases e4 with ⟨g1, g2, g3, g4⟩ | ⟨g1, g2, g3⟩
      · rw [pAnd_t g1, g2, if_neg (by decide)]
        have g3' : GC σ σ1 u (pO (i + 1)).2.2 := ⟨(KP.i (by decide)).tr g3.1, g3.2.1, g3.2.2.1, g3.2.2.2⟩
        obtain ⟨σ2, f1, f2, f3⟩ := g3'.emit (N := N) (x := -19) (by omega)
        rw [f1, cal_eq]
        exact ⟨_, _, rfl, f3.trans e2, e3, Or.inl ⟨rfl, rfl, f2, by show i + ((pO (i + 1)).2.2 ++ [-19]).length ≤ (pO (i + 1)).2.1; rw [List.length_append]; show i + ((pO (i + 1)).2.2.length + 1) ≤ _; omega⟩⟩
      · rw [pAnd_f g1, g2, if_pos rfl]
        exact ⟨_, _, rfl, e2, e3, Or.inr ⟨rfl, rfl, (KP.i (by decide)).tr g3⟩⟩
    · rw [if_neg ho5, if_pos (by omega)]; exact no
  · rw [if_neg h45, if_neg h45]; exact no
theorem RC_readTerm_l {one : Nat → PR} (h1 : RC b sz T (fun σ => fC_R_readOne N kA kB kC σ (nI o)) one) {σ0 : St} {u0 i0 : Nat} (hC : CT b sz T σ0) (hui : u0 ≤ i0) : ∀ (f n F : Nat) (σ : St) (i : Nat) (c : List Int32), n + f = 161 → f ≤ F → n ≤ i → i ≤ T → i0 + c.length ≤ i → GC σ0 σ u0 c → σ.1 10 = nI i →
    ∃ σ' r, fC_R_readTerm_l12 N kA kB kC F σ (nI o) (nI n) = some (σ', r) ∧ OutC T σ0 σ' u0 i0 r (pTermL (tK b sz) one f i c) := by
  have hT := hC.1
  intro f
  induction f with
  | zero => intro n F σ i c a1 a2 a3 a4 a5 hG h10; omega
  | succ f ih =>
    intro n F σ i c a1 a2 a3 a4 a5 hG h10
    obtain ⟨F, rfl⟩ : ∃ k, F = k + 1 := ⟨F - 1, by omega⟩
    have hC1 : CT b sz T σ := hC.kp hG.1 (by decide)
    have done : ∃ σ' r, some (σ, (1 : Int32)) = some (σ', r) ∧ OutC T σ0 σ' u0 i0 r (true, i, c) := ⟨σ, 1, rfl, h10, a4, Or.inl ⟨rfl, rfl, hG, a5⟩⟩
    show ∃ σ' r, (if (160 : Int32) ≤ nI n then _ else _) = _ ∧ _
    unfold pTermL
    by_cases hn : n = 160
    · have hk : ¬ tK b sz i = 42 := by
        rw [hC.2.2.2 i (by omega)]; decide
      rw [if_pos (by rw [hn]; decide), if_neg hk]; exact done
    rw [if_neg (by rw [show (160 : Int32) = nI 160 from rfl, nI_leI (by decide) (by omega)]; omega), q_pass hC1 a4 h10]
    by_cases hk : tK b sz i = 42
    · have hlt := hC1.lt a4 (by rw [hk]; decide)
      rw [if_pos hk, if_pos hk, cal_eq, if_neg (by decide)]
      obtain ⟨σ1, r, e1, e2, e3, e4⟩ := h1 (sI σ 10 (nI (i + 1))) (i + 1) (u0 + c.length) (hC1.kp (KP.i (by decide) : KP [10] [] σ _) (by decide)) hlt (by omega) rfl hG.2.1
      have e1 : fC_R_readOne N kA kB kC (sI σ 10 (nI (i + 1))) (nI o) = some (σ1, r) := e1
      rw [e1, cal_eq]
      rcases e4 with ⟨g1, g2, g3, g4⟩ | ⟨g1, g2, g3⟩
      · rw [pAnd_t g1, g2, if_neg (by decide)]
        have g3' : GC σ0 σ1 u0 (c ++ (one (i + 1)).2.2) := (hG.at _).tr g3
        obtain ⟨σ2, f1, f2, f3⟩ := g3'.emit (N := N) (x := -18) (by rw [List.length_append]; omega)
        rw [f1, cal_eq, bnd_eq, nI_1]
        exact ih (n + 1) F σ2 _ _ (by omega) (by omega) (by omega) e3 (by rw [List.length_append, List.length_append]; show i0 + (c.length + (one (i + 1)).2.2.length + 1) ≤ _; omega) f2 (f3.trans e2)
      · rw [pAnd_f g1, g2, if_pos rfl]
        exact ⟨_, _, rfl, e2, e3, Or.inr ⟨rfl, rfl, (hG.1.tr (KP.i (by decide))).tr g3⟩⟩
    · rw [if_neg hk, if_neg hk, cal_eq, if_pos rfl]; exact done
theorem RC_readTerm {one : Nat → PR} (hN : 161 ≤ N) (h1 : RC b sz T (fun σ => fC_R_readOne N kA kB kC σ (nI o)) one) : RC b sz T (fun σ => fC_R_readTerm N kA kB kC σ (nI o)) (pTerm (tK b sz) one) := by
  intro σ i u hC hi hu h10 h9
  show ∃ σ' r, fC_R_readTerm N kA kB kC σ (nI o) = some (σ', r) ∧ _
  unfold fC_R_readTerm pTerm
  obtain ⟨σ1, r, e1, e2, e3, e4⟩ := h1 σ i u hC hi hu h10 h9
  have e1 : fC_R_readOne N kA kB kC σ (nI o) = some (σ1, r) := e1
  rw [e1, cal_eq]
  rcases e4 with ⟨g1, g2, g3, g4⟩ | ⟨g1, g2, g3⟩
  · rw [pAnd_t g1, g2, if_neg (by decide), ← nI_0]
    exact RC_readTerm_l h1 hC hu 161 0 N σ1 _ _ rfl hN (Nat.zero_le _) e3 g4 g3 e2
  · rw [pAnd_f g1, g2, if_pos rfl]
    exact ⟨_, _, rfl, e2, e3, Or.inr ⟨rfl, rfl, g3⟩⟩
theorem RC_readSum_l {one : Nat → PR} (h1 : RC b sz T (fun σ => fC_R_readTerm N kA kB kC σ (nI o)) one) {σ0 : St} {u0 i0 : Nat} (hC : CT b sz T σ0) (hui : u0 ≤ i0) : ∀ (f n F : Nat) (σ : St) (i : Nat) (c : List Int32), n + f = 161 → f ≤ F → n ≤ i → i ≤ T → i0 + c.length ≤ i → GC σ0 σ u0 c → σ.1 10 = nI i →
    ∃ σ' r, fC_R_readSum_l17 N kA kB kC F σ (nI o) (tK b sz i) (nI n) = some (σ', r) ∧ OutC T σ0 σ' u0 i0 r (pSumL (tK b sz) one f i c) := by
  have hT := hC.1
  intro f
  induction f with
  | zero => intro n F σ i c a1 a2 a3 a4 a5 hG h10; omega
  | succ f ih =>
    intro n F σ i c a1 a2 a3 a4 a5 hG h10
    obtain ⟨F, rfl⟩ : ∃ k, F = k + 1 := ⟨F - 1, by omega⟩
    have hC1 : CT b sz T σ := hC.kp hG.1 (by decide)
    have done : ∃ σ' r, some (σ, (1 : Int32)) = some (σ', r) ∧ OutC T σ0 σ' u0 i0 r (true, i, c) := ⟨σ, 1, rfl, h10, a4, Or.inl ⟨rfl, rfl, hG, a5⟩⟩
    show ∃ σ' r, (if (160 : Int32) ≤ nI n then _ else _) = _ ∧ _
    unfold pSumL
    by_cases hn : n = 160
    · have hk : ¬ (tK b sz i = 43 ∨ tK b sz i = 45) := by
        rw [hC.2.2.2 i (by omega)]; decide
      rw [if_pos (by rw [hn]; decide), if_neg hk]; exact done
    rw [if_neg (by rw [show (160 : Int32) = nI 160 from rfl, nI_leI (by decide) (by omega)]; omega)]
    have go : ∀ op, (tK b sz i = 43 ∨ tK b sz i = 45) → op = (if tK b sz i = 43 then (-16 : Int32) else -17) → ∃ σ' r, fC_R_readSum_j36 N kA kB kC (fC_R_readSum_l17 N kA kB kC F) σ (nI o) (tK b sz i) (nI n) = some (σ', r) ∧ OutC T σ0 σ' u0 i0 r (pAnd (one (i + 1)) fun j c2 => pSumL (tK b sz) one f j (c ++ c2 ++ [op])) := by
      intro op hk hop
      have hlt := hC1.lt a4 (by rcases hk with z | z <;> rw [z] <;> decide)
      unfold fC_R_readSum_j36
      rw [bnd_eq, h10, nI_1]
      obtain ⟨σ1, r, e1, e2, e3, e4⟩ := h1 (sI σ 10 (nI (i + 1))) (i + 1) (u0 + c.length) (hC1.kp (KP.i (by decide) : KP [10] [] σ _) (by decide)) hlt (by omega) rfl hG.2.1
      have e1 : fC_R_readTerm N kA kB kC (sI σ 10 (nI (i + 1))) (nI o) = some (σ1, r) := e1
      rw [e1, cal_eq]
      rcases e4 with ⟨g1, g2, g3, g4⟩ | ⟨g1, g2, g3⟩
      · rw [pAnd_t g1, g2, if_neg (by decide)]
        have g3' : GC σ0 σ1 u0 (c ++ (one (i + 1)).2.2) := (hG.at _).tr g3
        obtain ⟨σ2, f1, f2, f3⟩ := g3'.emit (N := N) (x := op) (by rw [List.length_append]; omega)
        have hC2 : CT b sz T σ2 := hC.kp f2.1 (by decide)
        have fin : ∃ σ' r, fC_R_readSum_j70 N kA kB kC (fC_R_readSum_l17 N kA kB kC F) σ1 (nI o) (nI n) op = some (σ', r) ∧ OutC T σ0 σ' u0 i0 r (pSumL (tK b sz) one f (one (i + 1)).2.1 (c ++ (one (i + 1)).2.2 ++ [op])) := by
          unfold fC_R_readSum_j70
          rw [f1, cal_eq, q_kindNow hC2 e3 (f3.trans e2), cal_eq, bnd_eq, nI_1]
          exact ih (n + 1) F σ2 _ _ (by omega) (by omega) (by omega) e3 (by rw [List.length_append, List.length_append]; show i0 + (c.length + (one (i + 1)).2.2.length + 1) ≤ _; omega) f2 (f3.trans e2)
        by_cases h43 : tK b sz i = 43
        · rw [if_pos h43]
          rw [if_pos h43] at hop
          rw [← hop]; exact fin
        · rw [if_neg h43]
          rw [if_neg h43] at hop
          rw [← hop]; exact fin
      · rw [pAnd_f g1, g2, if_pos rfl]
        exact ⟨_, _, rfl, e2, e3, Or.inr ⟨rfl, rfl, (hG.1.tr (KP.i (by decide))).tr g3⟩⟩
    by_cases h43 : tK b sz i = 43
    · rw [if_pos h43, if_pos (Or.inl h43)]; exact go _ (Or.inl h43) rfl
    · rw [if_neg h43]
      by_cases h45 : tK b sz i = 45
      · rw [if_pos h45, if_pos (Or.inr h45)]; exact go _ (Or.inr h45) (by rw [if_neg h43])
      · rw [if_neg h45, if_neg (by rintro (z | z); exact h43 z; exact h45 z)]; exact done
theorem RC_readSum {one : Nat → PR} (hN : 161 ≤ N) (h1 : RC b sz T (fun σ => fC_R_readTerm N kA kB kC σ (nI o)) one) : RC b sz T (fun σ => fC_R_readSum N kA kB kC σ (nI o)) (pSum (tK b sz) one) := by
  intro σ i u hC hi hu h10 h9
  show ∃ σ' r, fC_R_readSum N kA kB kC σ (nI o) = some (σ', r) ∧ _
  unfold fC_R_readSum pSum
  obtain ⟨σ1, r, e1, e2, e3, e4⟩ := h1 σ i u hC hi hu h10 h9
  have e1 : fC_R_readTerm N kA kB kC σ (nI o) = some (σ1, r) := e1
  rw [e1, cal_eq]
  rcases e4 with ⟨g1, g2, g3, g4⟩ | ⟨g1, g2, g3⟩
  · rw [pAnd_t g1, g2, if_neg (by decide), q_kindNow (hC.kp g3.1 (by decide)) e3 e2, cal_eq, ← nI_0]
    exact RC_readSum_l h1 hC hu 161 0 N σ1 _ _ rfl hN (Nat.zero_le _) e3 g4 g3 e2
  · rw [pAnd_f g1, g2, if_pos rfl]
    exact ⟨_, _, rfl, e2, e3, Or.inr ⟨rfl, rfl, g3⟩⟩
theorem RC_readNot {sum pN : Nat → PR} (ho : o ≤ 5) (h1 : RC b sz T (fun σ => fC_R_readSum N kA kB kC σ (nI o)) sum) (hN : o < 5 → RC b sz T (fun σ => kC σ (nI (o + 1))) pN) : RC b sz T (fun σ => fC_R_readNot N kA kB kC σ (nI o)) (pNot (tK b sz) sum pN (5 - o)) := by
  intro σ i u hC hi hu h10 h9
  have hT := hC.1
  show ∃ σ' r, fC_R_readNot N kA kB kC σ (nI o) = some (σ', r) ∧ _
  unfold fC_R_readNot pNot
  rw [q_kindNow hC hi h10, cal_eq]
  by_cases hk : tK b sz i = 267
  · rw [if_pos hk, if_pos hk]
    by_cases ho5 : o < 5
    · rw [if_pos (by rw [show (5 : Int32) = nI 5 from rfl, nI_ltI (by omega) (by decide)]; exact ho5), if_neg (by omega), bnd_eq, h10, nI_1, nI_1]
      have hlt := hC.lt hi (by rw [hk]; decide)
      obtain ⟨σ1, r, e1, e2, e3, e4⟩ := hN ho5 (sI σ 10 (nI (i + 1))) (i + 1) u (hC.kp (KP.i (by decide) : KP [10] [] σ _) (by decide)) hlt (by omega) rfl h9
      have e1 : kC (sI σ 10 (nI (i + 1))) (nI (o + 1)) = some (σ1, r) := e1
      rw [e1, cal_eq]
      rcases e4 with ⟨g1, g2, g3, g4⟩ | ⟨g1, g2, g3⟩
      · rw [pAnd_t g1, g2, if_neg (by decide)]
        have g3' : GC σ σ1 u (pN (i + 1)).2.2 := ⟨(KP.i (by decide)).tr g3.1, g3.2.1, g3.2.2.1, g3.2.2.2⟩
        obtain ⟨σ2, f1, f2, f3⟩ := g3'.emit (N := N) (x := -13) (by omega)
        rw [f1, cal_eq]
        exact ⟨_, _, rfl, f3.trans e2, e3, Or.inl ⟨rfl, rfl, f2, by show i + ((pN (i + 1)).2.2 ++ [-13]).length ≤ (pN (i + 1)).2.1; rw [List.length_append]; show i + ((pN (i + 1)).2.2.length + 1) ≤ _; omega⟩⟩
      · rw [pAnd_f g1, g2, if_pos rfl]
        exact ⟨_, _, rfl, e2, e3, Or.inr ⟨rfl, rfl, (KP.i (by decide)).tr g3⟩⟩
    · rw [if_neg (by rw [show (5 : Int32) = nI 5 from rfl, nI_ltI (by omega) (by decide)]; exact ho5), if_pos (by omega)]
      exact ⟨σ, 0, rfl, h10, hi, Or.inr ⟨rfl, rfl, KP.rf⟩⟩
  · rw [if_neg hk, if_neg hk]
    obtain ⟨σ1, r, e1, e2, e3, e4⟩ := h1 σ i u hC hi hu h10 h9
    have e1 : fC_R_readSum N kA kB kC σ (nI o) = some (σ1, r) := e1
    rw [e1, cal_eq]
    rcases e4 with ⟨g1, g2, g3, g4⟩ | ⟨g1, g2, g3⟩
    · have hC1 : CT b sz T σ1 := hC.kp g3.1 (by decide)
      rw [pAnd_t g1, g2, if_neg (by decide), q_kindNow hC1 e3 e2, cal_eq]
      generalize hj : (sum i).2.1 = j at *
      generalize hc : (sum i).2.2 = c at *
      have go : ∀ op, (tK b sz j = 60 ∨ tK b sz j = 61) → op = (if tK b sz j = 60 then (-14 : Int32) else -15) → ∃ σ' r, fC_R_readNot_j74 N kA kB kC σ1 (nI o) (tK b sz j) = some (σ', r) ∧ OutC T σ σ' u i r (pAnd (sum (j + 1)) fun j2 c2 => (true, j2, c ++ c2 ++ [op])) := by
        intro op hk hop
        have hlt := hC1.lt e3 (by rcases hk with z | z <;> rw [z] <;> decide)
        unfold fC_R_readNot_j74
        rw [bnd_eq, e2, nI_1]
        obtain ⟨σ2, r2, p1, p2, p3, p4⟩ := h1 (sI σ1 10 (nI (j + 1))) (j + 1) (u + c.length) (hC1.kp (KP.i (by decide) : KP [10] [] σ1 _) (by decide)) hlt (by omega) rfl g3.2.1
        have p1 : fC_R_readSum N kA kB kC (sI σ1 10 (nI (j + 1))) (nI o) = some (σ2, r2) := p1
        rw [p1, cal_eq]
        rcases p4 with ⟨q1, q2, q3, q4⟩ | ⟨q1, q2, q3⟩
        · rw [pAnd_t q1, q2, if_neg (by decide)]
          have q3' : GC σ σ2 u (c ++ (sum (j + 1)).2.2) := (g3.at _).tr q3
          obtain ⟨σ3, f1, f2, f3⟩ := q3'.emit (N := N) (x := op) (by rw [List.length_append]; omega)
          have fin : ∃ σ' r, fC_R_readNot_j108 N kA kB kC σ2 op = some (σ', r) ∧ OutC T σ σ' u i r (true, (sum (j + 1)).2.1, c ++ (sum (j + 1)).2.2 ++ [op]) := by
            unfold fC_R_readNot_j108
            rw [f1, cal_eq]
            exact ⟨_, _, rfl, f3.trans p2, p3, Or.inl ⟨rfl, rfl, f2, by show i + (c ++ (sum (j + 1)).2.2 ++ [op]).length ≤ (sum (j + 1)).2.1; rw [List.length_append, List.length_append]; show i + (c.length + (sum (j + 1)).2.2.length + 1) ≤ _; omega⟩⟩
          by_cases h60 : tK b sz j = 60
          · rw [if_pos h60]
            rw [if_pos h60] at hop
            rw [← hop]; exact fin
          · rw [if_neg h60]
            rw [if_neg h60] at hop
            rw [← hop]; exact fin
        · rw [pAnd_f q1, q2, if_pos rfl]
          exact ⟨_, _, rfl, p2, p3, Or.inr ⟨rfl, rfl, (g3.1.tr (KP.i (by decide))).tr q3⟩⟩
      by_cases h60 : tK b sz j = 60
      · rw [if_pos h60, if_pos (Or.inl h60)]; exact go _ (Or.inl h60) rfl
      · rw [if_neg h60]
        by_cases h61 : tK b sz j = 61
        · rw [if_pos h61, if_pos (Or.inr h61)]; exact go _ (Or.inr h61) (by rw [if_neg h60])
        · rw [if_neg h61, if_neg (by rintro (z | z); exact h60 z; exact h61 z)]
          exact ⟨σ1, 1, rfl, e2, e3, Or.inl ⟨rfl, rfl, g3, g4⟩⟩
    · rw [pAnd_f g1, g2, if_pos rfl]
      exact ⟨_, _, rfl, e2, e3, Or.inr ⟨rfl, rfl, g3⟩⟩
theorem RC_readAnd_l {one : Nat → PR} (h1 : RC b sz T (fun σ => fC_R_readNot N kA kB kC σ (nI o)) one) {σ0 : St} {u0 i0 : Nat} (hC : CT b sz T σ0) (hui : u0 ≤ i0) : ∀ (f n F : Nat) (σ : St) (i : Nat) (c : List Int32), n + f = 161 → f ≤ F → n ≤ i → i ≤ T → i0 + c.length ≤ i → GC σ0 σ u0 c → σ.1 10 = nI i →
    ∃ σ' r, fC_R_readAnd_l12 N kA kB kC F σ (nI o) (nI n) = some (σ', r) ∧ OutC T σ0 σ' u0 i0 r (pAndL (tK b sz) one f i c) := by
  have hT := hC.1
  intro f
  induction f with
  | zero => intro n F σ i c a1 a2 a3 a4 a5 hG h10; omega
  | succ f ih =>
    intro n F σ i c a1 a2 a3 a4 a5 hG h10
    obtain ⟨F, rfl⟩ : ∃ k, F = k + 1 := ⟨F - 1, by omega⟩
    have hC1 : CT b sz T σ := hC.kp hG.1 (by decide)
    have done : ∃ σ' r, some (σ, (1 : Int32)) = some (σ', r) ∧ OutC T σ0 σ' u0 i0 r (true, i, c) := ⟨σ, 1, rfl, h10, a4, Or.inl ⟨rfl, rfl, hG, a5⟩⟩
    show ∃ σ' r, (if (160 : Int32) ≤ nI n then _ else _) = _ ∧ _
    unfold pAndL
    by_cases hn : n = 160
    · have hk : ¬ tK b sz i = 266 := by
        rw [hC.2.2.2 i (by omega)]; decide
      rw [if_pos (by rw [hn]; decide), if_neg hk]; exact done
    rw [if_neg (by rw [show (160 : Int32) = nI 160 from rfl, nI_leI (by decide) (by omega)]; omega), q_pass hC1 a4 h10]
    by_cases hk : tK b sz i = 266
    · have hlt := hC1.lt a4 (by rw [hk]; decide)
      rw [if_pos hk, if_pos hk, cal_eq, if_neg (by decide)]
      obtain ⟨σ1, r, e1, e2, e3, e4⟩ := h1 (sI σ 10 (nI (i + 1))) (i + 1) (u0 + c.length) (hC1.kp (KP.i (by decide) : KP [10] [] σ _) (by decide)) hlt (by omega) rfl hG.2.1
      have e1 : fC_R_readNot N kA kB kC (sI σ 10 (nI (i + 1))) (nI o) = some (σ1, r) := e1
      rw [e1, cal_eq]
      rcases e4 with ⟨g1, g2, g3, g4⟩ | ⟨g1, g2, g3⟩
      · rw [pAnd_t g1, g2, if_neg (by decide)]
        have g3' : GC σ0 σ1 u0 (c ++ (one (i + 1)).2.2) := (hG.at _).tr g3
        obtain ⟨σ2, f1, f2, f3⟩ := g3'.emit (N := N) (x := -12) (by rw [List.length_append]; omega)
        rw [f1, cal_eq, bnd_eq, nI_1]
        exact ih (n + 1) F σ2 _ _ (by omega) (by omega) (by omega) e3 (by rw [List.length_append, List.length_append]; show i0 + (c.length + (one (i + 1)).2.2.length + 1) ≤ _; omega) f2 (f3.trans e2)
      · rw [pAnd_f g1, g2, if_pos rfl]
        exact ⟨_, _, rfl, e2, e3, Or.inr ⟨rfl, rfl, (hG.1.tr (KP.i (by decide))).tr g3⟩⟩
    · rw [if_neg hk, if_neg hk, cal_eq, if_pos rfl]; exact done
theorem RC_readAnd {one : Nat → PR} (hN : 161 ≤ N) (h1 : RC b sz T (fun σ => fC_R_readNot N kA kB kC σ (nI o)) one) : RC b sz T (fun σ => fC_R_readAnd N kA kB kC σ (nI o)) (pBoth (tK b sz) one) := by
  intro σ i u hC hi hu h10 h9
  show ∃ σ' r, fC_R_readAnd N kA kB kC σ (nI o) = some (σ', r) ∧ _
  unfold fC_R_readAnd pBoth
  obtain ⟨σ1, r, e1, e2, e3, e4⟩ := h1 σ i u hC hi hu h10 h9
  have e1 : fC_R_readNot N kA kB kC σ (nI o) = some (σ1, r) := e1
  rw [e1, cal_eq]
  rcases e4 with ⟨g1, g2, g3, g4⟩ | ⟨g1, g2, g3⟩
  · rw [pAnd_t g1, g2, if_neg (by decide), ← nI_0]
    exact RC_readAnd_l h1 hC hu 161 0 N σ1 _ _ rfl hN (Nat.zero_le _) e3 g4 g3 e2
  · rw [pAnd_f g1, g2, if_pos rfl]
    exact ⟨_, _, rfl, e2, e3, Or.inr ⟨rfl, rfl, g3⟩⟩
theorem RC_readOr_l {one : Nat → PR} (h1 : RC b sz T (fun σ => fC_R_readAnd N kA kB kC σ (nI o)) one) {σ0 : St} {u0 i0 : Nat} (hC : CT b sz T σ0) (hui : u0 ≤ i0) : ∀ (f n F : Nat) (σ : St) (i : Nat) (c : List Int32), n + f = 161 → f ≤ F → n ≤ i → i ≤ T → i0 + c.length ≤ i → GC σ0 σ u0 c → σ.1 10 = nI i →
    ∃ σ' r, fC_R_readOr_l12 N kA kB kC F σ (nI o) (nI n) = some (σ', r) ∧ OutC T σ0 σ' u0 i0 r (pOrL (tK b sz) one f i c) := by
  have hT := hC.1
  intro f
  induction f with
  | zero => intro n F σ i c a1 a2 a3 a4 a5 hG h10; omega
  | succ f ih =>
    intro n F σ i c a1 a2 a3 a4 a5 hG h10
    obtain ⟨F, rfl⟩ : ∃ k, F = k + 1 := ⟨F - 1, by omega⟩
    have hC1 : CT b sz T σ := hC.kp hG.1 (by decide)
    have done : ∃ σ' r, some (σ, (1 : Int32)) = some (σ', r) ∧ OutC T σ0 σ' u0 i0 r (true, i, c) := ⟨σ, 1, rfl, h10, a4, Or.inl ⟨rfl, rfl, hG, a5⟩⟩
    show ∃ σ' r, (if (160 : Int32) ≤ nI n then _ else _) = _ ∧ _
    unfold pOrL
    by_cases hn : n = 160
    · have hk : ¬ tK b sz i = 265 := by
        rw [hC.2.2.2 i (by omega)]; decide
      rw [if_pos (by rw [hn]; decide), if_neg hk]; exact done
    rw [if_neg (by rw [show (160 : Int32) = nI 160 from rfl, nI_leI (by decide) (by omega)]; omega), q_pass hC1 a4 h10]
    by_cases hk : tK b sz i = 265
    · have hlt := hC1.lt a4 (by rw [hk]; decide)
      rw [if_pos hk, if_pos hk, cal_eq, if_neg (by decide)]
      obtain ⟨σ1, r, e1, e2, e3, e4⟩ := h1 (sI σ 10 (nI (i + 1))) (i + 1) (u0 + c.length) (hC1.kp (KP.i (by decide) : KP [10] [] σ _) (by decide)) hlt (by omega) rfl hG.2.1
      have e1 : fC_R_readAnd N kA kB kC (sI σ 10 (nI (i + 1))) (nI o) = some (σ1, r) := e1
      rw [e1, cal_eq]
      rcases e4 with ⟨g1, g2, g3, g4⟩ | ⟨g1, g2, g3⟩
      · rw [pAnd_t g1, g2, if_neg (by decide)]
        have g3' : GC σ0 σ1 u0 (c ++ (one (i + 1)).2.2) := (hG.at _).tr g3
        obtain ⟨σ2, f1, f2, f3⟩ := g3'.emit (N := N) (x := -11) (by rw [List.length_append]; omega)
        rw [f1, cal_eq, bnd_eq, nI_1]
        exact ih (n + 1) F σ2 _ _ (by omega) (by omega) (by omega) e3 (by rw [List.length_append, List.length_append]; show i0 + (c.length + (one (i + 1)).2.2.length + 1) ≤ _; omega) f2 (f3.trans e2)
      · rw [pAnd_f g1, g2, if_pos rfl]
        exact ⟨_, _, rfl, e2, e3, Or.inr ⟨rfl, rfl, (hG.1.tr (KP.i (by decide))).tr g3⟩⟩
    · rw [if_neg hk, if_neg hk, cal_eq, if_pos rfl]; exact done
theorem RC_readOr {one : Nat → PR} (hN : 161 ≤ N) (h1 : RC b sz T (fun σ => fC_R_readAnd N kA kB kC σ (nI o)) one) : RC b sz T (fun σ => fC_R_readOr N kA kB kC σ (nI o)) (pEither (tK b sz) one) := by
  intro σ i u hC hi hu h10 h9
  show ∃ σ' r, fC_R_readOr N kA kB kC σ (nI o) = some (σ', r) ∧ _
  unfold fC_R_readOr pEither
  obtain ⟨σ1, r, e1, e2, e3, e4⟩ := h1 σ i u hC hi hu h10 h9
  have e1 : fC_R_readAnd N kA kB kC σ (nI o) = some (σ1, r) := e1
  rw [e1, cal_eq]
  rcases e4 with ⟨g1, g2, g3, g4⟩ | ⟨g1, g2, g3⟩
  · rw [pAnd_t g1, g2, if_neg (by decide), ← nI_0]
    exact RC_readOr_l h1 hC hu 161 0 N σ1 _ _ rfl hN (Nat.zero_le _) e3 g4 g3 e2
  · rw [pAnd_f g1, g2, if_pos rfl]
    exact ⟨_, _, rfl, e2, e3, Or.inr ⟨rfl, rfl, g3⟩⟩
end CPARSE
theorem RC_lv {N T sz : Nat} {b : Nat → Int32} (hN : 161 ≤ N) : ∀ (m o : Nat), o ≤ 5 → 6 - o ≤ m → RC b sz T (fun σ => (fC_lv N m).1 σ (nI o)) (pLv (tK b sz) (tV b sz) (5 - o)).1 ∧ RC b sz T (fun σ => (fC_lv N m).2.1 σ (nI o)) (pLv (tK b sz) (tV b sz) (5 - o)).2.1 ∧ RC b sz T (fun σ => (fC_lv N m).2.2 σ (nI o)) (pLv (tK b sz) (tV b sz) (5 - o)).2.2 := by
  intro m
  induction m with
  | zero => intro o h1 h2; omega
  | succ m ih =>
    intro o h1 h2
    have all : ∀ pE pO pN, (o < 5 → RC b sz T (fun σ => (fC_lv N m).1 σ (nI (o + 1))) pE) → (o < 5 → RC b sz T (fun σ => (fC_lv N m).2.1 σ (nI (o + 1))) pO) → (o < 5 → RC b sz T (fun σ => (fC_lv N m).2.2 σ (nI (o + 1))) pN) →
        RC b sz T (fun σ => (fC_lv N (m + 1)).1 σ (nI o)) (pEither (tK b sz) (pBoth (tK b sz) (pNot (tK b sz) (pSum (tK b sz) (pTerm (tK b sz) (pOne (tK b sz) (tV b sz) pE pO (5 - o)))) pN (5 - o)))) ∧ RC b sz T (fun σ => (fC_lv N (m + 1)).2.1 σ (nI o)) (pOne (tK b sz) (tV b sz) pE pO (5 - o)) ∧ RC b sz T (fun σ => (fC_lv N (m + 1)).2.2 σ (nI o)) (pNot (tK b sz) (pSum (tK b sz) (pTerm (tK b sz) (pOne (tK b sz) (tV b sz) pE pO (5 - o)))) pN (5 - o)) := by
      intro pE pO pN a1 a2 a3
      have r1 := RC_one (N := N) (kC := (fC_lv N m).2.2) h1 a1 a2
      have r2 := RC_readNot h1 (RC_readSum hN (RC_readTerm hN r1)) a3
      exact ⟨RC_readOr hN (RC_readAnd hN r2), r1, r2⟩
    by_cases ho : o = 5
    · subst ho
      exact all (fun i => (false, i, [])) (fun i => (false, i, [])) (fun i => (false, i, [])) (fun z => by omega) (fun z => by omega) (fun z => by omega)
    · obtain ⟨g1, g2, g3⟩ := ih (o + 1) (by omega) (by omega)
      have e : 5 - o = (5 - (o + 1)) + 1 := by omega
      have := all _ _ _ (fun _ => g1) (fun _ => g2) (fun _ => g3)
      rw [e] at this ⊢
      exact this
