/-! what calls come to, as numbers: the one meaning of both programs -/
def nmW (τ : St) (m k : Nat) (t w : Int32) : Nat → Int32 := fun i => if i = 0 then nI k else if i = 1 then τ.2.1 7 (4 * m + k) else if i = 2 then τ.2.1 6 m else if i = 3 then τ.2.1 4 m else if i = 4 then t else w
def wS (τ : St) (c : Nat → List Int32) (key m k : Nat) (t w : Int32) : Int32 := rv (nmW τ m k t w) (c key)
def stp (cnt : Nat → Bool) (off : Nat → Int32) (acc : Option Nat) (k : Nat) : Option Nat := if cnt k = true then (match acc with
  | none => some k
  | some l => if off l < off k then some k else some l) else acc
def ldF (cnt : Nat → Bool) (off : Nat → Int32) : Nat → Nat → Option Nat → Option Nat
  | 0, _, acc => acc
  | d + 1, k, acc => ldF cnt off d (k + 1) (stp cnt off acc k)
def leadS (τ : St) (c : Nat → List Int32) (m : Nat) (t w : Int32) : Option Nat := ldF (fun k => decide (wS τ c 0 m k t w ≠ 0)) (fun k => τ.2.1 7 (4 * m + k)) 4 0 none
def whereS (τ : St) (s f : Int32) (m : Nat) (t : Int32) : Int32 := (τ.2.1 5 m - (if τ.2.1 4 m = s then f else 0)) + t * τ.2.1 6 m
def frontS (τ : St) (c : Nat → List Int32) (w s f : Int32) (m : Nat) (t : Int32) : Int32 := whereS τ s f m t + (match leadS τ c m t w with
  | none => 0
  | some l => τ.2.1 7 (4 * m + l))
def footS (τ : St) (c : Nat → List Int32) (m : Nat) (t w : Int32) : Nat := match leadS τ c m t w with
  | none => 3
  | some l => l
def ruleS (τ : St) (c : Nat → List Int32) (key m : Nat) (t w : Int32) : Int32 := wS τ c key m (footS τ c m t w) t w
/-- what the numbers rest on -/
def DD (n1 n3 n4 n5 r : Nat) (c : Nat → List Int32) (σ τ : St) : Prop := R1 n1 σ τ ∧ R3 n3 σ τ ∧ R4 n4 σ τ ∧ R5 n1 n3 n4 n5 σ τ ∧ r < 6 ∧ σ.1 18 = nI r ∧ τ.1 2 = nI r ∧ (∃ b sz j, sz ≤ 160 ∧ τ.2.1 2 r = nI sz ∧ (∀ i, i < sz → τ.2.1 1 (160 * r + i) = b i ∧ bt (b i) 0 255) ∧ pText (tK b sz) (tV b sz) = (true, j, c 0, c 1, c 2)) ∧ (∀ key, key < 3 → ∃ a, a + (c key).length ≤ 960 ∧ (c key).length ≤ 160 ∧ σ.2.1 42 (3 * r + key) = nI a ∧ σ.2.1 43 (3 * r + key) = nI (a + (c key).length) ∧ ∀ i, i < (c key).length → σ.2.1 41 (a + i) = (c key).getD i 0)
theorem lt3 {k : Nat} (h : k < 3) : k = 0 ∨ k = 1 ∨ k = 2 := by omega
theorem DD_of {n1 n3 n4 n5 n8 : Nat} {σ τ : St} (h1 : R1 n1 σ τ) (h3 : R3 n3 σ τ) (h4 : R4 n4 σ τ) (h5 : R5 n1 n3 n4 n5 σ τ) (h8 : R8 n8 σ τ) : ∃ r c, DD n1 n3 n4 n5 r c σ τ := by
  obtain ⟨y1, y2, y3, y4, y5, y6, y7, _⟩ := h8
  obtain ⟨r, hr, hr2, er⟩ := bt_nI y6
  obtain ⟨b, sz, j, c0, c1, c2, g1, g2, g3, g4, g5, g6, g7, g8, g9, g10, g11, g12⟩ := y7 r (by omega)
  refine ⟨r, fun k => if k = 0 then c0 else if k = 1 then c1 else c2, h1, h3, h4, h5, by omega, y5.trans er, er, ⟨b, sz, j, g1, g2, g3, g4⟩, ?_⟩
  intro key hk
  rcases lt3 hk with rfl | rfl | rfl
  · refine ⟨160 * r, ?_, ?_, g7, g8, fun i hi => ?_⟩
    · show 160 * r + c0.length ≤ 960; omega
    · show c0.length ≤ 160; omega
    · have hi : i < c0.length := hi
      rw [g6 i (by omega), getD_l (by rw [List.length_append]; omega), getD_l hi]; rfl
  · refine ⟨160 * r + c0.length, ?_, ?_, g9, g10, fun i hi => ?_⟩
    · show 160 * r + c0.length + c1.length ≤ 960; omega
    · show c1.length ≤ 160; omega
    · have hi : i < c1.length := hi
      rw [Nat.add_assoc, g6 (c0.length + i) (by omega), getD_l (by rw [List.length_append]; omega), getD_r (by omega), Nat.add_sub_cancel_left]; rfl
  · refine ⟨160 * r + c0.length + c1.length, ?_, ?_, g11, g12, fun i hi => ?_⟩
    · show 160 * r + c0.length + c1.length + c2.length ≤ 960; omega
    · show c2.length ≤ 160; omega
    · have hi : i < c2.length := hi
      rw [show 160 * r + c0.length + c1.length + i = 160 * r + (c0.length + c1.length + i) by omega, g6 (c0.length + c1.length + i) (by omega), getD_r (by rw [List.length_append]; omega), List.length_append, Nat.add_sub_cancel_left]; rfl
section SPEC
variable {n1 n3 n4 n5 r : Nat} {c : Nat → List Int32} {σ0 τ0 : St} {w s f : Int32}
theorem EvW (D : DD n1 n3 n4 n5 r c σ0 τ0) {key m k : Nat} {t w : Int32} (hkey : key < 3) (hm : m < 10) (hk : k < 4) : Ev (nmW τ0 m k t w) (c key) (wS τ0 c key m k t w) := by
  obtain ⟨_, _, _, _, hr, _, _, ⟨b, sz, j, g1, g2, g3, g4⟩, _⟩ := D
  obtain ⟨τ', v, e1, e2, e3⟩ := q_read (x := r) (m := m) (k := k) (b := b) (sz := sz) (τ := sI τ0 5 w) (t := t) (wh := 0) hr g1 g2 g3 hm hk
  rw [g4] at e3
  rcases e3 with ⟨_, _, v0, v1, v2, E0, E1, E2, _⟩ | ⟨z, _⟩
  · have en : nmF (sI τ0 5 w) m k t = nmW τ0 m k t w := rfl
    rw [en] at E0 E1 E2
    unfold wS
    rcases lt3 hkey with rfl | rfl | rfl
    · rw [E0.val]; exact E0
    · rw [E1.val]; exact E1
    · rw [E2.val]; exact E2
  · cases z
def QC (σ0 : St) (w s f : Int32) (σ : St) : Prop := KP [4, 5, 6, 7, 8] [19, 20, 21, 44, 45] σ0 σ ∧ σ.1 4 = w ∧ σ.1 5 = s ∧ σ.1 6 = f
def QM (τ0 : St) (w s f : Int32) (τ : St) : Prop := KP [5, 6, 7, 8, 9, 11, 12, 13, 14, 15, 16, 17, 18, 19, 20] [24, 25, 26] τ0 τ ∧ τ.1 5 = w ∧ τ.1 19 = f ∧ (f = 0 ∨ τ.1 18 = s)
abbrev fE : List Nat := [6, 7, 8, 9, 11, 12, 13, 14, 15, 16, 17, 20]
theorem QC.kp {σ σ' : St} (h : QC σ0 w s f σ) (hk : KP [] [44, 45] σ σ') : QC σ0 w s f σ' := ⟨h.1.tr (hk.wk (by decide) (by decide)), by rw [hk.1 4 (by decide)]; exact h.2.1, by rw [hk.1 5 (by decide)]; exact h.2.2.1, by rw [hk.1 6 (by decide)]; exact h.2.2.2⟩
theorem QM.kp {τ τ' : St} (h : QM τ0 w s f τ) (hk : KP fE [] τ τ') : QM τ0 w s f τ' := ⟨h.1.tr (hk.wk (by decide) (by decide)), by rw [hk.1 5 (by decide)]; exact h.2.1, by rw [hk.1 19 (by decide)]; exact h.2.2.1, by rw [hk.1 18 (by decide)]; exact h.2.2.2⟩
def CV (σ : St) (o : Option (St × Int32)) (v : Int32) : Prop := ∃ σ', o = some (σ', v) ∧ KP [] [44, 45] σ σ'
def MV1 (τ : St) (o : Option (St × Int32)) (v : Int32) : Prop := ∃ τ', o = some (τ', v) ∧ KP fE [] τ τ'
theorem q_regard {N : Nat} {σ : St} {a b d e : Int32} : ∃ σ', fC_T_regard N σ a b d e = some (σ', ()) ∧ KP [] [44] σ σ' ∧ σ'.2.1 44 2 = a ∧ σ'.2.1 44 3 = b ∧ σ'.2.1 44 4 = d ∧ σ'.2.1 44 5 = e := by
  refine ⟨sA (sA (sA (sA σ 44 2 a) 44 3 b) 44 4 d) 44 5 e, rfl, (((KP.a (by decide)).tr (KP.a (by decide))).tr (KP.a (by decide))).tr (KP.a (by decide)), rfl, rfl, rfl, rfl⟩
/-- the names that are set for a man and a tick -/
def NW4 (τ0 : St) (m : Nat) (t w : Int32) (σ : St) : Prop := σ.2.1 44 2 = τ0.2.1 6 m ∧ σ.2.1 44 3 = τ0.2.1 4 m ∧ σ.2.1 44 4 = t ∧ σ.2.1 44 5 = w
theorem q_worthC (D : DD n1 n3 n4 n5 r c σ0 τ0) {σ : St} (Q : QC σ0 w s f σ) {key m k : Nat} {t : Int32} (hkey : key < 3) (hm : m < 10) (hk : k < 4) (hn : NW4 τ0 m t w σ) : ∃ σ', fC_T_worth N0 σ (nI key) (nI k) (τ0.2.1 7 (4 * m + k)) = some (σ', wS τ0 c key m k t w) ∧ KP [] [44, 45] σ σ' ∧ NW4 τ0 m t w σ' := by
  have E := EvW (t := t) (w := w) D hkey hm hk
  obtain ⟨_, _, _, _, hr, h18, _, _, hco⟩ := D
  obtain ⟨a, a1, a2, a3, a4, a5⟩ := hco key hkey
  obtain ⟨n2, n3', n4', n5'⟩ := hn
  have cl : (nI (3 * r + key)).toNatClampNeg = 3 * r + key := nI_clamp (by omega)
  unfold fC_T_worth
  rw [giN 6 (by decide), bnd_eq, giN 6 (by decide), bnd_eq]
  have i18 : (sA (sA σ 44 0 (nI k)) 44 1 (τ0.2.1 7 (4 * m + k))).1 18 = nI r := by
    show σ.1 18 = _
    rw [Q.1.1 18 (by decide)]; exact h18
  rw [i18, ix3', bnd_eq, giN 18 (nI_b (by omega) (by decide)), bnd_eq, cl]
  have i42 : (sA (sA σ 44 0 (nI k)) 44 1 (τ0.2.1 7 (4 * m + k))).2.1 42 (3 * r + key) = nI a := by
    show σ.2.1 42 (3 * r + key) = _
    rw [Q.1.2 42 (by decide)]; exact a3
  rw [i42]
  obtain ⟨σ', e1, e2⟩ := q_worth_l (N := N0) (w := 3 * r + key) (e := a + (c key).length) (nm := nmW τ0 m k t w) (v := wS τ0 c key m k t w) (by omega) a1 (c key) a N0 (sA (sA σ 44 0 (nI k)) 44 1 (τ0.2.1 7 (4 * m + k))) [] rfl (by unfold N0; omega) (by
      show σ.2.1 43 (3 * r + key) = _
      rw [Q.1.2 43 (by decide)]; exact a4) (fun i hi => by
      show σ.2.1 41 (a + i) = _
      rw [Q.1.2 41 (by decide)]; exact a5 i hi) (fun i hi => by
      show upd (upd (σ.2.1 44) 0 (nI k)) 1 (τ0.2.1 7 (4 * m + k)) i = _
      have : i = 0 ∨ i = 1 ∨ i = 2 ∨ i = 3 ∨ i = 4 ∨ i = 5 := by omega
      rcases this with rfl | rfl | rfl | rfl | rfl | rfl
      · rfl
      · rfl
      · exact n2
      · exact n3'
      · exact n4'
      · exact n5') (fun i hi => absurd hi (Nat.not_lt_zero i)) (by show 0 + (c key).length ≤ 160; omega) ⟨[], E []⟩
  refine ⟨σ', e1, ((KP.a (by decide)).tr (KP.a (by decide))).tr (e2.wk (by decide) (by decide)), ?_, ?_, ?_, ?_⟩
  · rw [e2.2 44 (by decide)]; exact n2
  · rw [e2.2 44 (by decide)]; exact n3'
  · rw [e2.2 44 (by decide)]; exact n4'
  · rw [e2.2 44 (by decide)]; exact n5'
def oI (o : Option Nat) : Int32 := match o with
  | none => -1
  | some l => nI l
theorem stp_lt {cnt : Nat → Bool} {off : Nat → Int32} {acc : Option Nat} {k : Nat} (hk : k < 4) (h : ∀ l, acc = some l → l < 4) : ∀ l, stp cnt off acc k = some l → l < 4 := by
  intro l hl
  unfold stp at hl
  by_cases h1 : cnt k = true
  · rw [if_pos h1] at hl
    cases acc with
    | none => cases hl; exact hk
    | some q =>
      have hl : (if off q < off k then some k else some q) = some l := hl
      by_cases h2 : off q < off k
      · rw [if_pos h2] at hl; cases hl; exact hk
      · rw [if_neg h2] at hl; cases hl; exact h _ rfl
  · rw [if_neg h1] at hl; exact h l hl
theorem ldF_lt {cnt : Nat → Bool} {off : Nat → Int32} : ∀ (d k : Nat) (acc : Option Nat), k + d = 4 → (∀ l, acc = some l → l < 4) → ∀ l, ldF cnt off d k acc = some l → l < 4 := by
  intro d
  induction d with
  | zero => intro k acc _ h l hl; exact h l hl
  | succ d ih => intro k acc h1 h l hl; exact ih (k + 1) _ (by omega) (stp_lt (by omega) h) l hl
theorem leadS_lt {m : Nat} {t w : Int32} {l : Nat} (h : leadS τ0 c m t w = some l) : l < 4 := ldF_lt 4 0 none rfl (fun l h => by cases h) l h
theorem footS_lt {m : Nat} {t w : Int32} : footS τ0 c m t w < 4 := by
  unfold footS
  cases h : leadS τ0 c m t w with
  | none => decide
  | some l => exact leadS_lt h
theorem nI_ne1 {l : Nat} (h : l < 2 ^ 31) : ¬ nI l = -1 := by
  intro z; rw [eq_n, nI_toInt h] at z; have e : (-1 : Int32).toInt = -1 := rfl; omega
theorem leadC_l (D : DD n1 n3 n4 n5 r c σ0 τ0) {m : Nat} {t : Int32} (hm : m < 10) : ∀ (d k F : Nat) (σ : St) (acc : Option Nat), k + d = 4 → d < F → QC σ0 w s f σ → NW4 τ0 m t w σ → (∀ l, acc = some l → l < 4) →
    ∃ σ', fC_P_leadOf_l35 N0 F σ (nI m) (oI acc) (nI k) = some (σ', oI (ldF (fun k => decide (wS τ0 c 0 m k t w ≠ 0)) (fun k => τ0.2.1 7 (4 * m + k)) d k acc)) ∧ KP [] [44, 45] σ σ' := by
  intro d
  induction d with
  | zero =>
    intro k F σ acc h1 h2 Q hn ha
    obtain ⟨F, rfl⟩ : ∃ k, F = k + 1 := ⟨F - 1, by omega⟩
    refine ⟨σ, ?_, KP.rf⟩
    show (if (4 : Int32) ≤ nI k then _ else _) = _
    rw [if_pos (by rw [show k = 4 by omega]; decide)]
    rfl
  | succ d ih =>
    intro k F σ acc h1 h2 Q hn ha
    obtain ⟨F, rfl⟩ : ∃ k, F = k + 1 := ⟨F - 1, by omega⟩
    have e7 : σ.2.1 35 = τ0.2.1 7 := by rw [Q.1.2 35 (by decide)]; exact D.1.2.2.2.2.2.2.1
    obtain ⟨σ1, w1, w2, w3⟩ := q_worthC D Q (key := 0) (k := k) (by decide) hm (by omega) hn
    rw [nI_0] at w1
    have nxt : ∀ (acc' : Option Nat) (σ2 : St), stp (fun k => decide (wS τ0 c 0 m k t w ≠ 0)) (fun k => τ0.2.1 7 (4 * m + k)) acc k = acc' → KP [] [44, 45] σ σ2 → NW4 τ0 m t w σ2 → ∃ σ', fC_P_leadOf_j102 N0 (fC_P_leadOf_l35 N0 F) σ2 (nI m) (oI acc') (nI k) = some (σ', oI (ldF (fun k => decide (wS τ0 c 0 m k t w ≠ 0)) (fun k => τ0.2.1 7 (4 * m + k)) (d + 1) k acc)) ∧ KP [] [44, 45] σ σ' := by
      intro acc' σ2 q1 q2 q3
      unfold fC_P_leadOf_j102
      rw [bnd_eq, nI_1]
      obtain ⟨σ', e1, e2⟩ := ih (k + 1) F σ2 acc' (by omega) (by omega) (Q.kp q2) q3 (by rw [← q1]; exact stp_lt (by omega) ha)
      refine ⟨σ', ?_, q2.tr e2⟩
      subst q1
      exact e1
    have eval : ∀ (acc1 : Option Nat), (decide (wS τ0 c 0 m k t w ≠ 0) = true → stp (fun k => decide (wS τ0 c 0 m k t w ≠ 0)) (fun k => τ0.2.1 7 (4 * m + k)) acc k = some k) → ∃ σ', fC_P_leadOf_j77 N0 (fC_P_leadOf_l35 N0 F) σ (nI m) (oI acc) (nI k) (τ0.2.1 7 (4 * m + k)) 1 = some (σ', oI (ldF (fun k => decide (wS τ0 c 0 m k t w ≠ 0)) (fun k => τ0.2.1 7 (4 * m + k)) (d + 1) k acc)) ∧ KP [] [44, 45] σ σ' := by
      intro _ hs
      unfold fC_P_leadOf_j77
      rw [if_neg (by decide), w1, cal_eq]
      by_cases hz : wS τ0 c 0 m k t w = 0
      · rw [if_pos hz]
        exact nxt acc σ1 (by unfold stp; rw [if_neg (show ¬ decide (wS τ0 c 0 m k t w ≠ 0) = true by rw [hz]; decide)]) w2 w3
      · rw [if_neg hz]
        exact nxt (some k) σ1 (hs (decide_eq_true hz)) w2 w3
    show ∃ σ', (if (4 : Int32) ≤ nI k then _ else _) = _ ∧ _
    rw [if_neg (by rw [show (4 : Int32) = nI 4 from rfl, nI_leI (by decide) (by omega)]; omega), q_offOf hm (by omega), cal_eq, e7]
    unfold fC_P_leadOf_j72
    cases acc with
    | none =>
      rw [if_pos (show oI none = -1 from rfl)]
      exact eval none (fun hc => by unfold stp; rw [if_pos hc])
    | some l =>
      have hl := ha l rfl
      rw [if_neg (show ¬ oI (some l) = -1 from nI_ne1 (by omega)), show oI (some l) = nI l from rfl, q_offOf hm hl, cal_eq, e7]
      by_cases hle : τ0.2.1 7 (4 * m + k) ≤ τ0.2.1 7 (4 * m + l)
      · rw [if_pos hle]
        unfold fC_P_leadOf_j77
        rw [if_pos rfl]
        refine nxt (some l) σ ?_ KP.rf hn
        unfold stp
        by_cases hc : decide (wS τ0 c 0 m k t w ≠ 0) = true
        · rw [if_pos hc]
          show (if τ0.2.1 7 (4 * m + l) < τ0.2.1 7 (4 * m + k) then some k else some l) = some l
          rw [if_neg (by rw [lt_n]; rw [le_n] at hle; omega)]
        · rw [if_neg hc]
      · rw [if_neg hle]
        refine eval (some l) (fun hc => ?_)
        unfold stp
        rw [if_pos hc]
        show (if τ0.2.1 7 (4 * m + l) < τ0.2.1 7 (4 * m + k) then some k else some l) = some k
        rw [if_pos (by rw [lt_n]; rw [le_n] at hle; omega)]
theorem leadC (D : DD n1 n3 n4 n5 r c σ0 τ0) {σ : St} (Q : QC σ0 w s f σ) {m : Nat} {t : Int32} (hm : m < 10) : CV σ (fC_P_leadOf N0 σ (nI m) t) (oI (leadS τ0 c m t w)) := by
  have cl : (nI m).toNatClampNeg = m := nI_clamp (by omega)
  have hg := nI_b hm (show 10 < 2 ^ 31 by decide)
  unfold fC_P_leadOf
  rw [giN 10 hg, giN 10 hg, cl]
  have e34 : σ.2.1 34 = τ0.2.1 6 := by rw [Q.1.2 34 (by decide)]; exact D.1.2.2.2.2.2.1
  have e32 : σ.2.1 32 = τ0.2.1 4 := by rw [Q.1.2 32 (by decide)]; exact D.1.2.2.2.1
  rw [e34, e32, Q.2.1]
  obtain ⟨σ1, a1, a2, a3, a4, a5, a6⟩ := q_regard (N := N0) (σ := σ) (a := τ0.2.1 6 m) (b := τ0.2.1 4 m) (d := t) (e := w)
  rw [a1, cal_eq]
  have k1 : KP [] [44, 45] σ σ1 := a2.wk (by decide) (by decide)
  obtain ⟨σ', e1, e2⟩ := leadC_l (w := w) (s := s) (f := f) D (t := t) hm 4 0 N0 σ1 none rfl (by decide) (Q.kp k1) ⟨a3, a4, a5, a6⟩ (fun l h => by cases h)
  exact ⟨σ', e1, k1.tr e2⟩
theorem whereC (D : DD n1 n3 n4 n5 r c σ0 τ0) {σ : St} (Q : QC σ0 w s f σ) {m : Nat} {t : Int32} (hm : m < 10) : fC_P_whereIs N0 σ (nI m) t = some (σ, whereS τ0 s f m t) := by
  have cl : (nI m).toNatClampNeg = m := nI_clamp (by omega)
  have hg := nI_b hm (show 10 < 2 ^ 31 by decide)
  have e34 : σ.2.1 34 = τ0.2.1 6 := by rw [Q.1.2 34 (by decide)]; exact D.1.2.2.2.2.2.1
  have e33 : σ.2.1 33 = τ0.2.1 5 := by rw [Q.1.2 33 (by decide)]; exact D.1.2.2.2.2.1
  have e32 : σ.2.1 32 = τ0.2.1 4 := by rw [Q.1.2 32 (by decide)]; exact D.1.2.2.2.1
  unfold fC_P_whereIs fC_P_whereIs_j24 whereS
  simp only [giN 10 hg, cl, e32, e33, e34, Q.2.2.1, Q.2.2.2]
  split <;> rfl
theorem frontC (D : DD n1 n3 n4 n5 r c σ0 τ0) {σ : St} (Q : QC σ0 w s f σ) {m : Nat} {t : Int32} (hm : m < 10) : CV σ (fC_P_frontOf N0 σ (nI m) t) (frontS τ0 c w s f m t) := by
  obtain ⟨σ1, a1, a2⟩ := leadC D Q (t := t) hm
  have Q1 := Q.kp a2
  have e7 : σ1.2.1 35 = τ0.2.1 7 := by rw [Q1.1.2 35 (by decide)]; exact D.1.2.2.2.2.2.2.1
  unfold fC_P_frontOf fC_P_frontOf_j25
  rw [a1, cal_eq]
  unfold frontS
  cases h : leadS τ0 c m t w with
  | none =>
    rw [if_pos (show oI none = -1 from rfl), whereC D Q1 hm, cal_eq]
    exact ⟨σ1, rfl, a2⟩
  | some l =>
    have hl := leadS_lt h
    rw [if_neg (show ¬ oI (some l) = -1 from nI_ne1 (by omega)), show oI (some l) = nI l from rfl, q_offOf hm hl, cal_eq, whereC D Q1 hm, cal_eq, e7]
    exact ⟨σ1, rfl, a2⟩
theorem footC {N : Nat} {σ : St} {m : Nat} {t w : Int32} : fC_footIfNone N σ (oI (leadS τ0 c m t w)) = some (σ, nI (footS τ0 c m t w)) := by
  unfold fC_footIfNone footS
  cases h : leadS τ0 c m t w with
  | none => rfl
  | some l =>
    have hl := leadS_lt h
    rw [if_neg (show ¬ oI (some l) = -1 from nI_ne1 (by omega))]; rfl
theorem worthOfC (D : DD n1 n3 n4 n5 r c σ0 τ0) {σ : St} (Q : QC σ0 w s f σ) {key m k : Nat} {t : Int32} (hkey : key < 3) (hm : m < 10) (hk : k < 4) : CV σ (fC_P_worthOf N0 σ (nI m) (nI k) t (nI key)) (wS τ0 c key m k t w) := by
  have cl : (nI m).toNatClampNeg = m := nI_clamp (by omega)
  have hg := nI_b hm (show 10 < 2 ^ 31 by decide)
  unfold fC_P_worthOf
  rw [giN 10 hg, giN 10 hg, cl]
  have e34 : σ.2.1 34 = τ0.2.1 6 := by rw [Q.1.2 34 (by decide)]; exact D.1.2.2.2.2.2.1
  have e32 : σ.2.1 32 = τ0.2.1 4 := by rw [Q.1.2 32 (by decide)]; exact D.1.2.2.2.1
  rw [e34, e32, Q.2.1]
  obtain ⟨σ1, a1, a2, a3, a4, a5, a6⟩ := q_regard (N := N0) (σ := σ) (a := τ0.2.1 6 m) (b := τ0.2.1 4 m) (d := t) (e := w)
  have k1 : KP [] [44, 45] σ σ1 := a2.wk (by decide) (by decide)
  have Q1 := Q.kp k1
  have e7 : σ1.2.1 35 = τ0.2.1 7 := by rw [Q1.1.2 35 (by decide)]; exact D.1.2.2.2.2.2.2.1
  rw [a1, cal_eq, q_offOf hm hk, cal_eq, e7]
  obtain ⟨σ2, b1, b2, _⟩ := q_worthC D Q1 (t := t) hkey hm hk ⟨a3, a4, a5, a6⟩
  rw [b1, cal_eq]
  exact ⟨σ2, rfl, k1.tr b2⟩
theorem ruledC (D : DD n1 n3 n4 n5 r c σ0 τ0) {σ : St} (Q : QC σ0 w s f σ) {key m : Nat} {t : Int32} (hkey : key < 3) (hm : m < 10) : CV σ (fC_P_ruledOn N0 σ (nI m) t (nI key)) (ruleS τ0 c key m t w) := by
  obtain ⟨σ1, a1, a2⟩ := leadC D Q (t := t) hm
  obtain ⟨σ2, b1, b2⟩ := worthOfC D (Q.kp a2) (key := key) (k := footS τ0 c m t w) (t := t) hkey hm footS_lt
  unfold fC_P_ruledOn
  rw [a1, cal_eq, footC, cal_eq, b1, cal_eq]
  exact ⟨σ2, rfl, a2.tr b2⟩
end SPEC
