/-! how large margins are, where nobody stands back -/
theorem t_mul {t v : Int32} (ht : bt t 0 200) (hv : bt v (-99) 99) : (t * v).toInt = t.toInt * v.toInt ∧ -19800 ≤ t.toInt * v.toInt ∧ t.toInt * v.toInt ≤ 19800 := by
  have h1 := ht.1
  have h2 := ht.2
  have h3 := hv.1
  have h4 := hv.2
  have a1 : t.toInt * v.toInt ≤ t.toInt * 99 := Int.mul_le_mul_of_nonneg_left h4 h1
  have a2 : t.toInt * (-99) ≤ t.toInt * v.toInt := Int.mul_le_mul_of_nonneg_left h3 h1
  have b1 : t.toInt * v.toInt ≤ 19800 := by omega
  have b2 : -19800 ≤ t.toInt * v.toInt := by omega
  refine ⟨?_, b2, b1⟩
  rw [Int32.toInt_mul]
  exact Int.bmod_eq_of_le (by omega) (by omega)
theorem add_n {a b : Int32} {A B : Int} (ha : -A ≤ a.toInt ∧ a.toInt ≤ A) (hb : -B ≤ b.toInt ∧ b.toInt ≤ B) (h : A + B ≤ 1000000000) : (a + b).toInt = a.toInt + b.toInt := by
  rw [Int32.toInt_add]
  exact Int.bmod_eq_of_le (by omega) (by omega)
theorem sub_nn {a b : Int32} {A B : Int} (ha : -A ≤ a.toInt ∧ a.toInt ≤ A) (hb : -B ≤ b.toInt ∧ b.toInt ≤ B) (h : A + B ≤ 1000000000) : (a - b).toInt = a.toInt - b.toInt := by
  rw [Int32.toInt_sub]
  exact Int.bmod_eq_of_le (by omega) (by omega)
abbrev bd (x : Int32) (A : Int) : Prop := -A ≤ x.toInt ∧ x.toInt ≤ A
theorem bd_add {a b : Int32} {A B : Int} (ha : bd a A) (hb : bd b B) (h : A + B ≤ 1000000000) : bd (a + b) (A + B) := by
  have := add_n ha hb h
  constructor <;> rw [this] <;> omega
theorem bd_sub {a b : Int32} {A B : Int} (ha : bd a A) (hb : bd b B) (h : A + B ≤ 1000000000) : bd (a - b) (A + B) := by
  have := sub_nn ha hb h
  constructor <;> rw [this] <;> omega
theorem bd_wk {a : Int32} {A B : Int} (h : bd a A) (hb : A ≤ B) : bd a B := ⟨by have := h.1; omega, by have := h.2; omega⟩
section BOUNDS
variable {n1 n3 n4 n5 r : Nat} {c : Nat → List Int32} {σ0 τ0 : St} {w s f : Int32}
theorem bd_front (D : DD n1 n3 n4 n5 r c σ0 τ0) {m : Nat} {t : Int32} (ht : bt t 0 200) : bd (frontS τ0 c w s 0 m t) 29998 := by
  obtain ⟨k1, k2, k3, k4, k5, k6, k7, k8, k9, k10, k11, k12⟩ := D.1
  have hw : bd (whereS τ0 s 0 m t) 29799 := by
    unfold whereS
    have e0 : (if τ0.2.1 4 m = s then (0 : Int32) else 0) = 0 := by split <;> rfl
    rw [e0, Int32.sub_zero]
    obtain ⟨m1, m2, m3⟩ := t_mul ht (k10 m)
    exact bd_add (A := 9999) (B := 19800) ⟨by have := (k9 m).1; omega, (k9 m).2⟩ ⟨by rw [m1]; exact m2, by rw [m1]; exact m3⟩ (by decide)
  unfold frontS
  cases leadS τ0 c m t w with
  | none => exact bd_wk (bd_add (b := (0 : Int32)) (B := 0) hw ⟨by decide, by decide⟩ (by decide)) (by decide)
  | some l => exact bd_wk (bd_add (B := 199) hw (k11 _) (by decide)) (by decide)
theorem frame_bt (D : DD n1 n3 n4 n5 r c σ0 τ0) {ca : Nat} {t : Int32} (hc : ca < n3) (ht : bt t 0 200) : bt (frameS τ0 ca t) 0 200 := by
  obtain ⟨k1, k2, k3, k4, k5, k6, k7, k8, k9⟩ := D.2.1
  have h9 := k8 ca
  have h8 := k7 ca hc
  unfold frameS
  by_cases h1 : t < τ0.2.1 9 ca
  · rw [if_pos h1]; exact ⟨h9.1, by have := h9.2; omega⟩
  · rw [if_neg h1]
    rw [lt_n] at h1
    obtain ⟨a, ha, ha2, ea⟩ := bt_nI ht
    obtain ⟨b, hb, hb2, eb⟩ := bt_nI h9
    obtain ⟨d, hd, hd2, ed⟩ := bt_nI (bt_wk (c := 0) (d := 20) h8 (by decide) (by decide))
    have hd0 : 1 ≤ d := by
      have h81 := h8.1
      rw [ed, nI_toInt hd2] at h81; omega
    rw [ea, eb, nI_toInt ha2, nI_toInt hb2] at h1
    rw [ea, eb, ed, pk_sub (by omega), pk_rem (by omega) (by omega) hd2, pk_sub (by have := Nat.mod_le (a - b) d; omega)]
    have := Nat.mod_le (a - b) d
    exact ⟨by rw [nI_toInt (by omega)]; omega, by rw [nI_toInt (by omega)]; omega⟩
theorem bd_seen (D : DD n1 n3 n4 n5 r c σ0 τ0) {ca : Nat} {p : Int32} (hp : bd p 29998) : bd (seenS τ0 ca p) 30298 := by
  obtain ⟨k1, k2, k3, k4, k5, k6, k7, k8, k9⟩ := D.2.1
  have hs := k9 ca
  have h1 := hs.1
  have h2 := hs.2
  have h3 := hp.1
  have h4 := hp.2
  unfold seenS
  have hm : -270000 ≤ (τ0.2.1 10 ca).toInt * p.toInt ∧ (τ0.2.1 10 ca).toInt * p.toInt ≤ 270000 := by
    have hcase : ∀ x y : Int, -9 ≤ x → x ≤ 9 → -29998 ≤ y → y ≤ 29998 → -270000 ≤ x * y ∧ x * y ≤ 270000 := by
      intro x y a1 a2 a3 a4
      have : x = -9 ∨ x = -8 ∨ x = -7 ∨ x = -6 ∨ x = -5 ∨ x = -4 ∨ x = -3 ∨ x = -2 ∨ x = -1 ∨ x = 0 ∨ x = 1 ∨ x = 2 ∨ x = 3 ∨ x = 4 ∨ x = 5 ∨ x = 6 ∨ x = 7 ∨ x = 8 ∨ x = 9 := by omega
      rcases this with rfl | rfl | rfl | rfl | rfl | rfl | rfl | rfl | rfl | rfl | rfl | rfl | rfl | rfl | rfl | rfl | rfl | rfl | rfl <;> omega
    exact hcase _ _ h1 h2 h3 h4
  have e1 : (τ0.2.1 10 ca * p).toInt = (τ0.2.1 10 ca).toInt * p.toInt := by
    rw [Int32.toInt_mul]; exact Int.bmod_eq_of_le (by omega) (by omega)
  have hd : bd ((τ0.2.1 10 ca * p) / (1000 : Int32)) 300 := by
    have e3 : (1000 : Int32).toInt = 1000 := rfl
    have hq : ∀ x : Int, -270000 ≤ x → x ≤ 270000 → -300 ≤ x.tdiv 1000 ∧ x.tdiv 1000 ≤ 300 := by
      intro x a b
      rcases Int.le_total 0 x with z | z
      · rw [Int.tdiv_eq_ediv_of_nonneg z]; omega
      · have e : x.tdiv 1000 = -((-x).tdiv 1000) := by rw [Int.neg_tdiv, Int.neg_neg]
        rw [e, Int.tdiv_eq_ediv_of_nonneg (by omega)]; omega
    have h5 := hq _ hm.1 hm.2
    have e2 : ((τ0.2.1 10 ca * p) / (1000 : Int32)).toInt = ((τ0.2.1 10 ca).toInt * p.toInt).tdiv 1000 := by
      rw [Int32.toInt_div, e1, e3]
      exact Int.bmod_eq_of_le (by omega) (by omega)
    constructor <;> rw [e2] <;> omega
  exact bd_wk (bd_add hp hd (by decide)) (by decide)
theorem bd_lean (D : DD n1 n3 n4 n5 r c σ0 τ0) {cr m : Nat} : bd (leanS τ0 cr m) 20 := by
  obtain ⟨k1, k2, k3, k4, k5, k6, k7⟩ := D.2.2.1
  have h := k6 cr
  unfold leanS
  by_cases h6 : τ0.2.1 6 m ≤ 0
  · rw [if_pos h6]
    have e : (-(τ0.2.1 11 cr)).toInt = -(τ0.2.1 11 cr).toInt := by
      rw [Int32.toInt_neg]; exact Int.bmod_eq_of_le (by have := h.2; omega) (by have := h.1; omega)
    exact ⟨by rw [e]; have := h.2; omega, by rw [e]; have := h.1; omega⟩
  · rw [if_neg h6]; exact h
theorem bd_margin (D : DD n1 n3 n4 n5 r c σ0 τ0) {k q : Nat} (hq : q < n5) : bd (marginS τ0 c w s 0 k q) 70000 := by
  obtain ⟨c1, _, c3, c4, c5, c6, c7, c8, c9, c10, c11⟩ := call_at D hq
  have ht : bt (τ0.2.1 16 q) 0 200 := (D.2.2.2.1.2.2.2.2.2.2.2.2.2 q hq).2.2.2.1
  have hf := frame_bt D c7 ht
  have hT : bd (trueS τ0 c w s 0 q (τ0.2.1 16 q)) 59996 := bd_wk (bd_sub (bd_front D ht) (bd_front D ht) (by decide)) (by decide)
  have hF : bd (flagS τ0 q) 396 := by
    obtain ⟨k1, k2, k3, k4, k5, k6, k7, k8, k9, k10, k11, k12⟩ := D.1
    have hs : bd (τ0.2.1 6 (aN τ0 q) - τ0.2.1 6 (bN τ0 q)) 198 := bd_wk (bd_sub (A := 99) (B := 99) (k10 _) (k10 _) (by decide)) (by decide)
    unfold flagS
    have e2 : (2 : Int32).toInt = 2 := rfl
    have h1 := hs.1
    have h2 := hs.2
    have e : ((2 : Int32) * (τ0.2.1 6 (aN τ0 q) - τ0.2.1 6 (bN τ0 q))).toInt = 2 * (τ0.2.1 6 (aN τ0 q) - τ0.2.1 6 (bN τ0 q)).toInt := by
      rw [Int32.toInt_mul, e2]; exact Int.bmod_eq_of_le (by omega) (by omega)
    constructor <;> rw [e] <;> omega
  have hC : bd (crossS τ0 c w s 0 q (aN τ0 q) - crossS τ0 c w s 0 q (bN τ0 q)) 60596 := bd_wk (bd_sub (bd_seen D (bd_front D hf)) (bd_seen D (bd_front D hf)) (by decide)) (by decide)
  have hTF := bd_add hT hF (by decide)
  unfold marginS
  by_cases k1 : k = 1
  · rw [if_pos k1]; exact bd_wk hTF (by decide)
  rw [if_neg k1]
  by_cases k4 : k = 4
  · rw [if_pos k4]; exact bd_wk (bd_sub (B := 10) hTF ⟨by decide, by decide⟩ (by decide)) (by decide)
  rw [if_neg k4]
  by_cases k5 : k = 5
  · rw [if_pos k5]; exact bd_wk (bd_sub (B := 2) hC ⟨by decide, by decide⟩ (by decide)) (by decide)
  rw [if_neg k5]
  by_cases k23 : k = 2 ∨ k = 3
  · rw [if_pos k23]; exact bd_wk (bd_sub (bd_add hC (bd_lean D) (by decide)) (bd_lean D) (by decide)) (by decide)
  · rw [if_neg k23]; exact bd_wk hT (by decide)
theorem bd_band {k q : Nat} : bd (bandS τ0 c w k q) 1000 := by
  unfold bandS
  split
  · exact ⟨by decide, by decide⟩
  split
  · have hc : bd (clampS (ruleS τ0 c 1 (aN τ0 q) (τ0.2.1 16 q) w)) 999 := by
      unfold clampS
      split
      · next h0 =>
        split
        · next h1 =>
          rw [le_n] at h0 h1
          have z0 : (0 : Int32).toInt = 0 := rfl
          have z9 : (999 : Int32).toInt = 999 := rfl
          exact ⟨by omega, by omega⟩
        · exact ⟨by decide, by decide⟩
      · exact ⟨by decide, by decide⟩
    exact bd_wk (bd_add (A := 1) ⟨by decide, by decide⟩ hc (by decide)) (by decide)
  split
  · exact ⟨by decide, by decide⟩
  split
  · exact ⟨by decide, by decide⟩
  · exact ⟨by decide, by decide⟩
end BOUNDS
/-! the ways -/
theorem ways_in {N1 N2 : Nat} {σ τ : St} {v bn sp : Int32} {kC : St → Int32 → Int32 → Int32 → Int32 → Option (St × Int32)} {kM : St → Int32 → Int32 → Int32 → Int32 → Int32 → Option (St × Int32)} (hv : bd v 70000) (hb : bd bn 1000) (hs : bt sp 0 9) {a : Int32} (ha : bd a 9) : ∀ (d FC FM : Nat) (b n : Int32), b.toInt + d = sp.toInt + 1 → bd b 10 → d < FC → d < FM → ∃ n', fC_P_waysOf_l51 N1 kC FC σ (v - bn) sp n a b = kC σ (v - bn) sp n' (a + 1) ∧ fM_waysOf_l51 N2 kM FM τ v bn sp n a b = kM τ v bn sp n' (a + 1) := by
  intro d
  induction d with
  | zero =>
    intro FC FM b n h1 h2 h3 h4
    obtain ⟨FC, rfl⟩ : ∃ k, FC = k + 1 := ⟨FC - 1, by omega⟩
    obtain ⟨FM, rfl⟩ : ∃ k, FM = k + 1 := ⟨FM - 1, by omega⟩
    have e : sp < b := by rw [lt_n]; omega
    refine ⟨n, ?_, ?_⟩
    · show (if sp < b then _ else _) = _
      rw [if_pos e]; rfl
    · show (if sp < b then _ else _) = _
      rw [if_pos e]; rfl
  | succ d ih =>
    intro FC FM b n h1 h2 h3 h4
    obtain ⟨FC, rfl⟩ : ∃ k, FC = k + 1 := ⟨FC - 1, by omega⟩
    obtain ⟨FM, rfl⟩ : ∃ k, FM = k + 1 := ⟨FM - 1, by omega⟩
    have e : ¬ sp < b := by rw [lt_n]; omega
    have hs2 := hs.2
    have e1 := sub_nn hv hb (by decide)
    have q1 := bd_sub hv hb (by decide)
    have e2 := add_n q1 ha (by decide)
    have q2 := bd_add q1 ha (by decide)
    have e3 := sub_nn q2 h2 (by decide)
    have e4 := add_n hv ha (by decide)
    have q4 := bd_add hv ha (by decide)
    have e5 := sub_nn q4 h2 (by decide)
    have eb : (b + 1).toInt = b.toInt + 1 := add_n h2 (B := 1) ⟨by decide, by decide⟩ (by decide)
    have h2' : bd (b + 1) 10 := ⟨by rw [eb]; have := h2.1; omega, by rw [eb]; omega⟩
    have z0 : (0 : Int32).toInt = 0 := rfl
    have hc : ((v - bn) + a) - b ≤ 0 ↔ (v + a) - b ≤ bn := by
      rw [le_n, le_n, e3, e2, e1, e5, e4, z0]; omega
    by_cases hq : ((v - bn) + a) - b ≤ 0
    · obtain ⟨n', p1, p2⟩ := ih FC FM (b + 1) (n + 0) (by rw [eb]; omega) h2' (by omega) (by omega)
      refine ⟨n', ?_, ?_⟩
      · show (if sp < b then _ else _) = _
        rw [if_neg e, if_pos hq]; exact p1
      · show (if sp < b then _ else _) = _
        rw [if_neg e, if_pos (hc.mp hq)]; exact p2
    · obtain ⟨n', p1, p2⟩ := ih FC FM (b + 1) (n + 1) (by rw [eb]; omega) h2' (by omega) (by omega)
      refine ⟨n', ?_, ?_⟩
      · show (if sp < b then _ else _) = _
        rw [if_neg e, if_neg hq]; exact p1
      · show (if sp < b then _ else _) = _
        rw [if_neg e, if_neg (fun z => hq (hc.mpr z))]; exact p2
theorem neg_sp {sp : Int32} (hs : bt sp 0 9) : (-sp).toInt = -sp.toInt := by
  rw [Int32.toInt_neg]; exact Int.bmod_eq_of_le (by have := hs.2; omega) (by have := hs.1; omega)
theorem ways_out {N1 N2 : Nat} {σ τ : St} {v bn sp : Int32} (h1N : 30 ≤ N1) (h2N : 30 ≤ N2) (hv : bd v 70000) (hb : bd bn 1000) (hs : bt sp 0 9) : ∀ (d FC FM : Nat) (a n : Int32), a.toInt + d = sp.toInt + 1 → (-9 ≤ a.toInt ∧ a.toInt ≤ 10) → d < FC → d < FM → ∃ n', fC_P_waysOf_l39 N1 FC σ (v - bn) sp n a = some (σ, n') ∧ fM_waysOf_l39 N2 FM τ v bn sp n a = some (τ, n') := by
  intro d
  induction d with
  | zero =>
    intro FC FM a n h1 h2 h3 h4
    obtain ⟨FC, rfl⟩ : ∃ k, FC = k + 1 := ⟨FC - 1, by omega⟩
    obtain ⟨FM, rfl⟩ : ∃ k, FM = k + 1 := ⟨FM - 1, by omega⟩
    have e : sp < a := by rw [lt_n]; omega
    refine ⟨n, ?_, ?_⟩
    · show (if sp < a then _ else _) = _
      rw [if_pos e]
    · show (if sp < a then _ else _) = _
      rw [if_pos e]
  | succ d ih =>
    intro FC FM a n h1 h2 h3 h4
    obtain ⟨FC, rfl⟩ : ∃ k, FC = k + 1 := ⟨FC - 1, by omega⟩
    obtain ⟨FM, rfl⟩ : ∃ k, FM = k + 1 := ⟨FM - 1, by omega⟩
    have e : ¬ sp < a := by rw [lt_n]; omega
    have hs1 := hs.1
    have hs2 := hs.2
    have en := neg_sp hs
    have ea : (a + 1).toInt = a.toInt + 1 := add_n (A := 10) ⟨by omega, h2.2⟩ (B := 1) ⟨by decide, by decide⟩ (by decide)
    have h2' : -9 ≤ (a + 1).toInt ∧ (a + 1).toInt ≤ 10 := ⟨by rw [ea]; have := h2.1; omega, by rw [ea]; omega⟩
    have ha9 := h2.1
    obtain ⟨n1, p1, p2⟩ := ways_in (N1 := N1) (N2 := N2) (σ := σ) (τ := τ) (kC := fC_P_waysOf_l39 N1 FC) (kM := fM_waysOf_l39 N2 FM) hv hb hs (a := a) ⟨ha9, by omega⟩ (sp.toInt + 1 + sp.toInt).toNat N1 N2 (-sp) n (by rw [en]; omega) ⟨by rw [en]; omega, by rw [en]; omega⟩ (by omega) (by omega)
    obtain ⟨n', q1, q2⟩ := ih FC FM (a + 1) n1 (by rw [ea]; omega) h2' (by omega) (by omega)
    refine ⟨n', ?_, ?_⟩
    · show (if sp < a then _ else _) = _
      rw [if_neg e]; exact p1.trans q1
    · show (if sp < a then _ else _) = _
      rw [if_neg e]; exact p2.trans q2
