/-! tools of the pure layer: states, pairs of answers, bounds -/
theorem sI_i (σ : St) (k : Nat) (v : Int32) (j : Nat) : (sI σ k v).1 j = if j = k then v else σ.1 j := rfl
theorem sI_a (σ : St) (k : Nat) (v : Int32) : (sI σ k v).2.1 = σ.2.1 := rfl
theorem sI_l (σ : St) (k : Nat) (v : Int32) : (sI σ k v).2.2 = σ.2.2 := rfl
theorem sA_i (σ : St) (k : Nat) (i v : Int32) : (sA σ k i v).1 = σ.1 := rfl
theorem sA_a (σ : St) (k : Nat) (i v : Int32) (j : Nat) : (sA σ k i v).2.1 j = if j = k then upd (σ.2.1 k) i.toNatClampNeg v else σ.2.1 j := rfl
theorem sA_l (σ : St) (k : Nat) (i v : Int32) : (sA σ k i v).2.2 = σ.2.2 := rfl
theorem sL_i (σ : St) (k : Nat) (v : Int64) : (sL σ k v).1 = σ.1 := rfl
theorem sL_a (σ : St) (k : Nat) (v : Int64) : (sL σ k v).2.1 = σ.2.1 := rfl
theorem sL_l (σ : St) (k : Nat) (v : Int64) (j : Nat) : (sL σ k v).2.2 j = if j = k then v else σ.2.2 j := rfl
def BothP {β : Type} (P : St → St → Prop) (o p : Option (St × β)) : Prop := ∃ (σ1 τ1 : St) (r : β), o = some (σ1, r) ∧ p = some (τ1, r) ∧ P σ1 τ1
abbrev Both {β : Type} (o p : Option (St × β)) : Prop := BothP Rel o p
theorem Both.mk {P : St → St → Prop} {β : Type} {σ τ : St} {r : β} (h : P σ τ) : BothP P (some (σ, r)) (some (τ, r)) := ⟨σ, τ, r, rfl, rfl, h⟩
theorem Both.mk2 {P : St → St → Prop} {β : Type} {σ τ : St} {r r' : β} (e : r = r') (h : P σ τ) : BothP P (some (σ, r)) (some (τ, r')) := ⟨σ, τ, r, rfl, by rw [e], h⟩
theorem Both.ite {P : St → St → Prop} {β : Type} {c d : Prop} [Decidable c] [Decidable d] {A B C D : Option (St × β)} (h : c ↔ d) (h1 : c → d → BothP P A C) (h2 : ¬ c → ¬ d → BothP P B D) : BothP P (if c then A else B) (if d then C else D) := by
  by_cases hc : c
  · rw [if_pos hc, if_pos (h.mp hc)]; exact h1 hc (h.mp hc)
  · rw [if_neg hc, if_neg (fun z => hc (h.mpr z))]; exact h2 hc (fun z => hc (h.mpr z))
theorem Both.same {P : St → St → Prop} {β : Type} {c : Prop} [Decidable c] {A B C D : Option (St × β)} (h1 : c → BothP P A C) (h2 : ¬ c → BothP P B D) : BothP P (if c then A else B) (if c then C else D) := Both.ite Iff.rfl (fun h _ => h1 h) (fun h _ => h2 h)
theorem Both.casL {P : St → St → Prop} {β γ : Type} {σ : St} {r : γ} {o : Option (St × γ)} {k : St → γ → Option (St × β)} {p : Option (St × β)} (h : o = some (σ, r)) (hk : BothP P (k σ r) p) : BothP P (cal o k) p := by rw [h]; exact hk
theorem Both.casR {P : St → St → Prop} {β γ : Type} {σ : St} {r : γ} {o : Option (St × γ)} {k : St → γ → Option (St × β)} {p : Option (St × β)} (h : o = some (σ, r)) (hk : BothP P p (k σ r)) : BothP P p (cal o k) := by rw [h]; exact hk
theorem Both.giL {P : St → St → Prop} {β : Type} {i : Int32} {n : Nat} {A B : Option (St × β)} (h : 0 ≤ i.toInt ∧ i.toInt < (n : Int)) (hk : BothP P A B) : BothP P (gi i n A) B := by rw [gi_ok h]; exact hk
theorem Both.giR {P : St → St → Prop} {β : Type} {i : Int32} {n : Nat} {A B : Option (St × β)} (h : 0 ≤ i.toInt ∧ i.toInt < (n : Int)) (hk : BothP P A B) : BothP P A (gi i n B) := by rw [gi_ok h]; exact hk
theorem giN {α : Type} {i : Int32} (n : Nat) {k : Option α} (h : 0 ≤ i.toInt ∧ i.toInt < (n : Int)) : gi i n k = k := gi_ok h
theorem nI_b {j n : Nat} (h : j < n) (hn : n < 2 ^ 31) : 0 ≤ (nI j).toInt ∧ (nI j).toInt < (n : Int) := by rw [nI_toInt (by omega)]; omega
theorem bt_b {x : Int32} {h : Int} {n : Nat} (hb : bt x 0 h) (hn : h < n) : 0 ≤ x.toInt ∧ x.toInt < (n : Int) := ⟨hb.1, by have := hb.2; omega⟩
theorem i_0_3 {N : Nat} {σ : St} {a : Int32} : fM_in N σ a.toInt64 (0 : Int64) (3 : Int64) = some (σ, if bt a (0) 3 then 1 else 0) := q_in32 rfl rfl
theorem w_0_3 {N : Nat} {σ : St} {a : Int32} : fC_isWithin N σ a (0 : Int32) (3 : Int32) = some (σ, if bt a (0) 3 then 1 else 0) := q_w32 rfl rfl
theorem i_0_9999 {N : Nat} {σ : St} {a : Int32} : fM_in N σ a.toInt64 (0 : Int64) (9999 : Int64) = some (σ, if bt a (0) 9999 then 1 else 0) := q_in32 rfl rfl
theorem w_0_9999 {N : Nat} {σ : St} {a : Int32} : fC_isWithin N σ a (0 : Int32) (9999 : Int32) = some (σ, if bt a (0) 9999 then 1 else 0) := q_w32 rfl rfl
theorem i_m99_99 {N : Nat} {σ : St} {a : Int32} : fM_in N σ a.toInt64 (-99 : Int64) (99 : Int64) = some (σ, if bt a (-99) 99 then 1 else 0) := q_in32 rfl rfl
theorem w_m99_99 {N : Nat} {σ : St} {a : Int32} : fC_isWithin N σ a (-99 : Int32) (99 : Int32) = some (σ, if bt a (-99) 99 then 1 else 0) := q_w32 rfl rfl
theorem i_m199_199 {N : Nat} {σ : St} {a : Int32} : fM_in N σ a.toInt64 (-199 : Int64) (199 : Int64) = some (σ, if bt a (-199) 199 then 1 else 0) := q_in32 rfl rfl
theorem w_m199_199 {N : Nat} {σ : St} {a : Int32} : fC_isWithin N σ a (-199 : Int32) (199 : Int32) = some (σ, if bt a (-199) 199 then 1 else 0) := q_w32 rfl rfl
theorem i_0_200 {N : Nat} {σ : St} {a : Int32} : fM_in N σ a.toInt64 (0 : Int64) (200 : Int64) = some (σ, if bt a (0) 200 then 1 else 0) := q_in32 rfl rfl
theorem w_0_200 {N : Nat} {σ : St} {a : Int32} : fC_isWithin N σ a (0 : Int32) (200 : Int32) = some (σ, if bt a (0) 200 then 1 else 0) := q_w32 rfl rfl
theorem i_0_999 {N : Nat} {σ : St} {a : Int32} : fM_in N σ a.toInt64 (0 : Int64) (999 : Int64) = some (σ, if bt a (0) 999 then 1 else 0) := q_in32 rfl rfl
theorem w_0_999 {N : Nat} {σ : St} {a : Int32} : fC_isWithin N σ a (0 : Int32) (999 : Int32) = some (σ, if bt a (0) 999 then 1 else 0) := q_w32 rfl rfl
theorem i_0_1 {N : Nat} {σ : St} {a : Int32} : fM_in N σ a.toInt64 (0 : Int64) (1 : Int64) = some (σ, if bt a (0) 1 then 1 else 0) := q_in32 rfl rfl
theorem w_0_1 {N : Nat} {σ : St} {a : Int32} : fC_isWithin N σ a (0 : Int32) (1 : Int32) = some (σ, if bt a (0) 1 then 1 else 0) := q_w32 rfl rfl
theorem i_0_2 {N : Nat} {σ : St} {a : Int32} : fM_in N σ a.toInt64 (0 : Int64) (2 : Int64) = some (σ, if bt a (0) 2 then 1 else 0) := q_in32 rfl rfl
theorem w_0_2 {N : Nat} {σ : St} {a : Int32} : fC_isWithin N σ a (0 : Int32) (2 : Int32) = some (σ, if bt a (0) 2 then 1 else 0) := q_w32 rfl rfl
theorem i_1_20 {N : Nat} {σ : St} {a : Int32} : fM_in N σ a.toInt64 (1 : Int64) (20 : Int64) = some (σ, if bt a (1) 20 then 1 else 0) := q_in32 rfl rfl
theorem w_1_20 {N : Nat} {σ : St} {a : Int32} : fC_isWithin N σ a (1 : Int32) (20 : Int32) = some (σ, if bt a (1) 20 then 1 else 0) := q_w32 rfl rfl
theorem i_0_19 {N : Nat} {σ : St} {a : Int32} : fM_in N σ a.toInt64 (0 : Int64) (19 : Int64) = some (σ, if bt a (0) 19 then 1 else 0) := q_in32 rfl rfl
theorem w_0_19 {N : Nat} {σ : St} {a : Int32} : fC_isWithin N σ a (0 : Int32) (19 : Int32) = some (σ, if bt a (0) 19 then 1 else 0) := q_w32 rfl rfl
theorem i_m9_9 {N : Nat} {σ : St} {a : Int32} : fM_in N σ a.toInt64 (-9 : Int64) (9 : Int64) = some (σ, if bt a (-9) 9 then 1 else 0) := q_in32 rfl rfl
theorem w_m9_9 {N : Nat} {σ : St} {a : Int32} : fC_isWithin N σ a (-9 : Int32) (9 : Int32) = some (σ, if bt a (-9) 9 then 1 else 0) := q_w32 rfl rfl
theorem i_m99999_99999 {N : Nat} {σ : St} {a : Int32} : fM_in N σ a.toInt64 (-99999 : Int64) (99999 : Int64) = some (σ, if bt a (-99999) 99999 then 1 else 0) := q_in32 rfl rfl
theorem w_m99999_99999 {N : Nat} {σ : St} {a : Int32} : fC_isWithin N σ a (-99999 : Int32) (99999 : Int32) = some (σ, if bt a (-99999) 99999 then 1 else 0) := q_w32 rfl rfl
theorem i_m20_20 {N : Nat} {σ : St} {a : Int32} : fM_in N σ a.toInt64 (-20 : Int64) (20 : Int64) = some (σ, if bt a (-20) 20 then 1 else 0) := q_in32 rfl rfl
theorem w_m20_20 {N : Nat} {σ : St} {a : Int32} : fC_isWithin N σ a (-20 : Int32) (20 : Int32) = some (σ, if bt a (-20) 20 then 1 else 0) := q_w32 rfl rfl
theorem i_0_9 {N : Nat} {σ : St} {a : Int32} : fM_in N σ a.toInt64 (0 : Int64) (9 : Int64) = some (σ, if bt a (0) 9 then 1 else 0) := q_in32 rfl rfl
theorem w_0_9 {N : Nat} {σ : St} {a : Int32} : fC_isWithin N σ a (0 : Int32) (9 : Int32) = some (σ, if bt a (0) 9 then 1 else 0) := q_w32 rfl rfl
theorem i_1_8 {N : Nat} {σ : St} {a : Int32} : fM_in N σ a.toInt64 (1 : Int64) (8 : Int64) = some (σ, if bt a (1) 8 then 1 else 0) := q_in32 rfl rfl
theorem w_1_8 {N : Nat} {σ : St} {a : Int32} : fC_isWithin N σ a (1 : Int32) (8 : Int32) = some (σ, if bt a (1) 8 then 1 else 0) := q_w32 rfl rfl
theorem i_0_5 {N : Nat} {σ : St} {a : Int32} : fM_in N σ a.toInt64 (0 : Int64) (5 : Int64) = some (σ, if bt a (0) 5 then 1 else 0) := q_in32 rfl rfl
theorem w_0_5 {N : Nat} {σ : St} {a : Int32} : fC_isWithin N σ a (0 : Int32) (5 : Int32) = some (σ, if bt a (0) 5 then 1 else 0) := q_w32 rfl rfl
theorem i_0_63 {N : Nat} {σ : St} {a : Int32} : fM_in N σ a.toInt64 (0 : Int64) (63 : Int64) = some (σ, if bt a (0) 63 then 1 else 0) := q_in32 rfl rfl
theorem w_0_63 {N : Nat} {σ : St} {a : Int32} : fC_isWithin N σ a (0 : Int32) (63 : Int32) = some (σ, if bt a (0) 63 then 1 else 0) := q_w32 rfl rfl
theorem i_0_10 {N : Nat} {σ : St} {a : Int32} : fM_in N σ a.toInt64 (0 : Int64) (10 : Int64) = some (σ, if bt a (0) 10 then 1 else 0) := q_in32 rfl rfl
theorem w_0_10 {N : Nat} {σ : St} {a : Int32} : fC_isWithin N σ a (0 : Int32) (10 : Int32) = some (σ, if bt a (0) 10 then 1 else 0) := q_w32 rfl rfl
theorem i_m1_2 {N : Nat} {σ : St} {a : Int32} : fM_in N σ a.toInt64 (-1 : Int64) (2 : Int64) = some (σ, if bt a (-1) 2 then 1 else 0) := q_in32 rfl rfl
theorem w_m1_2 {N : Nat} {σ : St} {a : Int32} : fC_isWithin N σ a (-1 : Int32) (2 : Int32) = some (σ, if bt a (-1) 2 then 1 else 0) := q_w32 rfl rfl
theorem i_0_99 {N : Nat} {σ : St} {a : Int32} : fM_in N σ a.toInt64 (0 : Int64) (99 : Int64) = some (σ, if bt a (0) 99 then 1 else 0) := q_in32 rfl rfl
theorem w_0_99 {N : Nat} {σ : St} {a : Int32} : fC_isWithin N σ a (0 : Int32) (99 : Int32) = some (σ, if bt a (0) 99 then 1 else 0) := q_w32 rfl rfl
theorem i_97_122 {N : Nat} {σ : St} {a : Int32} : fM_in N σ a.toInt64 (97 : Int64) (122 : Int64) = some (σ, if bt a (97) 122 then 1 else 0) := q_in32 rfl rfl
theorem w_97_122 {N : Nat} {σ : St} {a : Int32} : fC_isWithin N σ a (97 : Int32) (122 : Int32) = some (σ, if bt a (97) 122 then 1 else 0) := q_w32 rfl rfl
theorem i_48_57 {N : Nat} {σ : St} {a : Int32} : fM_in N σ a.toInt64 (48 : Int64) (57 : Int64) = some (σ, if bt a (48) 57 then 1 else 0) := q_in32 rfl rfl
theorem w_48_57 {N : Nat} {σ : St} {a : Int32} : fC_isWithin N σ a (48 : Int32) (57 : Int32) = some (σ, if bt a (48) 57 then 1 else 0) := q_w32 rfl rfl
theorem ret2 {β : Type} {a b : St} {x y : β} (h : some (a, x) = some (b, y)) : a = b ∧ x = y := by
  cases h; exact ⟨rfl, rfl⟩
