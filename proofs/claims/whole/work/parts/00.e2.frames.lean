/-! what a run keeps: all ints but those of f, all arrays but those of g -/
def KP (f g : List Nat) (σ σ' : St) : Prop := (∀ k, k ∉ f → σ'.1 k = σ.1 k) ∧ (∀ k, k ∉ g → σ'.2.1 k = σ.2.1 k)
theorem KP.rf {f g : List Nat} {σ : St} : KP f g σ σ := ⟨fun _ _ => rfl, fun _ _ => rfl⟩
theorem KP.tr {f g : List Nat} {a b c : St} (h : KP f g a b) (h' : KP f g b c) : KP f g a c := ⟨fun k hk => (h'.1 k hk).trans (h.1 k hk), fun k hk => (h'.2 k hk).trans (h.2 k hk)⟩
theorem KP.wk {f g f' g' : List Nat} {a b : St} (h : KP f g a b) (hf : ∀ x ∈ f, x ∈ f') (hg : ∀ x ∈ g, x ∈ g') : KP f' g' a b := ⟨fun k hk => h.1 k (fun z => hk (hf k z)), fun k hk => h.2 k (fun z => hk (hg k z))⟩
theorem KP.i {f g : List Nat} {σ : St} {k : Nat} {v : Int32} (h : k ∈ f) : KP f g σ (sI σ k v) := ⟨fun j hj => by rw [sI_i, if_neg (fun (z : j = k) => hj (z ▸ h))], fun _ _ => rfl⟩
theorem KP.a {f g : List Nat} {σ : St} {k : Nat} {i v : Int32} (h : k ∈ g) : KP f g σ (sA σ k i v) := ⟨fun _ _ => rfl, fun j hj => by rw [sA_a, if_neg (fun (z : j = k) => hj (z ▸ h))]⟩
theorem KP.l {f g : List Nat} {σ : St} {k : Nat} {v : Int64} : KP f g σ (sL σ k v) := ⟨fun _ _ => rfl, fun _ _ => rfl⟩
theorem R1_f {n : Nat} {f g f' g' : List Nat} {σ τ σ' τ' : St} (h : R1 n σ τ) (hC : KP f g σ σ') (hM : KP f' g' τ τ') (hd : 14 ∉ f ∧ 32 ∉ g ∧ 33 ∉ g ∧ 34 ∉ g ∧ 35 ∉ g ∧ 4 ∉ f' ∧ 4 ∉ g' ∧ 5 ∉ g' ∧ 6 ∉ g' ∧ 7 ∉ g') : R1 n σ' τ' := by
  obtain ⟨d0, d1, d2, d3, d4, d5, d6, d7, d8, d9⟩ := hd
  simp only [R1, hC.1 14 d0, hC.2 32 d1, hC.2 33 d2, hC.2 34 d3, hC.2 35 d4, hM.1 4 d5, hM.2 4 d6, hM.2 5 d7, hM.2 6 d8, hM.2 7 d9] at h ⊢
  exact h
theorem R2_f {f g f' g' : List Nat} {σ τ σ' τ' : St} (h : R2 σ τ) (hC : KP f g σ σ') (hM : KP f' g' τ τ') (hd : 3 ∉ f ∧ 5 ∉ f' ∧ 19 ∉ f') : R2 σ' τ' := by
  obtain ⟨d0, d1, d2⟩ := hd
  simp only [R2, hC.1 3 d0, hM.1 5 d1, hM.1 19 d2] at h ⊢
  exact h
theorem R3_f {k : Nat} {f g f' g' : List Nat} {σ τ σ' τ' : St} (h : R3 k σ τ) (hC : KP f g σ σ') (hM : KP f' g' τ τ') (hd : 15 ∉ f ∧ 36 ∉ g ∧ 37 ∉ g ∧ 38 ∉ g ∧ 21 ∉ f' ∧ 8 ∉ g' ∧ 9 ∉ g' ∧ 10 ∉ g') : R3 k σ' τ' := by
  obtain ⟨d0, d1, d2, d3, d4, d5, d6, d7⟩ := hd
  simp only [R3, hC.1 15 d0, hC.2 36 d1, hC.2 37 d2, hC.2 38 d3, hM.1 21 d4, hM.2 8 d5, hM.2 9 d6, hM.2 10 d7] at h ⊢
  exact h
theorem R4_f {k : Nat} {f g f' g' : List Nat} {σ τ σ' τ' : St} (h : R4 k σ τ) (hC : KP f g σ σ') (hM : KP f' g' τ τ') (hd : 16 ∉ f ∧ 39 ∉ g ∧ 40 ∉ g ∧ 22 ∉ f' ∧ 11 ∉ g' ∧ 12 ∉ g') : R4 k σ' τ' := by
  obtain ⟨d0, d1, d2, d3, d4, d5⟩ := hd
  simp only [R4, hC.1 16 d0, hC.2 39 d1, hC.2 40 d2, hM.1 22 d3, hM.2 11 d4, hM.2 12 d5] at h ⊢
  exact h
theorem R5_f {n1 n3 n4 k : Nat} {f g f' g' : List Nat} {σ τ σ' τ' : St} (h : R5 n1 n3 n4 k σ τ) (hC : KP f g σ σ') (hM : KP f' g' τ τ') (hd : 19 ∉ f ∧ 46 ∉ g ∧ 47 ∉ g ∧ 48 ∉ g ∧ 49 ∉ g ∧ 50 ∉ g ∧ 51 ∉ g ∧ 52 ∉ g ∧ 23 ∉ f' ∧ 4 ∉ g' ∧ 13 ∉ g' ∧ 14 ∉ g' ∧ 15 ∉ g' ∧ 16 ∉ g' ∧ 17 ∉ g' ∧ 18 ∉ g') : R5 n1 n3 n4 k σ' τ' := by
  obtain ⟨d0, d1, d2, d3, d4, d5, d6, d7, d8, d9, d10, d11, d12, d13, d14, d15⟩ := hd
  simp only [R5, hC.1 19 d0, hC.2 46 d1, hC.2 47 d2, hC.2 48 d3, hC.2 49 d4, hC.2 50 d5, hC.2 51 d6, hC.2 52 d7, hM.1 23 d8, hM.2 4 d9, hM.2 13 d10, hM.2 14 d11, hM.2 15 d12, hM.2 16 d13, hM.2 17 d14, hM.2 18 d15] at h ⊢
  exact h
theorem R6_f {k : Nat} {f g f' g' : List Nat} {σ τ σ' τ' : St} (h : R6 k σ τ) (hC : KP f g σ σ') (hM : KP f' g' τ τ') (hd : 11 ∉ f ∧ 15 ∉ g ∧ 16 ∉ g ∧ 17 ∉ g ∧ 18 ∉ g ∧ 24 ∉ f' ∧ 19 ∉ g' ∧ 20 ∉ g' ∧ 21 ∉ g' ∧ 22 ∉ g' ∧ 23 ∉ g') : R6 k σ' τ' := by
  obtain ⟨d0, d1, d2, d3, d4, d5, d6, d7, d8, d9, d10⟩ := hd
  simp only [R6, hC.1 11 d0, hC.2 15 d1, hC.2 16 d2, hC.2 17 d3, hC.2 18 d4, hM.1 24 d5, hM.2 19 d6, hM.2 20 d7, hM.2 21 d8, hM.2 22 d9, hM.2 23 d10] at h ⊢
  exact h
theorem R7_f {k : Nat} {f g f' g' : List Nat} {σ τ σ' τ' : St} (h : R7 k σ τ) (hC : KP f g σ σ') (hM : KP f' g' τ τ') (hd : 12 ∉ f ∧ 22 ∉ g ∧ 23 ∉ g ∧ 25 ∉ f' ∧ 27 ∉ g' ∧ 28 ∉ g') : R7 k σ' τ' := by
  obtain ⟨d0, d1, d2, d3, d4, d5⟩ := hd
  simp only [R7, hC.1 12 d0, hC.2 22 d1, hC.2 23 d2, hM.1 25 d3, hM.2 27 d4, hM.2 28 d5] at h ⊢
  exact h
theorem R8_f {n : Nat} {f g f' g' : List Nat} {σ τ σ' τ' : St} (h : R8 n σ τ) (hC : KP f g σ σ') (hM : KP f' g' τ τ') (hd : 17 ∉ f ∧ 18 ∉ f ∧ 20 ∉ f ∧ 41 ∉ g ∧ 42 ∉ g ∧ 43 ∉ g ∧ 53 ∉ g ∧ 1 ∉ f' ∧ 2 ∉ f' ∧ 3 ∉ f' ∧ 1 ∉ g' ∧ 2 ∉ g' ∧ 3 ∉ g') : R8 n σ' τ' := by
  obtain ⟨d0, d1, d2, d3, d4, d5, d6, d7, d8, d9, d10, d11, d12⟩ := hd
  simp only [R8, TX, hC.1 17 d0, hC.1 18 d1, hC.1 20 d2, hC.2 41 d3, hC.2 42 d4, hC.2 43 d5, hC.2 53 d6, hM.1 1 d7, hM.1 2 d8, hM.1 3 d9, hM.2 1 d10, hM.2 2 d11, hM.2 3 d12] at h ⊢
  exact h
theorem R9_f {n1 n8 : Nat} {f g f' g' : List Nat} {σ τ σ' τ' : St} (h : R9 n1 n8 σ τ) (hC : KP f g σ σ') (hM : KP f' g' τ τ') (hd : 0 ∉ f ∧ 1 ∉ f ∧ 2 ∉ f ∧ 13 ∉ f ∧ 29 ∉ g ∧ 30 ∉ g ∧ 31 ∉ g ∧ 26 ∉ f' ∧ 27 ∉ f' ∧ 28 ∉ f' ∧ 29 ∉ f' ∧ 29 ∉ g') : R9 n1 n8 σ' τ' := by
  obtain ⟨d0, d1, d2, d3, d4, d5, d6, d7, d8, d9, d10, d11⟩ := hd
  simp only [R9, hC.1 0 d0, hC.1 1 d1, hC.1 2 d2, hC.1 13 d3, hC.2 29 d4, hC.2 30 d5, hC.2 31 d6, hM.1 26 d7, hM.1 27 d8, hM.1 28 d9, hM.1 29 d10, hM.2 29 d11] at h ⊢
  exact h
theorem R10_f {f g f' g' : List Nat} {σ τ σ' τ' : St} (h : R10 σ τ) (hC : KP f g σ σ') (hM : KP f' g' τ τ') (hd : 25 ∉ g ∧ 26 ∉ g ∧ 27 ∉ g ∧ 30 ∉ g' ∧ 31 ∉ g' ∧ 32 ∉ g' ∧ 33 ∉ g') : R10 σ' τ' := by
  obtain ⟨d0, d1, d2, d3, d4, d5, d6⟩ := hd
  simp only [R10, hC.2 25 d0, hC.2 26 d1, hC.2 27 d2, hM.2 30 d3, hM.2 31 d4, hM.2 32 d5, hM.2 33 d6] at h ⊢
  exact h
abbrev fC0 : List Nat := [4, 5, 6, 7, 8, 9, 10, 21]
abbrev gC0 : List Nat := [13, 14, 19, 20, 21, 24, 28, 44, 45, 54, 55, 56]
abbrev fM0 : List Nat := [0, 6, 7, 8, 9, 11, 12, 13, 14, 15, 16, 17, 18, 20]
abbrev gM0 : List Nat := [24, 25, 26]
theorem Rel_f {σ τ σ' τ' : St} (h : Rel σ τ) (hC : KP fC0 gC0 σ σ') (hM : KP fM0 gM0 τ τ') : Rel σ' τ' := by
  obtain ⟨n1, n3, n4, n5, n6, n7, n8, h1, h2, h3, h4, h5, h6, h7, h8, h9, h10⟩ := h
  exact ⟨n1, n3, n4, n5, n6, n7, n8, R1_f h1 hC hM (by decide), R2_f h2 hC hM (by decide), R3_f h3 hC hM (by decide), R4_f h4 hC hM (by decide), R5_f h5 hC hM (by decide), R6_f h6 hC hM (by decide), R7_f h7 hC hM (by decide), R8_f h8 hC hM (by decide), R9_f h9 hC hM (by decide), R10_f h10 hC hM (by decide)⟩
