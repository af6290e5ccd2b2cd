set_option maxHeartbeats 4000000 in
set_option maxRecDepth 100000 in
theorem cM_not {l : Launch} {D : va_G} {cA cB : ClassId} {q : Nat → Nat} {A : Nat → Prop} {E : State → Prop} {N : Nat} {kA kB kC : St → Option (St × Int32)} {k : Nat} {σ σ' : St} {r : Int32} (hF : Fr (wM q cA cB) A E) (hRa : ∀ (σ : St) (σ' : St) (r : Int32), kA σ = some (σ', r) → MI l yX12_either cX12_either 3 .int (k + 6) D (tyM cA cB) (wM q cA cB) A E [.ref (q 0)] σ σ' r) (hRb : ∀ (σ : St) (σ' : St) (r : Int32), kB σ = some (σ', r) → MI l yX12_one cX12_one 2 .int (k + 1) D (tyM cA cB) (wM q cA cB) A E [.ref (q 0)] σ σ' r) (hRc : ∀ (σ : St) (σ' : St) (r : Int32), kC σ = some (σ', r) → MI l yX12_not cX12_not 4 .int (k + 4) D (tyM cA cB) (wM q cA cB) A E [.ref (q 0)] σ σ' r) (hf : fM_not N kA kB kC σ  = some (σ', r)) : MI l yX12_not cX12_not 4 .int (k + 10) D (tyM cA cB) (wM q cA cB) A E [.ref (q 0)] σ σ' r := by
  refine MI_of (by decide) hF (Nat.le_of_ble_eq_true rfl) ?_
  intro p e s m args below meth c Q C hret hJ ls hl
  obtain ⟨hx, hb, hml, hown, hts, hK, hE, -⟩ := id C
  have hsb : ∀ z, A z → A z := fun _ h => h
  have j85 : ∀ (σ : St) (a1 : Int32) (t0 : Int32) (H : Heap) (locs : List Loc) (ls : Array Slot), fM_not_j85 N kA kB kC  σ a1 t0 = some (σ', r) → J D (wM q cA cB) A s σ H locs → lv_has ls 4 [(0, .ref (q 0)), (1, .int a1)] → W p l e (rmH (k + 10)) s m args below meth c H locs 0 0 Q (F0 m 85 ls [.int t0]) := by
    intro σ a1 t0 H locs ls hf hJ hl
    unfold fM_not_j85 at hf
    refine lv_istore_n (lv' := [(2, .int t0), (0, .ref (q 0)), (1, .int a1)]) hx hb dX12_not_85 rfl hl (by decide) rfl (fun ls hl => ?_)
    refine lv_aload_n hx hb dX12_not_86 rfl (lv_at hl 1 rfl) ?_
    obtain ⟨σ1, r2, hg3, hf⟩ := cal_some hf
    refine backV hsb hJ (runV (As := []) (rest := []) C hJ lk_RX12_219 (cM_next hF hg3) recM_0 rfl rfl (Nat.le_of_ble_eq_true rfl) hl.1 (hR_of (by omega) (by decide)) ⟨Nat.le_refl _, Nat.le_refl _⟩ dX12_not_87) (fun H locs hJ => ?_)
    refine lv_aload_n hx hb dX12_not_90 rfl (lv_at hl 1 rfl) ?_
    obtain ⟨σ4, r5, hg6, hf⟩ := cal_some hf
    refine backI hsb hJ (runV (As := []) (rest := []) C hJ lk_RX12_277 (cM_added hF hRa hRb hRc hg6) recM_0 rfl rfl (Nat.le_of_ble_eq_true rfl) hl.1 (hR_of (by omega) (by decide)) ⟨Nat.le_refl _, Nat.le_refl _⟩ dX12_not_91) (fun H locs hJ => ?_)
    refine lv_istore_n (lv' := [(3, .int r5), (2, .int t0), (0, .ref (q 0)), (1, .int a1)]) hx hb dX12_not_94 rfl hl (by decide) rfl (fun ls hl => ?_)
    refine lv_iload_n hx hb dX12_not_95 rfl (lv_at hl 1 rfl) ?_
    refine lv_if_eq (tgt := 107) hx hb dX12_not_96 (by decide) (fun c7 => ?_) (fun c7 => ?_)
    · have hf := ite_t hf c7
      refine lv_iload_n hx hb dX12_not_107 rfl (lv_at hl 3 rfl) ?_
      refine lv_iload_n hx hb dX12_not_108 rfl (lv_at hl 0 rfl) ?_
      refine lv_icmp_ne (tgt := 116) hx hb dX12_not_109 (by decide) (fun c8 => ?_) (fun c8 => ?_)
      · have hf := ite_f hf c8
        refine lv_iconst (v := 0) hx hb dX12_not_116 (by decide) ?_
        exact ret_I hret hJ hf rfl dX12_not_117
      · have hf := ite_t hf c8
        refine lv_iconst (v := 1) hx hb dX12_not_112 (by decide) ?_
        refine lv_goto (tgt := 117) hx hb dX12_not_113 (by decide) ?_
        exact ret_I hret hJ hf rfl dX12_not_117
    · have hf := ite_f hf c7
      refine lv_iload_n hx hb dX12_not_99 rfl (lv_at hl 3 rfl) ?_
      refine lv_iload_n hx hb dX12_not_100 rfl (lv_at hl 0 rfl) ?_
      refine lv_icmp_ge (tgt := 116) hx hb dX12_not_101 (by decide) (fun c9 => ?_) (fun c9 => ?_)
      · have hf := ite_t hf c9
        refine lv_iconst (v := 0) hx hb dX12_not_116 (by decide) ?_
        exact ret_I hret hJ hf rfl dX12_not_117
      · have hf := ite_f hf c9
        refine lv_goto (tgt := 112) hx hb dX12_not_104 (by decide) ?_
        refine lv_iconst (v := 1) hx hb dX12_not_112 (by decide) ?_
        refine lv_goto (tgt := 117) hx hb dX12_not_113 (by decide) ?_
        exact ret_I hret hJ hf rfl dX12_not_117
  have j69 : ∀ (σ : St) (a1 : Int32) (H : Heap) (locs : List Loc) (ls : Array Slot), fM_not_j69 N kA kB kC  σ a1 = some (σ', r) → J D (wM q cA cB) A s σ H locs → lv_has ls 4 [(0, .ref (q 0)), (1, .int a1)] → W p l e (rmH (k + 10)) s m args below meth c H locs 0 0 Q (F0 m 69 ls []) := by
    intro σ a1 H locs ls hf hJ hl
    unfold fM_not_j69 at hf
    refine lv_aload_n hx hb dX12_not_69 rfl (lv_at hl 0 rfl) ?_
    refine gM_0_17 C hJ fl_RX12_190 dX12_not_70 ?_
    refine lv_ldc2 (v := 60) hx hb hown (hts _ kl_RX12_280) dX12_not_73 ?_
    refine W.lcmp hx hb dX12_not_76 ?_
    refine lv_if_ne (tgt := 84) hx hb dX12_not_77 (by decide) (fun c10 => ?_) (fun c10 => ?_)
    · have hf := ite_f hf c10
      refine lv_iconst (v := 0) hx hb dX12_not_84 (by decide) ?_
      exact j85 σ a1 (0 : Int32) _ _ _ hf hJ (lv_sub hl [0, 1] rfl)
    · have hf := ite_t hf c10
      refine lv_iconst (v := 1) hx hb dX12_not_80 (by decide) ?_
      refine lv_goto (tgt := 85) hx hb dX12_not_81 (by decide) ?_
      exact j85 σ a1 (1 : Int32) _ _ _ hf hJ (lv_sub hl [0, 1] rfl)
  have hl : lv_has ls 4 [(0, .ref (q 0))] := hl
  unfold fM_not at hf
  refine lv_aload_n hx hb dX12_not_0 rfl (lv_at hl 0 rfl) ?_
  refine lv_ldc2 (v := 10631) hx hb hown (hts _ kl_RX12_272) dX12_not_1 ?_
  obtain ⟨σ11, r12, hg13, hf⟩ := cal_some hf
  refine backI hsb hJ (runV (As := [.long (10631 : Int64)]) (rest := []) C hJ lk_RX12_224 (cM_isWord hF hg13) recM_0 rfl rfl (Nat.le_of_ble_eq_true rfl) hl.1 (hR_of (by omega) (by decide)) ⟨Nat.le_refl _, Nat.le_refl _⟩ dX12_not_4) (fun H locs hJ => ?_)
  refine lv_if_eq (tgt := 44) hx hb dX12_not_7 (by decide) (fun c14 => ?_) (fun c14 => ?_)
  · have hf := ite_t hf c14
    refine lv_aload_n hx hb dX12_not_44 rfl (lv_at hl 0 rfl) ?_
    obtain ⟨σ15, r16, hg17, hf⟩ := cal_some hf
    refine backI hsb hJ (runV (As := []) (rest := []) C hJ lk_RX12_277 (cM_added hF hRa hRb hRc hg17) recM_0 rfl rfl (Nat.le_of_ble_eq_true rfl) hl.1 (hR_of (by omega) (by decide)) ⟨Nat.le_refl _, Nat.le_refl _⟩ dX12_not_45) (fun H locs hJ => ?_)
    refine lv_istore_n (lv' := [(1, .int r16), (0, .ref (q 0))]) hx hb dX12_not_48 rfl hl (by decide) rfl (fun ls hl => ?_)
    refine lv_aload_n hx hb dX12_not_49 rfl (lv_at hl 1 rfl) ?_
    refine lv_bipush (v := 60) hx hb dX12_not_50 (by decide) ?_
    obtain ⟨σ18, r19, hg20, hf⟩ := cal_some hf
    refine backI hsb hJ (runV (As := [.int (60 : Int32)]) (rest := []) C hJ lk_RX12_250 (cM_isSign hF hg20) recM_0 rfl rfl (Nat.le_of_ble_eq_true rfl) hl.1 (hR_of (by omega) (by decide)) ⟨Nat.le_refl _, Nat.le_refl _⟩ dX12_not_52) (fun H locs hJ => ?_)
    refine lv_if_ne (tgt := 69) hx hb dX12_not_55 (by decide) (fun c21 => ?_) (fun c21 => ?_)
    · have hf := ite_f hf c21
      exact j69 σ18 r16 _ _ _ hf hJ (lv_sub hl [1, 0] rfl)
    · have hf := ite_t hf c21
      refine lv_aload_n hx hb dX12_not_58 rfl (lv_at hl 1 rfl) ?_
      refine lv_bipush (v := 61) hx hb dX12_not_59 (by decide) ?_
      obtain ⟨σ22, r23, hg24, hf⟩ := cal_some hf
      refine backI hsb hJ (runV (As := [.int (61 : Int32)]) (rest := []) C hJ lk_RX12_250 (cM_isSign hF hg24) recM_0 rfl rfl (Nat.le_of_ble_eq_true rfl) hl.1 (hR_of (by omega) (by decide)) ⟨Nat.le_refl _, Nat.le_refl _⟩ dX12_not_61) (fun H locs hJ => ?_)
      refine lv_if_ne (tgt := 69) hx hb dX12_not_64 (by decide) (fun c25 => ?_) (fun c25 => ?_)
      · have hf := ite_f hf c25
        exact j69 σ22 r16 _ _ _ hf hJ (lv_sub hl [1, 0] rfl)
      · have hf := ite_t hf c25
        refine lv_iload_n hx hb dX12_not_67 rfl (lv_at hl 0 rfl) ?_
        exact ret_I hret hJ hf rfl dX12_not_68
  · have hf := ite_f hf c14
    refine lv_aload_n hx hb dX12_not_10 rfl (lv_at hl 0 rfl) ?_
    obtain ⟨σ26, r27, hg28, hf⟩ := cal_some hf
    refine backI hsb hJ (runV (As := []) (rest := []) C hJ lk_RX12_253 (cM_opens hF hg28) recM_0 rfl rfl (Nat.le_of_ble_eq_true rfl) hl.1 (hR_of (by omega) (by decide)) ⟨Nat.le_refl _, Nat.le_refl _⟩ dX12_not_11) (fun H locs hJ => ?_)
    refine lv_if_ne (tgt := 19) hx hb dX12_not_14 (by decide) (fun c29 => ?_) (fun c29 => ?_)
    · have hf := ite_f hf c29
      refine lv_aload_n hx hb dX12_not_19 rfl (lv_at hl 0 rfl) ?_
      obtain ⟨σ30, r31, hg32, hf⟩ := cal_some hf
      refine backI hsb hJ (runV (As := []) (rest := []) C hJ lk_RX12_274 (hRc _ _ _ hg32) recM_0 rfl rfl (Nat.le_of_ble_eq_true rfl) hl.1 (hR_of (by omega) (by decide)) ⟨Nat.le_refl _, Nat.le_refl _⟩ dX12_not_20) (fun H locs hJ => ?_)
      refine lv_istore_n (lv' := [(1, .int r31), (0, .ref (q 0))]) hx hb dX12_not_23 rfl hl (by decide) rfl (fun ls hl => ?_)
      refine lv_aload_n hx hb dX12_not_24 rfl (lv_at hl 1 rfl) ?_
      refine lv_dup hx hb dX12_not_25 rfl ?_
      refine gM_0_19 C hJ fl_RX12_213 dX12_not_26 ?_
      refine lv_iconst (v := 1) hx hb dX12_not_29 (by decide) ?_
      refine lv_isub hx hb dX12_not_30 ?_
      refine pM_0_19 C hJ fl_RX12_213 dX12_not_31 (fun σ33 H locs hs hJ => ?_)
      have hf := bnd_at hf hs
      refine lv_iload_n hx hb dX12_not_34 rfl (lv_at hl 0 rfl) ?_
      refine lv_if_ne (tgt := 42) hx hb dX12_not_35 (by decide) (fun c34 => ?_) (fun c34 => ?_)
      · have hf := ite_f hf c34
        refine lv_iconst (v := 0) hx hb dX12_not_42 (by decide) ?_
        exact ret_I hret hJ hf rfl dX12_not_43
      · have hf := ite_t hf c34
        refine lv_iconst (v := 1) hx hb dX12_not_38 (by decide) ?_
        refine lv_goto (tgt := 43) hx hb dX12_not_39 (by decide) ?_
        exact ret_I hret hJ hf rfl dX12_not_43
    · have hf := ite_t hf c29
      refine lv_iconst (v := 0) hx hb dX12_not_17 (by decide) ?_
      exact ret_I hret hJ hf rfl dX12_not_18
set_option maxHeartbeats 4000000 in
set_option maxRecDepth 100000 in
theorem cM_both {l : Launch} {D : va_G} {cA cB : ClassId} {q : Nat → Nat} {A : Nat → Prop} {E : State → Prop} {N : Nat} {kA kB kC : St → Option (St × Int32)} {k : Nat} {σ σ' : St} {r : Int32} (hF : Fr (wM q cA cB) A E) (hRa : ∀ (σ : St) (σ' : St) (r : Int32), kA σ = some (σ', r) → MI l yX12_either cX12_either 3 .int (k + 6) D (tyM cA cB) (wM q cA cB) A E [.ref (q 0)] σ σ' r) (hRb : ∀ (σ : St) (σ' : St) (r : Int32), kB σ = some (σ', r) → MI l yX12_one cX12_one 2 .int (k + 1) D (tyM cA cB) (wM q cA cB) A E [.ref (q 0)] σ σ' r) (hRc : ∀ (σ : St) (σ' : St) (r : Int32), kC σ = some (σ', r) → MI l yX12_not cX12_not 4 .int (k + 4) D (tyM cA cB) (wM q cA cB) A E [.ref (q 0)] σ σ' r) (hf : fM_both N kA kB kC σ  = some (σ', r)) : MI l yX12_both cX12_both 3 .int (k + 11) D (tyM cA cB) (wM q cA cB) A E [.ref (q 0)] σ σ' r := by
  refine MI_of (by decide) hF (Nat.le_of_ble_eq_true rfl) ?_
  intro p e s m args below meth c Q C hret hJ ls hl
  obtain ⟨hx, hb, hml, hown, hts, hK, hE, -⟩ := id C
  have hsb : ∀ z, A z → A z := fun _ h => h
  have l5 : ∀ (n : Nat) (σ : St) (a1 : Int32) (H : Heap) (locs : List Loc) (ls : Array Slot), fM_both_l5 N kA kB kC  n σ a1 = some (σ', r) → J D (wM q cA cB) A s σ H locs → lv_has ls 3 [(0, .ref (q 0)), (1, .int a1)] → W p l e (rmH (k + 11)) s m args below meth c H locs 0 0 Q (F0 m 5 ls []) := by
    intro n5
    induction n5 with
    | zero => intro σ a1 H locs ls hf; rw [fM_both_l5] at hf; cases hf
    | succ n5 ih5 =>
      have j37 : ∀ (σ : St) (t0 : Int32) (H : Heap) (locs : List Loc) (ls : Array Slot), fM_both_j37 N kA kB kC (fM_both_l5 N kA kB kC  n5) σ t0 = some (σ', r) → J D (wM q cA cB) A s σ H locs → lv_has ls 3 [(0, .ref (q 0))] → W p l e (rmH (k + 11)) s m args below meth c H locs 0 0 Q (F0 m 37 ls [.int t0]) := by
        intro σ t0 H locs ls hf hJ hl
        unfold fM_both_j37 at hf
        refine lv_istore_n (lv' := [(1, .int t0), (0, .ref (q 0))]) hx hb dX12_both_37 rfl hl (by decide) rfl (fun ls hl => ?_)
        refine lv_goto (tgt := 5) hx hb dX12_both_38 (by decide) ?_
        exact ih5 σ t0 _ _ _ hf hJ (lv_sub hl [1, 0] rfl)
      have j36 : ∀ (σ : St) (H : Heap) (locs : List Loc) (ls : Array Slot), fM_both_j36 N kA kB kC (fM_both_l5 N kA kB kC  n5) σ = some (σ', r) → J D (wM q cA cB) A s σ H locs → lv_has ls 3 [(0, .ref (q 0))] → W p l e (rmH (k + 11)) s m args below meth c H locs 0 0 Q (F0 m 36 ls []) := by
        intro σ H locs ls hf hJ hl
        unfold fM_both_j36 at hf
        refine lv_iconst (v := 0) hx hb dX12_both_36 (by decide) ?_
        exact j37 σ (0 : Int32) _ _ _ hf hJ (lv_sub hl [0] rfl)
      intro σ a1 H locs ls hf hJ hl
      rw [fM_both_l5] at hf
      refine lv_aload_n hx hb dX12_both_5 rfl (lv_at hl 0 rfl) ?_
      refine lv_ldc2 (v := 1111) hx hb hown (hts _ kl_RX12_282) dX12_both_6 ?_
      obtain ⟨σ1, r2, hg3, hf⟩ := cal_some hf
      refine backI hsb hJ (runV (As := [.long (1111 : Int64)]) (rest := []) C hJ lk_RX12_224 (cM_isWord hF hg3) recM_0 rfl rfl (Nat.le_of_ble_eq_true rfl) hl.1 (hR_of (by omega) (by decide)) ⟨Nat.le_refl _, Nat.le_refl _⟩ dX12_both_9) (fun H locs hJ => ?_)
      refine lv_if_eq (tgt := 41) hx hb dX12_both_12 (by decide) (fun c4 => ?_) (fun c4 => ?_)
      · have hf := ite_t hf c4
        refine lv_iload_n hx hb dX12_both_41 rfl (lv_at hl 1 rfl) ?_
        exact ret_I hret hJ hf rfl dX12_both_42
      · have hf := ite_f hf c4
        refine lv_aload_n hx hb dX12_both_15 rfl (lv_at hl 0 rfl) ?_
        obtain ⟨σ5, r6, hg7, hf⟩ := cal_some hf
        refine backV hsb hJ (runV (As := []) (rest := []) C hJ lk_RX12_219 (cM_next hF hg7) recM_0 rfl rfl (Nat.le_of_ble_eq_true rfl) hl.1 (hR_of (by omega) (by decide)) ⟨Nat.le_refl _, Nat.le_refl _⟩ dX12_both_16) (fun H locs hJ => ?_)
        refine lv_aload_n hx hb dX12_both_19 rfl (lv_at hl 0 rfl) ?_
        obtain ⟨σ8, r9, hg10, hf⟩ := cal_some hf
        refine backI hsb hJ (runV (As := []) (rest := []) C hJ lk_RX12_274 (cM_not hF hRa hRb hRc hg10) recM_0 rfl rfl (Nat.le_of_ble_eq_true rfl) hl.1 (hR_of (by omega) (by decide)) ⟨Nat.le_refl _, Nat.le_refl _⟩ dX12_both_20) (fun H locs hJ => ?_)
        refine lv_istore_n (lv' := [(2, .int r9), (0, .ref (q 0)), (1, .int a1)]) hx hb dX12_both_23 rfl hl (by decide) rfl (fun ls hl => ?_)
        refine lv_iload_n hx hb dX12_both_24 rfl (lv_at hl 2 rfl) ?_
        refine lv_if_eq (tgt := 36) hx hb dX12_both_25 (by decide) (fun c11 => ?_) (fun c11 => ?_)
        · have hf := ite_t hf c11
          exact j36 σ8  _ _ _ hf hJ (lv_sub hl [1] rfl)
        · have hf := ite_f hf c11
          refine lv_iload_n hx hb dX12_both_28 rfl (lv_at hl 0 rfl) ?_
          refine lv_if_eq (tgt := 36) hx hb dX12_both_29 (by decide) (fun c12 => ?_) (fun c12 => ?_)
          · have hf := ite_t hf c12
            exact j36 σ8  _ _ _ hf hJ (lv_sub hl [1] rfl)
          · have hf := ite_f hf c12
            refine lv_iconst (v := 1) hx hb dX12_both_32 (by decide) ?_
            refine lv_goto (tgt := 37) hx hb dX12_both_33 (by decide) ?_
            exact j37 σ8 (1 : Int32) _ _ _ hf hJ (lv_sub hl [1] rfl)
  have hl : lv_has ls 3 [(0, .ref (q 0))] := hl
  unfold fM_both at hf
  refine lv_aload_n hx hb dX12_both_0 rfl (lv_at hl 0 rfl) ?_
  obtain ⟨σ13, r14, hg15, hf⟩ := cal_some hf
  refine backI hsb hJ (runV (As := []) (rest := []) C hJ lk_RX12_274 (cM_not hF hRa hRb hRc hg15) recM_0 rfl rfl (Nat.le_of_ble_eq_true rfl) hl.1 (hR_of (by omega) (by decide)) ⟨Nat.le_refl _, Nat.le_refl _⟩ dX12_both_1) (fun H locs hJ => ?_)
  refine lv_istore_n (lv' := [(1, .int r14), (0, .ref (q 0))]) hx hb dX12_both_4 rfl hl (by decide) rfl (fun ls hl => ?_)
  exact l5 N σ13 r14 _ _ _ hf hJ (lv_sub hl [1, 0] rfl)
set_option maxHeartbeats 4000000 in
set_option maxRecDepth 100000 in
theorem cM_either {l : Launch} {D : va_G} {cA cB : ClassId} {q : Nat → Nat} {A : Nat → Prop} {E : State → Prop} {N : Nat} {kA kB kC : St → Option (St × Int32)} {k : Nat} {σ σ' : St} {r : Int32} (hF : Fr (wM q cA cB) A E) (hRa : ∀ (σ : St) (σ' : St) (r : Int32), kA σ = some (σ', r) → MI l yX12_either cX12_either 3 .int (k + 6) D (tyM cA cB) (wM q cA cB) A E [.ref (q 0)] σ σ' r) (hRb : ∀ (σ : St) (σ' : St) (r : Int32), kB σ = some (σ', r) → MI l yX12_one cX12_one 2 .int (k + 1) D (tyM cA cB) (wM q cA cB) A E [.ref (q 0)] σ σ' r) (hRc : ∀ (σ : St) (σ' : St) (r : Int32), kC σ = some (σ', r) → MI l yX12_not cX12_not 4 .int (k + 4) D (tyM cA cB) (wM q cA cB) A E [.ref (q 0)] σ σ' r) (hf : fM_either N kA kB kC σ  = some (σ', r)) : MI l yX12_either cX12_either 3 .int (k + 12) D (tyM cA cB) (wM q cA cB) A E [.ref (q 0)] σ σ' r := by
  refine MI_of (by decide) hF (Nat.le_of_ble_eq_true rfl) ?_
  intro p e s m args below meth c Q C hret hJ ls hl
  obtain ⟨hx, hb, hml, hown, hts, hK, hE, -⟩ := id C
  have hsb : ∀ z, A z → A z := fun _ h => h
  have l5 : ∀ (n : Nat) (σ : St) (a1 : Int32) (H : Heap) (locs : List Loc) (ls : Array Slot), fM_either_l5 N kA kB kC  n σ a1 = some (σ', r) → J D (wM q cA cB) A s σ H locs → lv_has ls 3 [(0, .ref (q 0)), (1, .int a1)] → W p l e (rmH (k + 12)) s m args below meth c H locs 0 0 Q (F0 m 5 ls []) := by
    intro n5
    induction n5 with
    | zero => intro σ a1 H locs ls hf; rw [fM_either_l5] at hf; cases hf
    | succ n5 ih5 =>
      have j37 : ∀ (σ : St) (t0 : Int32) (H : Heap) (locs : List Loc) (ls : Array Slot), fM_either_j37 N kA kB kC (fM_either_l5 N kA kB kC  n5) σ t0 = some (σ', r) → J D (wM q cA cB) A s σ H locs → lv_has ls 3 [(0, .ref (q 0))] → W p l e (rmH (k + 12)) s m args below meth c H locs 0 0 Q (F0 m 37 ls [.int t0]) := by
        intro σ t0 H locs ls hf hJ hl
        unfold fM_either_j37 at hf
        refine lv_istore_n (lv' := [(1, .int t0), (0, .ref (q 0))]) hx hb dX12_either_37 rfl hl (by decide) rfl (fun ls hl => ?_)
        refine lv_goto (tgt := 5) hx hb dX12_either_38 (by decide) ?_
        exact ih5 σ t0 _ _ _ hf hJ (lv_sub hl [1, 0] rfl)
      have j32 : ∀ (σ : St) (H : Heap) (locs : List Loc) (ls : Array Slot), fM_either_j32 N kA kB kC (fM_either_l5 N kA kB kC  n5) σ = some (σ', r) → J D (wM q cA cB) A s σ H locs → lv_has ls 3 [(0, .ref (q 0))] → W p l e (rmH (k + 12)) s m args below meth c H locs 0 0 Q (F0 m 32 ls []) := by
        intro σ H locs ls hf hJ hl
        unfold fM_either_j32 at hf
        refine lv_iconst (v := 1) hx hb dX12_either_32 (by decide) ?_
        refine lv_goto (tgt := 37) hx hb dX12_either_33 (by decide) ?_
        exact j37 σ (1 : Int32) _ _ _ hf hJ (lv_sub hl [0] rfl)
      intro σ a1 H locs ls hf hJ hl
      rw [fM_either_l5] at hf
      refine lv_aload_n hx hb dX12_either_5 rfl (lv_at hl 0 rfl) ?_
      refine lv_ldc2 (v := 423) hx hb hown (hts _ kl_RX12_287) dX12_either_6 ?_
      obtain ⟨σ1, r2, hg3, hf⟩ := cal_some hf
      refine backI hsb hJ (runV (As := [.long (423 : Int64)]) (rest := []) C hJ lk_RX12_224 (cM_isWord hF hg3) recM_0 rfl rfl (Nat.le_of_ble_eq_true rfl) hl.1 (hR_of (by omega) (by decide)) ⟨Nat.le_refl _, Nat.le_refl _⟩ dX12_either_9) (fun H locs hJ => ?_)
      refine lv_if_eq (tgt := 41) hx hb dX12_either_12 (by decide) (fun c4 => ?_) (fun c4 => ?_)
      · have hf := ite_t hf c4
        refine lv_iload_n hx hb dX12_either_41 rfl (lv_at hl 1 rfl) ?_
        exact ret_I hret hJ hf rfl dX12_either_42
      · have hf := ite_f hf c4
        refine lv_aload_n hx hb dX12_either_15 rfl (lv_at hl 0 rfl) ?_
        obtain ⟨σ5, r6, hg7, hf⟩ := cal_some hf
        refine backV hsb hJ (runV (As := []) (rest := []) C hJ lk_RX12_219 (cM_next hF hg7) recM_0 rfl rfl (Nat.le_of_ble_eq_true rfl) hl.1 (hR_of (by omega) (by decide)) ⟨Nat.le_refl _, Nat.le_refl _⟩ dX12_either_16) (fun H locs hJ => ?_)
        refine lv_aload_n hx hb dX12_either_19 rfl (lv_at hl 0 rfl) ?_
        obtain ⟨σ8, r9, hg10, hf⟩ := cal_some hf
        refine backI hsb hJ (runV (As := []) (rest := []) C hJ lk_RX12_284 (cM_both hF hRa hRb hRc hg10) recM_0 rfl rfl (Nat.le_of_ble_eq_true rfl) hl.1 (hR_of (by omega) (by decide)) ⟨Nat.le_refl _, Nat.le_refl _⟩ dX12_either_20) (fun H locs hJ => ?_)
        refine lv_istore_n (lv' := [(2, .int r9), (0, .ref (q 0)), (1, .int a1)]) hx hb dX12_either_23 rfl hl (by decide) rfl (fun ls hl => ?_)
        refine lv_iload_n hx hb dX12_either_24 rfl (lv_at hl 2 rfl) ?_
        refine lv_if_ne (tgt := 32) hx hb dX12_either_25 (by decide) (fun c11 => ?_) (fun c11 => ?_)
        · have hf := ite_f hf c11
          exact j32 σ8  _ _ _ hf hJ (lv_sub hl [1] rfl)
        · have hf := ite_t hf c11
          refine lv_iload_n hx hb dX12_either_28 rfl (lv_at hl 0 rfl) ?_
          refine lv_if_eq (tgt := 36) hx hb dX12_either_29 (by decide) (fun c12 => ?_) (fun c12 => ?_)
          · have hf := ite_t hf c12
            refine lv_iconst (v := 0) hx hb dX12_either_36 (by decide) ?_
            exact j37 σ8 (0 : Int32) _ _ _ hf hJ (lv_sub hl [1] rfl)
          · have hf := ite_f hf c12
            exact j32 σ8  _ _ _ hf hJ (lv_sub hl [1] rfl)
  have hl : lv_has ls 3 [(0, .ref (q 0))] := hl
  unfold fM_either at hf
  refine lv_aload_n hx hb dX12_either_0 rfl (lv_at hl 0 rfl) ?_
  obtain ⟨σ13, r14, hg15, hf⟩ := cal_some hf
  refine backI hsb hJ (runV (As := []) (rest := []) C hJ lk_RX12_284 (cM_both hF hRa hRb hRc hg15) recM_0 rfl rfl (Nat.le_of_ble_eq_true rfl) hl.1 (hR_of (by omega) (by decide)) ⟨Nat.le_refl _, Nat.le_refl _⟩ dX12_either_1) (fun H locs hJ => ?_)
  refine lv_istore_n (lv' := [(1, .int r14), (0, .ref (q 0))]) hx hb dX12_either_4 rfl hl (by decide) rfl (fun ls hl => ?_)
  exact l5 N σ13 r14 _ _ _ hf hJ (lv_sub hl [1, 0] rfl)
theorem cM_lv {l : Launch} {D : va_G} {cA cB : ClassId} {q : Nat → Nat} {A : Nat → Prop} {E : State → Prop} {N : Nat} (hF : Fr (wM q cA cB) A E) : ∀ d : Nat, (∀ (σ : St) (σ' : St) (r : Int32), (fM_lv N d).1 σ = some (σ', r) → MI l yX12_either cX12_either 3 .int (6 * d + 6) D (tyM cA cB) (wM q cA cB) A E [.ref (q 0)] σ σ' r) ∧ (∀ (σ : St) (σ' : St) (r : Int32), (fM_lv N d).2.1 σ = some (σ', r) → MI l yX12_one cX12_one 2 .int (6 * d + 1) D (tyM cA cB) (wM q cA cB) A E [.ref (q 0)] σ σ' r) ∧ (∀ (σ : St) (σ' : St) (r : Int32), (fM_lv N d).2.2 σ = some (σ', r) → MI l yX12_not cX12_not 4 .int (6 * d + 4) D (tyM cA cB) (wM q cA cB) A E [.ref (q 0)] σ σ' r) := by
  intro d
  induction d with
  | zero => exact ⟨fun σ σ' r h => (by cases h), fun σ σ' r h => (by cases h), fun σ σ' r h => (by cases h)⟩
  | succ d ih =>
    obtain ⟨h1, h2, h3⟩ := ih
    have e0 : 6 * (d + 1) + 6 = 6 * d + 12 := by omega
    have e1 : 6 * (d + 1) + 1 = 6 * d + 7 := by omega
    have e2 : 6 * (d + 1) + 4 = 6 * d + 10 := by omega
    rw [e0, e1, e2]
    exact ⟨fun σ σ' r h => cM_either hF h1 h2 h3 h, fun σ σ' r h => cM_one hF h1 h2 h3 h, fun σ σ' r h => cM_not hF h1 h2 h3 h⟩
theorem cM_lv_either {l : Launch} {D : va_G} {cA cB : ClassId} {q : Nat → Nat} {A : Nat → Prop} {E : State → Prop} {N : Nat} {σ σ' : St} {r : Int32} (hF : Fr (wM q cA cB) A E) (h : (fM_lv N 7).1 σ = some (σ', r)) : MI l yX12_either cX12_either 3 .int 48 D (tyM cA cB) (wM q cA cB) A E [.ref (q 0)] σ σ' r := (cM_lv hF 7).1 _ _ _ h
theorem cM_lv_one {l : Launch} {D : va_G} {cA cB : ClassId} {q : Nat → Nat} {A : Nat → Prop} {E : State → Prop} {N : Nat} {σ σ' : St} {r : Int32} (hF : Fr (wM q cA cB) A E) (h : (fM_lv N 7).2.1 σ = some (σ', r)) : MI l yX12_one cX12_one 2 .int 43 D (tyM cA cB) (wM q cA cB) A E [.ref (q 0)] σ σ' r := (cM_lv hF 7).2.1 _ _ _ h
theorem cM_lv_not {l : Launch} {D : va_G} {cA cB : ClassId} {q : Nat → Nat} {A : Nat → Prop} {E : State → Prop} {N : Nat} {σ σ' : St} {r : Int32} (hF : Fr (wM q cA cB) A E) (h : (fM_lv N 7).2.2 σ = some (σ', r)) : MI l yX12_not cX12_not 4 .int 46 D (tyM cA cB) (wM q cA cB) A E [.ref (q 0)] σ σ' r := (cM_lv hF 7).2.2 _ _ _ h
set_option maxHeartbeats 4000000 in
set_option maxRecDepth 100000 in
theorem cM_spell {l : Launch} {D : va_G} {cA cB : ClassId} {q : Nat → Nat} {A : Nat → Prop} {E : State → Prop} {N : Nat} {σ σ' : St} {a1 : Int32} {a2 : Int64} (hF : Fr (wM q cA cB) A E) (hf : fM_spell N σ a1 a2 = some (σ', ())) : MV l yX12_spell cX12_spell 5 1 D (tyM cA cB) (wM q cA cB) A E [.ref (q 0), .int a1, .long a2] σ σ' := by
  refine MV_of (by decide) hF (Nat.le_of_ble_eq_true rfl) ?_
  intro p e s m args below meth c Q C hret hJ ls hl
  obtain ⟨hx, hb, hml, hown, hts, hK, hE, -⟩ := id C
  have hsb : ∀ z, A z → A z := fun _ h => h
  have l3 : ∀ (n : Nat) (σ : St) (a1 : Int32) (a2 : Int64) (a4 : Int32) (H : Heap) (locs : List Loc) (ls : Array Slot), fM_spell_l3 N  n σ a1 a2 a4 = some (σ', ()) → J D (wM q cA cB) A s σ H locs → lv_has ls 5 [(0, .ref (q 0)), (1, .int a1), (2, .long a2), (4, .int a4)] → W p l e (rmH 1) s m args below meth c H locs 0 0 Q (F0 m 3 ls []) := by
    intro n3
    induction n3 with
    | zero => intro σ a1 a2 a4 H locs ls hf; rw [fM_spell_l3] at hf; cases hf
    | succ n3 ih3 =>
      intro σ a1 a2 a4 H locs ls hf hJ hl
      rw [fM_spell_l3] at hf
      refine lv_iload hx hb dX12_spell_3 (lv_at hl 3 rfl) ?_
      refine lv_bipush (v := 8) hx hb dX12_spell_5 (by decide) ?_
      refine lv_icmp_ge (tgt := 40) hx hb dX12_spell_7 (by decide) (fun c1 => ?_) (fun c1 => ?_)
      · have hf := ite_t hf c1
        exact ret_V hret hJ hf dX12_spell_40
      · have hf := ite_f hf c1
        refine lv_aload_n hx hb dX12_spell_10 rfl (lv_at hl 0 rfl) ?_
        refine gM_0_1 C hJ fl_RX12_13 dX12_spell_11 ?_
        refine lv_iload_n hx hb dX12_spell_14 rfl (lv_at hl 1 rfl) ?_
        refine lv_iload hx hb dX12_spell_15 (lv_at hl 3 rfl) ?_
        refine lv_iadd hx hb dX12_spell_17 ?_
        refine lv_lload_n hx hb dX12_spell_18 rfl (lv_at hl 2 rfl) ?_
        refine lv_bipush (v := 56) hx hb dX12_spell_19 (by decide) ?_
        refine lv_bipush (v := 8) hx hb dX12_spell_21 (by decide) ?_
        refine lv_iload hx hb dX12_spell_23 (lv_at hl 3 rfl) ?_
        refine lv_imul hx hb dX12_spell_25 ?_
        refine lv_isub hx hb dX12_spell_26 ?_
        refine lv_lshr (v := a2 >>> (((56 : Int32) - ((8 : Int32) * a4)).toInt64 &&& 63)) hx hb dX12_spell_27 rfl ?_
        refine lv_ldc2 (v := 255) hx hb hown (hts _ kl_RX12_133) dX12_spell_28 ?_
        refine lv_land hx hb dX12_spell_31 ?_
        refine lv_l2i (v := ((a2 >>> (((56 : Int32) - ((8 : Int32) * a4)).toInt64 &&& 63)) &&& (255 : Int64)).toInt32) hx hb dX12_spell_32 rfl ?_
        obtain ⟨h2, hf⟩ := gi_some hf
        refine sM_1 C hJ h2 dX12_spell_33 (fun σ3 H locs hs hJ => ?_)
        have hf := bnd_at hf hs
        obtain ⟨x4, hx4⟩ : ∃ z : Int32, z = a4 + (1 : Int32) := ⟨_, rfl⟩
        have hf := bnd_at hf hx4
        refine lv_iinc (v := x4) (lv' := [(4, .int x4), (0, .ref (q 0)), (1, .int a1), (2, .long a2)]) hx hb dX12_spell_34 hl (k := 3) rfl (by rw [hx4]; rfl) (by decide) rfl (fun ls hl => ?_)
        refine lv_goto (tgt := 3) hx hb dX12_spell_37 (by decide) ?_
        exact ih3 σ3 a1 a2 x4 _ _ _ hf hJ (lv_sub hl [1, 2, 3, 0] rfl)
  have hl : lv_has ls 5 [(0, .ref (q 0)), (1, .int a1), (2, .long a2)] := hl
  unfold fM_spell at hf
  refine lv_iconst (v := 0) hx hb dX12_spell_0 (by decide) ?_
  refine lv_istore (lv' := [(4, .int (0 : Int32)), (0, .ref (q 0)), (1, .int a1), (2, .long a2)]) hx hb dX12_spell_1 hl (by decide) rfl (fun ls hl => ?_)
  exact l3 N σ a1 a2 (0 : Int32) _ _ _ hf hJ (lv_sub hl [1, 2, 3, 0] rfl)
set_option maxHeartbeats 4000000 in
set_option maxRecDepth 100000 in
theorem cM_man {l : Launch} {D : va_G} {cA cB : ClassId} {q : Nat → Nat} {A : Nat → Prop} {E : State → Prop} {N : Nat} {σ σ' : St} {r : Int32} {a1 : Int32} {a2 : Int32} {a3 : Int32} (hF : Fr (wM q cA cB) A E) (hf : fM_man N σ a1 a2 a3 = some (σ', r)) : MI l yX12_man cX12_man 5 .int 2 D (tyM cA cB) (wM q cA cB) A E [.ref (q 0), .int a1, .int a2, .int a3] σ σ' r := by
  refine MI_of (by decide) hF (Nat.le_of_ble_eq_true rfl) ?_
  intro p e s m args below meth c Q C hret hJ ls hl
  obtain ⟨hx, hb, hml, hown, hts, hK, hE, -⟩ := id C
  have hsb : ∀ z, A z → A z := fun _ h => h
  have j113 : ∀ (σ : St) (H : Heap) (locs : List Loc) (ls : Array Slot), fM_man_j113 N  σ = some (σ', r) → J D (wM q cA cB) A s σ H locs → lv_has ls 5 [(0, .ref (q 0))] → W p l e (rmH 2) s m args below meth c H locs 0 0 Q (F0 m 113 ls []) := by
    intro σ H locs ls hf hJ hl
    unfold fM_man_j113 at hf
    refine lv_aload_n hx hb dX12_man_113 rfl (lv_at hl 0 rfl) ?_
    refine lv_dup hx hb dX12_man_114 rfl ?_
    refine gM_0_11 C hJ fl_RX12_135 dX12_man_115 ?_
    refine lv_iconst (v := 1) hx hb dX12_man_118 (by decide) ?_
    refine lv_iadd hx hb dX12_man_119 ?_
    refine pM_0_11 C hJ fl_RX12_135 dX12_man_120 (fun σ1 H locs hs hJ => ?_)
    have hf := bnd_at hf hs
    refine lv_aload_n hx hb dX12_man_123 rfl (lv_at hl 0 rfl) ?_
    refine gM_0_11 C hJ fl_RX12_135 dX12_man_124 ?_
    refine lv_iconst (v := 1) hx hb dX12_man_127 (by decide) ?_
    refine lv_isub hx hb dX12_man_128 ?_
    exact ret_I hret hJ hf rfl dX12_man_129
  have l86 : ∀ (n : Nat) (σ : St) (a4 : Int32) (H : Heap) (locs : List Loc) (ls : Array Slot), fM_man_l86 N  n σ a4 = some (σ', r) → J D (wM q cA cB) A s σ H locs → lv_has ls 5 [(0, .ref (q 0)), (4, .int a4)] → W p l e (rmH 2) s m args below meth c H locs 0 0 Q (F0 m 86 ls []) := by
    intro n86
    induction n86 with
    | zero => intro σ a4 H locs ls hf; rw [fM_man_l86] at hf; cases hf
    | succ n86 ih86 =>
      intro σ a4 H locs ls hf hJ hl
      rw [fM_man_l86] at hf
      refine lv_iload hx hb dX12_man_86 (lv_at hl 1 rfl) ?_
      refine lv_iconst (v := 4) hx hb dX12_man_88 (by decide) ?_
      refine lv_icmp_ge (tgt := 113) hx hb dX12_man_89 (by decide) (fun c2 => ?_) (fun c2 => ?_)
      · have hf := ite_t hf c2
        exact j113 σ  _ _ _ hf hJ (lv_sub hl [0] rfl)
      · have hf := ite_f hf c2
        refine lv_aload_n hx hb dX12_man_92 rfl (lv_at hl 0 rfl) ?_
        refine gM_0_10 C hJ fl_RX12_32 dX12_man_93 ?_
        refine lv_iconst (v := 4) hx hb dX12_man_96 (by decide) ?_
        refine lv_aload_n hx hb dX12_man_97 rfl (lv_at hl 0 rfl) ?_
        refine gM_0_11 C hJ fl_RX12_135 dX12_man_98 ?_
        refine lv_imul hx hb dX12_man_101 ?_
        refine lv_iload hx hb dX12_man_102 (lv_at hl 1 rfl) ?_
        refine lv_iadd hx hb dX12_man_104 ?_
        refine lv_iconst (v := 0) hx hb dX12_man_105 (by decide) ?_
        obtain ⟨h3, hf⟩ := gi_some hf
        refine sM_7 C hJ h3 dX12_man_106 (fun σ4 H locs hs hJ => ?_)
        have hf := bnd_at hf hs
        obtain ⟨x5, hx5⟩ : ∃ z : Int32, z = a4 + (1 : Int32) := ⟨_, rfl⟩
        have hf := bnd_at hf hx5
        refine lv_iinc (v := x5) (lv' := [(4, .int x5), (0, .ref (q 0))]) hx hb dX12_man_107 hl (k := 1) rfl (by rw [hx5]; rfl) (by decide) rfl (fun ls hl => ?_)
        refine lv_goto (tgt := 86) hx hb dX12_man_110 (by decide) ?_
        exact ih86 σ4 x5 _ _ _ hf hJ (lv_sub hl [1, 0] rfl)
  have hl : lv_has ls 5 [(0, .ref (q 0)), (1, .int a1), (2, .int a2), (3, .int a3)] := hl
  unfold fM_man at hf
  refine lv_iload_n hx hb dX12_man_0 rfl (lv_at hl 1 rfl) ?_
  refine lv_i2l (v := a1.toInt64) hx hb dX12_man_1 rfl ?_
  refine lv_lconst (v := 0) hx hb dX12_man_2 (by decide) ?_
  refine lv_ldc2 (v := 3) hx hb hown (hts _ kl_RX12_146) dX12_man_3 ?_
  obtain ⟨σ6, r7, hg8, hf⟩ := cal_some hf
  refine backI hsb hJ (runS (As := [.long a1.toInt64, .long (0 : Int64), .long (3 : Int64)]) (rest := []) C hJ lk_RX12_138 (cM_in hF hg8) rfl rfl (Nat.le_of_ble_eq_true rfl) hl.1 (hR_of (by omega) (by decide)) ⟨Nat.le_refl _, Nat.le_refl _⟩ dX12_man_6) (fun H locs hJ => ?_)
  refine lv_if_eq (tgt := 38) hx hb dX12_man_9 (by decide) (fun c9 => ?_) (fun c9 => ?_)
  · have hf := ite_t hf c9
    refine lv_bipush (v := -2) hx hb dX12_man_38 (by decide) ?_
    exact ret_I hret hJ hf rfl dX12_man_40
  · have hf := ite_f hf c9
    refine lv_iload_n hx hb dX12_man_12 rfl (lv_at hl 2 rfl) ?_
    refine lv_i2l (v := a2.toInt64) hx hb dX12_man_13 rfl ?_
    refine lv_lconst (v := 0) hx hb dX12_man_14 (by decide) ?_
    refine lv_ldc2 (v := 9999) hx hb hown (hts _ kl_RX12_148) dX12_man_15 ?_
    obtain ⟨σ10, r11, hg12, hf⟩ := cal_some hf
    refine backI hsb hJ (runS (As := [.long a2.toInt64, .long (0 : Int64), .long (9999 : Int64)]) (rest := []) C hJ lk_RX12_138 (cM_in hF hg12) rfl rfl (Nat.le_of_ble_eq_true rfl) hl.1 (hR_of (by omega) (by decide)) ⟨Nat.le_refl _, Nat.le_refl _⟩ dX12_man_18) (fun H locs hJ => ?_)
    refine lv_if_eq (tgt := 38) hx hb dX12_man_21 (by decide) (fun c13 => ?_) (fun c13 => ?_)
    · have hf := ite_t hf c13
      refine lv_bipush (v := -2) hx hb dX12_man_38 (by decide) ?_
      exact ret_I hret hJ hf rfl dX12_man_40
    · have hf := ite_f hf c13
      refine lv_iload_n hx hb dX12_man_24 rfl (lv_at hl 3 rfl) ?_
      refine lv_i2l (v := a3.toInt64) hx hb dX12_man_25 rfl ?_
      refine lv_ldc2 (v := -99) hx hb hown (hts _ kl_RX12_150) dX12_man_26 ?_
      refine lv_ldc2 (v := 99) hx hb hown (hts _ kl_RX12_152) dX12_man_29 ?_
      obtain ⟨σ14, r15, hg16, hf⟩ := cal_some hf
      refine backI hsb hJ (runS (As := [.long a3.toInt64, .long (-99 : Int64), .long (99 : Int64)]) (rest := []) C hJ lk_RX12_138 (cM_in hF hg16) rfl rfl (Nat.le_of_ble_eq_true rfl) hl.1 (hR_of (by omega) (by decide)) ⟨Nat.le_refl _, Nat.le_refl _⟩ dX12_man_32) (fun H locs hJ => ?_)
      refine lv_if_ne (tgt := 41) hx hb dX12_man_35 (by decide) (fun c17 => ?_) (fun c17 => ?_)
      · have hf := ite_f hf c17
        refine lv_aload_n hx hb dX12_man_41 rfl (lv_at hl 0 rfl) ?_
        refine gM_0_11 C hJ fl_RX12_135 dX12_man_42 ?_
        refine lv_bipush (v := 10) hx hb dX12_man_45 (by decide) ?_
        refine lv_icmp_ne (tgt := 53) hx hb dX12_man_47 (by decide) (fun c18 => ?_) (fun c18 => ?_)
        · have hf := ite_f hf c18
          refine lv_aload_n hx hb dX12_man_53 rfl (lv_at hl 0 rfl) ?_
          refine gM_0_7 C hJ fl_RX12_23 dX12_man_54 ?_
          refine lv_aload_n hx hb dX12_man_57 rfl (lv_at hl 0 rfl) ?_
          refine gM_0_11 C hJ fl_RX12_135 dX12_man_58 ?_
          refine lv_iload_n hx hb dX12_man_61 rfl (lv_at hl 1 rfl) ?_
          obtain ⟨h19, hf⟩ := gi_some hf
          refine sM_4 C hJ h19 dX12_man_62 (fun σ20 H locs hs hJ => ?_)
          have hf := bnd_at hf hs
          refine lv_aload_n hx hb dX12_man_63 rfl (lv_at hl 0 rfl) ?_
          refine gM_0_8 C hJ fl_RX12_26 dX12_man_64 ?_
          refine lv_aload_n hx hb dX12_man_67 rfl (lv_at hl 0 rfl) ?_
          refine gM_0_11 C hJ fl_RX12_135 dX12_man_68 ?_
          refine lv_iload_n hx hb dX12_man_71 rfl (lv_at hl 2 rfl) ?_
          obtain ⟨h21, hf⟩ := gi_some hf
          refine sM_5 C hJ h21 dX12_man_72 (fun σ22 H locs hs hJ => ?_)
          have hf := bnd_at hf hs
          refine lv_aload_n hx hb dX12_man_73 rfl (lv_at hl 0 rfl) ?_
          refine gM_0_9 C hJ fl_RX12_29 dX12_man_74 ?_
          refine lv_aload_n hx hb dX12_man_77 rfl (lv_at hl 0 rfl) ?_
          refine gM_0_11 C hJ fl_RX12_135 dX12_man_78 ?_
          refine lv_iload_n hx hb dX12_man_81 rfl (lv_at hl 3 rfl) ?_
          obtain ⟨h23, hf⟩ := gi_some hf
          refine sM_6 C hJ h23 dX12_man_82 (fun σ24 H locs hs hJ => ?_)
          have hf := bnd_at hf hs
          refine lv_iconst (v := 0) hx hb dX12_man_83 (by decide) ?_
          refine lv_istore (lv' := [(4, .int (0 : Int32)), (0, .ref (q 0)), (1, .int a1), (2, .int a2), (3, .int a3)]) hx hb dX12_man_84 hl (by decide) rfl (fun ls hl => ?_)
          exact l86 N σ24 (0 : Int32) _ _ _ hf hJ (lv_sub hl [1, 0] rfl)
        · have hf := ite_t hf c18
          refine lv_bipush (v := -4) hx hb dX12_man_50 (by decide) ?_
          exact ret_I hret hJ hf rfl dX12_man_52
      · have hf := ite_t hf c17
        refine lv_bipush (v := -2) hx hb dX12_man_38 (by decide) ?_
        exact ret_I hret hJ hf rfl dX12_man_40
set_option maxHeartbeats 4000000 in
set_option maxRecDepth 100000 in
theorem cM_isMan {l : Launch} {D : va_G} {cA cB : ClassId} {q : Nat → Nat} {A : Nat → Prop} {E : State → Prop} {N : Nat} {σ σ' : St} {r : Int32} {a1 : Int32} (hF : Fr (wM q cA cB) A E) (hf : fM_isMan N σ a1 = some (σ', r)) : MI l yX12_isMan cX12_isMan 2 .boolean 2 D (tyM cA cB) (wM q cA cB) A E [.ref (q 0), .int a1] σ σ' r := by
  refine MI_of (by decide) hF (Nat.le_of_ble_eq_true rfl) ?_
  intro p e s m args below meth c Q C hret hJ ls hl
  obtain ⟨hx, hb, hml, hown, hts, hK, hE, -⟩ := id C
  have hsb : ∀ z, A z → A z := fun _ h => h
  have hl : lv_has ls 2 [(0, .ref (q 0)), (1, .int a1)] := hl
  unfold fM_isMan at hf
  refine lv_iload_n hx hb dX12_isMan_0 rfl (lv_at hl 1 rfl) ?_
  refine lv_i2l (v := a1.toInt64) hx hb dX12_isMan_1 rfl ?_
  refine lv_lconst (v := 0) hx hb dX12_isMan_2 (by decide) ?_
  refine lv_aload_n hx hb dX12_isMan_3 rfl (lv_at hl 0 rfl) ?_
  refine gM_0_11 C hJ fl_RX12_135 dX12_isMan_4 ?_
  refine lv_iconst (v := 1) hx hb dX12_isMan_7 (by decide) ?_
  refine lv_isub hx hb dX12_isMan_8 ?_
  refine lv_i2l (v := ((σ.1 4) - (1 : Int32)).toInt64) hx hb dX12_isMan_9 rfl ?_
  obtain ⟨σ1, r2, hg3, hf⟩ := cal_some hf
  refine backI hsb hJ (runS (As := [.long a1.toInt64, .long (0 : Int64), .long (((σ.1 4) - (1 : Int32)).toInt64)]) (rest := []) C hJ lk_RX12_138 (cM_in hF hg3) rfl rfl (Nat.le_of_ble_eq_true rfl) hl.1 (hR_of (by omega) (by decide)) ⟨Nat.le_refl _, Nat.le_refl _⟩ dX12_isMan_10) (fun H locs hJ => ?_)
  obtain ⟨h4, hf⟩ := gd_some hf
  exact ret_I hret hJ hf (nar_z h4) dX12_isMan_13
set_option maxHeartbeats 4000000 in
set_option maxRecDepth 100000 in
theorem cM_part {l : Launch} {D : va_G} {cA cB : ClassId} {q : Nat → Nat} {A : Nat → Prop} {E : State → Prop} {N : Nat} {σ σ' : St} {r : Int32} {a1 : Int32} {a2 : Int32} {a3 : Int32} (hF : Fr (wM q cA cB) A E) (hf : fM_part N σ a1 a2 a3 = some (σ', r)) : MI l yX12_part cX12_part 5 .int 3 D (tyM cA cB) (wM q cA cB) A E [.ref (q 0), .int a1, .int a2, .int a3] σ σ' r := by
  refine MI_of (by decide) hF (Nat.le_of_ble_eq_true rfl) ?_
  intro p e s m args below meth c Q C hret hJ ls hl
  obtain ⟨hx, hb, hml, hown, hts, hK, hE, -⟩ := id C
  have hsb : ∀ z, A z → A z := fun _ h => h
  have hl : lv_has ls 5 [(0, .ref (q 0)), (1, .int a1), (2, .int a2), (3, .int a3)] := hl
  unfold fM_part at hf
  refine lv_aload_n hx hb dX12_part_0 rfl (lv_at hl 0 rfl) ?_
  refine lv_iload_n hx hb dX12_part_1 rfl (lv_at hl 1 rfl) ?_
  obtain ⟨σ1, r2, hg3, hf⟩ := cal_some hf
  refine backI hsb hJ (runV (As := [.int a1]) (rest := []) C hJ lk_RX12_154 (cM_isMan hF hg3) recM_0 rfl rfl (Nat.le_of_ble_eq_true rfl) hl.1 (hR_of (by omega) (by decide)) ⟨Nat.le_refl _, Nat.le_refl _⟩ dX12_part_2) (fun H locs hJ => ?_)
  refine lv_if_eq (tgt := 34) hx hb dX12_part_5 (by decide) (fun c4 => ?_) (fun c4 => ?_)
  · have hf := ite_t hf c4
    refine lv_sipush (v := -1000) hx hb dX12_part_34 (by decide) ?_
    exact ret_I hret hJ hf rfl dX12_part_37
  · have hf := ite_f hf c4
    refine lv_iload_n hx hb dX12_part_8 rfl (lv_at hl 2 rfl) ?_
    refine lv_i2l (v := a2.toInt64) hx hb dX12_part_9 rfl ?_
    refine lv_lconst (v := 0) hx hb dX12_part_10 (by decide) ?_
    refine lv_ldc2 (v := 3) hx hb hown (hts _ kl_RX12_146) dX12_part_11 ?_
    obtain ⟨σ5, r6, hg7, hf⟩ := cal_some hf
    refine backI hsb hJ (runS (As := [.long a2.toInt64, .long (0 : Int64), .long (3 : Int64)]) (rest := []) C hJ lk_RX12_138 (cM_in hF hg7) rfl rfl (Nat.le_of_ble_eq_true rfl) hl.1 (hR_of (by omega) (by decide)) ⟨Nat.le_refl _, Nat.le_refl _⟩ dX12_part_14) (fun H locs hJ => ?_)
    refine lv_if_eq (tgt := 34) hx hb dX12_part_17 (by decide) (fun c8 => ?_) (fun c8 => ?_)
    · have hf := ite_t hf c8
      refine lv_sipush (v := -1000) hx hb dX12_part_34 (by decide) ?_
      exact ret_I hret hJ hf rfl dX12_part_37
    · have hf := ite_f hf c8
      refine lv_iload_n hx hb dX12_part_20 rfl (lv_at hl 3 rfl) ?_
      refine lv_i2l (v := a3.toInt64) hx hb dX12_part_21 rfl ?_
      refine lv_ldc2 (v := -199) hx hb hown (hts _ kl_RX12_158) dX12_part_22 ?_
      refine lv_ldc2 (v := 199) hx hb hown (hts _ kl_RX12_160) dX12_part_25 ?_
      obtain ⟨σ9, r10, hg11, hf⟩ := cal_some hf
      refine backI hsb hJ (runS (As := [.long a3.toInt64, .long (-199 : Int64), .long (199 : Int64)]) (rest := []) C hJ lk_RX12_138 (cM_in hF hg11) rfl rfl (Nat.le_of_ble_eq_true rfl) hl.1 (hR_of (by omega) (by decide)) ⟨Nat.le_refl _, Nat.le_refl _⟩ dX12_part_28) (fun H locs hJ => ?_)
      refine lv_if_ne (tgt := 38) hx hb dX12_part_31 (by decide) (fun c12 => ?_) (fun c12 => ?_)
      · have hf := ite_f hf c12
        refine lv_aload_n hx hb dX12_part_38 rfl (lv_at hl 0 rfl) ?_
        refine gM_0_10 C hJ fl_RX12_32 dX12_part_39 ?_
        refine lv_iconst (v := 4) hx hb dX12_part_42 (by decide) ?_
        refine lv_iload_n hx hb dX12_part_43 rfl (lv_at hl 1 rfl) ?_
        refine lv_imul hx hb dX12_part_44 ?_
        refine lv_iload_n hx hb dX12_part_45 rfl (lv_at hl 2 rfl) ?_
        refine lv_iadd hx hb dX12_part_46 ?_
        obtain ⟨h13, hf⟩ := gi_some hf
        refine aM_7 C hJ h13 dX12_part_47 ?_
        refine lv_topi (fun x14 hx14 => ?_)
        have hf := bnd_at hf hx14
        refine lv_istore (lv' := [(4, .int x14), (0, .ref (q 0)), (1, .int a1), (2, .int a2), (3, .int a3)]) hx hb dX12_part_48 hl (by decide) rfl (fun ls hl => ?_)
        refine lv_aload_n hx hb dX12_part_50 rfl (lv_at hl 1 rfl) ?_
        refine gM_0_10 C hJ fl_RX12_32 dX12_part_51 ?_
        refine lv_iconst (v := 4) hx hb dX12_part_54 (by decide) ?_
        refine lv_iload_n hx hb dX12_part_55 rfl (lv_at hl 2 rfl) ?_
        refine lv_imul hx hb dX12_part_56 ?_
        refine lv_iload_n hx hb dX12_part_57 rfl (lv_at hl 3 rfl) ?_
        refine lv_iadd hx hb dX12_part_58 ?_
        refine lv_iload_n hx hb dX12_part_59 rfl (lv_at hl 4 rfl) ?_
        obtain ⟨h15, hf⟩ := gi_some hf
        refine sM_7 C hJ h15 dX12_part_60 (fun σ16 H locs hs hJ => ?_)
        have hf := bnd_at hf hs
        refine lv_iload hx hb dX12_part_61 (lv_at hl 0 rfl) ?_
        exact ret_I hret hJ hf rfl dX12_part_63
      · have hf := ite_t hf c12
        refine lv_sipush (v := -1000) hx hb dX12_part_34 (by decide) ?_
        exact ret_I hret hJ hf rfl dX12_part_37
set_option maxHeartbeats 4000000 in
set_option maxRecDepth 100000 in
theorem cM_move {l : Launch} {D : va_G} {cA cB : ClassId} {q : Nat → Nat} {A : Nat → Prop} {E : State → Prop} {N : Nat} {σ σ' : St} {r : Int32} {a1 : Int32} {a2 : Int32} {a3 : Int32} (hF : Fr (wM q cA cB) A E) (hf : fM_move N σ a1 a2 a3 = some (σ', r)) : MI l yX12_move cX12_move 5 .int 3 D (tyM cA cB) (wM q cA cB) A E [.ref (q 0), .int a1, .int a2, .int a3] σ σ' r := by
  refine MI_of (by decide) hF (Nat.le_of_ble_eq_true rfl) ?_
  intro p e s m args below meth c Q C hret hJ ls hl
  obtain ⟨hx, hb, hml, hown, hts, hK, hE, -⟩ := id C
  have hsb : ∀ z, A z → A z := fun _ h => h
  have j73 : ∀ (σ : St) (a1 : Int32) (a2 : Int32) (a3 : Int32) (t0 : Int32) (H : Heap) (locs : List Loc) (ls : Array Slot), fM_move_j73 N  σ a1 a2 a3 t0 = some (σ', r) → J D (wM q cA cB) A s σ H locs → lv_has ls 5 [(0, .ref (q 0)), (1, .int a1), (2, .int a2), (3, .int a3)] → W p l e (rmH 3) s m args below meth c H locs 0 0 Q (F0 m 73 ls [.int t0]) := by
    intro σ a1 a2 a3 t0 H locs ls hf hJ hl
    unfold fM_move_j73 at hf
    refine lv_istore (lv' := [(4, .int t0), (0, .ref (q 0)), (1, .int a1), (2, .int a2), (3, .int a3)]) hx hb dX12_move_73 hl (by decide) rfl (fun ls hl => ?_)
    refine lv_iload_n hx hb dX12_move_75 rfl (lv_at hl 3 rfl) ?_
    refine lv_if_ne (tgt := 89) hx hb dX12_move_76 (by decide) (fun c1 => ?_) (fun c1 => ?_)
    · have hf := ite_f hf c1
      refine lv_aload_n hx hb dX12_move_89 rfl (lv_at hl 1 rfl) ?_
      refine gM_0_9 C hJ fl_RX12_29 dX12_move_90 ?_
      refine lv_iload_n hx hb dX12_move_93 rfl (lv_at hl 2 rfl) ?_
      refine lv_iload_n hx hb dX12_move_94 rfl (lv_at hl 4 rfl) ?_
      obtain ⟨h2, hf⟩ := gi_some hf
      refine sM_6 C hJ h2 dX12_move_95 (fun σ3 H locs hs hJ => ?_)
      have hf := bnd_at hf hs
      refine lv_iload hx hb dX12_move_96 (lv_at hl 0 rfl) ?_
      exact ret_I hret hJ hf rfl dX12_move_98
    · have hf := ite_t hf c1
      refine lv_aload_n hx hb dX12_move_79 rfl (lv_at hl 1 rfl) ?_
      refine gM_0_8 C hJ fl_RX12_26 dX12_move_80 ?_
      refine lv_iload_n hx hb dX12_move_83 rfl (lv_at hl 2 rfl) ?_
      refine lv_iload_n hx hb dX12_move_84 rfl (lv_at hl 4 rfl) ?_
      obtain ⟨h4, hf⟩ := gi_some hf
      refine sM_5 C hJ h4 dX12_move_85 (fun σ5 H locs hs hJ => ?_)
      have hf := bnd_at hf hs
      refine lv_goto (tgt := 96) hx hb dX12_move_86 (by decide) ?_
      refine lv_iload hx hb dX12_move_96 (lv_at hl 0 rfl) ?_
      exact ret_I hret hJ hf rfl dX12_move_98
  have j44 : ∀ (σ : St) (a1 : Int32) (a2 : Int32) (a3 : Int32) (t0 : Int64) (t1 : Int64) (t2 : Int64) (H : Heap) (locs : List Loc) (ls : Array Slot), fM_move_j44 N  σ a1 a2 a3 t0 t1 t2 = some (σ', r) → J D (wM q cA cB) A s σ H locs → lv_has ls 5 [(0, .ref (q 0)), (1, .int a1), (2, .int a2), (3, .int a3)] → W p l e (rmH 3) s m args below meth c H locs 0 0 Q (F0 m 44 ls [.long t2, .long t1, .long t0]) := by
    intro σ a1 a2 a3 t0 t1 t2 H locs ls hf hJ hl
    unfold fM_move_j44 at hf
    obtain ⟨σ6, r7, hg8, hf⟩ := cal_some hf
    refine backI hsb hJ (runS (As := [.long t0, .long t1, .long t2]) (rest := []) C hJ lk_RX12_138 (cM_in hF hg8) rfl rfl (Nat.le_of_ble_eq_true rfl) hl.1 (hR_of (by omega) (by decide)) ⟨Nat.le_refl _, Nat.le_refl _⟩ dX12_move_44) (fun H locs hJ => ?_)
    refine lv_if_ne (tgt := 54) hx hb dX12_move_47 (by decide) (fun c9 => ?_) (fun c9 => ?_)
    · have hf := ite_f hf c9
      refine lv_iload_n hx hb dX12_move_54 rfl (lv_at hl 2 rfl) ?_
      refine lv_if_ne (tgt := 67) hx hb dX12_move_55 (by decide) (fun c10 => ?_) (fun c10 => ?_)
      · have hf := ite_f hf c10
        refine lv_aload_n hx hb dX12_move_67 rfl (lv_at hl 0 rfl) ?_
        refine gM_0_9 C hJ fl_RX12_29 dX12_move_68 ?_
        refine lv_iload_n hx hb dX12_move_71 rfl (lv_at hl 1 rfl) ?_
        obtain ⟨h11, hf⟩ := gi_some hf
        refine aM_6 C hJ h11 dX12_move_72 ?_
        exact j73 σ6 a1 a2 a3 (σ6.2.1 6 a1.toNatClampNeg) _ _ _ hf hJ (lv_sub hl [0, 1, 2, 3] rfl)
      · have hf := ite_t hf c10
        refine lv_aload_n hx hb dX12_move_58 rfl (lv_at hl 0 rfl) ?_
        refine gM_0_8 C hJ fl_RX12_26 dX12_move_59 ?_
        refine lv_iload_n hx hb dX12_move_62 rfl (lv_at hl 1 rfl) ?_
        obtain ⟨h12, hf⟩ := gi_some hf
        refine aM_5 C hJ h12 dX12_move_63 ?_
        refine lv_goto (tgt := 73) hx hb dX12_move_64 (by decide) ?_
        exact j73 σ6 a1 a2 a3 (σ6.2.1 5 a1.toNatClampNeg) _ _ _ hf hJ (lv_sub hl [0, 1, 2, 3] rfl)
    · have hf := ite_t hf c9
      refine lv_sipush (v := -1000) hx hb dX12_move_50 (by decide) ?_
      exact ret_I hret hJ hf rfl dX12_move_53
  have j31 : ∀ (σ : St) (a1 : Int32) (a2 : Int32) (a3 : Int32) (t0 : Int64) (t1 : Int64) (H : Heap) (locs : List Loc) (ls : Array Slot), fM_move_j31 N  σ a1 a2 a3 t0 t1 = some (σ', r) → J D (wM q cA cB) A s σ H locs → lv_has ls 5 [(0, .ref (q 0)), (1, .int a1), (2, .int a2), (3, .int a3)] → W p l e (rmH 3) s m args below meth c H locs 0 0 Q (F0 m 31 ls [.long t1, .long t0]) := by
    intro σ a1 a2 a3 t0 t1 H locs ls hf hJ hl
    unfold fM_move_j31 at hf
    refine lv_iload_n hx hb dX12_move_31 rfl (lv_at hl 2 rfl) ?_
    refine lv_if_ne (tgt := 41) hx hb dX12_move_32 (by decide) (fun c13 => ?_) (fun c13 => ?_)
    · have hf := ite_f hf c13
      refine lv_ldc2 (v := 99) hx hb hown (hts _ kl_RX12_152) dX12_move_41 ?_
      exact j44 σ a1 a2 a3 t0 t1 (99 : Int64) _ _ _ hf hJ (lv_sub hl [0, 1, 2, 3] rfl)
    · have hf := ite_t hf c13
      refine lv_ldc2 (v := 9999) hx hb hown (hts _ kl_RX12_148) dX12_move_35 ?_
      refine lv_goto (tgt := 44) hx hb dX12_move_38 (by decide) ?_
      exact j44 σ a1 a2 a3 t0 t1 (9999 : Int64) _ _ _ hf hJ (lv_sub hl [0, 1, 2, 3] rfl)
  have hl : lv_has ls 5 [(0, .ref (q 0)), (1, .int a1), (2, .int a2), (3, .int a3)] := hl
  unfold fM_move at hf
  refine lv_aload_n hx hb dX12_move_0 rfl (lv_at hl 0 rfl) ?_
  refine lv_iload_n hx hb dX12_move_1 rfl (lv_at hl 1 rfl) ?_
  obtain ⟨σ14, r15, hg16, hf⟩ := cal_some hf
  refine backI hsb hJ (runV (As := [.int a1]) (rest := []) C hJ lk_RX12_154 (cM_isMan hF hg16) recM_0 rfl rfl (Nat.le_of_ble_eq_true rfl) hl.1 (hR_of (by omega) (by decide)) ⟨Nat.le_refl _, Nat.le_refl _⟩ dX12_move_2) (fun H locs hJ => ?_)
  refine lv_if_eq (tgt := 50) hx hb dX12_move_5 (by decide) (fun c17 => ?_) (fun c17 => ?_)
  · have hf := ite_t hf c17
    refine lv_sipush (v := -1000) hx hb dX12_move_50 (by decide) ?_
    exact ret_I hret hJ hf rfl dX12_move_53
  · have hf := ite_f hf c17
    refine lv_iload_n hx hb dX12_move_8 rfl (lv_at hl 2 rfl) ?_
    refine lv_i2l (v := a2.toInt64) hx hb dX12_move_9 rfl ?_
    refine lv_lconst (v := 0) hx hb dX12_move_10 (by decide) ?_
    refine lv_lconst (v := 1) hx hb dX12_move_11 (by decide) ?_
    obtain ⟨σ18, r19, hg20, hf⟩ := cal_some hf
    refine backI hsb hJ (runS (As := [.long a2.toInt64, .long (0 : Int64), .long (1 : Int64)]) (rest := []) C hJ lk_RX12_138 (cM_in hF hg20) rfl rfl (Nat.le_of_ble_eq_true rfl) hl.1 (hR_of (by omega) (by decide)) ⟨Nat.le_refl _, Nat.le_refl _⟩ dX12_move_12) (fun H locs hJ => ?_)
    refine lv_if_eq (tgt := 50) hx hb dX12_move_15 (by decide) (fun c21 => ?_) (fun c21 => ?_)
    · have hf := ite_t hf c21
      refine lv_sipush (v := -1000) hx hb dX12_move_50 (by decide) ?_
      exact ret_I hret hJ hf rfl dX12_move_53
    · have hf := ite_f hf c21
      refine lv_iload_n hx hb dX12_move_18 rfl (lv_at hl 3 rfl) ?_
      refine lv_i2l (v := a3.toInt64) hx hb dX12_move_19 rfl ?_
      refine lv_iload_n hx hb dX12_move_20 rfl (lv_at hl 2 rfl) ?_
      refine lv_if_ne (tgt := 28) hx hb dX12_move_21 (by decide) (fun c22 => ?_) (fun c22 => ?_)
      · have hf := ite_f hf c22
        refine lv_ldc2 (v := -99) hx hb hown (hts _ kl_RX12_150) dX12_move_28 ?_
        exact j31 σ18 a1 a2 a3 a3.toInt64 (-99 : Int64) _ _ _ hf hJ (lv_sub hl [0, 1, 2, 3] rfl)
      · have hf := ite_t hf c22
        refine lv_lconst (v := 0) hx hb dX12_move_24 (by decide) ?_
        refine lv_goto (tgt := 31) hx hb dX12_move_25 (by decide) ?_
        exact j31 σ18 a1 a2 a3 a3.toInt64 (0 : Int64) _ _ _ hf hJ (lv_sub hl [0, 1, 2, 3] rfl)
set_option maxHeartbeats 4000000 in
set_option maxRecDepth 100000 in
theorem cM_feed {l : Launch} {D : va_G} {cA cB : ClassId} {q : Nat → Nat} {A : Nat → Prop} {E : State → Prop} {N : Nat} {σ σ' : St} {r : Int32} {a1 : Int32} {a2 : Int64} (hF : Fr (wM q cA cB) A E) (hf : fM_feed N σ a1 a2 = some (σ', r)) : MI l yX12_feed cX12_feed 5 .int 2 D (tyM cA cB) (wM q cA cB) A E [.ref (q 0), .int a1, .long a2] σ σ' r := by
  refine MI_of (by decide) hF (Nat.le_of_ble_eq_true rfl) ?_
  intro p e s m args below meth c Q C hret hJ ls hl
  obtain ⟨hx, hb, hml, hown, hts, hK, hE, -⟩ := id C
  have hsb : ∀ z, A z → A z := fun _ h => h
  have l33 : ∀ (n : Nat) (σ : St) (a1 : Int32) (a2 : Int64) (a4 : Int32) (H : Heap) (locs : List Loc) (ls : Array Slot), fM_feed_l33 N  n σ a1 a2 a4 = some (σ', r) → J D (wM q cA cB) A s σ H locs → lv_has ls 5 [(0, .ref (q 0)), (1, .int a1), (2, .long a2), (4, .int a4)] → W p l e (rmH 2) s m args below meth c H locs 0 0 Q (F0 m 33 ls []) := by
    intro n33
    induction n33 with
    | zero => intro σ a1 a2 a4 H locs ls hf; rw [fM_feed_l33] at hf; cases hf
    | succ n33 ih33 =>
      intro σ a1 a2 a4 H locs ls hf hJ hl
      rw [fM_feed_l33] at hf
      refine lv_iload hx hb dX12_feed_33 (lv_at hl 3 rfl) ?_
      refine lv_iload_n hx hb dX12_feed_35 rfl (lv_at hl 1 rfl) ?_
      refine lv_icmp_ge (tgt := 76) hx hb dX12_feed_36 (by decide) (fun c1 => ?_) (fun c1 => ?_)
      · have hf := ite_t hf c1
        refine lv_aload_n hx hb dX12_feed_76 rfl (lv_at hl 0 rfl) ?_
        refine gM_0_6 C hJ fl_RX12_164 dX12_feed_77 ?_
        exact ret_I hret hJ hf rfl dX12_feed_80
      · have hf := ite_f hf c1
        refine lv_aload_n hx hb dX12_feed_39 rfl (lv_at hl 0 rfl) ?_
        refine gM_0_5 C hJ fl_RX12_20 dX12_feed_40 ?_
        refine lv_aload_n hx hb dX12_feed_43 rfl (lv_at hl 0 rfl) ?_
        refine gM_0_6 C hJ fl_RX12_164 dX12_feed_44 ?_
        refine lv_lload_n hx hb dX12_feed_47 rfl (lv_at hl 2 rfl) ?_
        refine lv_bipush (v := 8) hx hb dX12_feed_48 (by decide) ?_
        refine lv_iload hx hb dX12_feed_50 (lv_at hl 3 rfl) ?_
        refine lv_imul hx hb dX12_feed_52 ?_
        refine lv_lshr (v := a2 >>> (((8 : Int32) * a4).toInt64 &&& 63)) hx hb dX12_feed_53 rfl ?_
        refine lv_ldc2 (v := 255) hx hb hown (hts _ kl_RX12_133) dX12_feed_54 ?_
        refine lv_land hx hb dX12_feed_57 ?_
        refine lv_l2i (v := ((a2 >>> (((8 : Int32) * a4).toInt64 &&& 63)) &&& (255 : Int64)).toInt32) hx hb dX12_feed_58 rfl ?_
        obtain ⟨h2, hf⟩ := gi_some hf
        refine sM_3 C hJ h2 dX12_feed_59 (fun σ3 H locs hs hJ => ?_)
        have hf := bnd_at hf hs
        refine lv_aload_n hx hb dX12_feed_60 rfl (lv_at hl 0 rfl) ?_
        refine lv_dup hx hb dX12_feed_61 rfl ?_
        refine gM_0_6 C hJ fl_RX12_164 dX12_feed_62 ?_
        refine lv_iconst (v := 1) hx hb dX12_feed_65 (by decide) ?_
        refine lv_iadd hx hb dX12_feed_66 ?_
        refine pM_0_6 C hJ fl_RX12_164 dX12_feed_67 (fun σ4 H locs hs hJ => ?_)
        have hf := bnd_at hf hs
        obtain ⟨x5, hx5⟩ : ∃ z : Int32, z = a4 + (1 : Int32) := ⟨_, rfl⟩
        have hf := bnd_at hf hx5
        refine lv_iinc (v := x5) (lv' := [(4, .int x5), (0, .ref (q 0)), (1, .int a1), (2, .long a2)]) hx hb dX12_feed_70 hl (k := 3) rfl (by rw [hx5]; rfl) (by decide) rfl (fun ls hl => ?_)
        refine lv_goto (tgt := 33) hx hb dX12_feed_73 (by decide) ?_
        exact ih33 σ4 a1 a2 x5 _ _ _ hf hJ (lv_sub hl [1, 2, 3, 0] rfl)
  have hl : lv_has ls 5 [(0, .ref (q 0)), (1, .int a1), (2, .long a2)] := hl
  unfold fM_feed at hf
  refine lv_iload_n hx hb dX12_feed_0 rfl (lv_at hl 1 rfl) ?_
  refine lv_i2l (v := a1.toInt64) hx hb dX12_feed_1 rfl ?_
  refine lv_lconst (v := 1) hx hb dX12_feed_2 (by decide) ?_
  refine lv_ldc2 (v := 8) hx hb hown (hts _ kl_RX12_162) dX12_feed_3 ?_
  obtain ⟨σ6, r7, hg8, hf⟩ := cal_some hf
  refine backI hsb hJ (runS (As := [.long a1.toInt64, .long (1 : Int64), .long (8 : Int64)]) (rest := []) C hJ lk_RX12_138 (cM_in hF hg8) rfl rfl (Nat.le_of_ble_eq_true rfl) hl.1 (hR_of (by omega) (by decide)) ⟨Nat.le_refl _, Nat.le_refl _⟩ dX12_feed_6) (fun H locs hJ => ?_)
  refine lv_if_ne (tgt := 15) hx hb dX12_feed_9 (by decide) (fun c9 => ?_) (fun c9 => ?_)
  · have hf := ite_f hf c9
    refine lv_aload_n hx hb dX12_feed_15 rfl (lv_at hl 0 rfl) ?_
    refine gM_0_6 C hJ fl_RX12_164 dX12_feed_16 ?_
    refine lv_iload_n hx hb dX12_feed_19 rfl (lv_at hl 1 rfl) ?_
    refine lv_iadd hx hb dX12_feed_20 ?_
    refine lv_sipush (v := 160) hx hb dX12_feed_21 (by decide) ?_
    refine lv_icmp_le (tgt := 30) hx hb dX12_feed_24 (by decide) (fun c10 => ?_) (fun c10 => ?_)
    · have hf := ite_t hf c10
      refine lv_iconst (v := 0) hx hb dX12_feed_30 (by decide) ?_
      refine lv_istore (lv' := [(4, .int (0 : Int32)), (0, .ref (q 0)), (1, .int a1), (2, .long a2)]) hx hb dX12_feed_31 hl (by decide) rfl (fun ls hl => ?_)
      exact l33 N σ6 a1 a2 (0 : Int32) _ _ _ hf hJ (lv_sub hl [1, 2, 3, 0] rfl)
    · have hf := ite_f hf c10
      refine lv_bipush (v := -4) hx hb dX12_feed_27 (by decide) ?_
      exact ret_I hret hJ hf rfl dX12_feed_29
  · have hf := ite_t hf c9
    refine lv_bipush (v := -2) hx hb dX12_feed_12 (by decide) ?_
    exact ret_I hret hJ hf rfl dX12_feed_14
set_option maxHeartbeats 4000000 in
set_option maxRecDepth 100000 in
theorem cM_section {l : Launch} {D : va_G} {cA cB : ClassId} {q : Nat → Nat} {A : Nat → Prop} {E : State → Prop} {N : Nat} {σ σ' : St} {r : Int32} {a1 : Int64} (hF : Fr (wM q cA cB) A E) (hf : fM_section N σ a1 = some (σ', r)) : MI l yX12_section cX12_section 4 .int 49 D (tyM cA cB) (wM q cA cB) A E [.ref (q 0), .long a1] σ σ' r := by
  refine MI_of (by decide) hF (Nat.le_of_ble_eq_true rfl) ?_
  intro p e s m args below meth c Q C hret hJ ls hl
  obtain ⟨hx, hb, hml, hown, hts, hK, hE, -⟩ := id C
  have hsb : ∀ z, A z → A z := fun _ h => h
  have j52 : ∀ (σ : St) (a3 : Int32) (H : Heap) (locs : List Loc) (ls : Array Slot), fM_section_j52 N  σ a3 = some (σ', r) → J D (wM q cA cB) A s σ H locs → lv_has ls 4 [(0, .ref (q 0)), (3, .int a3)] → W p l e (rmH 49) s m args below meth c H locs 0 0 Q (F0 m 52 ls []) := by
    intro σ a3 H locs ls hf hJ hl
    unfold fM_section_j52 at hf
    refine lv_aload_n hx hb dX12_section_52 rfl (lv_at hl 0 rfl) ?_
    refine gM_0_20 C hJ fl_RX12_206 dX12_section_53 ?_
    refine lv_if_ne (tgt := 63) hx hb dX12_section_56 (by decide) (fun c1 => ?_) (fun c1 => ?_)
    · have hf := ite_f hf c1
      refine lv_iload_n hx hb dX12_section_63 rfl (lv_at hl 1 rfl) ?_
      exact ret_I hret hJ hf rfl dX12_section_64
    · have hf := ite_t hf c1
      refine lv_aload_n hx hb dX12_section_59 rfl (lv_at hl 0 rfl) ?_
      obtain ⟨σ2, r3, hg4, hf⟩ := cal_some hf
      refine backV hsb hJ (runV (As := []) (rest := []) C hJ lk_RX12_219 (cM_next hF hg4) recM_0 rfl rfl (Nat.le_of_ble_eq_true rfl) hl.1 (hR_of (by omega) (by decide)) ⟨Nat.le_refl _, Nat.le_refl _⟩ dX12_section_60) (fun H locs hJ => ?_)
      refine lv_iload_n hx hb dX12_section_63 rfl (lv_at hl 1 rfl) ?_
      exact ret_I hret hJ hf rfl dX12_section_64
  have j38 : ∀ (σ : St) (t0 : Int32) (H : Heap) (locs : List Loc) (ls : Array Slot), fM_section_j38 N  σ t0 = some (σ', r) → J D (wM q cA cB) A s σ H locs → lv_has ls 4 [(0, .ref (q 0))] → W p l e (rmH 49) s m args below meth c H locs 0 0 Q (F0 m 38 ls [.int t0]) := by
    intro σ t0 H locs ls hf hJ hl
    unfold fM_section_j38 at hf
    refine lv_istore_n (lv' := [(3, .int t0), (0, .ref (q 0))]) hx hb dX12_section_38 rfl hl (by decide) rfl (fun ls hl => ?_)
    refine lv_aload_n hx hb dX12_section_39 rfl (lv_at hl 1 rfl) ?_
    refine lv_bipush (v := 59) hx hb dX12_section_40 (by decide) ?_
    obtain ⟨σ5, r6, hg7, hf⟩ := cal_some hf
    refine backI hsb hJ (runV (As := [.int (59 : Int32)]) (rest := []) C hJ lk_RX12_250 (cM_isSign hF hg7) recM_0 rfl rfl (Nat.le_of_ble_eq_true rfl) hl.1 (hR_of (by omega) (by decide)) ⟨Nat.le_refl _, Nat.le_refl _⟩ dX12_section_42) (fun H locs hJ => ?_)
    refine lv_if_ne (tgt := 52) hx hb dX12_section_45 (by decide) (fun c8 => ?_) (fun c8 => ?_)
    · have hf := ite_f hf c8
      exact j52 σ5 t0 _ _ _ hf hJ (lv_sub hl [1, 0] rfl)
    · have hf := ite_t hf c8
      refine lv_aload_n hx hb dX12_section_48 rfl (lv_at hl 1 rfl) ?_
      obtain ⟨σ9, r10, hg11, hf⟩ := cal_some hf
      refine backV hsb hJ (runV (As := []) (rest := []) C hJ lk_RX12_216 (cM_fail hF hg11) recM_0 rfl rfl (Nat.le_of_ble_eq_true rfl) hl.1 (hR_of (by omega) (by decide)) ⟨Nat.le_refl _, Nat.le_refl _⟩ dX12_section_49) (fun H locs hJ => ?_)
      exact j52 σ9 t0 _ _ _ hf hJ (lv_sub hl [1, 0] rfl)
  have j23 : ∀ (σ : St) (H : Heap) (locs : List Loc) (ls : Array Slot), fM_section_j23 N  σ = some (σ', r) → J D (wM q cA cB) A s σ H locs → lv_has ls 4 [(0, .ref (q 0))] → W p l e (rmH 49) s m args below meth c H locs 0 0 Q (F0 m 23 ls []) := by
    intro σ H locs ls hf hJ hl
    unfold fM_section_j23 at hf
    refine lv_aload_n hx hb dX12_section_23 rfl (lv_at hl 0 rfl) ?_
    refine gM_0_20 C hJ fl_RX12_206 dX12_section_24 ?_
    refine lv_if_eq (tgt := 34) hx hb dX12_section_27 (by decide) (fun c12 => ?_) (fun c12 => ?_)
    · have hf := ite_t hf c12
      refine lv_aload_n hx hb dX12_section_34 rfl (lv_at hl 0 rfl) ?_
      obtain ⟨σ13, r14, hg15, hf⟩ := cal_some hf
      refine backI hsb hJ (runV (As := []) (rest := []) C hJ lk_RX12_261 (cM_lv_either hF hg15) recM_0 rfl rfl (Nat.le_of_ble_eq_true rfl) hl.1 (hR_of (by omega) (by decide)) ⟨Nat.le_refl _, Nat.le_refl _⟩ dX12_section_35) (fun H locs hJ => ?_)
      exact j38 σ13 r14 _ _ _ hf hJ (lv_sub hl [0] rfl)
    · have hf := ite_f hf c12
      refine lv_iconst (v := 0) hx hb dX12_section_30 (by decide) ?_
      refine lv_goto (tgt := 38) hx hb dX12_section_31 (by decide) ?_
      exact j38 σ (0 : Int32) _ _ _ hf hJ (lv_sub hl [0] rfl)
  have j12 : ∀ (σ : St) (H : Heap) (locs : List Loc) (ls : Array Slot), fM_section_j12 N  σ = some (σ', r) → J D (wM q cA cB) A s σ H locs → lv_has ls 4 [(0, .ref (q 0))] → W p l e (rmH 49) s m args below meth c H locs 0 0 Q (F0 m 12 ls []) := by
    intro σ H locs ls hf hJ hl
    unfold fM_section_j12 at hf
    refine lv_aload_n hx hb dX12_section_12 rfl (lv_at hl 0 rfl) ?_
    refine gM_0_20 C hJ fl_RX12_206 dX12_section_13 ?_
    refine lv_if_ne (tgt := 23) hx hb dX12_section_16 (by decide) (fun c16 => ?_) (fun c16 => ?_)
    · have hf := ite_f hf c16
      exact j23 σ  _ _ _ hf hJ (lv_sub hl [0] rfl)
    · have hf := ite_t hf c16
      refine lv_aload_n hx hb dX12_section_19 rfl (lv_at hl 0 rfl) ?_
      obtain ⟨σ17, r18, hg19, hf⟩ := cal_some hf
      refine backV hsb hJ (runV (As := []) (rest := []) C hJ lk_RX12_219 (cM_next hF hg19) recM_0 rfl rfl (Nat.le_of_ble_eq_true rfl) hl.1 (hR_of (by omega) (by decide)) ⟨Nat.le_refl _, Nat.le_refl _⟩ dX12_section_20) (fun H locs hJ => ?_)
      exact j23 σ17  _ _ _ hf hJ (lv_sub hl [0] rfl)
  have hl : lv_has ls 4 [(0, .ref (q 0)), (1, .long a1)] := hl
  unfold fM_section at hf
  refine lv_aload_n hx hb dX12_section_0 rfl (lv_at hl 0 rfl) ?_
  refine lv_lload_n hx hb dX12_section_1 rfl (lv_at hl 1 rfl) ?_
  obtain ⟨σ20, r21, hg22, hf⟩ := cal_some hf
  refine backI hsb hJ (runV (As := [.long a1]) (rest := []) C hJ lk_RX12_224 (cM_isWord hF hg22) recM_0 rfl rfl (Nat.le_of_ble_eq_true rfl) hl.1 (hR_of (by omega) (by decide)) ⟨Nat.le_refl _, Nat.le_refl _⟩ dX12_section_2) (fun H locs hJ => ?_)
  refine lv_if_ne (tgt := 12) hx hb dX12_section_5 (by decide) (fun c23 => ?_) (fun c23 => ?_)
  · have hf := ite_f hf c23
    exact j12 σ20  _ _ _ hf hJ (lv_sub hl [0] rfl)
  · have hf := ite_t hf c23
    refine lv_aload_n hx hb dX12_section_8 rfl (lv_at hl 0 rfl) ?_
    obtain ⟨σ24, r25, hg26, hf⟩ := cal_some hf
    refine backV hsb hJ (runV (As := []) (rest := []) C hJ lk_RX12_216 (cM_fail hF hg26) recM_0 rfl rfl (Nat.le_of_ble_eq_true rfl) hl.1 (hR_of (by omega) (by decide)) ⟨Nat.le_refl _, Nat.le_refl _⟩ dX12_section_9) (fun H locs hJ => ?_)
    exact j12 σ24  _ _ _ hf hJ (lv_sub hl [0] rfl)
set_option maxHeartbeats 4000000 in
set_option maxRecDepth 100000 in
theorem cM_read {l : Launch} {D : va_G} {cA cB : ClassId} {q : Nat → Nat} {A : Nat → Prop} {E : State → Prop} {N : Nat} {σ σ' : St} {r : Int32} {a1 : Int32} {a2 : Int32} {a3 : Int32} {a4 : Int32} {a5 : Int32} (hF : Fr (wM q cA cB) A E) (hf : fM_read N σ a1 a2 a3 a4 a5 = some (σ', r)) : MI l yX12_read cX12_read 9 .int 50 D (tyM cA cB) (wM q cA cB) A E [.ref (q 0), .int a1, .int a2, .int a3, .int a4, .int a5] σ σ' r := by
  refine MI_of (by decide) hF (Nat.le_of_ble_eq_true rfl) ?_
  intro p e s m args below meth c Q C hret hJ ls hl
  obtain ⟨hx, hb, hml, hown, hts, hK, hE, -⟩ := id C
  have hsb : ∀ z, A z → A z := fun _ h => h
  have j121 : ∀ (σ : St) (a5 : Int32) (a6 : Int32) (a7 : Int32) (a8 : Int32) (H : Heap) (locs : List Loc) (ls : Array Slot), fM_read_j121 N  σ a5 a6 a7 a8 = some (σ', r) → J D (wM q cA cB) A s σ H locs → lv_has ls 9 [(5, .int a5), (6, .int a6), (7, .int a7), (8, .int a8)] → W p l e (rmH 50) s m args below meth c H locs 0 0 Q (F0 m 121 ls []) := by
    intro σ a5 a6 a7 a8 H locs ls hf hJ hl
    unfold fM_read_j121 at hf
    refine lv_iload hx hb dX12_read_121 (lv_at hl 0 rfl) ?_
    refine lv_if_ne (tgt := 131) hx hb dX12_read_123 (by decide) (fun c1 => ?_) (fun c1 => ?_)
    · have hf := ite_f hf c1
      refine lv_iload hx hb dX12_read_131 (lv_at hl 0 rfl) ?_
      refine lv_iconst (v := 1) hx hb dX12_read_133 (by decide) ?_
      refine lv_icmp_ne (tgt := 142) hx hb dX12_read_134 (by decide) (fun c2 => ?_) (fun c2 => ?_)
      · have hf := ite_f hf c2
        refine lv_iload hx hb dX12_read_142 (lv_at hl 3 rfl) ?_
        exact ret_I hret hJ hf rfl dX12_read_144
      · have hf := ite_t hf c2
        refine lv_iload hx hb dX12_read_137 (lv_at hl 2 rfl) ?_
        refine lv_goto (tgt := 144) hx hb dX12_read_139 (by decide) ?_
        exact ret_I hret hJ hf rfl dX12_read_144
    · have hf := ite_t hf c1
      refine lv_iload hx hb dX12_read_126 (lv_at hl 1 rfl) ?_
      refine lv_goto (tgt := 144) hx hb dX12_read_128 (by decide) ?_
      exact ret_I hret hJ hf rfl dX12_read_144
  have j101 : ∀ (σ : St) (a5 : Int32) (a6 : Int32) (a7 : Int32) (t0 : Int32) (H : Heap) (locs : List Loc) (ls : Array Slot), fM_read_j101 N  σ a5 a6 a7 t0 = some (σ', r) → J D (wM q cA cB) A s σ H locs → lv_has ls 9 [(0, .ref (q 0)), (5, .int a5), (6, .int a6), (7, .int a7)] → W p l e (rmH 50) s m args below meth c H locs 0 0 Q (F0 m 101 ls [.int t0]) := by
    intro σ a5 a6 a7 t0 H locs ls hf hJ hl
    unfold fM_read_j101 at hf
    refine lv_istore (lv' := [(8, .int t0), (0, .ref (q 0)), (5, .int a5), (6, .int a6), (7, .int a7)]) hx hb dX12_read_101 hl (by decide) rfl (fun ls hl => ?_)
    refine lv_aload_n hx hb dX12_read_103 rfl (lv_at hl 1 rfl) ?_
    refine gM_0_20 C hJ fl_RX12_206 dX12_read_104 ?_
    refine lv_if_ne (tgt := 121) hx hb dX12_read_107 (by decide) (fun c3 => ?_) (fun c3 => ?_)
    · have hf := ite_f hf c3
      exact j121 σ a5 a6 a7 t0 _ _ _ hf hJ (lv_sub hl [2, 3, 4, 0] rfl)
    · have hf := ite_t hf c3
      refine lv_aload_n hx hb dX12_read_110 rfl (lv_at hl 1 rfl) ?_
      refine gM_0_15 C hJ fl_RX12_183 dX12_read_111 ?_
      refine lv_if_eq (tgt := 121) hx hb dX12_read_114 (by decide) (fun c4 => ?_) (fun c4 => ?_)
      · have hf := ite_t hf c4
        exact j121 σ a5 a6 a7 t0 _ _ _ hf hJ (lv_sub hl [2, 3, 4, 0] rfl)
      · have hf := ite_f hf c4
        refine lv_aload_n hx hb dX12_read_117 rfl (lv_at hl 1 rfl) ?_
        obtain ⟨σ5, r6, hg7, hf⟩ := cal_some hf
        refine backV hsb hJ (runV (As := []) (rest := []) C hJ lk_RX12_216 (cM_fail hF hg7) recM_0 rfl rfl (Nat.le_of_ble_eq_true rfl) hl.1 (hR_of (by omega) (by decide)) ⟨Nat.le_refl _, Nat.le_refl _⟩ dX12_read_118) (fun H locs hJ => ?_)
        exact j121 σ5 a5 a6 a7 t0 _ _ _ hf hJ (lv_sub hl [2, 3, 4, 0] rfl)
  have j81 : ∀ (σ : St) (a5 : Int32) (a6 : Int32) (t0 : Int32) (H : Heap) (locs : List Loc) (ls : Array Slot), fM_read_j81 N  σ a5 a6 t0 = some (σ', r) → J D (wM q cA cB) A s σ H locs → lv_has ls 9 [(0, .ref (q 0)), (5, .int a5), (6, .int a6)] → W p l e (rmH 50) s m args below meth c H locs 0 0 Q (F0 m 81 ls [.int t0]) := by
    intro σ a5 a6 t0 H locs ls hf hJ hl
    unfold fM_read_j81 at hf
    refine lv_istore (lv' := [(7, .int t0), (0, .ref (q 0)), (5, .int a5), (6, .int a6)]) hx hb dX12_read_81 hl (by decide) rfl (fun ls hl => ?_)
    refine lv_aload_n hx hb dX12_read_83 rfl (lv_at hl 1 rfl) ?_
    refine gM_0_20 C hJ fl_RX12_206 dX12_read_84 ?_
    refine lv_if_eq (tgt := 94) hx hb dX12_read_87 (by decide) (fun c8 => ?_) (fun c8 => ?_)
    · have hf := ite_t hf c8
      refine lv_aload_n hx hb dX12_read_94 rfl (lv_at hl 1 rfl) ?_
      refine lv_ldc2 (v := 323728) hx hb hown (hts _ kl_RX12_297) dX12_read_95 ?_
      obtain ⟨σ9, r10, hg11, hf⟩ := cal_some hf
      refine backI hsb hJ (runV (As := [.long (323728 : Int64)]) (rest := []) C hJ lk_RX12_291 (cM_section hF hg11) recM_0 rfl rfl (Nat.le_of_ble_eq_true rfl) hl.1 (hR_of (by omega) (by decide)) ⟨Nat.le_refl _, Nat.le_refl _⟩ dX12_read_98) (fun H locs hJ => ?_)
      exact j101 σ9 a5 a6 t0 r10 _ _ _ hf hJ (lv_sub hl [1, 2, 3, 0] rfl)
    · have hf := ite_f hf c8
      refine lv_iconst (v := 0) hx hb dX12_read_90 (by decide) ?_
      refine lv_goto (tgt := 101) hx hb dX12_read_91 (by decide) ?_
      exact j101 σ a5 a6 t0 (0 : Int32) _ _ _ hf hJ (lv_sub hl [1, 2, 3, 0] rfl)
  have hl : lv_has ls 9 [(0, .ref (q 0)), (1, .int a1), (2, .int a2), (3, .int a3), (4, .int a4), (5, .int a5)] := hl
  unfold fM_read at hf
  refine lv_aload_n hx hb dX12_read_0 rfl (lv_at hl 0 rfl) ?_
  refine lv_iload_n hx hb dX12_read_1 rfl (lv_at hl 2 rfl) ?_
  refine pM_0_22 C hJ fl_RX12_233 dX12_read_2 (fun σ12 H locs hs hJ => ?_)
  have hf := bnd_at hf hs
  refine lv_aload_n hx hb dX12_read_5 rfl (lv_at hl 0 rfl) ?_
  refine lv_iload_n hx hb dX12_read_6 rfl (lv_at hl 3 rfl) ?_
  refine pM_0_23 C hJ fl_RX12_228 dX12_read_7 (fun σ13 H locs hs hJ => ?_)
  have hf := bnd_at hf hs
  refine lv_aload_n hx hb dX12_read_10 rfl (lv_at hl 0 rfl) ?_
  refine lv_iload hx hb dX12_read_11 (lv_at hl 4 rfl) ?_
  refine pM_0_24 C hJ fl_RX12_242 dX12_read_13 (fun σ14 H locs hs hJ => ?_)
  have hf := bnd_at hf hs
  refine lv_aload_n hx hb dX12_read_16 rfl (lv_at hl 0 rfl) ?_
  refine lv_sipush (v := 160) hx hb dX12_read_17 (by decide) ?_
  refine lv_iload_n hx hb dX12_read_20 rfl (lv_at hl 1 rfl) ?_
  refine lv_imul hx hb dX12_read_21 ?_
  refine pM_0_13 C hJ fl_RX12_170 dX12_read_22 (fun σ15 H locs hs hJ => ?_)
  have hf := bnd_at hf hs
  refine lv_aload_n hx hb dX12_read_25 rfl (lv_at hl 0 rfl) ?_
  refine lv_aload_n hx hb dX12_read_26 rfl (lv_at hl 0 rfl) ?_
  refine gM_0_2 C hJ fl_RX12_17 dX12_read_27 ?_
  refine lv_iload_n hx hb dX12_read_30 rfl (lv_at hl 1 rfl) ?_
  obtain ⟨h16, hf⟩ := gi_some hf
  refine aM_2 C hJ h16 dX12_read_31 ?_
  refine pM_0_14 C hJ fl_RX12_167 dX12_read_32 (fun σ17 H locs hs hJ => ?_)
  have hf := bnd_at hf hs
  refine lv_aload_n hx hb dX12_read_35 rfl (lv_at hl 0 rfl) ?_
  refine lv_iconst (v := 0) hx hb dX12_read_36 (by decide) ?_
  refine pM_0_18 C hJ fl_RX12_173 dX12_read_37 (fun σ18 H locs hs hJ => ?_)
  have hf := bnd_at hf hs
  refine lv_aload_n hx hb dX12_read_40 rfl (lv_at hl 0 rfl) ?_
  refine lv_iconst (v := 0) hx hb dX12_read_41 (by decide) ?_
  refine pM_0_19 C hJ fl_RX12_213 dX12_read_42 (fun σ19 H locs hs hJ => ?_)
  have hf := bnd_at hf hs
  refine lv_aload_n hx hb dX12_read_45 rfl (lv_at hl 0 rfl) ?_
  refine lv_iconst (v := 0) hx hb dX12_read_46 (by decide) ?_
  refine pM_0_20 C hJ (by decide) fl_RX12_206 dX12_read_47 (fun σ20 H locs hs hJ => ?_)
  have hf := bnd_at hf hs
  refine lv_aload_n hx hb dX12_read_50 rfl (lv_at hl 0 rfl) ?_
  obtain ⟨σ21, r22, hg23, hf⟩ := cal_some hf
  refine backV hsb hJ (runV (As := []) (rest := []) C hJ lk_RX12_219 (cM_next hF hg23) recM_0 rfl rfl (Nat.le_of_ble_eq_true rfl) hl.1 (hR_of (by omega) (by decide)) ⟨Nat.le_refl _, Nat.le_refl _⟩ dX12_read_51) (fun H locs hJ => ?_)
  refine lv_aload_n hx hb dX12_read_54 rfl (lv_at hl 0 rfl) ?_
  refine lv_ldc2 (v := 1905275) hx hb hown (hts _ kl_RX12_289) dX12_read_55 ?_
  obtain ⟨σ24, r25, hg26, hf⟩ := cal_some hf
  refine backI hsb hJ (runV (As := [.long (1905275 : Int64)]) (rest := []) C hJ lk_RX12_291 (cM_section hF hg26) recM_0 rfl rfl (Nat.le_of_ble_eq_true rfl) hl.1 (hR_of (by omega) (by decide)) ⟨Nat.le_refl _, Nat.le_refl _⟩ dX12_read_58) (fun H locs hJ => ?_)
  refine lv_istore (lv' := [(6, .int r25), (0, .ref (q 0)), (1, .int a1), (2, .int a2), (3, .int a3), (4, .int a4), (5, .int a5)]) hx hb dX12_read_61 hl (by decide) rfl (fun ls hl => ?_)
  refine lv_aload_n hx hb dX12_read_63 rfl (lv_at hl 1 rfl) ?_
  refine gM_0_20 C hJ fl_RX12_206 dX12_read_64 ?_
  refine lv_if_eq (tgt := 74) hx hb dX12_read_67 (by decide) (fun c27 => ?_) (fun c27 => ?_)
  · have hf := ite_t hf c27
    refine lv_aload_n hx hb dX12_read_74 rfl (lv_at hl 1 rfl) ?_
    refine lv_ldc2 (v := 279252) hx hb hown (hts _ kl_RX12_295) dX12_read_75 ?_
    obtain ⟨σ28, r29, hg30, hf⟩ := cal_some hf
    refine backI hsb hJ (runV (As := [.long (279252 : Int64)]) (rest := []) C hJ lk_RX12_291 (cM_section hF hg30) recM_0 rfl rfl (Nat.le_of_ble_eq_true rfl) hl.1 (hR_of (by omega) (by decide)) ⟨Nat.le_refl _, Nat.le_refl _⟩ dX12_read_78) (fun H locs hJ => ?_)
    exact j81 σ28 a5 r25 r29 _ _ _ hf hJ (lv_sub hl [1, 6, 0] rfl)
  · have hf := ite_f hf c27
    refine lv_iconst (v := 0) hx hb dX12_read_70 (by decide) ?_
    refine lv_goto (tgt := 81) hx hb dX12_read_71 (by decide) ?_
    exact j81 σ24 a5 r25 (0 : Int32) _ _ _ hf hJ (lv_sub hl [1, 6, 0] rfl)
