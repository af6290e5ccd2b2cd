set_option maxHeartbeats 4000000 in
set_option maxRecDepth 100000 in
theorem cM_text {l : Launch} {D : va_G} {cA cB : ClassId} {q : Nat → Nat} {A : Nat → Prop} {E : State → Prop} {N : Nat} {σ σ' : St} {r : Int32} (hF : Fr (wM q cA cB) A E) (hf : fM_text N σ  = some (σ', r)) : MI l yX12_text cX12_text 2 .int 51 D (tyM cA cB) (wM q cA cB) A E [.ref (q 0)] σ σ' r := by
  refine MI_of (by decide) hF (Nat.le_of_ble_eq_true rfl) ?_
  intro p e s m args below meth c Q C hret hJ ls hl
  obtain ⟨hx, hb, hml, hown, hts, hK, hE, -⟩ := id C
  have hsb : ∀ z, A z → A z := fun _ h => h
  have j49 : ∀ (σ : St) (H : Heap) (locs : List Loc) (ls : Array Slot), fM_text_j49 N  σ = some (σ', r) → J D (wM q cA cB) A s σ H locs → lv_has ls 2 [(0, .ref (q 0))] → W p l e (rmH 51) s m args below meth c H locs 0 0 Q (F0 m 49 ls []) := by
    intro σ H locs ls hf hJ hl
    unfold fM_text_j49 at hf
    refine lv_aload_n hx hb dX12_text_49 rfl (lv_at hl 0 rfl) ?_
    refine gM_0_2 C hJ fl_RX12_17 dX12_text_50 ?_
    refine lv_aload_n hx hb dX12_text_53 rfl (lv_at hl 0 rfl) ?_
    refine gM_0_3 C hJ fl_RX12_130 dX12_text_54 ?_
    refine lv_aload_n hx hb dX12_text_57 rfl (lv_at hl 0 rfl) ?_
    refine gM_0_6 C hJ fl_RX12_164 dX12_text_58 ?_
    obtain ⟨h1, hf⟩ := gi_some hf
    refine sM_2 C hJ h1 dX12_text_61 (fun σ2 H locs hs hJ => ?_)
    have hf := bnd_at hf hs
    refine lv_aload_n hx hb dX12_text_62 rfl (lv_at hl 0 rfl) ?_
    refine lv_iconst (v := 0) hx hb dX12_text_63 (by decide) ?_
    refine pM_0_6 C hJ fl_RX12_164 dX12_text_64 (fun σ3 H locs hs hJ => ?_)
    have hf := bnd_at hf hs
    refine lv_aload_n hx hb dX12_text_67 rfl (lv_at hl 0 rfl) ?_
    refine lv_aload_n hx hb dX12_text_68 rfl (lv_at hl 0 rfl) ?_
    refine gM_0_3 C hJ fl_RX12_130 dX12_text_69 ?_
    refine lv_iconst (v := 0) hx hb dX12_text_72 (by decide) ?_
    refine lv_iconst (v := 0) hx hb dX12_text_73 (by decide) ?_
    refine lv_iconst (v := 0) hx hb dX12_text_74 (by decide) ?_
    refine lv_iconst (v := 0) hx hb dX12_text_75 (by decide) ?_
    obtain ⟨σ4, r5, hg6, hf⟩ := cal_some hf
    refine backI hsb hJ (runV (As := [.int (σ3.1 1), .int (0 : Int32), .int (0 : Int32), .int (0 : Int32), .int (0 : Int32)]) (rest := []) C hJ lk_RX12_299 (cM_read hF hg6) recM_0 rfl rfl (Nat.le_of_ble_eq_true rfl) hl.1 (hR_of (by omega) (by decide)) ⟨Nat.le_refl _, Nat.le_refl _⟩ dX12_text_76) (fun H locs hJ => ?_)
    refine lv_istore_n (lv' := [(1, .int r5), (0, .ref (q 0))]) hx hb dX12_text_79 rfl hl (by decide) rfl (fun ls hl => ?_)
    refine lv_aload_n hx hb dX12_text_80 rfl (lv_at hl 1 rfl) ?_
    refine gM_0_20 C hJ fl_RX12_206 dX12_text_81 ?_
    refine lv_if_eq (tgt := 95) hx hb dX12_text_84 (by decide) (fun c7 => ?_) (fun c7 => ?_)
    · have hf := ite_t hf c7
      refine lv_aload_n hx hb dX12_text_95 rfl (lv_at hl 1 rfl) ?_
      refine lv_dup hx hb dX12_text_96 rfl ?_
      refine gM_0_3 C hJ fl_RX12_130 dX12_text_97 ?_
      refine lv_iconst (v := 1) hx hb dX12_text_100 (by decide) ?_
      refine lv_iadd hx hb dX12_text_101 ?_
      refine pM_0_3 C hJ fl_RX12_130 dX12_text_102 (fun σ8 H locs hs hJ => ?_)
      have hf := bnd_at hf hs
      refine lv_aload_n hx hb dX12_text_105 rfl (lv_at hl 1 rfl) ?_
      refine gM_0_3 C hJ fl_RX12_130 dX12_text_106 ?_
      refine lv_iconst (v := 1) hx hb dX12_text_109 (by decide) ?_
      refine lv_isub hx hb dX12_text_110 ?_
      exact ret_I hret hJ hf rfl dX12_text_111
    · have hf := ite_f hf c7
      refine lv_bipush (v := -100) hx hb dX12_text_87 (by decide) ?_
      refine lv_aload_n hx hb dX12_text_89 rfl (lv_at hl 1 rfl) ?_
      refine gM_0_21 C hJ fl_RX12_210 dX12_text_90 ?_
      refine lv_isub hx hb dX12_text_93 ?_
      exact ret_I hret hJ hf rfl dX12_text_94
  have l14 : ∀ (n : Nat) (σ : St) (a1 : Int32) (H : Heap) (locs : List Loc) (ls : Array Slot), fM_text_l14 N  n σ a1 = some (σ', r) → J D (wM q cA cB) A s σ H locs → lv_has ls 2 [(0, .ref (q 0)), (1, .int a1)] → W p l e (rmH 51) s m args below meth c H locs 0 0 Q (F0 m 14 ls []) := by
    intro n14
    induction n14 with
    | zero => intro σ a1 H locs ls hf; rw [fM_text_l14] at hf; cases hf
    | succ n14 ih14 =>
      intro σ a1 H locs ls hf hJ hl
      rw [fM_text_l14] at hf
      refine lv_iload_n hx hb dX12_text_14 rfl (lv_at hl 1 rfl) ?_
      refine lv_aload_n hx hb dX12_text_15 rfl (lv_at hl 0 rfl) ?_
      refine gM_0_6 C hJ fl_RX12_164 dX12_text_16 ?_
      refine lv_icmp_ge (tgt := 49) hx hb dX12_text_19 (by decide) (fun c9 => ?_) (fun c9 => ?_)
      · have hf := ite_t hf c9
        exact j49 σ  _ _ _ hf hJ (lv_sub hl [0] rfl)
      · have hf := ite_f hf c9
        refine lv_aload_n hx hb dX12_text_22 rfl (lv_at hl 0 rfl) ?_
        refine gM_0_1 C hJ fl_RX12_13 dX12_text_23 ?_
        refine lv_sipush (v := 160) hx hb dX12_text_26 (by decide) ?_
        refine lv_aload_n hx hb dX12_text_29 rfl (lv_at hl 0 rfl) ?_
        refine gM_0_3 C hJ fl_RX12_130 dX12_text_30 ?_
        refine lv_imul hx hb dX12_text_33 ?_
        refine lv_iload_n hx hb dX12_text_34 rfl (lv_at hl 1 rfl) ?_
        refine lv_iadd hx hb dX12_text_35 ?_
        refine lv_aload_n hx hb dX12_text_36 rfl (lv_at hl 0 rfl) ?_
        refine gM_0_5 C hJ fl_RX12_20 dX12_text_37 ?_
        refine lv_iload_n hx hb dX12_text_40 rfl (lv_at hl 1 rfl) ?_
        obtain ⟨h10, hf⟩ := gi_some hf
        refine aM_3 C hJ h10 dX12_text_41 ?_
        obtain ⟨h11, hf⟩ := gi_some hf
        refine sM_1 C hJ h11 dX12_text_42 (fun σ12 H locs hs hJ => ?_)
        have hf := bnd_at hf hs
        obtain ⟨x13, hx13⟩ : ∃ z : Int32, z = a1 + (1 : Int32) := ⟨_, rfl⟩
        have hf := bnd_at hf hx13
        refine lv_iinc (v := x13) (lv' := [(1, .int x13), (0, .ref (q 0))]) hx hb dX12_text_43 hl (k := 1) rfl (by rw [hx13]; rfl) (by decide) rfl (fun ls hl => ?_)
        refine lv_goto (tgt := 14) hx hb dX12_text_46 (by decide) ?_
        exact ih14 σ12 x13 _ _ _ hf hJ (lv_sub hl [1, 0] rfl)
  have hl : lv_has ls 2 [(0, .ref (q 0))] := hl
  unfold fM_text at hf
  refine lv_aload_n hx hb dX12_text_0 rfl (lv_at hl 0 rfl) ?_
  refine gM_0_3 C hJ fl_RX12_130 dX12_text_1 ?_
  refine lv_bipush (v := 6) hx hb dX12_text_4 (by decide) ?_
  refine lv_icmp_ne (tgt := 12) hx hb dX12_text_6 (by decide) (fun c14 => ?_) (fun c14 => ?_)
  · have hf := ite_f hf c14
    refine lv_iconst (v := 0) hx hb dX12_text_12 (by decide) ?_
    refine lv_istore_n (lv' := [(1, .int (0 : Int32)), (0, .ref (q 0))]) hx hb dX12_text_13 rfl hl (by decide) rfl (fun ls hl => ?_)
    exact l14 N σ (0 : Int32) _ _ _ hf hJ (lv_sub hl [1, 0] rfl)
  · have hf := ite_t hf c14
    refine lv_bipush (v := -4) hx hb dX12_text_9 (by decide) ?_
    exact ret_I hret hJ hf rfl dX12_text_11
set_option maxHeartbeats 4000000 in
set_option maxRecDepth 100000 in
theorem cM_force {l : Launch} {D : va_G} {cA cB : ClassId} {q : Nat → Nat} {A : Nat → Prop} {E : State → Prop} {N : Nat} {σ σ' : St} {r : Int32} {a1 : Int32} (hF : Fr (wM q cA cB) A E) (hf : fM_force N σ a1 = some (σ', r)) : MI l yX12_force cX12_force 3 .int 2 D (tyM cA cB) (wM q cA cB) A E [.ref (q 0), .int a1] σ σ' r := by
  refine MI_of (by decide) hF (Nat.le_of_ble_eq_true rfl) ?_
  intro p e s m args below meth c Q C hret hJ ls hl
  obtain ⟨hx, hb, hml, hown, hts, hK, hE, -⟩ := id C
  have hsb : ∀ z, A z → A z := fun _ h => h
  have hl : lv_has ls 3 [(0, .ref (q 0)), (1, .int a1)] := hl
  unfold fM_force at hf
  refine lv_iload_n hx hb dX12_force_0 rfl (lv_at hl 1 rfl) ?_
  refine lv_i2l (v := a1.toInt64) hx hb dX12_force_1 rfl ?_
  refine lv_lconst (v := 0) hx hb dX12_force_2 (by decide) ?_
  refine lv_aload_n hx hb dX12_force_3 rfl (lv_at hl 0 rfl) ?_
  refine gM_0_3 C hJ fl_RX12_130 dX12_force_4 ?_
  refine lv_iconst (v := 1) hx hb dX12_force_7 (by decide) ?_
  refine lv_isub hx hb dX12_force_8 ?_
  refine lv_i2l (v := ((σ.1 1) - (1 : Int32)).toInt64) hx hb dX12_force_9 rfl ?_
  obtain ⟨σ1, r2, hg3, hf⟩ := cal_some hf
  refine backI hsb hJ (runS (As := [.long a1.toInt64, .long (0 : Int64), .long (((σ.1 1) - (1 : Int32)).toInt64)]) (rest := []) C hJ lk_RX12_138 (cM_in hF hg3) rfl rfl (Nat.le_of_ble_eq_true rfl) hl.1 (hR_of (by omega) (by decide)) ⟨Nat.le_refl _, Nat.le_refl _⟩ dX12_force_10) (fun H locs hJ => ?_)
  refine lv_if_ne (tgt := 19) hx hb dX12_force_13 (by decide) (fun c4 => ?_) (fun c4 => ?_)
  · have hf := ite_f hf c4
    refine lv_aload_n hx hb dX12_force_19 rfl (lv_at hl 0 rfl) ?_
    refine gM_0_4 C hJ fl_RX12_303 dX12_force_20 ?_
    refine lv_topi (fun x5 hx5 => ?_)
    have hf := bnd_at hf hx5
    refine lv_istore_n (lv' := [(2, .int x5), (0, .ref (q 0)), (1, .int a1)]) hx hb dX12_force_23 rfl hl (by decide) rfl (fun ls hl => ?_)
    refine lv_aload_n hx hb dX12_force_24 rfl (lv_at hl 1 rfl) ?_
    refine lv_iload_n hx hb dX12_force_25 rfl (lv_at hl 2 rfl) ?_
    refine pM_0_4 C hJ fl_RX12_303 dX12_force_26 (fun σ6 H locs hs hJ => ?_)
    have hf := bnd_at hf hs
    refine lv_iload_n hx hb dX12_force_29 rfl (lv_at hl 0 rfl) ?_
    exact ret_I hret hJ hf rfl dX12_force_30
  · have hf := ite_t hf c4
    refine lv_bipush (v := -2) hx hb dX12_force_16 (by decide) ?_
    exact ret_I hret hJ hf rfl dX12_force_18
set_option maxHeartbeats 4000000 in
set_option maxRecDepth 100000 in
theorem cM_isTick {l : Launch} {D : va_G} {cA cB : ClassId} {q : Nat → Nat} {A : Nat → Prop} {E : State → Prop} {N : Nat} {σ σ' : St} {r : Int32} {a0 : Int32} (hF : Fr (wM q cA cB) A E) (hf : fM_isTick N σ a0 = some (σ', r)) : MI l yX12_isTick cX12_isTick 1 .boolean 2 D (tyM cA cB) (wM q cA cB) A E [.int a0] σ σ' r := by
  refine MI_of (by decide) hF (Nat.le_of_ble_eq_true rfl) ?_
  intro p e s m args below meth c Q C hret hJ ls hl
  obtain ⟨hx, hb, hml, hown, hts, hK, hE, -⟩ := id C
  have hsb : ∀ z, A z → A z := fun _ h => h
  have hl : lv_has ls 1 [(0, .int a0)] := hl
  unfold fM_isTick at hf
  refine lv_iload_n hx hb dX12_isTick_0 rfl (lv_at hl 0 rfl) ?_
  refine lv_i2l (v := a0.toInt64) hx hb dX12_isTick_1 rfl ?_
  refine lv_lconst (v := 0) hx hb dX12_isTick_2 (by decide) ?_
  refine lv_ldc2 (v := 200) hx hb hown (hts _ kl_RX12_142) dX12_isTick_3 ?_
  obtain ⟨σ1, r2, hg3, hf⟩ := cal_some hf
  refine backI hsb hJ (runS (As := [.long a0.toInt64, .long (0 : Int64), .long (200 : Int64)]) (rest := []) C hJ lk_RX12_138 (cM_in hF hg3) rfl rfl (Nat.le_of_ble_eq_true rfl) hl.1 (hR_of (by omega) (by decide)) ⟨Nat.le_refl _, Nat.le_refl _⟩ dX12_isTick_6) (fun H locs hJ => ?_)
  obtain ⟨h4, hf⟩ := gd_some hf
  exact ret_I hret hJ hf (nar_z h4) dX12_isTick_9
set_option maxHeartbeats 4000000 in
set_option maxRecDepth 100000 in
theorem cM_says {l : Launch} {D : va_G} {cA cB : ClassId} {q : Nat → Nat} {A : Nat → Prop} {E : State → Prop} {N : Nat} {σ σ' : St} {r : Int64} {a1 : Int32} {a2 : Int32} {a3 : Int32} {a4 : Int32} (hF : Fr (wM q cA cB) A E) (hf : fM_says N σ a1 a2 a3 a4 = some (σ', r)) : ML l yX12_says cX12_says 5 .long 51 D (tyM cA cB) (wM q cA cB) A E [.ref (q 0), .int a1, .int a2, .int a3, .int a4] σ σ' r := by
  refine ML_of (by decide) hF (Nat.le_of_ble_eq_true rfl) ?_
  intro p e s m args below meth c Q C hret hJ ls hl
  obtain ⟨hx, hb, hml, hown, hts, hK, hE, -⟩ := id C
  have hsb : ∀ z, A z → A z := fun _ h => h
  have hl : lv_has ls 5 [(0, .ref (q 0)), (1, .int a1), (2, .int a2), (3, .int a3), (4, .int a4)] := hl
  unfold fM_says at hf
  refine lv_aload_n hx hb dX12_says_0 rfl (lv_at hl 0 rfl) ?_
  refine lv_iload_n hx hb dX12_says_1 rfl (lv_at hl 1 rfl) ?_
  obtain ⟨σ1, r2, hg3, hf⟩ := cal_some hf
  refine backI hsb hJ (runV (As := [.int a1]) (rest := []) C hJ lk_RX12_154 (cM_isMan hF hg3) recM_0 rfl rfl (Nat.le_of_ble_eq_true rfl) hl.1 (hR_of (by omega) (by decide)) ⟨Nat.le_refl _, Nat.le_refl _⟩ dX12_says_2) (fun H locs hJ => ?_)
  refine lv_if_eq (tgt := 57) hx hb dX12_says_5 (by decide) (fun c4 => ?_) (fun c4 => ?_)
  · have hf := ite_t hf c4
    refine lv_ldc2 (v := -4611686018427387904) hx hb hown (hts _ kl_RX12_311) dX12_says_57 ?_
    exact ret_L hret hJ hf dX12_says_60
  · have hf := ite_f hf c4
    refine lv_iload_n hx hb dX12_says_8 rfl (lv_at hl 2 rfl) ?_
    refine lv_i2l (v := a2.toInt64) hx hb dX12_says_9 rfl ?_
    refine lv_lconst (v := 0) hx hb dX12_says_10 (by decide) ?_
    refine lv_ldc2 (v := 3) hx hb hown (hts _ kl_RX12_146) dX12_says_11 ?_
    obtain ⟨σ5, r6, hg7, hf⟩ := cal_some hf
    refine backI hsb hJ (runS (As := [.long a2.toInt64, .long (0 : Int64), .long (3 : Int64)]) (rest := []) C hJ lk_RX12_138 (cM_in hF hg7) rfl rfl (Nat.le_of_ble_eq_true rfl) hl.1 (hR_of (by omega) (by decide)) ⟨Nat.le_refl _, Nat.le_refl _⟩ dX12_says_14) (fun H locs hJ => ?_)
    refine lv_if_eq (tgt := 57) hx hb dX12_says_17 (by decide) (fun c8 => ?_) (fun c8 => ?_)
    · have hf := ite_t hf c8
      refine lv_ldc2 (v := -4611686018427387904) hx hb hown (hts _ kl_RX12_311) dX12_says_57 ?_
      exact ret_L hret hJ hf dX12_says_60
    · have hf := ite_f hf c8
      refine lv_iload_n hx hb dX12_says_20 rfl (lv_at hl 3 rfl) ?_
      obtain ⟨σ9, r10, hg11, hf⟩ := cal_some hf
      refine backI hsb hJ (runS (As := [.int a3]) (rest := []) C hJ lk_RX12_306 (cM_isTick hF hg11) rfl rfl (Nat.le_of_ble_eq_true rfl) hl.1 (hR_of (by omega) (by decide)) ⟨Nat.le_refl _, Nat.le_refl _⟩ dX12_says_21) (fun H locs hJ => ?_)
      refine lv_if_eq (tgt := 57) hx hb dX12_says_24 (by decide) (fun c12 => ?_) (fun c12 => ?_)
      · have hf := ite_t hf c12
        refine lv_ldc2 (v := -4611686018427387904) hx hb hown (hts _ kl_RX12_311) dX12_says_57 ?_
        exact ret_L hret hJ hf dX12_says_60
      · have hf := ite_f hf c12
        refine lv_iload hx hb dX12_says_27 (lv_at hl 4 rfl) ?_
        refine lv_i2l (v := a4.toInt64) hx hb dX12_says_29 rfl ?_
        refine lv_lconst (v := 0) hx hb dX12_says_30 (by decide) ?_
        refine lv_ldc2 (v := 2) hx hb hown (hts _ kl_RX12_309) dX12_says_31 ?_
        obtain ⟨σ13, r14, hg15, hf⟩ := cal_some hf
        refine backI hsb hJ (runS (As := [.long a4.toInt64, .long (0 : Int64), .long (2 : Int64)]) (rest := []) C hJ lk_RX12_138 (cM_in hF hg15) rfl rfl (Nat.le_of_ble_eq_true rfl) hl.1 (hR_of (by omega) (by decide)) ⟨Nat.le_refl _, Nat.le_refl _⟩ dX12_says_34) (fun H locs hJ => ?_)
        refine lv_if_eq (tgt := 57) hx hb dX12_says_37 (by decide) (fun c16 => ?_) (fun c16 => ?_)
        · have hf := ite_t hf c16
          refine lv_ldc2 (v := -4611686018427387904) hx hb hown (hts _ kl_RX12_311) dX12_says_57 ?_
          exact ret_L hret hJ hf dX12_says_60
        · have hf := ite_f hf c16
          refine lv_aload_n hx hb dX12_says_40 rfl (lv_at hl 0 rfl) ?_
          refine lv_aload_n hx hb dX12_says_41 rfl (lv_at hl 0 rfl) ?_
          refine gM_0_4 C hJ fl_RX12_303 dX12_says_42 ?_
          refine lv_iload_n hx hb dX12_says_45 rfl (lv_at hl 1 rfl) ?_
          refine lv_iload_n hx hb dX12_says_46 rfl (lv_at hl 2 rfl) ?_
          refine lv_iload_n hx hb dX12_says_47 rfl (lv_at hl 3 rfl) ?_
          refine lv_iload hx hb dX12_says_48 (lv_at hl 4 rfl) ?_
          obtain ⟨σ17, r18, hg19, hf⟩ := cal_some hf
          refine backI hsb hJ (runV (As := [.int (σ13.1 2), .int a1, .int a2, .int a3, .int a4]) (rest := []) C hJ lk_RX12_299 (cM_read hF hg19) recM_0 rfl rfl (Nat.le_of_ble_eq_true rfl) hl.1 (hR_of (by omega) (by decide)) ⟨Nat.le_refl _, Nat.le_refl _⟩ dX12_says_50) (fun H locs hJ => ?_)
          refine lv_i2l (v := r18.toInt64) hx hb dX12_says_53 rfl ?_
          refine lv_goto (tgt := 60) hx hb dX12_says_54 (by decide) ?_
          exact ret_L hret hJ hf dX12_says_60
set_option maxHeartbeats 4000000 in
set_option maxRecDepth 100000 in
theorem cM_isWidth {l : Launch} {D : va_G} {cA cB : ClassId} {q : Nat → Nat} {A : Nat → Prop} {E : State → Prop} {N : Nat} {σ σ' : St} {r : Int32} {a0 : Int32} (hF : Fr (wM q cA cB) A E) (hf : fM_isWidth N σ a0 = some (σ', r)) : MI l yX12_isWidth cX12_isWidth 1 .boolean 2 D (tyM cA cB) (wM q cA cB) A E [.int a0] σ σ' r := by
  refine MI_of (by decide) hF (Nat.le_of_ble_eq_true rfl) ?_
  intro p e s m args below meth c Q C hret hJ ls hl
  obtain ⟨hx, hb, hml, hown, hts, hK, hE, -⟩ := id C
  have hsb : ∀ z, A z → A z := fun _ h => h
  have hl : lv_has ls 1 [(0, .int a0)] := hl
  unfold fM_isWidth at hf
  refine lv_iload_n hx hb dX12_isWidth_0 rfl (lv_at hl 0 rfl) ?_
  refine lv_i2l (v := a0.toInt64) hx hb dX12_isWidth_1 rfl ?_
  refine lv_lconst (v := 0) hx hb dX12_isWidth_2 (by decide) ?_
  refine lv_ldc2 (v := 999) hx hb hown (hts _ kl_RX12_144) dX12_isWidth_3 ?_
  obtain ⟨σ1, r2, hg3, hf⟩ := cal_some hf
  refine backI hsb hJ (runS (As := [.long a0.toInt64, .long (0 : Int64), .long (999 : Int64)]) (rest := []) C hJ lk_RX12_138 (cM_in hF hg3) rfl rfl (Nat.le_of_ble_eq_true rfl) hl.1 (hR_of (by omega) (by decide)) ⟨Nat.le_refl _, Nat.le_refl _⟩ dX12_isWidth_6) (fun H locs hJ => ?_)
  obtain ⟨h4, hf⟩ := gd_some hf
  exact ret_I hret hJ hf (nar_z h4) dX12_isWidth_9
set_option maxHeartbeats 4000000 in
set_option maxRecDepth 100000 in
theorem cM_width {l : Launch} {D : va_G} {cA cB : ClassId} {q : Nat → Nat} {A : Nat → Prop} {E : State → Prop} {N : Nat} {σ σ' : St} {r : Int32} {a1 : Int32} (hF : Fr (wM q cA cB) A E) (hf : fM_width N σ a1 = some (σ', r)) : MI l yX12_width cX12_width 3 .int 3 D (tyM cA cB) (wM q cA cB) A E [.ref (q 0), .int a1] σ σ' r := by
  refine MI_of (by decide) hF (Nat.le_of_ble_eq_true rfl) ?_
  intro p e s m args below meth c Q C hret hJ ls hl
  obtain ⟨hx, hb, hml, hown, hts, hK, hE, -⟩ := id C
  have hsb : ∀ z, A z → A z := fun _ h => h
  have hl : lv_has ls 3 [(0, .ref (q 0)), (1, .int a1)] := hl
  unfold fM_width at hf
  refine lv_iload_n hx hb dX12_width_0 rfl (lv_at hl 1 rfl) ?_
  obtain ⟨σ1, r2, hg3, hf⟩ := cal_some hf
  refine backI hsb hJ (runS (As := [.int a1]) (rest := []) C hJ lk_RX12_313 (cM_isWidth hF hg3) rfl rfl (Nat.le_of_ble_eq_true rfl) hl.1 (hR_of (by omega) (by decide)) ⟨Nat.le_refl _, Nat.le_refl _⟩ dX12_width_1) (fun H locs hJ => ?_)
  refine lv_if_ne (tgt := 10) hx hb dX12_width_4 (by decide) (fun c4 => ?_) (fun c4 => ?_)
  · have hf := ite_f hf c4
    refine lv_aload_n hx hb dX12_width_10 rfl (lv_at hl 0 rfl) ?_
    refine gM_0_12 C hJ fl_RX12_247 dX12_width_11 ?_
    refine lv_topi (fun x5 hx5 => ?_)
    have hf := bnd_at hf hx5
    refine lv_istore_n (lv' := [(2, .int x5), (0, .ref (q 0)), (1, .int a1)]) hx hb dX12_width_14 rfl hl (by decide) rfl (fun ls hl => ?_)
    refine lv_aload_n hx hb dX12_width_15 rfl (lv_at hl 1 rfl) ?_
    refine lv_iload_n hx hb dX12_width_16 rfl (lv_at hl 2 rfl) ?_
    refine pM_0_12 C hJ fl_RX12_247 dX12_width_17 (fun σ6 H locs hs hJ => ?_)
    have hf := bnd_at hf hs
    refine lv_iload_n hx hb dX12_width_20 rfl (lv_at hl 0 rfl) ?_
    exact ret_I hret hJ hf rfl dX12_width_21
  · have hf := ite_t hf c4
    refine lv_bipush (v := -2) hx hb dX12_width_7 (by decide) ?_
    exact ret_I hret hJ hf rfl dX12_width_9
set_option maxHeartbeats 4000000 in
set_option maxRecDepth 100000 in
theorem cM_whereOf {l : Launch} {D : va_G} {cA cB : ClassId} {q : Nat → Nat} {A : Nat → Prop} {E : State → Prop} {N : Nat} {σ σ' : St} {r : Int32} {a1 : Int32} {a2 : Int32} (hF : Fr (wM q cA cB) A E) (hf : fM_whereOf N σ a1 a2 = some (σ', r)) : MI l yX12_whereOf cX12_whereOf 3 .int 1 D (tyM cA cB) (wM q cA cB) A E [.ref (q 0), .int a1, .int a2] σ σ' r := by
  refine MI_of (by decide) hF (Nat.le_of_ble_eq_true rfl) ?_
  intro p e s m args below meth c Q C hret hJ ls hl
  obtain ⟨hx, hb, hml, hown, hts, hK, hE, -⟩ := id C
  have hsb : ∀ z, A z → A z := fun _ h => h
  have j34 : ∀ (σ : St) (a1 : Int32) (a2 : Int32) (t0 : Int32) (t1 : Int32) (H : Heap) (locs : List Loc) (ls : Array Slot), fM_whereOf_j34 N  σ a1 a2 t0 t1 = some (σ', r) → J D (wM q cA cB) A s σ H locs → lv_has ls 3 [(0, .ref (q 0)), (1, .int a1), (2, .int a2)] → W p l e (rmH 1) s m args below meth c H locs 0 0 Q (F0 m 34 ls [.int t1, .int t0]) := by
    intro σ a1 a2 t0 t1 H locs ls hf hJ hl
    unfold fM_whereOf_j34 at hf
    refine lv_isub hx hb dX12_whereOf_34 ?_
    refine lv_iload_n hx hb dX12_whereOf_35 rfl (lv_at hl 2 rfl) ?_
    refine lv_aload_n hx hb dX12_whereOf_36 rfl (lv_at hl 0 rfl) ?_
    refine gM_0_9 C hJ fl_RX12_29 dX12_whereOf_37 ?_
    refine lv_iload_n hx hb dX12_whereOf_40 rfl (lv_at hl 1 rfl) ?_
    obtain ⟨h1, hf⟩ := gi_some hf
    refine aM_6 C hJ h1 dX12_whereOf_41 ?_
    refine lv_imul hx hb dX12_whereOf_42 ?_
    refine lv_iadd hx hb dX12_whereOf_43 ?_
    exact ret_I hret hJ hf rfl dX12_whereOf_44
  have j33 : ∀ (σ : St) (a1 : Int32) (a2 : Int32) (t0 : Int32) (H : Heap) (locs : List Loc) (ls : Array Slot), fM_whereOf_j33 N  σ a1 a2 t0 = some (σ', r) → J D (wM q cA cB) A s σ H locs → lv_has ls 3 [(0, .ref (q 0)), (1, .int a1), (2, .int a2)] → W p l e (rmH 1) s m args below meth c H locs 0 0 Q (F0 m 33 ls [.int t0]) := by
    intro σ a1 a2 t0 H locs ls hf hJ hl
    unfold fM_whereOf_j33 at hf
    refine lv_iconst (v := 0) hx hb dX12_whereOf_33 (by decide) ?_
    exact j34 σ a1 a2 t0 (0 : Int32) _ _ _ hf hJ (lv_sub hl [0, 1, 2] rfl)
  have hl : lv_has ls 3 [(0, .ref (q 0)), (1, .int a1), (2, .int a2)] := hl
  unfold fM_whereOf at hf
  refine lv_aload_n hx hb dX12_whereOf_0 rfl (lv_at hl 0 rfl) ?_
  refine gM_0_8 C hJ fl_RX12_26 dX12_whereOf_1 ?_
  refine lv_iload_n hx hb dX12_whereOf_4 rfl (lv_at hl 1 rfl) ?_
  obtain ⟨h2, hf⟩ := gi_some hf
  refine aM_5 C hJ h2 dX12_whereOf_5 ?_
  refine lv_aload_n hx hb dX12_whereOf_6 rfl (lv_at hl 0 rfl) ?_
  refine gM_0_26 C hJ fl_RX12_316 dX12_whereOf_7 ?_
  refine lv_if_eq (tgt := 33) hx hb dX12_whereOf_10 (by decide) (fun c3 => ?_) (fun c3 => ?_)
  · have hf := ite_t hf c3
    exact j33 σ a1 a2 (σ.2.1 5 a1.toNatClampNeg) _ _ _ hf hJ (lv_sub hl [0, 1, 2] rfl)
  · have hf := ite_f hf c3
    refine lv_aload_n hx hb dX12_whereOf_13 rfl (lv_at hl 0 rfl) ?_
    refine gM_0_7 C hJ fl_RX12_23 dX12_whereOf_14 ?_
    refine lv_iload_n hx hb dX12_whereOf_17 rfl (lv_at hl 1 rfl) ?_
    obtain ⟨h4, hf⟩ := gi_some hf
    refine aM_4 C hJ h4 dX12_whereOf_18 ?_
    refine lv_aload_n hx hb dX12_whereOf_19 rfl (lv_at hl 0 rfl) ?_
    refine gM_0_25 C hJ fl_RX12_319 dX12_whereOf_20 ?_
    refine lv_icmp_ne (tgt := 33) hx hb dX12_whereOf_23 (by decide) (fun c5 => ?_) (fun c5 => ?_)
    · have hf := ite_f hf c5
      exact j33 σ a1 a2 (σ.2.1 5 a1.toNatClampNeg) _ _ _ hf hJ (lv_sub hl [0, 1, 2] rfl)
    · have hf := ite_t hf c5
      refine lv_aload_n hx hb dX12_whereOf_26 rfl (lv_at hl 0 rfl) ?_
      refine gM_0_26 C hJ fl_RX12_316 dX12_whereOf_27 ?_
      refine lv_goto (tgt := 34) hx hb dX12_whereOf_30 (by decide) ?_
      exact j34 σ a1 a2 (σ.2.1 5 a1.toNatClampNeg) (σ.1 19) _ _ _ hf hJ (lv_sub hl [0, 1, 2] rfl)
set_option maxHeartbeats 4000000 in
set_option maxRecDepth 100000 in
theorem cM_foremost {l : Launch} {D : va_G} {cA cB : ClassId} {q : Nat → Nat} {A : Nat → Prop} {E : State → Prop} {N : Nat} {σ σ' : St} {r : Int32} {a1 : Int32} {a2 : Int32} (hF : Fr (wM q cA cB) A E) (hf : fM_foremost N σ a1 a2 = some (σ', r)) : MI l yX12_foremost cX12_foremost 5 .int 51 D (tyM cA cB) (wM q cA cB) A E [.ref (q 0), .int a1, .int a2] σ σ' r := by
  refine MI_of (by decide) hF (Nat.le_of_ble_eq_true rfl) ?_
  intro p e s m args below meth c Q C hret hJ ls hl
  obtain ⟨hx, hb, hml, hown, hts, hK, hE, -⟩ := id C
  have hsb : ∀ z, A z → A z := fun _ h => h
  have l10 : ∀ (n : Nat) (σ : St) (a1 : Int32) (a2 : Int32) (a3 : Int32) (a4 : Int32) (H : Heap) (locs : List Loc) (ls : Array Slot), fM_foremost_l10 N  n σ a1 a2 a3 a4 = some (σ', r) → J D (wM q cA cB) A s σ H locs → lv_has ls 5 [(0, .ref (q 0)), (1, .int a1), (2, .int a2), (3, .int a3), (4, .int a4)] → W p l e (rmH 51) s m args below meth c H locs 0 0 Q (F0 m 10 ls []) := by
    intro n10
    induction n10 with
    | zero => intro σ a1 a2 a3 a4 H locs ls hf; rw [fM_foremost_l10] at hf; cases hf
    | succ n10 ih10 =>
      have j74 : ∀ (σ : St) (a1 : Int32) (a2 : Int32) (a3 : Int32) (a4 : Int32) (H : Heap) (locs : List Loc) (ls : Array Slot), fM_foremost_j74 N (fM_foremost_l10 N  n10) σ a1 a2 a3 a4 = some (σ', r) → J D (wM q cA cB) A s σ H locs → lv_has ls 5 [(0, .ref (q 0)), (1, .int a1), (2, .int a2), (3, .int a3), (4, .int a4)] → W p l e (rmH 51) s m args below meth c H locs 0 0 Q (F0 m 74 ls []) := by
        intro σ a1 a2 a3 a4 H locs ls hf hJ hl
        unfold fM_foremost_j74 at hf
        obtain ⟨x1, hx1⟩ : ∃ z : Int32, z = a4 + (1 : Int32) := ⟨_, rfl⟩
        have hf := bnd_at hf hx1
        refine lv_iinc (v := x1) (lv' := [(4, .int x1), (0, .ref (q 0)), (1, .int a1), (2, .int a2), (3, .int a3)]) hx hb dX12_foremost_74 hl (k := 4) rfl (by rw [hx1]; rfl) (by decide) rfl (fun ls hl => ?_)
        refine lv_goto (tgt := 10) hx hb dX12_foremost_77 (by decide) ?_
        exact ih10 σ a1 a2 a3 x1 _ _ _ hf hJ (lv_sub hl [1, 2, 3, 4, 0] rfl)
      have j69 : ∀ (σ : St) (a1 : Int32) (a2 : Int32) (a3 : Int32) (a4 : Int32) (H : Heap) (locs : List Loc) (ls : Array Slot), fM_foremost_j69 N (fM_foremost_l10 N  n10) σ a1 a2 a3 a4 = some (σ', r) → J D (wM q cA cB) A s σ H locs → lv_has ls 5 [(0, .ref (q 0)), (1, .int a1), (2, .int a2), (3, .int a3), (4, .int a4)] → W p l e (rmH 51) s m args below meth c H locs 0 0 Q (F0 m 69 ls []) := by
        intro σ a1 a2 a3 a4 H locs ls hf hJ hl
        unfold fM_foremost_j69 at hf
        refine lv_aload_n hx hb dX12_foremost_69 rfl (lv_at hl 0 rfl) ?_
        refine lv_iconst (v := 1) hx hb dX12_foremost_70 (by decide) ?_
        refine pM_0_27 C hJ (by decide) fl_RX12_322 dX12_foremost_71 (fun σ2 H locs hs hJ => ?_)
        have hf := bnd_at hf hs
        exact j74 σ2 a1 a2 a3 a4 _ _ _ hf hJ (lv_sub hl [0, 1, 2, 3, 4] rfl)
      have j66 : ∀ (σ : St) (a1 : Int32) (a2 : Int32) (a4 : Int32) (H : Heap) (locs : List Loc) (ls : Array Slot), fM_foremost_j66 N (fM_foremost_l10 N  n10) σ a1 a2 a4 = some (σ', r) → J D (wM q cA cB) A s σ H locs → lv_has ls 5 [(0, .ref (q 0)), (1, .int a1), (2, .int a2), (4, .int a4)] → W p l e (rmH 51) s m args below meth c H locs 0 0 Q (F0 m 66 ls []) := by
        intro σ a1 a2 a4 H locs ls hf hJ hl
        unfold fM_foremost_j66 at hf
        refine lv_iload hx hb dX12_foremost_66 (lv_at hl 3 rfl) ?_
        refine lv_istore_n (lv' := [(3, .int a4), (0, .ref (q 0)), (1, .int a1), (2, .int a2), (4, .int a4)]) hx hb dX12_foremost_68 rfl hl (by decide) rfl (fun ls hl => ?_)
        exact j69 σ a1 a2 a4 a4 _ _ _ hf hJ (lv_sub hl [1, 2, 3, 0, 4] rfl)
      intro σ a1 a2 a3 a4 H locs ls hf hJ hl
      rw [fM_foremost_l10] at hf
      refine lv_iload hx hb dX12_foremost_10 (lv_at hl 4 rfl) ?_
      refine lv_iconst (v := 4) hx hb dX12_foremost_12 (by decide) ?_
      refine lv_icmp_ge (tgt := 80) hx hb dX12_foremost_13 (by decide) (fun c3 => ?_) (fun c3 => ?_)
      · have hf := ite_t hf c3
        refine lv_iload_n hx hb dX12_foremost_80 rfl (lv_at hl 3 rfl) ?_
        exact ret_I hret hJ hf rfl dX12_foremost_81
      · have hf := ite_f hf c3
        refine lv_aload_n hx hb dX12_foremost_16 rfl (lv_at hl 0 rfl) ?_
        refine lv_aload_n hx hb dX12_foremost_17 rfl (lv_at hl 0 rfl) ?_
        refine gM_0_4 C hJ fl_RX12_303 dX12_foremost_18 ?_
        refine lv_iload_n hx hb dX12_foremost_21 rfl (lv_at hl 1 rfl) ?_
        refine lv_iload hx hb dX12_foremost_22 (lv_at hl 4 rfl) ?_
        refine lv_iload_n hx hb dX12_foremost_24 rfl (lv_at hl 2 rfl) ?_
        refine lv_iconst (v := 0) hx hb dX12_foremost_25 (by decide) ?_
        obtain ⟨σ4, r5, hg6, hf⟩ := cal_some hf
        refine backI hsb hJ (runV (As := [.int (σ.1 2), .int a1, .int a4, .int a2, .int (0 : Int32)]) (rest := []) C hJ lk_RX12_299 (cM_read hF hg6) recM_0 rfl rfl (Nat.le_of_ble_eq_true rfl) hl.1 (hR_of (by omega) (by decide)) ⟨Nat.le_refl _, Nat.le_refl _⟩ dX12_foremost_26) (fun H locs hJ => ?_)
        refine lv_if_ne (tgt := 35) hx hb dX12_foremost_29 (by decide) (fun c7 => ?_) (fun c7 => ?_)
        · have hf := ite_f hf c7
          refine lv_aload_n hx hb dX12_foremost_35 rfl (lv_at hl 0 rfl) ?_
          refine gM_0_27 C hJ fl_RX12_322 dX12_foremost_36 ?_
          refine lv_if_eq (tgt := 66) hx hb dX12_foremost_39 (by decide) (fun c8 => ?_) (fun c8 => ?_)
          · have hf := ite_t hf c8
            exact j66 σ4 a1 a2 a4 _ _ _ hf hJ (lv_sub hl [0, 1, 2, 4] rfl)
          · have hf := ite_f hf c8
            refine lv_aload_n hx hb dX12_foremost_42 rfl (lv_at hl 0 rfl) ?_
            refine gM_0_10 C hJ fl_RX12_32 dX12_foremost_43 ?_
            refine lv_iconst (v := 4) hx hb dX12_foremost_46 (by decide) ?_
            refine lv_iload_n hx hb dX12_foremost_47 rfl (lv_at hl 1 rfl) ?_
            refine lv_imul hx hb dX12_foremost_48 ?_
            refine lv_iload hx hb dX12_foremost_49 (lv_at hl 4 rfl) ?_
            refine lv_iadd hx hb dX12_foremost_51 ?_
            obtain ⟨h9, hf⟩ := gi_some hf
            refine aM_7 C hJ h9 dX12_foremost_52 ?_
            refine lv_aload_n hx hb dX12_foremost_53 rfl (lv_at hl 0 rfl) ?_
            refine gM_0_10 C hJ fl_RX12_32 dX12_foremost_54 ?_
            refine lv_iconst (v := 4) hx hb dX12_foremost_57 (by decide) ?_
            refine lv_iload_n hx hb dX12_foremost_58 rfl (lv_at hl 1 rfl) ?_
            refine lv_imul hx hb dX12_foremost_59 ?_
            refine lv_iload_n hx hb dX12_foremost_60 rfl (lv_at hl 3 rfl) ?_
            refine lv_iadd hx hb dX12_foremost_61 ?_
            obtain ⟨h10, hf⟩ := gi_some hf
            refine aM_7 C hJ h10 dX12_foremost_62 ?_
            refine lv_icmp_le (tgt := 69) hx hb dX12_foremost_63 (by decide) (fun c11 => ?_) (fun c11 => ?_)
            · have hf := ite_t hf c11
              exact j69 σ4 a1 a2 a3 a4 _ _ _ hf hJ (lv_sub hl [0, 1, 2, 3, 4] rfl)
            · have hf := ite_f hf c11
              exact j66 σ4 a1 a2 a4 _ _ _ hf hJ (lv_sub hl [0, 1, 2, 4] rfl)
        · have hf := ite_t hf c7
          refine lv_goto (tgt := 74) hx hb dX12_foremost_32 (by decide) ?_
          exact j74 σ4 a1 a2 a3 a4 _ _ _ hf hJ (lv_sub hl [0, 1, 2, 3, 4] rfl)
  have hl : lv_has ls 5 [(0, .ref (q 0)), (1, .int a1), (2, .int a2)] := hl
  unfold fM_foremost at hf
  refine lv_iconst (v := 3) hx hb dX12_foremost_0 (by decide) ?_
  refine lv_istore_n (lv' := [(3, .int (3 : Int32)), (0, .ref (q 0)), (1, .int a1), (2, .int a2)]) hx hb dX12_foremost_1 rfl hl (by decide) rfl (fun ls hl => ?_)
  refine lv_aload_n hx hb dX12_foremost_2 rfl (lv_at hl 1 rfl) ?_
  refine lv_iconst (v := 0) hx hb dX12_foremost_3 (by decide) ?_
  refine pM_0_27 C hJ (by decide) fl_RX12_322 dX12_foremost_4 (fun σ12 H locs hs hJ => ?_)
  have hf := bnd_at hf hs
  refine lv_iconst (v := 0) hx hb dX12_foremost_7 (by decide) ?_
  refine lv_istore (lv' := [(4, .int (0 : Int32)), (3, .int (3 : Int32)), (0, .ref (q 0)), (1, .int a1), (2, .int a2)]) hx hb dX12_foremost_8 hl (by decide) rfl (fun ls hl => ?_)
  exact l10 N σ12 a1 a2 (3 : Int32) (0 : Int32) _ _ _ hf hJ (lv_sub hl [2, 3, 4, 1, 0] rfl)
set_option maxHeartbeats 4000000 in
set_option maxRecDepth 100000 in
theorem cM_frontOf {l : Launch} {D : va_G} {cA cB : ClassId} {q : Nat → Nat} {A : Nat → Prop} {E : State → Prop} {N : Nat} {σ σ' : St} {r : Int32} {a1 : Int32} {a2 : Int32} (hF : Fr (wM q cA cB) A E) (hf : fM_frontOf N σ a1 a2 = some (σ', r)) : MI l yX12_frontOf cX12_frontOf 4 .int 52 D (tyM cA cB) (wM q cA cB) A E [.ref (q 0), .int a1, .int a2] σ σ' r := by
  refine MI_of (by decide) hF (Nat.le_of_ble_eq_true rfl) ?_
  intro p e s m args below meth c Q C hret hJ ls hl
  obtain ⟨hx, hb, hml, hown, hts, hK, hE, -⟩ := id C
  have hsb : ∀ z, A z → A z := fun _ h => h
  have hl : lv_has ls 4 [(0, .ref (q 0)), (1, .int a1), (2, .int a2)] := hl
  unfold fM_frontOf at hf
  refine lv_aload_n hx hb dX12_frontOf_0 rfl (lv_at hl 0 rfl) ?_
  refine lv_iload_n hx hb dX12_frontOf_1 rfl (lv_at hl 1 rfl) ?_
  refine lv_iload_n hx hb dX12_frontOf_2 rfl (lv_at hl 2 rfl) ?_
  obtain ⟨σ1, r2, hg3, hf⟩ := cal_some hf
  refine backI hsb hJ (runV (As := [.int a1, .int a2]) (rest := []) C hJ lk_RX12_325 (cM_foremost hF hg3) recM_0 rfl rfl (Nat.le_of_ble_eq_true rfl) hl.1 (hR_of (by omega) (by decide)) ⟨Nat.le_refl _, Nat.le_refl _⟩ dX12_frontOf_3) (fun H locs hJ => ?_)
  refine lv_istore_n (lv' := [(3, .int r2), (0, .ref (q 0)), (1, .int a1), (2, .int a2)]) hx hb dX12_frontOf_6 rfl hl (by decide) rfl (fun ls hl => ?_)
  refine lv_aload_n hx hb dX12_frontOf_7 rfl (lv_at hl 1 rfl) ?_
  refine lv_iload_n hx hb dX12_frontOf_8 rfl (lv_at hl 2 rfl) ?_
  refine lv_iload_n hx hb dX12_frontOf_9 rfl (lv_at hl 3 rfl) ?_
  obtain ⟨σ4, r5, hg6, hf⟩ := cal_some hf
  refine backI hsb hJ (runV (As := [.int a1, .int a2]) (rest := []) C hJ lk_RX12_329 (cM_whereOf hF hg6) recM_0 rfl rfl (Nat.le_of_ble_eq_true rfl) hl.1 (hR_of (by omega) (by decide)) ⟨Nat.le_refl _, Nat.le_refl _⟩ dX12_frontOf_10) (fun H locs hJ => ?_)
  refine lv_aload_n hx hb dX12_frontOf_13 rfl (lv_at hl 1 rfl) ?_
  refine gM_0_27 C hJ fl_RX12_322 dX12_frontOf_14 ?_
  refine lv_if_eq (tgt := 33) hx hb dX12_frontOf_17 (by decide) (fun c7 => ?_) (fun c7 => ?_)
  · have hf := ite_t hf c7
    refine lv_iconst (v := 0) hx hb dX12_frontOf_33 (by decide) ?_
    refine lv_iadd hx hb dX12_frontOf_34 ?_
    exact ret_I hret hJ hf rfl dX12_frontOf_35
  · have hf := ite_f hf c7
    refine lv_aload_n hx hb dX12_frontOf_20 rfl (lv_at hl 1 rfl) ?_
    refine gM_0_10 C hJ fl_RX12_32 dX12_frontOf_21 ?_
    refine lv_iconst (v := 4) hx hb dX12_frontOf_24 (by decide) ?_
    refine lv_iload_n hx hb dX12_frontOf_25 rfl (lv_at hl 2 rfl) ?_
    refine lv_imul hx hb dX12_frontOf_26 ?_
    refine lv_iload_n hx hb dX12_frontOf_27 rfl (lv_at hl 0 rfl) ?_
    refine lv_iadd hx hb dX12_frontOf_28 ?_
    obtain ⟨h8, hf⟩ := gi_some hf
    refine aM_7 C hJ h8 dX12_frontOf_29 ?_
    refine lv_goto (tgt := 34) hx hb dX12_frontOf_30 (by decide) ?_
    refine lv_iadd hx hb dX12_frontOf_34 ?_
    exact ret_I hret hJ hf rfl dX12_frontOf_35
set_option maxHeartbeats 4000000 in
set_option maxRecDepth 100000 in
theorem cM_front {l : Launch} {D : va_G} {cA cB : ClassId} {q : Nat → Nat} {A : Nat → Prop} {E : State → Prop} {N : Nat} {σ σ' : St} {r : Int64} {a1 : Int32} {a2 : Int32} {a3 : Int32} (hF : Fr (wM q cA cB) A E) (hf : fM_front N σ a1 a2 a3 = some (σ', r)) : ML l yX12_front cX12_front 4 .long 53 D (tyM cA cB) (wM q cA cB) A E [.ref (q 0), .int a1, .int a2, .int a3] σ σ' r := by
  refine ML_of (by decide) hF (Nat.le_of_ble_eq_true rfl) ?_
  intro p e s m args below meth c Q C hret hJ ls hl
  obtain ⟨hx, hb, hml, hown, hts, hK, hE, -⟩ := id C
  have hsb : ∀ z, A z → A z := fun _ h => h
  have hl : lv_has ls 4 [(0, .ref (q 0)), (1, .int a1), (2, .int a2), (3, .int a3)] := hl
  unfold fM_front at hf
  refine lv_aload_n hx hb dX12_front_0 rfl (lv_at hl 0 rfl) ?_
  refine lv_iload_n hx hb dX12_front_1 rfl (lv_at hl 1 rfl) ?_
  obtain ⟨σ1, r2, hg3, hf⟩ := cal_some hf
  refine backI hsb hJ (runV (As := [.int a1]) (rest := []) C hJ lk_RX12_154 (cM_isMan hF hg3) recM_0 rfl rfl (Nat.le_of_ble_eq_true rfl) hl.1 (hR_of (by omega) (by decide)) ⟨Nat.le_refl _, Nat.le_refl _⟩ dX12_front_2) (fun H locs hJ => ?_)
  refine lv_if_eq (tgt := 27) hx hb dX12_front_5 (by decide) (fun c4 => ?_) (fun c4 => ?_)
  · have hf := ite_t hf c4
    refine lv_ldc2 (v := -4611686018427387904) hx hb hown (hts _ kl_RX12_311) dX12_front_27 ?_
    exact ret_L hret hJ hf dX12_front_30
  · have hf := ite_f hf c4
    refine lv_iload_n hx hb dX12_front_8 rfl (lv_at hl 2 rfl) ?_
    obtain ⟨σ5, r6, hg7, hf⟩ := cal_some hf
    refine backI hsb hJ (runS (As := [.int a2]) (rest := []) C hJ lk_RX12_306 (cM_isTick hF hg7) rfl rfl (Nat.le_of_ble_eq_true rfl) hl.1 (hR_of (by omega) (by decide)) ⟨Nat.le_refl _, Nat.le_refl _⟩ dX12_front_9) (fun H locs hJ => ?_)
    refine lv_if_eq (tgt := 27) hx hb dX12_front_12 (by decide) (fun c8 => ?_) (fun c8 => ?_)
    · have hf := ite_t hf c8
      refine lv_ldc2 (v := -4611686018427387904) hx hb hown (hts _ kl_RX12_311) dX12_front_27 ?_
      exact ret_L hret hJ hf dX12_front_30
    · have hf := ite_f hf c8
      refine lv_iload_n hx hb dX12_front_15 rfl (lv_at hl 3 rfl) ?_
      refine lv_i2l (v := a3.toInt64) hx hb dX12_front_16 rfl ?_
      refine lv_lconst (v := 0) hx hb dX12_front_17 (by decide) ?_
      refine lv_ldc2 (v := 2) hx hb hown (hts _ kl_RX12_309) dX12_front_18 ?_
      obtain ⟨σ9, r10, hg11, hf⟩ := cal_some hf
      refine backI hsb hJ (runS (As := [.long a3.toInt64, .long (0 : Int64), .long (2 : Int64)]) (rest := []) C hJ lk_RX12_138 (cM_in hF hg11) rfl rfl (Nat.le_of_ble_eq_true rfl) hl.1 (hR_of (by omega) (by decide)) ⟨Nat.le_refl _, Nat.le_refl _⟩ dX12_front_21) (fun H locs hJ => ?_)
      refine lv_if_ne (tgt := 31) hx hb dX12_front_24 (by decide) (fun c12 => ?_) (fun c12 => ?_)
      · have hf := ite_f hf c12
        refine lv_iload_n hx hb dX12_front_31 rfl (lv_at hl 3 rfl) ?_
        refine lv_if_ne (tgt := 45) hx hb dX12_front_32 (by decide) (fun c13 => ?_) (fun c13 => ?_)
        · have hf := ite_f hf c13
          refine lv_iload_n hx hb dX12_front_45 rfl (lv_at hl 3 rfl) ?_
          refine lv_iconst (v := 1) hx hb dX12_front_46 (by decide) ?_
          refine lv_icmp_ne (tgt := 60) hx hb dX12_front_47 (by decide) (fun c14 => ?_) (fun c14 => ?_)
          · have hf := ite_f hf c14
            refine lv_aload_n hx hb dX12_front_60 rfl (lv_at hl 0 rfl) ?_
            refine lv_iload_n hx hb dX12_front_61 rfl (lv_at hl 1 rfl) ?_
            refine lv_iload_n hx hb dX12_front_62 rfl (lv_at hl 2 rfl) ?_
            obtain ⟨σ15, r16, hg17, hf⟩ := cal_some hf
            refine backI hsb hJ (runV (As := [.int a1, .int a2]) (rest := []) C hJ lk_RX12_329 (cM_whereOf hF hg17) recM_0 rfl rfl (Nat.le_of_ble_eq_true rfl) hl.1 (hR_of (by omega) (by decide)) ⟨Nat.le_refl _, Nat.le_refl _⟩ dX12_front_63) (fun H locs hJ => ?_)
            refine lv_i2l (v := r16.toInt64) hx hb dX12_front_66 rfl ?_
            exact ret_L hret hJ hf dX12_front_67
          · have hf := ite_t hf c14
            refine lv_aload_n hx hb dX12_front_50 rfl (lv_at hl 0 rfl) ?_
            refine lv_iload_n hx hb dX12_front_51 rfl (lv_at hl 1 rfl) ?_
            refine lv_iload_n hx hb dX12_front_52 rfl (lv_at hl 2 rfl) ?_
            obtain ⟨σ18, r19, hg20, hf⟩ := cal_some hf
            refine backI hsb hJ (runV (As := [.int a1, .int a2]) (rest := []) C hJ lk_RX12_325 (cM_foremost hF hg20) recM_0 rfl rfl (Nat.le_of_ble_eq_true rfl) hl.1 (hR_of (by omega) (by decide)) ⟨Nat.le_refl _, Nat.le_refl _⟩ dX12_front_53) (fun H locs hJ => ?_)
            refine lv_i2l (v := r19.toInt64) hx hb dX12_front_56 rfl ?_
            refine lv_goto (tgt := 67) hx hb dX12_front_57 (by decide) ?_
            exact ret_L hret hJ hf dX12_front_67
        · have hf := ite_t hf c13
          refine lv_aload_n hx hb dX12_front_35 rfl (lv_at hl 0 rfl) ?_
          refine lv_iload_n hx hb dX12_front_36 rfl (lv_at hl 1 rfl) ?_
          refine lv_iload_n hx hb dX12_front_37 rfl (lv_at hl 2 rfl) ?_
          obtain ⟨σ21, r22, hg23, hf⟩ := cal_some hf
          refine backI hsb hJ (runV (As := [.int a1, .int a2]) (rest := []) C hJ lk_RX12_332 (cM_frontOf hF hg23) recM_0 rfl rfl (Nat.le_of_ble_eq_true rfl) hl.1 (hR_of (by omega) (by decide)) ⟨Nat.le_refl _, Nat.le_refl _⟩ dX12_front_38) (fun H locs hJ => ?_)
          refine lv_i2l (v := r22.toInt64) hx hb dX12_front_41 rfl ?_
          refine lv_goto (tgt := 67) hx hb dX12_front_42 (by decide) ?_
          exact ret_L hret hJ hf dX12_front_67
      · have hf := ite_t hf c12
        refine lv_ldc2 (v := -4611686018427387904) hx hb hown (hts _ kl_RX12_311) dX12_front_27 ?_
        exact ret_L hret hJ hf dX12_front_30
set_option maxHeartbeats 4000000 in
set_option maxRecDepth 100000 in
theorem cM_camera {l : Launch} {D : va_G} {cA cB : ClassId} {q : Nat → Nat} {A : Nat → Prop} {E : State → Prop} {N : Nat} {σ σ' : St} {r : Int32} {a1 : Int32} {a2 : Int32} {a3 : Int32} (hF : Fr (wM q cA cB) A E) (hf : fM_camera N σ a1 a2 a3 = some (σ', r)) : MI l yX12_camera cX12_camera 4 .int 2 D (tyM cA cB) (wM q cA cB) A E [.ref (q 0), .int a1, .int a2, .int a3] σ σ' r := by
  refine MI_of (by decide) hF (Nat.le_of_ble_eq_true rfl) ?_
  intro p e s m args below meth c Q C hret hJ ls hl
  obtain ⟨hx, hb, hml, hown, hts, hK, hE, -⟩ := id C
  have hsb : ∀ z, A z → A z := fun _ h => h
  have hl : lv_has ls 4 [(0, .ref (q 0)), (1, .int a1), (2, .int a2), (3, .int a3)] := hl
  unfold fM_camera at hf
  refine lv_iload_n hx hb dX12_camera_0 rfl (lv_at hl 1 rfl) ?_
  refine lv_i2l (v := a1.toInt64) hx hb dX12_camera_1 rfl ?_
  refine lv_lconst (v := 1) hx hb dX12_camera_2 (by decide) ?_
  refine lv_ldc2 (v := 20) hx hb hown (hts _ kl_RX12_335) dX12_camera_3 ?_
  obtain ⟨σ1, r2, hg3, hf⟩ := cal_some hf
  refine backI hsb hJ (runS (As := [.long a1.toInt64, .long (1 : Int64), .long (20 : Int64)]) (rest := []) C hJ lk_RX12_138 (cM_in hF hg3) rfl rfl (Nat.le_of_ble_eq_true rfl) hl.1 (hR_of (by omega) (by decide)) ⟨Nat.le_refl _, Nat.le_refl _⟩ dX12_camera_6) (fun H locs hJ => ?_)
  refine lv_if_eq (tgt := 38) hx hb dX12_camera_9 (by decide) (fun c4 => ?_) (fun c4 => ?_)
  · have hf := ite_t hf c4
    refine lv_bipush (v := -2) hx hb dX12_camera_38 (by decide) ?_
    exact ret_I hret hJ hf rfl dX12_camera_40
  · have hf := ite_f hf c4
    refine lv_iload_n hx hb dX12_camera_12 rfl (lv_at hl 2 rfl) ?_
    refine lv_i2l (v := a2.toInt64) hx hb dX12_camera_13 rfl ?_
    refine lv_lconst (v := 0) hx hb dX12_camera_14 (by decide) ?_
    refine lv_ldc2 (v := 19) hx hb hown (hts _ kl_RX12_337) dX12_camera_15 ?_
    obtain ⟨σ5, r6, hg7, hf⟩ := cal_some hf
    refine backI hsb hJ (runS (As := [.long a2.toInt64, .long (0 : Int64), .long (19 : Int64)]) (rest := []) C hJ lk_RX12_138 (cM_in hF hg7) rfl rfl (Nat.le_of_ble_eq_true rfl) hl.1 (hR_of (by omega) (by decide)) ⟨Nat.le_refl _, Nat.le_refl _⟩ dX12_camera_18) (fun H locs hJ => ?_)
    refine lv_if_eq (tgt := 38) hx hb dX12_camera_21 (by decide) (fun c8 => ?_) (fun c8 => ?_)
    · have hf := ite_t hf c8
      refine lv_bipush (v := -2) hx hb dX12_camera_38 (by decide) ?_
      exact ret_I hret hJ hf rfl dX12_camera_40
    · have hf := ite_f hf c8
      refine lv_iload_n hx hb dX12_camera_24 rfl (lv_at hl 3 rfl) ?_
      refine lv_i2l (v := a3.toInt64) hx hb dX12_camera_25 rfl ?_
      refine lv_ldc2 (v := -9) hx hb hown (hts _ kl_RX12_339) dX12_camera_26 ?_
      refine lv_ldc2 (v := 9) hx hb hown (hts _ kl_RX12_341) dX12_camera_29 ?_
      obtain ⟨σ9, r10, hg11, hf⟩ := cal_some hf
      refine backI hsb hJ (runS (As := [.long a3.toInt64, .long (-9 : Int64), .long (9 : Int64)]) (rest := []) C hJ lk_RX12_138 (cM_in hF hg11) rfl rfl (Nat.le_of_ble_eq_true rfl) hl.1 (hR_of (by omega) (by decide)) ⟨Nat.le_refl _, Nat.le_refl _⟩ dX12_camera_32) (fun H locs hJ => ?_)
      refine lv_if_ne (tgt := 41) hx hb dX12_camera_35 (by decide) (fun c12 => ?_) (fun c12 => ?_)
      · have hf := ite_f hf c12
        refine lv_aload_n hx hb dX12_camera_41 rfl (lv_at hl 0 rfl) ?_
        refine gM_0_31 C hJ fl_RX12_343 dX12_camera_42 ?_
        refine lv_iconst (v := 4) hx hb dX12_camera_45 (by decide) ?_
        refine lv_icmp_ne (tgt := 52) hx hb dX12_camera_46 (by decide) (fun c13 => ?_) (fun c13 => ?_)
        · have hf := ite_f hf c13
          refine lv_aload_n hx hb dX12_camera_52 rfl (lv_at hl 0 rfl) ?_
          refine gM_0_28 C hJ fl_RX12_35 dX12_camera_53 ?_
          refine lv_aload_n hx hb dX12_camera_56 rfl (lv_at hl 0 rfl) ?_
          refine gM_0_31 C hJ fl_RX12_343 dX12_camera_57 ?_
          refine lv_iload_n hx hb dX12_camera_60 rfl (lv_at hl 1 rfl) ?_
          obtain ⟨h14, hf⟩ := gi_some hf
          refine sM_8 C hJ h14 dX12_camera_61 (fun σ15 H locs hs hJ => ?_)
          have hf := bnd_at hf hs
          refine lv_aload_n hx hb dX12_camera_62 rfl (lv_at hl 0 rfl) ?_
          refine gM_0_29 C hJ fl_RX12_38 dX12_camera_63 ?_
          refine lv_aload_n hx hb dX12_camera_66 rfl (lv_at hl 0 rfl) ?_
          refine gM_0_31 C hJ fl_RX12_343 dX12_camera_67 ?_
          refine lv_iload_n hx hb dX12_camera_70 rfl (lv_at hl 2 rfl) ?_
          obtain ⟨h16, hf⟩ := gi_some hf
          refine sM_9 C hJ h16 dX12_camera_71 (fun σ17 H locs hs hJ => ?_)
          have hf := bnd_at hf hs
          refine lv_aload_n hx hb dX12_camera_72 rfl (lv_at hl 0 rfl) ?_
          refine gM_0_30 C hJ fl_RX12_41 dX12_camera_73 ?_
          refine lv_aload_n hx hb dX12_camera_76 rfl (lv_at hl 0 rfl) ?_
          refine gM_0_31 C hJ fl_RX12_343 dX12_camera_77 ?_
          refine lv_iload_n hx hb dX12_camera_80 rfl (lv_at hl 3 rfl) ?_
          obtain ⟨h18, hf⟩ := gi_some hf
          refine sM_10 C hJ h18 dX12_camera_81 (fun σ19 H locs hs hJ => ?_)
          have hf := bnd_at hf hs
          refine lv_aload_n hx hb dX12_camera_82 rfl (lv_at hl 0 rfl) ?_
          refine lv_dup hx hb dX12_camera_83 rfl ?_
          refine gM_0_31 C hJ fl_RX12_343 dX12_camera_84 ?_
          refine lv_iconst (v := 1) hx hb dX12_camera_87 (by decide) ?_
          refine lv_iadd hx hb dX12_camera_88 ?_
          refine pM_0_31 C hJ fl_RX12_343 dX12_camera_89 (fun σ20 H locs hs hJ => ?_)
          have hf := bnd_at hf hs
          refine lv_aload_n hx hb dX12_camera_92 rfl (lv_at hl 0 rfl) ?_
          refine gM_0_31 C hJ fl_RX12_343 dX12_camera_93 ?_
          refine lv_iconst (v := 1) hx hb dX12_camera_96 (by decide) ?_
          refine lv_isub hx hb dX12_camera_97 ?_
          exact ret_I hret hJ hf rfl dX12_camera_98
        · have hf := ite_t hf c13
          refine lv_bipush (v := -4) hx hb dX12_camera_49 (by decide) ?_
          exact ret_I hret hJ hf rfl dX12_camera_51
      · have hf := ite_t hf c12
        refine lv_bipush (v := -2) hx hb dX12_camera_38 (by decide) ?_
        exact ret_I hret hJ hf rfl dX12_camera_40
set_option maxHeartbeats 4000000 in
set_option maxRecDepth 100000 in
theorem cM_frameOf {l : Launch} {D : va_G} {cA cB : ClassId} {q : Nat → Nat} {A : Nat → Prop} {E : State → Prop} {N : Nat} {σ σ' : St} {r : Int32} {a1 : Int32} {a2 : Int32} (hF : Fr (wM q cA cB) A E) (hf : fM_frameOf N σ a1 a2 = some (σ', r)) : MI l yX12_frameOf cX12_frameOf 3 .int 1 D (tyM cA cB) (wM q cA cB) A E [.ref (q 0), .int a1, .int a2] σ σ' r := by
  refine MI_of (by decide) hF (Nat.le_of_ble_eq_true rfl) ?_
  intro p e s m args below meth c Q C hret hJ ls hl
  obtain ⟨hx, hb, hml, hown, hts, hK, hE, -⟩ := id C
  have hsb : ∀ z, A z → A z := fun _ h => h
  have hl : lv_has ls 3 [(0, .ref (q 0)), (1, .int a1), (2, .int a2)] := hl
  unfold fM_frameOf at hf
  refine lv_iload_n hx hb dX12_frameOf_0 rfl (lv_at hl 2 rfl) ?_
  refine lv_aload_n hx hb dX12_frameOf_1 rfl (lv_at hl 0 rfl) ?_
  refine gM_0_29 C hJ fl_RX12_38 dX12_frameOf_2 ?_
  refine lv_iload_n hx hb dX12_frameOf_5 rfl (lv_at hl 1 rfl) ?_
  obtain ⟨h1, hf⟩ := gi_some hf
  refine aM_9 C hJ h1 dX12_frameOf_6 ?_
  refine lv_icmp_ge (tgt := 19) hx hb dX12_frameOf_7 (by decide) (fun c2 => ?_) (fun c2 => ?_)
  · have hf := ite_t hf c2
    refine lv_iload_n hx hb dX12_frameOf_19 rfl (lv_at hl 2 rfl) ?_
    refine lv_iload_n hx hb dX12_frameOf_20 rfl (lv_at hl 2 rfl) ?_
    refine lv_aload_n hx hb dX12_frameOf_21 rfl (lv_at hl 0 rfl) ?_
    refine gM_0_29 C hJ fl_RX12_38 dX12_frameOf_22 ?_
    refine lv_iload_n hx hb dX12_frameOf_25 rfl (lv_at hl 1 rfl) ?_
    obtain ⟨h3, hf⟩ := gi_some hf
    refine aM_9 C hJ h3 dX12_frameOf_26 ?_
    refine lv_isub hx hb dX12_frameOf_27 ?_
    refine lv_aload_n hx hb dX12_frameOf_28 rfl (lv_at hl 0 rfl) ?_
    refine gM_0_28 C hJ fl_RX12_35 dX12_frameOf_29 ?_
    refine lv_iload_n hx hb dX12_frameOf_32 rfl (lv_at hl 1 rfl) ?_
    obtain ⟨h4, hf⟩ := gi_some hf
    refine aM_8 C hJ h4 dX12_frameOf_33 ?_
    obtain ⟨h5, hf⟩ := gd_some hf
    refine lv_irem hx hb dX12_frameOf_34 h5 ?_
    refine lv_isub hx hb dX12_frameOf_35 ?_
    exact ret_I hret hJ hf rfl dX12_frameOf_36
  · have hf := ite_f hf c2
    refine lv_aload_n hx hb dX12_frameOf_10 rfl (lv_at hl 0 rfl) ?_
    refine gM_0_29 C hJ fl_RX12_38 dX12_frameOf_11 ?_
    refine lv_iload_n hx hb dX12_frameOf_14 rfl (lv_at hl 1 rfl) ?_
    obtain ⟨h6, hf⟩ := gi_some hf
    refine aM_9 C hJ h6 dX12_frameOf_15 ?_
    refine lv_goto (tgt := 36) hx hb dX12_frameOf_16 (by decide) ?_
    exact ret_I hret hJ hf rfl dX12_frameOf_36
set_option maxHeartbeats 4000000 in
set_option maxRecDepth 100000 in
theorem cM_frame {l : Launch} {D : va_G} {cA cB : ClassId} {q : Nat → Nat} {A : Nat → Prop} {E : State → Prop} {N : Nat} {σ σ' : St} {r : Int32} {a1 : Int32} {a2 : Int32} (hF : Fr (wM q cA cB) A E) (hf : fM_frame N σ a1 a2 = some (σ', r)) : MI l yX12_frame cX12_frame 3 .int 3 D (tyM cA cB) (wM q cA cB) A E [.ref (q 0), .int a1, .int a2] σ σ' r := by
  refine MI_of (by decide) hF (Nat.le_of_ble_eq_true rfl) ?_
  intro p e s m args below meth c Q C hret hJ ls hl
  obtain ⟨hx, hb, hml, hown, hts, hK, hE, -⟩ := id C
  have hsb : ∀ z, A z → A z := fun _ h => h
  have hl : lv_has ls 3 [(0, .ref (q 0)), (1, .int a1), (2, .int a2)] := hl
  unfold fM_frame at hf
  refine lv_iload_n hx hb dX12_frame_0 rfl (lv_at hl 1 rfl) ?_
  refine lv_i2l (v := a1.toInt64) hx hb dX12_frame_1 rfl ?_
  refine lv_lconst (v := 0) hx hb dX12_frame_2 (by decide) ?_
  refine lv_aload_n hx hb dX12_frame_3 rfl (lv_at hl 0 rfl) ?_
  refine gM_0_31 C hJ fl_RX12_343 dX12_frame_4 ?_
  refine lv_iconst (v := 1) hx hb dX12_frame_7 (by decide) ?_
  refine lv_isub hx hb dX12_frame_8 ?_
  refine lv_i2l (v := ((σ.1 21) - (1 : Int32)).toInt64) hx hb dX12_frame_9 rfl ?_
  obtain ⟨σ1, r2, hg3, hf⟩ := cal_some hf
  refine backI hsb hJ (runS (As := [.long a1.toInt64, .long (0 : Int64), .long (((σ.1 21) - (1 : Int32)).toInt64)]) (rest := []) C hJ lk_RX12_138 (cM_in hF hg3) rfl rfl (Nat.le_of_ble_eq_true rfl) hl.1 (hR_of (by omega) (by decide)) ⟨Nat.le_refl _, Nat.le_refl _⟩ dX12_frame_10) (fun H locs hJ => ?_)
  refine lv_if_eq (tgt := 32) hx hb dX12_frame_13 (by decide) (fun c4 => ?_) (fun c4 => ?_)
  · have hf := ite_t hf c4
    refine lv_bipush (v := -2) hx hb dX12_frame_32 (by decide) ?_
    exact ret_I hret hJ hf rfl dX12_frame_34
  · have hf := ite_f hf c4
    refine lv_iload_n hx hb dX12_frame_16 rfl (lv_at hl 2 rfl) ?_
    obtain ⟨σ5, r6, hg7, hf⟩ := cal_some hf
    refine backI hsb hJ (runS (As := [.int a2]) (rest := []) C hJ lk_RX12_306 (cM_isTick hF hg7) rfl rfl (Nat.le_of_ble_eq_true rfl) hl.1 (hR_of (by omega) (by decide)) ⟨Nat.le_refl _, Nat.le_refl _⟩ dX12_frame_17) (fun H locs hJ => ?_)
    refine lv_if_eq (tgt := 32) hx hb dX12_frame_20 (by decide) (fun c8 => ?_) (fun c8 => ?_)
    · have hf := ite_t hf c8
      refine lv_bipush (v := -2) hx hb dX12_frame_32 (by decide) ?_
      exact ret_I hret hJ hf rfl dX12_frame_34
    · have hf := ite_f hf c8
      refine lv_aload_n hx hb dX12_frame_23 rfl (lv_at hl 0 rfl) ?_
      refine lv_iload_n hx hb dX12_frame_24 rfl (lv_at hl 1 rfl) ?_
      refine lv_iload_n hx hb dX12_frame_25 rfl (lv_at hl 2 rfl) ?_
      obtain ⟨σ9, r10, hg11, hf⟩ := cal_some hf
      refine backI hsb hJ (runV (As := [.int a1, .int a2]) (rest := []) C hJ lk_RX12_346 (cM_frameOf hF hg11) recM_0 rfl rfl (Nat.le_of_ble_eq_true rfl) hl.1 (hR_of (by omega) (by decide)) ⟨Nat.le_refl _, Nat.le_refl _⟩ dX12_frame_26) (fun H locs hJ => ?_)
      refine lv_goto (tgt := 34) hx hb dX12_frame_29 (by decide) ?_
      exact ret_I hret hJ hf rfl dX12_frame_34
set_option maxHeartbeats 4000000 in
set_option maxRecDepth 100000 in
theorem cM_seen {l : Launch} {D : va_G} {cA cB : ClassId} {q : Nat → Nat} {A : Nat → Prop} {E : State → Prop} {N : Nat} {σ σ' : St} {r : Int32} {a1 : Int32} {a2 : Int32} (hF : Fr (wM q cA cB) A E) (hf : fM_seen N σ a1 a2 = some (σ', r)) : MI l yX12_seen cX12_seen 3 .int 1 D (tyM cA cB) (wM q cA cB) A E [.ref (q 0), .int a1, .int a2] σ σ' r := by
  refine MI_of (by decide) hF (Nat.le_of_ble_eq_true rfl) ?_
  intro p e s m args below meth c Q C hret hJ ls hl
  obtain ⟨hx, hb, hml, hown, hts, hK, hE, -⟩ := id C
  have hsb : ∀ z, A z → A z := fun _ h => h
  have hl : lv_has ls 3 [(0, .ref (q 0)), (1, .int a1), (2, .int a2)] := hl
  unfold fM_seen at hf
  refine lv_iload_n hx hb dX12_seen_0 rfl (lv_at hl 2 rfl) ?_
  refine lv_aload_n hx hb dX12_seen_1 rfl (lv_at hl 0 rfl) ?_
  refine gM_0_30 C hJ fl_RX12_41 dX12_seen_2 ?_
  refine lv_iload_n hx hb dX12_seen_5 rfl (lv_at hl 1 rfl) ?_
  obtain ⟨h1, hf⟩ := gi_some hf
  refine aM_10 C hJ h1 dX12_seen_6 ?_
  refine lv_iload_n hx hb dX12_seen_7 rfl (lv_at hl 2 rfl) ?_
  refine lv_imul hx hb dX12_seen_8 ?_
  refine lv_sipush (v := 1000) hx hb dX12_seen_9 (by decide) ?_
  refine lv_idiv hx hb dX12_seen_12 (by decide) ?_
  refine lv_iadd hx hb dX12_seen_13 ?_
  exact ret_I hret hJ hf rfl dX12_seen_14
set_option maxHeartbeats 4000000 in
set_option maxRecDepth 100000 in
theorem cM_sees {l : Launch} {D : va_G} {cA cB : ClassId} {q : Nat → Nat} {A : Nat → Prop} {E : State → Prop} {N : Nat} {σ σ' : St} {r : Int64} {a1 : Int32} {a2 : Int32} (hF : Fr (wM q cA cB) A E) (hf : fM_sees N σ a1 a2 = some (σ', r)) : ML l yX12_sees cX12_sees 3 .long 2 D (tyM cA cB) (wM q cA cB) A E [.ref (q 0), .int a1, .int a2] σ σ' r := by
  refine ML_of (by decide) hF (Nat.le_of_ble_eq_true rfl) ?_
  intro p e s m args below meth c Q C hret hJ ls hl
  obtain ⟨hx, hb, hml, hown, hts, hK, hE, -⟩ := id C
  have hsb : ∀ z, A z → A z := fun _ h => h
  have hl : lv_has ls 3 [(0, .ref (q 0)), (1, .int a1), (2, .int a2)] := hl
  unfold fM_sees at hf
  refine lv_iload_n hx hb dX12_sees_0 rfl (lv_at hl 1 rfl) ?_
  refine lv_i2l (v := a1.toInt64) hx hb dX12_sees_1 rfl ?_
  refine lv_lconst (v := 0) hx hb dX12_sees_2 (by decide) ?_
  refine lv_aload_n hx hb dX12_sees_3 rfl (lv_at hl 0 rfl) ?_
  refine gM_0_31 C hJ fl_RX12_343 dX12_sees_4 ?_
  refine lv_iconst (v := 1) hx hb dX12_sees_7 (by decide) ?_
  refine lv_isub hx hb dX12_sees_8 ?_
  refine lv_i2l (v := ((σ.1 21) - (1 : Int32)).toInt64) hx hb dX12_sees_9 rfl ?_
  obtain ⟨σ1, r2, hg3, hf⟩ := cal_some hf
  refine backI hsb hJ (runS (As := [.long a1.toInt64, .long (0 : Int64), .long (((σ.1 21) - (1 : Int32)).toInt64)]) (rest := []) C hJ lk_RX12_138 (cM_in hF hg3) rfl rfl (Nat.le_of_ble_eq_true rfl) hl.1 (hR_of (by omega) (by decide)) ⟨Nat.le_refl _, Nat.le_refl _⟩ dX12_sees_10) (fun H locs hJ => ?_)
  refine lv_if_eq (tgt := 40) hx hb dX12_sees_13 (by decide) (fun c4 => ?_) (fun c4 => ?_)
  · have hf := ite_t hf c4
    refine lv_ldc2 (v := -4611686018427387904) hx hb hown (hts _ kl_RX12_311) dX12_sees_40 ?_
    exact ret_L hret hJ hf dX12_sees_43
  · have hf := ite_f hf c4
    refine lv_iload_n hx hb dX12_sees_16 rfl (lv_at hl 2 rfl) ?_
    refine lv_i2l (v := a2.toInt64) hx hb dX12_sees_17 rfl ?_
    refine lv_ldc2 (v := -99999) hx hb hown (hts _ kl_RX12_349) dX12_sees_18 ?_
    refine lv_ldc2 (v := 99999) hx hb hown (hts _ kl_RX12_351) dX12_sees_21 ?_
    obtain ⟨σ5, r6, hg7, hf⟩ := cal_some hf
    refine backI hsb hJ (runS (As := [.long a2.toInt64, .long (-99999 : Int64), .long (99999 : Int64)]) (rest := []) C hJ lk_RX12_138 (cM_in hF hg7) rfl rfl (Nat.le_of_ble_eq_true rfl) hl.1 (hR_of (by omega) (by decide)) ⟨Nat.le_refl _, Nat.le_refl _⟩ dX12_sees_24) (fun H locs hJ => ?_)
    refine lv_if_eq (tgt := 40) hx hb dX12_sees_27 (by decide) (fun c8 => ?_) (fun c8 => ?_)
    · have hf := ite_t hf c8
      refine lv_ldc2 (v := -4611686018427387904) hx hb hown (hts _ kl_RX12_311) dX12_sees_40 ?_
      exact ret_L hret hJ hf dX12_sees_43
    · have hf := ite_f hf c8
      refine lv_aload_n hx hb dX12_sees_30 rfl (lv_at hl 0 rfl) ?_
      refine lv_iload_n hx hb dX12_sees_31 rfl (lv_at hl 1 rfl) ?_
      refine lv_iload_n hx hb dX12_sees_32 rfl (lv_at hl 2 rfl) ?_
      obtain ⟨σ9, r10, hg11, hf⟩ := cal_some hf
      refine backI hsb hJ (runV (As := [.int a1, .int a2]) (rest := []) C hJ lk_RX12_353 (cM_seen hF hg11) recM_0 rfl rfl (Nat.le_of_ble_eq_true rfl) hl.1 (hR_of (by omega) (by decide)) ⟨Nat.le_refl _, Nat.le_refl _⟩ dX12_sees_33) (fun H locs hJ => ?_)
      refine lv_i2l (v := r10.toInt64) hx hb dX12_sees_36 rfl ?_
      refine lv_goto (tgt := 43) hx hb dX12_sees_37 (by decide) ?_
      exact ret_L hret hJ hf dX12_sees_43
set_option maxHeartbeats 4000000 in
set_option maxRecDepth 100000 in
theorem cM_crosser {l : Launch} {D : va_G} {cA cB : ClassId} {q : Nat → Nat} {A : Nat → Prop} {E : State → Prop} {N : Nat} {σ σ' : St} {r : Int32} {a1 : Int32} {a2 : Int32} (hF : Fr (wM q cA cB) A E) (hf : fM_crosser N σ a1 a2 = some (σ', r)) : MI l yX12_crosser cX12_crosser 3 .int 2 D (tyM cA cB) (wM q cA cB) A E [.ref (q 0), .int a1, .int a2] σ σ' r := by
  refine MI_of (by decide) hF (Nat.le_of_ble_eq_true rfl) ?_
  intro p e s m args below meth c Q C hret hJ ls hl
  obtain ⟨hx, hb, hml, hown, hts, hK, hE, -⟩ := id C
  have hsb : ∀ z, A z → A z := fun _ h => h
  have hl : lv_has ls 3 [(0, .ref (q 0)), (1, .int a1), (2, .int a2)] := hl
  unfold fM_crosser at hf
  refine lv_iload_n hx hb dX12_crosser_0 rfl (lv_at hl 1 rfl) ?_
  refine lv_i2l (v := a1.toInt64) hx hb dX12_crosser_1 rfl ?_
  refine lv_ldc2 (v := -20) hx hb hown (hts _ kl_RX12_356) dX12_crosser_2 ?_
  refine lv_ldc2 (v := 20) hx hb hown (hts _ kl_RX12_335) dX12_crosser_5 ?_
  obtain ⟨σ1, r2, hg3, hf⟩ := cal_some hf
  refine backI hsb hJ (runS (As := [.long a1.toInt64, .long (-20 : Int64), .long (20 : Int64)]) (rest := []) C hJ lk_RX12_138 (cM_in hF hg3) rfl rfl (Nat.le_of_ble_eq_true rfl) hl.1 (hR_of (by omega) (by decide)) ⟨Nat.le_refl _, Nat.le_refl _⟩ dX12_crosser_8) (fun H locs hJ => ?_)
  refine lv_if_eq (tgt := 26) hx hb dX12_crosser_11 (by decide) (fun c4 => ?_) (fun c4 => ?_)
  · have hf := ite_t hf c4
    refine lv_bipush (v := -2) hx hb dX12_crosser_26 (by decide) ?_
    exact ret_I hret hJ hf rfl dX12_crosser_28
  · have hf := ite_f hf c4
    refine lv_iload_n hx hb dX12_crosser_14 rfl (lv_at hl 2 rfl) ?_
    refine lv_i2l (v := a2.toInt64) hx hb dX12_crosser_15 rfl ?_
    refine lv_lconst (v := 0) hx hb dX12_crosser_16 (by decide) ?_
    refine lv_ldc2 (v := 9) hx hb hown (hts _ kl_RX12_341) dX12_crosser_17 ?_
    obtain ⟨σ5, r6, hg7, hf⟩ := cal_some hf
    refine backI hsb hJ (runS (As := [.long a2.toInt64, .long (0 : Int64), .long (9 : Int64)]) (rest := []) C hJ lk_RX12_138 (cM_in hF hg7) rfl rfl (Nat.le_of_ble_eq_true rfl) hl.1 (hR_of (by omega) (by decide)) ⟨Nat.le_refl _, Nat.le_refl _⟩ dX12_crosser_20) (fun H locs hJ => ?_)
    refine lv_if_ne (tgt := 29) hx hb dX12_crosser_23 (by decide) (fun c8 => ?_) (fun c8 => ?_)
    · have hf := ite_f hf c8
      refine lv_aload_n hx hb dX12_crosser_29 rfl (lv_at hl 0 rfl) ?_
      refine gM_0_34 C hJ fl_RX12_358 dX12_crosser_30 ?_
      refine lv_bipush (v := 6) hx hb dX12_crosser_33 (by decide) ?_
      refine lv_icmp_ne (tgt := 41) hx hb dX12_crosser_35 (by decide) (fun c9 => ?_) (fun c9 => ?_)
      · have hf := ite_f hf c9
        refine lv_aload_n hx hb dX12_crosser_41 rfl (lv_at hl 0 rfl) ?_
        refine gM_0_32 C hJ fl_RX12_44 dX12_crosser_42 ?_
        refine lv_aload_n hx hb dX12_crosser_45 rfl (lv_at hl 0 rfl) ?_
        refine gM_0_34 C hJ fl_RX12_358 dX12_crosser_46 ?_
        refine lv_iload_n hx hb dX12_crosser_49 rfl (lv_at hl 1 rfl) ?_
        obtain ⟨h10, hf⟩ := gi_some hf
        refine sM_11 C hJ h10 dX12_crosser_50 (fun σ11 H locs hs hJ => ?_)
        have hf := bnd_at hf hs
        refine lv_aload_n hx hb dX12_crosser_51 rfl (lv_at hl 0 rfl) ?_
        refine gM_0_33 C hJ fl_RX12_47 dX12_crosser_52 ?_
        refine lv_aload_n hx hb dX12_crosser_55 rfl (lv_at hl 0 rfl) ?_
        refine gM_0_34 C hJ fl_RX12_358 dX12_crosser_56 ?_
        refine lv_iload_n hx hb dX12_crosser_59 rfl (lv_at hl 2 rfl) ?_
        obtain ⟨h12, hf⟩ := gi_some hf
        refine sM_12 C hJ h12 dX12_crosser_60 (fun σ13 H locs hs hJ => ?_)
        have hf := bnd_at hf hs
        refine lv_aload_n hx hb dX12_crosser_61 rfl (lv_at hl 0 rfl) ?_
        refine lv_dup hx hb dX12_crosser_62 rfl ?_
        refine gM_0_34 C hJ fl_RX12_358 dX12_crosser_63 ?_
        refine lv_iconst (v := 1) hx hb dX12_crosser_66 (by decide) ?_
        refine lv_iadd hx hb dX12_crosser_67 ?_
        refine pM_0_34 C hJ fl_RX12_358 dX12_crosser_68 (fun σ14 H locs hs hJ => ?_)
        have hf := bnd_at hf hs
        refine lv_aload_n hx hb dX12_crosser_71 rfl (lv_at hl 0 rfl) ?_
        refine gM_0_34 C hJ fl_RX12_358 dX12_crosser_72 ?_
        refine lv_iconst (v := 1) hx hb dX12_crosser_75 (by decide) ?_
        refine lv_isub hx hb dX12_crosser_76 ?_
        exact ret_I hret hJ hf rfl dX12_crosser_77
      · have hf := ite_t hf c9
        refine lv_bipush (v := -4) hx hb dX12_crosser_38 (by decide) ?_
        exact ret_I hret hJ hf rfl dX12_crosser_40
    · have hf := ite_t hf c8
      refine lv_bipush (v := -2) hx hb dX12_crosser_26 (by decide) ?_
      exact ret_I hret hJ hf rfl dX12_crosser_28
set_option maxHeartbeats 4000000 in
set_option maxRecDepth 100000 in
theorem cM_call {l : Launch} {D : va_G} {cA cB : ClassId} {q : Nat → Nat} {A : Nat → Prop} {E : State → Prop} {N : Nat} {σ σ' : St} {r : Int32} {a1 : Int32} {a2 : Int32} {a3 : Int32} {a4 : Int32} {a5 : Int32} (hF : Fr (wM q cA cB) A E) (hf : fM_call N σ a1 a2 a3 a4 a5 = some (σ', r)) : MI l yX12_call cX12_call 6 .int 3 D (tyM cA cB) (wM q cA cB) A E [.ref (q 0), .int a1, .int a2, .int a3, .int a4, .int a5] σ σ' r := by
  refine MI_of (by decide) hF (Nat.le_of_ble_eq_true rfl) ?_
  intro p e s m args below meth c Q C hret hJ ls hl
  obtain ⟨hx, hb, hml, hown, hts, hK, hE, -⟩ := id C
  have hsb : ∀ z, A z → A z := fun _ h => h
  have hl : lv_has ls 6 [(0, .ref (q 0)), (1, .int a1), (2, .int a2), (3, .int a3), (4, .int a4), (5, .int a5)] := hl
  unfold fM_call at hf
  refine lv_iload_n hx hb dX12_call_0 rfl (lv_at hl 1 rfl) ?_
  refine lv_i2l (v := a1.toInt64) hx hb dX12_call_1 rfl ?_
  refine lv_lconst (v := 0) hx hb dX12_call_2 (by decide) ?_
  refine lv_ldc2 (v := 5) hx hb hown (hts _ kl_RX12_361) dX12_call_3 ?_
  obtain ⟨σ1, r2, hg3, hf⟩ := cal_some hf
  refine backI hsb hJ (runS (As := [.long a1.toInt64, .long (0 : Int64), .long (5 : Int64)]) (rest := []) C hJ lk_RX12_138 (cM_in hF hg3) rfl rfl (Nat.le_of_ble_eq_true rfl) hl.1 (hR_of (by omega) (by decide)) ⟨Nat.le_refl _, Nat.le_refl _⟩ dX12_call_6) (fun H locs hJ => ?_)
  refine lv_if_eq (tgt := 86) hx hb dX12_call_9 (by decide) (fun c4 => ?_) (fun c4 => ?_)
  · have hf := ite_t hf c4
    refine lv_bipush (v := -2) hx hb dX12_call_86 (by decide) ?_
    exact ret_I hret hJ hf rfl dX12_call_88
  · have hf := ite_f hf c4
    refine lv_aload_n hx hb dX12_call_12 rfl (lv_at hl 0 rfl) ?_
    refine lv_iload_n hx hb dX12_call_13 rfl (lv_at hl 2 rfl) ?_
    obtain ⟨σ5, r6, hg7, hf⟩ := cal_some hf
    refine backI hsb hJ (runV (As := [.int a2]) (rest := []) C hJ lk_RX12_154 (cM_isMan hF hg7) recM_0 rfl rfl (Nat.le_of_ble_eq_true rfl) hl.1 (hR_of (by omega) (by decide)) ⟨Nat.le_refl _, Nat.le_refl _⟩ dX12_call_14) (fun H locs hJ => ?_)
    refine lv_if_eq (tgt := 86) hx hb dX12_call_17 (by decide) (fun c8 => ?_) (fun c8 => ?_)
    · have hf := ite_t hf c8
      refine lv_bipush (v := -2) hx hb dX12_call_86 (by decide) ?_
      exact ret_I hret hJ hf rfl dX12_call_88
    · have hf := ite_f hf c8
      refine lv_aload_n hx hb dX12_call_20 rfl (lv_at hl 0 rfl) ?_
      refine lv_iload_n hx hb dX12_call_21 rfl (lv_at hl 3 rfl) ?_
      obtain ⟨σ9, r10, hg11, hf⟩ := cal_some hf
      refine backI hsb hJ (runV (As := [.int a3]) (rest := []) C hJ lk_RX12_154 (cM_isMan hF hg11) recM_0 rfl rfl (Nat.le_of_ble_eq_true rfl) hl.1 (hR_of (by omega) (by decide)) ⟨Nat.le_refl _, Nat.le_refl _⟩ dX12_call_22) (fun H locs hJ => ?_)
      refine lv_if_eq (tgt := 86) hx hb dX12_call_25 (by decide) (fun c12 => ?_) (fun c12 => ?_)
      · have hf := ite_t hf c12
        refine lv_bipush (v := -2) hx hb dX12_call_86 (by decide) ?_
        exact ret_I hret hJ hf rfl dX12_call_88
      · have hf := ite_f hf c12
        refine lv_iload_n hx hb dX12_call_28 rfl (lv_at hl 2 rfl) ?_
        refine lv_iload_n hx hb dX12_call_29 rfl (lv_at hl 3 rfl) ?_
        refine lv_icmp_eq (tgt := 86) hx hb dX12_call_30 (by decide) (fun c13 => ?_) (fun c13 => ?_)
        · have hf := ite_t hf c13
          refine lv_bipush (v := -2) hx hb dX12_call_86 (by decide) ?_
          exact ret_I hret hJ hf rfl dX12_call_88
        · have hf := ite_f hf c13
          refine lv_iload hx hb dX12_call_33 (lv_at hl 4 rfl) ?_
          obtain ⟨σ14, r15, hg16, hf⟩ := cal_some hf
          refine backI hsb hJ (runS (As := [.int a4]) (rest := []) C hJ lk_RX12_306 (cM_isTick hF hg16) rfl rfl (Nat.le_of_ble_eq_true rfl) hl.1 (hR_of (by omega) (by decide)) ⟨Nat.le_refl _, Nat.le_refl _⟩ dX12_call_35) (fun H locs hJ => ?_)
          refine lv_if_eq (tgt := 86) hx hb dX12_call_38 (by decide) (fun c17 => ?_) (fun c17 => ?_)
          · have hf := ite_t hf c17
            refine lv_bipush (v := -2) hx hb dX12_call_86 (by decide) ?_
            exact ret_I hret hJ hf rfl dX12_call_88
          · have hf := ite_f hf c17
            refine lv_iload hx hb dX12_call_41 (lv_at hl 5 rfl) ?_
            refine lv_if_lt (tgt := 86) hx hb dX12_call_43 (by decide) (fun c18 => ?_) (fun c18 => ?_)
            · have hf := ite_t hf c18
              refine lv_bipush (v := -2) hx hb dX12_call_86 (by decide) ?_
              exact ret_I hret hJ hf rfl dX12_call_88
            · have hf := ite_f hf c18
              refine lv_iload hx hb dX12_call_46 (lv_at hl 5 rfl) ?_
              refine lv_bipush (v := 10) hx hb dX12_call_48 (by decide) ?_
              refine lv_idiv hx hb dX12_call_50 (by decide) ?_
              refine lv_i2l (v := (a5 / (10 : Int32)).toInt64) hx hb dX12_call_51 rfl ?_
              refine lv_lconst (v := 0) hx hb dX12_call_52 (by decide) ?_
              refine lv_aload_n hx hb dX12_call_53 rfl (lv_at hl 0 rfl) ?_
              refine gM_0_31 C hJ fl_RX12_343 dX12_call_54 ?_
              refine lv_iconst (v := 1) hx hb dX12_call_57 (by decide) ?_
              refine lv_isub hx hb dX12_call_58 ?_
              refine lv_i2l (v := ((σ14.1 21) - (1 : Int32)).toInt64) hx hb dX12_call_59 rfl ?_
              obtain ⟨σ19, r20, hg21, hf⟩ := cal_some hf
              refine backI hsb hJ (runS (As := [.long ((a5 / (10 : Int32)).toInt64), .long (0 : Int64), .long (((σ14.1 21) - (1 : Int32)).toInt64)]) (rest := []) C hJ lk_RX12_138 (cM_in hF hg21) rfl rfl (Nat.le_of_ble_eq_true rfl) hl.1 (hR_of (by omega) (by decide)) ⟨Nat.le_refl _, Nat.le_refl _⟩ dX12_call_60) (fun H locs hJ => ?_)
              refine lv_if_eq (tgt := 86) hx hb dX12_call_63 (by decide) (fun c22 => ?_) (fun c22 => ?_)
              · have hf := ite_t hf c22
                refine lv_bipush (v := -2) hx hb dX12_call_86 (by decide) ?_
                exact ret_I hret hJ hf rfl dX12_call_88
              · have hf := ite_f hf c22
                refine lv_iload hx hb dX12_call_66 (lv_at hl 5 rfl) ?_
                refine lv_bipush (v := 10) hx hb dX12_call_68 (by decide) ?_
                refine lv_irem hx hb dX12_call_70 (by decide) ?_
                refine lv_i2l (v := (a5 - a5 / (10 : Int32) * (10 : Int32)).toInt64) hx hb dX12_call_71 rfl ?_
                refine lv_lconst (v := 0) hx hb dX12_call_72 (by decide) ?_
                refine lv_aload_n hx hb dX12_call_73 rfl (lv_at hl 0 rfl) ?_
                refine gM_0_34 C hJ fl_RX12_358 dX12_call_74 ?_
                refine lv_iconst (v := 1) hx hb dX12_call_77 (by decide) ?_
                refine lv_isub hx hb dX12_call_78 ?_
                refine lv_i2l (v := ((σ19.1 22) - (1 : Int32)).toInt64) hx hb dX12_call_79 rfl ?_
                obtain ⟨σ23, r24, hg25, hf⟩ := cal_some hf
                refine backI hsb hJ (runS (As := [.long ((a5 - a5 / (10 : Int32) * (10 : Int32)).toInt64), .long (0 : Int64), .long (((σ19.1 22) - (1 : Int32)).toInt64)]) (rest := []) C hJ lk_RX12_138 (cM_in hF hg25) rfl rfl (Nat.le_of_ble_eq_true rfl) hl.1 (hR_of (by omega) (by decide)) ⟨Nat.le_refl _, Nat.le_refl _⟩ dX12_call_80) (fun H locs hJ => ?_)
                refine lv_if_ne (tgt := 89) hx hb dX12_call_83 (by decide) (fun c26 => ?_) (fun c26 => ?_)
                · have hf := ite_f hf c26
                  refine lv_aload_n hx hb dX12_call_89 rfl (lv_at hl 0 rfl) ?_
                  refine gM_0_41 C hJ fl_RX12_363 dX12_call_90 ?_
                  refine lv_bipush (v := 24) hx hb dX12_call_93 (by decide) ?_
                  refine lv_icmp_ne (tgt := 101) hx hb dX12_call_95 (by decide) (fun c27 => ?_) (fun c27 => ?_)
                  · have hf := ite_f hf c27
                    refine lv_aload_n hx hb dX12_call_101 rfl (lv_at hl 0 rfl) ?_
                    refine gM_0_35 C hJ fl_RX12_50 dX12_call_102 ?_
                    refine lv_aload_n hx hb dX12_call_105 rfl (lv_at hl 0 rfl) ?_
                    refine gM_0_41 C hJ fl_RX12_363 dX12_call_106 ?_
                    refine lv_iload_n hx hb dX12_call_109 rfl (lv_at hl 1 rfl) ?_
                    obtain ⟨h28, hf⟩ := gi_some hf
                    refine sM_13 C hJ h28 dX12_call_110 (fun σ29 H locs hs hJ => ?_)
                    have hf := bnd_at hf hs
                    refine lv_aload_n hx hb dX12_call_111 rfl (lv_at hl 0 rfl) ?_
                    refine gM_0_36 C hJ fl_RX12_53 dX12_call_112 ?_
                    refine lv_aload_n hx hb dX12_call_115 rfl (lv_at hl 0 rfl) ?_
                    refine gM_0_41 C hJ fl_RX12_363 dX12_call_116 ?_
                    refine lv_iload_n hx hb dX12_call_119 rfl (lv_at hl 2 rfl) ?_
                    obtain ⟨h30, hf⟩ := gi_some hf
                    refine sM_14 C hJ h30 dX12_call_120 (fun σ31 H locs hs hJ => ?_)
                    have hf := bnd_at hf hs
                    refine lv_aload_n hx hb dX12_call_121 rfl (lv_at hl 0 rfl) ?_
                    refine gM_0_37 C hJ fl_RX12_56 dX12_call_122 ?_
                    refine lv_aload_n hx hb dX12_call_125 rfl (lv_at hl 0 rfl) ?_
                    refine gM_0_41 C hJ fl_RX12_363 dX12_call_126 ?_
                    refine lv_iload_n hx hb dX12_call_129 rfl (lv_at hl 3 rfl) ?_
                    obtain ⟨h32, hf⟩ := gi_some hf
                    refine sM_15 C hJ h32 dX12_call_130 (fun σ33 H locs hs hJ => ?_)
                    have hf := bnd_at hf hs
                    refine lv_aload_n hx hb dX12_call_131 rfl (lv_at hl 0 rfl) ?_
                    refine gM_0_38 C hJ fl_RX12_59 dX12_call_132 ?_
                    refine lv_aload_n hx hb dX12_call_135 rfl (lv_at hl 0 rfl) ?_
                    refine gM_0_41 C hJ fl_RX12_363 dX12_call_136 ?_
                    refine lv_iload hx hb dX12_call_139 (lv_at hl 4 rfl) ?_
                    obtain ⟨h34, hf⟩ := gi_some hf
                    refine sM_16 C hJ h34 dX12_call_141 (fun σ35 H locs hs hJ => ?_)
                    have hf := bnd_at hf hs
                    refine lv_aload_n hx hb dX12_call_142 rfl (lv_at hl 0 rfl) ?_
                    refine gM_0_39 C hJ fl_RX12_62 dX12_call_143 ?_
                    refine lv_aload_n hx hb dX12_call_146 rfl (lv_at hl 0 rfl) ?_
                    refine gM_0_41 C hJ fl_RX12_363 dX12_call_147 ?_
                    refine lv_iload hx hb dX12_call_150 (lv_at hl 5 rfl) ?_
                    refine lv_bipush (v := 10) hx hb dX12_call_152 (by decide) ?_
                    refine lv_idiv hx hb dX12_call_154 (by decide) ?_
                    obtain ⟨h36, hf⟩ := gi_some hf
                    refine sM_17 C hJ h36 dX12_call_155 (fun σ37 H locs hs hJ => ?_)
                    have hf := bnd_at hf hs
                    refine lv_aload_n hx hb dX12_call_156 rfl (lv_at hl 0 rfl) ?_
                    refine gM_0_40 C hJ fl_RX12_65 dX12_call_157 ?_
                    refine lv_aload_n hx hb dX12_call_160 rfl (lv_at hl 0 rfl) ?_
                    refine gM_0_41 C hJ fl_RX12_363 dX12_call_161 ?_
                    refine lv_iload hx hb dX12_call_164 (lv_at hl 5 rfl) ?_
                    refine lv_bipush (v := 10) hx hb dX12_call_166 (by decide) ?_
                    refine lv_irem hx hb dX12_call_168 (by decide) ?_
                    obtain ⟨h38, hf⟩ := gi_some hf
                    refine sM_18 C hJ h38 dX12_call_169 (fun σ39 H locs hs hJ => ?_)
                    have hf := bnd_at hf hs
                    refine lv_aload_n hx hb dX12_call_170 rfl (lv_at hl 0 rfl) ?_
                    refine lv_dup hx hb dX12_call_171 rfl ?_
                    refine gM_0_41 C hJ fl_RX12_363 dX12_call_172 ?_
                    refine lv_iconst (v := 1) hx hb dX12_call_175 (by decide) ?_
                    refine lv_iadd hx hb dX12_call_176 ?_
                    refine pM_0_41 C hJ fl_RX12_363 dX12_call_177 (fun σ40 H locs hs hJ => ?_)
                    have hf := bnd_at hf hs
                    refine lv_aload_n hx hb dX12_call_180 rfl (lv_at hl 0 rfl) ?_
                    refine gM_0_41 C hJ fl_RX12_363 dX12_call_181 ?_
                    refine lv_iconst (v := 1) hx hb dX12_call_184 (by decide) ?_
                    refine lv_isub hx hb dX12_call_185 ?_
                    exact ret_I hret hJ hf rfl dX12_call_186
                  · have hf := ite_t hf c27
                    refine lv_bipush (v := -4) hx hb dX12_call_98 (by decide) ?_
                    exact ret_I hret hJ hf rfl dX12_call_100
                · have hf := ite_t hf c26
                  refine lv_bipush (v := -2) hx hb dX12_call_86 (by decide) ?_
                  exact ret_I hret hJ hf rfl dX12_call_88
