set_option maxHeartbeats 4000000 in
set_option maxRecDepth 100000 in
theorem cM_fail {l : Launch} {D : va_G} {cA cB : ClassId} {q : Nat → Nat} {A : Nat → Prop} {E : State → Prop} {N : Nat} {σ σ' : St} (hF : Fr (wM q cA cB) A E) (hf : fM_fail N σ  = some (σ', ())) : MV l yX12_fail cX12_fail 1 1 D (tyM cA cB) (wM q cA cB) A E [.ref (q 0)] σ σ' := by
  refine MV_of (by decide) hF (Nat.le_of_ble_eq_true rfl) ?_
  intro p e s m args below meth c Q C hret hJ ls hl
  obtain ⟨hx, hb, hml, hown, hts, hK, hE, -⟩ := id C
  have hsb : ∀ z, A z → A z := fun _ h => h
  have hl : lv_has ls 1 [(0, .ref (q 0))] := hl
  unfold fM_fail at hf
  refine lv_aload_n hx hb dX12_fail_0 rfl (lv_at hl 0 rfl) ?_
  refine gM_0_20 C hJ fl_RX12_206 dX12_fail_1 ?_
  refine lv_if_ne (tgt := 20) hx hb dX12_fail_4 (by decide) (fun c1 => ?_) (fun c1 => ?_)
  · have hf := ite_f hf c1
    exact ret_V hret hJ hf dX12_fail_20
  · have hf := ite_t hf c1
    refine lv_aload_n hx hb dX12_fail_7 rfl (lv_at hl 0 rfl) ?_
    refine lv_iconst (v := 1) hx hb dX12_fail_8 (by decide) ?_
    refine pM_0_20 C hJ (by decide) fl_RX12_206 dX12_fail_9 (fun σ2 H locs hs hJ => ?_)
    have hf := bnd_at hf hs
    refine lv_aload_n hx hb dX12_fail_12 rfl (lv_at hl 0 rfl) ?_
    refine lv_aload_n hx hb dX12_fail_13 rfl (lv_at hl 0 rfl) ?_
    refine gM_0_16 C hJ fl_RX12_180 dX12_fail_14 ?_
    refine pM_0_21 C hJ fl_RX12_210 dX12_fail_17 (fun σ3 H locs hs hJ => ?_)
    have hf := bnd_at hf hs
    exact ret_V hret hJ hf dX12_fail_20
set_option maxHeartbeats 4000000 in
set_option maxRecDepth 100000 in
theorem cM_isWord {l : Launch} {D : va_G} {cA cB : ClassId} {q : Nat → Nat} {A : Nat → Prop} {E : State → Prop} {N : Nat} {σ σ' : St} {r : Int32} {a1 : Int64} (hF : Fr (wM q cA cB) A E) (hf : fM_isWord N σ a1 = some (σ', r)) : MI l yX12_isWord cX12_isWord 3 .boolean 1 D (tyM cA cB) (wM q cA cB) A E [.ref (q 0), .long a1] σ σ' r := by
  refine MI_of (by decide) hF (Nat.le_of_ble_eq_true rfl) ?_
  intro p e s m args below meth c Q C hret hJ ls hl
  obtain ⟨hx, hb, hml, hown, hts, hK, hE, -⟩ := id C
  have hsb : ∀ z, A z → A z := fun _ h => h
  have hl : lv_has ls 3 [(0, .ref (q 0)), (1, .long a1)] := hl
  unfold fM_isWord at hf
  refine lv_aload_n hx hb dX12_isWord_0 rfl (lv_at hl 0 rfl) ?_
  refine gM_0_20 C hJ fl_RX12_206 dX12_isWord_1 ?_
  refine lv_if_ne (tgt := 28) hx hb dX12_isWord_4 (by decide) (fun c1 => ?_) (fun c1 => ?_)
  · have hf := ite_f hf c1
    refine lv_iconst (v := 0) hx hb dX12_isWord_28 (by decide) ?_
    exact ret_I hret hJ hf (nar_z (by decide)) dX12_isWord_29
  · have hf := ite_t hf c1
    refine lv_aload_n hx hb dX12_isWord_7 rfl (lv_at hl 0 rfl) ?_
    refine gM_0_15 C hJ fl_RX12_183 dX12_isWord_8 ?_
    refine lv_iconst (v := 1) hx hb dX12_isWord_11 (by decide) ?_
    refine lv_icmp_ne (tgt := 28) hx hb dX12_isWord_12 (by decide) (fun c2 => ?_) (fun c2 => ?_)
    · have hf := ite_f hf c2
      refine lv_iconst (v := 0) hx hb dX12_isWord_28 (by decide) ?_
      exact ret_I hret hJ hf (nar_z (by decide)) dX12_isWord_29
    · have hf := ite_t hf c2
      refine lv_aload_n hx hb dX12_isWord_15 rfl (lv_at hl 0 rfl) ?_
      refine gM_0_17 C hJ fl_RX12_190 dX12_isWord_16 ?_
      refine lv_lload_n hx hb dX12_isWord_19 rfl (lv_at hl 1 rfl) ?_
      refine W.lcmp hx hb dX12_isWord_20 ?_
      refine lv_if_ne (tgt := 28) hx hb dX12_isWord_21 (by decide) (fun c3 => ?_) (fun c3 => ?_)
      · have hf := ite_f hf c3
        refine lv_iconst (v := 0) hx hb dX12_isWord_28 (by decide) ?_
        exact ret_I hret hJ hf (nar_z (by decide)) dX12_isWord_29
      · have hf := ite_t hf c3
        refine lv_iconst (v := 1) hx hb dX12_isWord_24 (by decide) ?_
        refine lv_goto (tgt := 29) hx hb dX12_isWord_25 (by decide) ?_
        exact ret_I hret hJ hf (nar_z (by decide)) dX12_isWord_29
set_option maxHeartbeats 4000000 in
set_option maxRecDepth 100000 in
theorem cM_name {l : Launch} {D : va_G} {cA cB : ClassId} {q : Nat → Nat} {A : Nat → Prop} {E : State → Prop} {N : Nat} {σ σ' : St} {r : Int32} (hF : Fr (wM q cA cB) A E) (hf : fM_name N σ  = some (σ', r)) : MI l yX12_name cX12_name 1 .int 2 D (tyM cA cB) (wM q cA cB) A E [.ref (q 0)] σ σ' r := by
  refine MI_of (by decide) hF (Nat.le_of_ble_eq_true rfl) ?_
  intro p e s m args below meth c Q C hret hJ ls hl
  obtain ⟨hx, hb, hml, hown, hts, hK, hE, -⟩ := id C
  have hsb : ∀ z, A z → A z := fun _ h => h
  have hl : lv_has ls 1 [(0, .ref (q 0))] := hl
  unfold fM_name at hf
  refine lv_aload_n hx hb dX12_name_0 rfl (lv_at hl 0 rfl) ?_
  refine lv_ldc2 (v := 316163) hx hb hown (hts _ kl_RX12_222) dX12_name_1 ?_
  obtain ⟨σ1, r2, hg3, hf⟩ := cal_some hf
  refine backI hsb hJ (runV (As := [.long (316163 : Int64)]) (rest := []) C hJ lk_RX12_224 (cM_isWord hF hg3) recM_0 rfl rfl (Nat.le_of_ble_eq_true rfl) hl.1 (hR_of (by omega) (by decide)) ⟨Nat.le_refl _, Nat.le_refl _⟩ dX12_name_4) (fun H locs hJ => ?_)
  refine lv_if_eq (tgt := 15) hx hb dX12_name_7 (by decide) (fun c4 => ?_) (fun c4 => ?_)
  · have hf := ite_t hf c4
    refine lv_aload_n hx hb dX12_name_15 rfl (lv_at hl 0 rfl) ?_
    refine lv_ldc2 (v := 11103) hx hb hown (hts _ kl_RX12_231) dX12_name_16 ?_
    obtain ⟨σ5, r6, hg7, hf⟩ := cal_some hf
    refine backI hsb hJ (runV (As := [.long (11103 : Int64)]) (rest := []) C hJ lk_RX12_224 (cM_isWord hF hg7) recM_0 rfl rfl (Nat.le_of_ble_eq_true rfl) hl.1 (hR_of (by omega) (by decide)) ⟨Nat.le_refl _, Nat.le_refl _⟩ dX12_name_19) (fun H locs hJ => ?_)
    refine lv_if_eq (tgt := 42) hx hb dX12_name_22 (by decide) (fun c8 => ?_) (fun c8 => ?_)
    · have hf := ite_t hf c8
      refine lv_aload_n hx hb dX12_name_42 rfl (lv_at hl 0 rfl) ?_
      refine lv_ldc2 (v := 10416091) hx hb hown (hts _ kl_RX12_236) dX12_name_43 ?_
      obtain ⟨σ9, r10, hg11, hf⟩ := cal_some hf
      refine backI hsb hJ (runV (As := [.long (10416091 : Int64)]) (rest := []) C hJ lk_RX12_224 (cM_isWord hF hg11) recM_0 rfl rfl (Nat.le_of_ble_eq_true rfl) hl.1 (hR_of (by omega) (by decide)) ⟨Nat.le_refl _, Nat.le_refl _⟩ dX12_name_46) (fun H locs hJ => ?_)
      refine lv_if_eq (tgt := 62) hx hb dX12_name_49 (by decide) (fun c12 => ?_) (fun c12 => ?_)
      · have hf := ite_t hf c12
        refine lv_aload_n hx hb dX12_name_62 rfl (lv_at hl 0 rfl) ?_
        refine lv_ldc2 (v := 397345) hx hb hown (hts _ kl_RX12_238) dX12_name_63 ?_
        obtain ⟨σ13, r14, hg15, hf⟩ := cal_some hf
        refine backI hsb hJ (runV (As := [.long (397345 : Int64)]) (rest := []) C hJ lk_RX12_224 (cM_isWord hF hg15) recM_0 rfl rfl (Nat.le_of_ble_eq_true rfl) hl.1 (hR_of (by omega) (by decide)) ⟨Nat.le_refl _, Nat.le_refl _⟩ dX12_name_66) (fun H locs hJ => ?_)
        refine lv_if_eq (tgt := 82) hx hb dX12_name_69 (by decide) (fun c16 => ?_) (fun c16 => ?_)
        · have hf := ite_t hf c16
          refine lv_aload_n hx hb dX12_name_82 rfl (lv_at hl 0 rfl) ?_
          refine lv_ldc2 (v := 400313) hx hb hown (hts _ kl_RX12_240) dX12_name_83 ?_
          obtain ⟨σ17, r18, hg19, hf⟩ := cal_some hf
          refine backI hsb hJ (runV (As := [.long (400313 : Int64)]) (rest := []) C hJ lk_RX12_224 (cM_isWord hF hg19) recM_0 rfl rfl (Nat.le_of_ble_eq_true rfl) hl.1 (hR_of (by omega) (by decide)) ⟨Nat.le_refl _, Nat.le_refl _⟩ dX12_name_86) (fun H locs hJ => ?_)
          refine lv_if_eq (tgt := 97) hx hb dX12_name_89 (by decide) (fun c20 => ?_) (fun c20 => ?_)
          · have hf := ite_t hf c20
            refine lv_aload_n hx hb dX12_name_97 rfl (lv_at hl 0 rfl) ?_
            refine lv_ldc2 (v := 12403754) hx hb hown (hts _ kl_RX12_245) dX12_name_98 ?_
            obtain ⟨σ21, r22, hg23, hf⟩ := cal_some hf
            refine backI hsb hJ (runV (As := [.long (12403754 : Int64)]) (rest := []) C hJ lk_RX12_224 (cM_isWord hF hg23) recM_0 rfl rfl (Nat.le_of_ble_eq_true rfl) hl.1 (hR_of (by omega) (by decide)) ⟨Nat.le_refl _, Nat.le_refl _⟩ dX12_name_101) (fun H locs hJ => ?_)
            refine lv_if_eq (tgt := 112) hx hb dX12_name_104 (by decide) (fun c24 => ?_) (fun c24 => ?_)
            · have hf := ite_t hf c24
              refine lv_aload_n hx hb dX12_name_112 rfl (lv_at hl 0 rfl) ?_
              obtain ⟨σ25, r26, hg27, hf⟩ := cal_some hf
              refine backV hsb hJ (runV (As := []) (rest := []) C hJ lk_RX12_216 (cM_fail hF hg27) recM_0 rfl rfl (Nat.le_of_ble_eq_true rfl) hl.1 (hR_of (by omega) (by decide)) ⟨Nat.le_refl _, Nat.le_refl _⟩ dX12_name_113) (fun H locs hJ => ?_)
              refine lv_iconst (v := 0) hx hb dX12_name_116 (by decide) ?_
              exact ret_I hret hJ hf rfl dX12_name_117
            · have hf := ite_f hf c24
              refine lv_aload_n hx hb dX12_name_107 rfl (lv_at hl 0 rfl) ?_
              refine gM_0_12 C hJ fl_RX12_247 dX12_name_108 ?_
              exact ret_I hret hJ hf rfl dX12_name_111
          · have hf := ite_f hf c20
            refine lv_aload_n hx hb dX12_name_92 rfl (lv_at hl 0 rfl) ?_
            refine gM_0_24 C hJ fl_RX12_242 dX12_name_93 ?_
            exact ret_I hret hJ hf rfl dX12_name_96
        · have hf := ite_f hf c16
          refine lv_aload_n hx hb dX12_name_72 rfl (lv_at hl 0 rfl) ?_
          refine gM_0_7 C hJ fl_RX12_23 dX12_name_73 ?_
          refine lv_aload_n hx hb dX12_name_76 rfl (lv_at hl 0 rfl) ?_
          refine gM_0_22 C hJ fl_RX12_233 dX12_name_77 ?_
          obtain ⟨h28, hf⟩ := gi_some hf
          refine aM_4 C hJ h28 dX12_name_80 ?_
          exact ret_I hret hJ hf rfl dX12_name_81
      · have hf := ite_f hf c12
        refine lv_aload_n hx hb dX12_name_52 rfl (lv_at hl 0 rfl) ?_
        refine gM_0_9 C hJ fl_RX12_29 dX12_name_53 ?_
        refine lv_aload_n hx hb dX12_name_56 rfl (lv_at hl 0 rfl) ?_
        refine gM_0_22 C hJ fl_RX12_233 dX12_name_57 ?_
        obtain ⟨h29, hf⟩ := gi_some hf
        refine aM_6 C hJ h29 dX12_name_60 ?_
        exact ret_I hret hJ hf rfl dX12_name_61
    · have hf := ite_f hf c8
      refine lv_aload_n hx hb dX12_name_25 rfl (lv_at hl 0 rfl) ?_
      refine gM_0_10 C hJ fl_RX12_32 dX12_name_26 ?_
      refine lv_iconst (v := 4) hx hb dX12_name_29 (by decide) ?_
      refine lv_aload_n hx hb dX12_name_30 rfl (lv_at hl 0 rfl) ?_
      refine gM_0_22 C hJ fl_RX12_233 dX12_name_31 ?_
      refine lv_imul hx hb dX12_name_34 ?_
      refine lv_aload_n hx hb dX12_name_35 rfl (lv_at hl 0 rfl) ?_
      refine gM_0_23 C hJ fl_RX12_228 dX12_name_36 ?_
      refine lv_iadd hx hb dX12_name_39 ?_
      obtain ⟨h30, hf⟩ := gi_some hf
      refine aM_7 C hJ h30 dX12_name_40 ?_
      exact ret_I hret hJ hf rfl dX12_name_41
  · have hf := ite_f hf c4
    refine lv_aload_n hx hb dX12_name_10 rfl (lv_at hl 0 rfl) ?_
    refine gM_0_23 C hJ fl_RX12_228 dX12_name_11 ?_
    exact ret_I hret hJ hf rfl dX12_name_14
set_option maxHeartbeats 4000000 in
set_option maxRecDepth 100000 in
theorem cM_byteAt {l : Launch} {D : va_G} {cA cB : ClassId} {q : Nat → Nat} {A : Nat → Prop} {E : State → Prop} {N : Nat} {σ σ' : St} {r : Int32} {a1 : Int32} (hF : Fr (wM q cA cB) A E) (hf : fM_byteAt N σ a1 = some (σ', r)) : MI l yX12_byteAt cX12_byteAt 2 .int 1 D (tyM cA cB) (wM q cA cB) A E [.ref (q 0), .int a1] σ σ' r := by
  refine MI_of (by decide) hF (Nat.le_of_ble_eq_true rfl) ?_
  intro p e s m args below meth c Q C hret hJ ls hl
  obtain ⟨hx, hb, hml, hown, hts, hK, hE, -⟩ := id C
  have hsb : ∀ z, A z → A z := fun _ h => h
  have hl : lv_has ls 2 [(0, .ref (q 0)), (1, .int a1)] := hl
  unfold fM_byteAt at hf
  refine lv_iload_n hx hb dX12_byteAt_0 rfl (lv_at hl 1 rfl) ?_
  refine lv_aload_n hx hb dX12_byteAt_1 rfl (lv_at hl 0 rfl) ?_
  refine gM_0_14 C hJ fl_RX12_167 dX12_byteAt_2 ?_
  refine lv_icmp_ge (tgt := 22) hx hb dX12_byteAt_5 (by decide) (fun c1 => ?_) (fun c1 => ?_)
  · have hf := ite_t hf c1
    refine lv_iconst (v := -1) hx hb dX12_byteAt_22 (by decide) ?_
    exact ret_I hret hJ hf rfl dX12_byteAt_23
  · have hf := ite_f hf c1
    refine lv_aload_n hx hb dX12_byteAt_8 rfl (lv_at hl 0 rfl) ?_
    refine gM_0_1 C hJ fl_RX12_13 dX12_byteAt_9 ?_
    refine lv_aload_n hx hb dX12_byteAt_12 rfl (lv_at hl 0 rfl) ?_
    refine gM_0_13 C hJ fl_RX12_170 dX12_byteAt_13 ?_
    refine lv_iload_n hx hb dX12_byteAt_16 rfl (lv_at hl 1 rfl) ?_
    refine lv_iadd hx hb dX12_byteAt_17 ?_
    obtain ⟨h2, hf⟩ := gi_some hf
    refine aM_1 C hJ h2 dX12_byteAt_18 ?_
    refine lv_goto (tgt := 23) hx hb dX12_byteAt_19 (by decide) ?_
    exact ret_I hret hJ hf rfl dX12_byteAt_23
set_option maxHeartbeats 4000000 in
set_option maxRecDepth 100000 in
theorem cM_in {l : Launch} {D : va_G} {cA cB : ClassId} {q : Nat → Nat} {A : Nat → Prop} {E : State → Prop} {N : Nat} {σ σ' : St} {r : Int32} {a0 : Int64} {a2 : Int64} {a4 : Int64} (hF : Fr (wM q cA cB) A E) (hf : fM_in N σ a0 a2 a4 = some (σ', r)) : MI l yX12_in cX12_in 6 .boolean 1 D (tyM cA cB) (wM q cA cB) A E [.long a0, .long a2, .long a4] σ σ' r := by
  refine MI_of (by decide) hF (Nat.le_of_ble_eq_true rfl) ?_
  intro p e s m args below meth c Q C hret hJ ls hl
  obtain ⟨hx, hb, hml, hown, hts, hK, hE, -⟩ := id C
  have hsb : ∀ z, A z → A z := fun _ h => h
  have hl : lv_has ls 6 [(0, .long a0), (2, .long a2), (4, .long a4)] := hl
  unfold fM_in at hf
  refine lv_lload_n hx hb dX12_in_0 rfl (lv_at hl 0 rfl) ?_
  refine lv_lload_n hx hb dX12_in_1 rfl (lv_at hl 1 rfl) ?_
  refine W.lcmp hx hb dX12_in_2 ?_
  refine lv_if_lt (tgt := 17) hx hb dX12_in_3 (by decide) (fun c1 => ?_) (fun c1 => ?_)
  · have hf := ite_t hf c1
    refine lv_iconst (v := 0) hx hb dX12_in_17 (by decide) ?_
    exact ret_I hret hJ hf (nar_z (by decide)) dX12_in_18
  · have hf := ite_f hf c1
    refine lv_lload_n hx hb dX12_in_6 rfl (lv_at hl 0 rfl) ?_
    refine lv_lload hx hb dX12_in_7 (lv_at hl 2 rfl) ?_
    refine W.lcmp hx hb dX12_in_9 ?_
    refine lv_if_gt (tgt := 17) hx hb dX12_in_10 (by decide) (fun c2 => ?_) (fun c2 => ?_)
    · have hf := ite_t hf c2
      refine lv_iconst (v := 0) hx hb dX12_in_17 (by decide) ?_
      exact ret_I hret hJ hf (nar_z (by decide)) dX12_in_18
    · have hf := ite_f hf c2
      refine lv_iconst (v := 1) hx hb dX12_in_13 (by decide) ?_
      refine lv_goto (tgt := 18) hx hb dX12_in_14 (by decide) ?_
      exact ret_I hret hJ hf (nar_z (by decide)) dX12_in_18
set_option maxHeartbeats 4000000 in
set_option maxRecDepth 100000 in
theorem cM_next {l : Launch} {D : va_G} {cA cB : ClassId} {q : Nat → Nat} {A : Nat → Prop} {E : State → Prop} {N : Nat} {σ σ' : St} (hF : Fr (wM q cA cB) A E) (hf : fM_next N σ  = some (σ', ())) : MV l yX12_next cX12_next 3 2 D (tyM cA cB) (wM q cA cB) A E [.ref (q 0)] σ σ' := by
  refine MV_of (by decide) hF (Nat.le_of_ble_eq_true rfl) ?_
  intro p e s m args below meth c Q C hret hJ ls hl
  obtain ⟨hx, hb, hml, hown, hts, hK, hE, -⟩ := id C
  have hsb : ∀ z, A z → A z := fun _ h => h
  have j351 : ∀ (σ : St) (a1 : Int32) (H : Heap) (locs : List Loc) (ls : Array Slot), fM_next_j351 N  σ a1 = some (σ', ()) → J D (wM q cA cB) A s σ H locs → lv_has ls 3 [(0, .ref (q 0)), (1, .int a1)] → W p l e (rmH 2) s m args below meth c H locs 0 0 Q (F0 m 351 ls []) := by
    intro σ a1 H locs ls hf hJ hl
    unfold fM_next_j351 at hf
    refine lv_aload_n hx hb dX12_next_351 rfl (lv_at hl 0 rfl) ?_
    refine lv_iconst (v := 3) hx hb dX12_next_352 (by decide) ?_
    refine pM_0_15 C hJ fl_RX12_183 dX12_next_353 (fun σ1 H locs hs hJ => ?_)
    have hf := bnd_at hf hs
    refine lv_aload_n hx hb dX12_next_356 rfl (lv_at hl 0 rfl) ?_
    refine lv_iload_n hx hb dX12_next_357 rfl (lv_at hl 1 rfl) ?_
    refine lv_i2l (v := a1.toInt64) hx hb dX12_next_358 rfl ?_
    refine pM_0_17 C hJ fl_RX12_190 dX12_next_359 (fun σ2 H locs hs hJ => ?_)
    have hf := bnd_at hf hs
    refine lv_aload_n hx hb dX12_next_362 rfl (lv_at hl 0 rfl) ?_
    refine lv_dup hx hb dX12_next_363 rfl ?_
    refine gM_0_18 C hJ fl_RX12_173 dX12_next_364 ?_
    refine lv_iconst (v := 1) hx hb dX12_next_367 (by decide) ?_
    refine lv_iadd hx hb dX12_next_368 ?_
    refine pM_0_18 C hJ fl_RX12_173 dX12_next_369 (fun σ3 H locs hs hJ => ?_)
    have hf := bnd_at hf hs
    exact ret_V hret hJ hf dX12_next_372
  have j297 : ∀ (σ : St) (t1 : Int32) (H : Heap) (locs : List Loc) (ls : Array Slot), fM_next_j297 N  σ t1 = some (σ', ()) → J D (wM q cA cB) A s σ H locs → lv_has ls 3 [] → W p l e (rmH 2) s m args below meth c H locs 0 0 Q (F0 m 297 ls [.int t1, .ref (q 0)]) := by
    intro σ t1 H locs ls hf hJ hl
    unfold fM_next_j297 at hf
    refine pM_0_15 C hJ fl_RX12_183 dX12_next_297 (fun σ4 H locs hs hJ => ?_)
    have hf := bnd_at hf hs
    refine lv_goto (tgt := 372) hx hb dX12_next_300 (by decide) ?_
    exact ret_V hret hJ hf dX12_next_372
  have j286 : ∀ (σ : St) (a2 : Int32) (H : Heap) (locs : List Loc) (ls : Array Slot), fM_next_j286 N  σ a2 = some (σ', ()) → J D (wM q cA cB) A s σ H locs → lv_has ls 3 [(0, .ref (q 0)), (2, .int a2)] → W p l e (rmH 2) s m args below meth c H locs 0 0 Q (F0 m 286 ls []) := by
    intro σ a2 H locs ls hf hJ hl
    unfold fM_next_j286 at hf
    refine lv_aload_n hx hb dX12_next_286 rfl (lv_at hl 0 rfl) ?_
    refine lv_iload_n hx hb dX12_next_287 rfl (lv_at hl 1 rfl) ?_
    refine lv_iconst (v := 4) hx hb dX12_next_288 (by decide) ?_
    refine lv_icmp_le (tgt := 296) hx hb dX12_next_289 (by decide) (fun c5 => ?_) (fun c5 => ?_)
    · have hf := ite_t hf c5
      refine lv_iconst (v := 2) hx hb dX12_next_296 (by decide) ?_
      exact j297 σ (2 : Int32) _ _ _ hf hJ (lv_sub hl [] rfl)
    · have hf := ite_f hf c5
      refine lv_iconst (v := 4) hx hb dX12_next_292 (by decide) ?_
      refine lv_goto (tgt := 297) hx hb dX12_next_293 (by decide) ?_
      exact j297 σ (4 : Int32) _ _ _ hf hJ (lv_sub hl [] rfl)
  have l211 : ∀ (n : Nat) (σ : St) (a2 : Int32) (H : Heap) (locs : List Loc) (ls : Array Slot), fM_next_l211 N  n σ a2 = some (σ', ()) → J D (wM q cA cB) A s σ H locs → lv_has ls 3 [(0, .ref (q 0)), (2, .int a2)] → W p l e (rmH 2) s m args below meth c H locs 0 0 Q (F0 m 211 ls []) := by
    intro n211
    induction n211 with
    | zero => intro σ a2 H locs ls hf; rw [fM_next_l211] at hf; cases hf
    | succ n211 ih211 =>
      have j267 : ∀ (σ : St) (a2 : Int32) (t1 : Int64) (H : Heap) (locs : List Loc) (ls : Array Slot), fM_next_j267 N (fM_next_l211 N  n211) σ a2 t1 = some (σ', ()) → J D (wM q cA cB) A s σ H locs → lv_has ls 3 [(0, .ref (q 0)), (2, .int a2)] → W p l e (rmH 2) s m args below meth c H locs 0 0 Q (F0 m 267 ls [.long t1, .ref (q 0)]) := by
        intro σ a2 t1 H locs ls hf hJ hl
        unfold fM_next_j267 at hf
        refine pM_0_17 C hJ fl_RX12_190 dX12_next_267 (fun σ6 H locs hs hJ => ?_)
        have hf := bnd_at hf hs
        obtain ⟨x7, hx7⟩ : ∃ z : Int32, z = a2 + (1 : Int32) := ⟨_, rfl⟩
        have hf := bnd_at hf hx7
        refine lv_iinc (v := x7) (lv' := [(2, .int x7), (0, .ref (q 0))]) hx hb dX12_next_270 hl (k := 1) rfl (by rw [hx7]; rfl) (by decide) rfl (fun ls hl => ?_)
        refine lv_aload_n hx hb dX12_next_273 rfl (lv_at hl 1 rfl) ?_
        refine lv_dup hx hb dX12_next_274 rfl ?_
        refine gM_0_18 C hJ fl_RX12_173 dX12_next_275 ?_
        refine lv_iconst (v := 1) hx hb dX12_next_278 (by decide) ?_
        refine lv_iadd hx hb dX12_next_279 ?_
        refine pM_0_18 C hJ fl_RX12_173 dX12_next_280 (fun σ8 H locs hs hJ => ?_)
        have hf := bnd_at hf hs
        refine lv_goto (tgt := 211) hx hb dX12_next_283 (by decide) ?_
        exact ih211 σ8 x7 _ _ _ hf hJ (lv_sub hl [1, 0] rfl)
      intro σ a2 H locs ls hf hJ hl
      rw [fM_next_l211] at hf
      refine lv_aload_n hx hb dX12_next_211 rfl (lv_at hl 0 rfl) ?_
      refine lv_aload_n hx hb dX12_next_212 rfl (lv_at hl 0 rfl) ?_
      refine gM_0_18 C hJ fl_RX12_173 dX12_next_213 ?_
      obtain ⟨σ9, r10, hg11, hf⟩ := cal_some hf
      refine backI hsb hJ (runV (As := [.int (σ.1 11)]) (rest := []) C hJ lk_RX12_176 (cM_byteAt hF hg11) recM_0 rfl rfl (Nat.le_of_ble_eq_true rfl) hl.1 (hR_of (by omega) (by decide)) ⟨Nat.le_refl _, Nat.le_refl _⟩ dX12_next_216) (fun H locs hJ => ?_)
      refine lv_i2l (v := r10.toInt64) hx hb dX12_next_219 rfl ?_
      refine lv_ldc2 (v := 48) hx hb hown (hts _ kl_RX12_200) dX12_next_220 ?_
      refine lv_ldc2 (v := 57) hx hb hown (hts _ kl_RX12_202) dX12_next_223 ?_
      obtain ⟨σ12, r13, hg14, hf⟩ := cal_some hf
      refine backI hsb hJ (runS (As := [.long r10.toInt64, .long (48 : Int64), .long (57 : Int64)]) (rest := []) C hJ lk_RX12_138 (cM_in hF hg14) rfl rfl (Nat.le_of_ble_eq_true rfl) hl.1 (hR_of (by omega) (by decide)) ⟨Nat.le_refl _, Nat.le_refl _⟩ dX12_next_226) (fun H locs hJ => ?_)
      refine lv_if_eq (tgt := 286) hx hb dX12_next_229 (by decide) (fun c15 => ?_) (fun c15 => ?_)
      · have hf := ite_t hf c15
        exact j286 σ12 a2 _ _ _ hf hJ (lv_sub hl [0, 1] rfl)
      · have hf := ite_f hf c15
        refine lv_aload_n hx hb dX12_next_232 rfl (lv_at hl 0 rfl) ?_
        refine lv_iload_n hx hb dX12_next_233 rfl (lv_at hl 1 rfl) ?_
        refine lv_iconst (v := 4) hx hb dX12_next_234 (by decide) ?_
        refine lv_icmp_ge (tgt := 263) hx hb dX12_next_235 (by decide) (fun c16 => ?_) (fun c16 => ?_)
        · have hf := ite_t hf c16
          refine lv_aload_n hx hb dX12_next_263 rfl (lv_at hl 0 rfl) ?_
          refine gM_0_17 C hJ fl_RX12_190 dX12_next_264 ?_
          exact j267 σ12 a2 (σ12.2.2 10) _ _ _ hf hJ (lv_sub hl [0, 1] rfl)
        · have hf := ite_f hf c16
          refine lv_ldc2 (v := 10) hx hb hown (hts _ kl_RX12_204) dX12_next_238 ?_
          refine lv_aload_n hx hb dX12_next_241 rfl (lv_at hl 0 rfl) ?_
          refine gM_0_17 C hJ fl_RX12_190 dX12_next_242 ?_
          refine lv_lmul hx hb dX12_next_245 ?_
          refine lv_aload_n hx hb dX12_next_246 rfl (lv_at hl 0 rfl) ?_
          refine lv_aload_n hx hb dX12_next_247 rfl (lv_at hl 0 rfl) ?_
          refine gM_0_18 C hJ fl_RX12_173 dX12_next_248 ?_
          obtain ⟨σ17, r18, hg19, hf⟩ := cal_some hf
          refine backI hsb hJ (runV (As := [.int (σ12.1 11)]) (rest := [.long ((10 : Int64) * (σ12.2.2 10)), .ref (q 0)]) C hJ lk_RX12_176 (cM_byteAt hF hg19) recM_0 rfl rfl (Nat.le_of_ble_eq_true rfl) hl.1 (hR_of (by omega) (by decide)) ⟨Nat.le_refl _, Nat.le_refl _⟩ dX12_next_251) (fun H locs hJ => ?_)
          refine lv_i2l (v := r18.toInt64) hx hb dX12_next_254 rfl ?_
          refine lv_ladd hx hb dX12_next_255 ?_
          refine lv_ldc2 (v := 48) hx hb hown (hts _ kl_RX12_200) dX12_next_256 ?_
          refine lv_lsub hx hb dX12_next_259 ?_
          refine lv_goto (tgt := 267) hx hb dX12_next_260 (by decide) ?_
          exact j267 σ17 a2 ((((10 : Int64) * (σ12.2.2 10)) + r18.toInt64) - (48 : Int64)) _ _ _ hf hJ (lv_sub hl [0, 1] rfl)
  have l107 : ∀ (n : Nat) (σ : St) (a2 : Int32) (H : Heap) (locs : List Loc) (ls : Array Slot), fM_next_l107 N  n σ a2 = some (σ', ()) → J D (wM q cA cB) A s σ H locs → lv_has ls 3 [(0, .ref (q 0)), (2, .int a2)] → W p l e (rmH 2) s m args below meth c H locs 0 0 Q (F0 m 107 ls []) := by
    intro n107
    induction n107 with
    | zero => intro σ a2 H locs ls hf; rw [fM_next_l107] at hf; cases hf
    | succ n107 ih107 =>
      have j163 : ∀ (σ : St) (a2 : Int32) (t1 : Int64) (H : Heap) (locs : List Loc) (ls : Array Slot), fM_next_j163 N (fM_next_l107 N  n107) σ a2 t1 = some (σ', ()) → J D (wM q cA cB) A s σ H locs → lv_has ls 3 [(0, .ref (q 0)), (2, .int a2)] → W p l e (rmH 2) s m args below meth c H locs 0 0 Q (F0 m 163 ls [.long t1, .ref (q 0)]) := by
        intro σ a2 t1 H locs ls hf hJ hl
        unfold fM_next_j163 at hf
        refine pM_0_17 C hJ fl_RX12_190 dX12_next_163 (fun σ20 H locs hs hJ => ?_)
        have hf := bnd_at hf hs
        obtain ⟨x21, hx21⟩ : ∃ z : Int32, z = a2 + (1 : Int32) := ⟨_, rfl⟩
        have hf := bnd_at hf hx21
        refine lv_iinc (v := x21) (lv' := [(2, .int x21), (0, .ref (q 0))]) hx hb dX12_next_166 hl (k := 1) rfl (by rw [hx21]; rfl) (by decide) rfl (fun ls hl => ?_)
        refine lv_aload_n hx hb dX12_next_169 rfl (lv_at hl 1 rfl) ?_
        refine lv_dup hx hb dX12_next_170 rfl ?_
        refine gM_0_18 C hJ fl_RX12_173 dX12_next_171 ?_
        refine lv_iconst (v := 1) hx hb dX12_next_174 (by decide) ?_
        refine lv_iadd hx hb dX12_next_175 ?_
        refine pM_0_18 C hJ fl_RX12_173 dX12_next_176 (fun σ22 H locs hs hJ => ?_)
        have hf := bnd_at hf hs
        refine lv_goto (tgt := 107) hx hb dX12_next_179 (by decide) ?_
        exact ih107 σ22 x21 _ _ _ hf hJ (lv_sub hl [1, 0] rfl)
      intro σ a2 H locs ls hf hJ hl
      rw [fM_next_l107] at hf
      refine lv_aload_n hx hb dX12_next_107 rfl (lv_at hl 0 rfl) ?_
      refine lv_aload_n hx hb dX12_next_108 rfl (lv_at hl 0 rfl) ?_
      refine gM_0_18 C hJ fl_RX12_173 dX12_next_109 ?_
      obtain ⟨σ23, r24, hg25, hf⟩ := cal_some hf
      refine backI hsb hJ (runV (As := [.int (σ.1 11)]) (rest := []) C hJ lk_RX12_176 (cM_byteAt hF hg25) recM_0 rfl rfl (Nat.le_of_ble_eq_true rfl) hl.1 (hR_of (by omega) (by decide)) ⟨Nat.le_refl _, Nat.le_refl _⟩ dX12_next_112) (fun H locs hJ => ?_)
      refine lv_i2l (v := r24.toInt64) hx hb dX12_next_115 rfl ?_
      refine lv_ldc2 (v := 97) hx hb hown (hts _ kl_RX12_186) dX12_next_116 ?_
      refine lv_ldc2 (v := 122) hx hb hown (hts _ kl_RX12_188) dX12_next_119 ?_
      obtain ⟨σ26, r27, hg28, hf⟩ := cal_some hf
      refine backI hsb hJ (runS (As := [.long r24.toInt64, .long (97 : Int64), .long (122 : Int64)]) (rest := []) C hJ lk_RX12_138 (cM_in hF hg28) rfl rfl (Nat.le_of_ble_eq_true rfl) hl.1 (hR_of (by omega) (by decide)) ⟨Nat.le_refl _, Nat.le_refl _⟩ dX12_next_122) (fun H locs hJ => ?_)
      refine lv_if_eq (tgt := 182) hx hb dX12_next_125 (by decide) (fun c29 => ?_) (fun c29 => ?_)
      · have hf := ite_t hf c29
        refine lv_goto (tgt := 372) hx hb dX12_next_182 (by decide) ?_
        exact ret_V hret hJ hf dX12_next_372
      · have hf := ite_f hf c29
        refine lv_aload_n hx hb dX12_next_128 rfl (lv_at hl 0 rfl) ?_
        refine lv_iload_n hx hb dX12_next_129 rfl (lv_at hl 1 rfl) ?_
        refine lv_bipush (v := 8) hx hb dX12_next_130 (by decide) ?_
        refine lv_icmp_ge (tgt := 160) hx hb dX12_next_132 (by decide) (fun c30 => ?_) (fun c30 => ?_)
        · have hf := ite_t hf c30
          refine lv_ldc2 (v := -1) hx hb hown (hts _ kl_RX12_198) dX12_next_160 ?_
          exact j163 σ26 a2 (-1 : Int64) _ _ _ hf hJ (lv_sub hl [0, 1] rfl)
        · have hf := ite_f hf c30
          refine lv_ldc2 (v := 27) hx hb hown (hts _ kl_RX12_194) dX12_next_135 ?_
          refine lv_aload_n hx hb dX12_next_138 rfl (lv_at hl 0 rfl) ?_
          refine gM_0_17 C hJ fl_RX12_190 dX12_next_139 ?_
          refine lv_lmul hx hb dX12_next_142 ?_
          refine lv_aload_n hx hb dX12_next_143 rfl (lv_at hl 0 rfl) ?_
          refine lv_aload_n hx hb dX12_next_144 rfl (lv_at hl 0 rfl) ?_
          refine gM_0_18 C hJ fl_RX12_173 dX12_next_145 ?_
          obtain ⟨σ31, r32, hg33, hf⟩ := cal_some hf
          refine backI hsb hJ (runV (As := [.int (σ26.1 11)]) (rest := [.long ((27 : Int64) * (σ26.2.2 10)), .ref (q 0)]) C hJ lk_RX12_176 (cM_byteAt hF hg33) recM_0 rfl rfl (Nat.le_of_ble_eq_true rfl) hl.1 (hR_of (by omega) (by decide)) ⟨Nat.le_refl _, Nat.le_refl _⟩ dX12_next_148) (fun H locs hJ => ?_)
          refine lv_i2l (v := r32.toInt64) hx hb dX12_next_151 rfl ?_
          refine lv_ladd hx hb dX12_next_152 ?_
          refine lv_ldc2 (v := 96) hx hb hown (hts _ kl_RX12_196) dX12_next_153 ?_
          refine lv_lsub hx hb dX12_next_156 ?_
          refine lv_goto (tgt := 163) hx hb dX12_next_157 (by decide) ?_
          exact j163 σ31 a2 ((((27 : Int64) * (σ26.2.2 10)) + r32.toInt64) - (96 : Int64)) _ _ _ hf hJ (lv_sub hl [0, 1] rfl)
  have j39 : ∀ (σ : St) (H : Heap) (locs : List Loc) (ls : Array Slot), fM_next_j39 N  σ = some (σ', ()) → J D (wM q cA cB) A s σ H locs → lv_has ls 3 [(0, .ref (q 0))] → W p l e (rmH 2) s m args below meth c H locs 0 0 Q (F0 m 39 ls []) := by
    intro σ H locs ls hf hJ hl
    unfold fM_next_j39 at hf
    refine lv_aload_n hx hb dX12_next_39 rfl (lv_at hl 0 rfl) ?_
    refine lv_aload_n hx hb dX12_next_40 rfl (lv_at hl 0 rfl) ?_
    refine gM_0_18 C hJ fl_RX12_173 dX12_next_41 ?_
    refine pM_0_16 C hJ fl_RX12_180 dX12_next_44 (fun σ34 H locs hs hJ => ?_)
    have hf := bnd_at hf hs
    refine lv_aload_n hx hb dX12_next_47 rfl (lv_at hl 0 rfl) ?_
    refine lv_aload_n hx hb dX12_next_48 rfl (lv_at hl 0 rfl) ?_
    refine gM_0_18 C hJ fl_RX12_173 dX12_next_49 ?_
    obtain ⟨σ35, r36, hg37, hf⟩ := cal_some hf
    refine backI hsb hJ (runV (As := [.int (σ34.1 11)]) (rest := []) C hJ lk_RX12_176 (cM_byteAt hF hg37) recM_0 rfl rfl (Nat.le_of_ble_eq_true rfl) hl.1 (hR_of (by omega) (by decide)) ⟨Nat.le_refl _, Nat.le_refl _⟩ dX12_next_52) (fun H locs hJ => ?_)
    refine lv_istore_n (lv' := [(1, .int r36), (0, .ref (q 0))]) hx hb dX12_next_55 rfl hl (by decide) rfl (fun ls hl => ?_)
    refine lv_aload_n hx hb dX12_next_56 rfl (lv_at hl 1 rfl) ?_
    refine lv_iconst (v := 4) hx hb dX12_next_57 (by decide) ?_
    refine pM_0_15 C hJ fl_RX12_183 dX12_next_58 (fun σ38 H locs hs hJ => ?_)
    have hf := bnd_at hf hs
    refine lv_iload_n hx hb dX12_next_61 rfl (lv_at hl 0 rfl) ?_
    refine lv_if_ge (tgt := 81) hx hb dX12_next_62 (by decide) (fun c39 => ?_) (fun c39 => ?_)
    · have hf := ite_t hf c39
      refine lv_iload_n hx hb dX12_next_81 rfl (lv_at hl 0 rfl) ?_
      refine lv_i2l (v := r36.toInt64) hx hb dX12_next_82 rfl ?_
      refine lv_ldc2 (v := 97) hx hb hown (hts _ kl_RX12_186) dX12_next_83 ?_
      refine lv_ldc2 (v := 122) hx hb hown (hts _ kl_RX12_188) dX12_next_86 ?_
      obtain ⟨σ40, r41, hg42, hf⟩ := cal_some hf
      refine backI hsb hJ (runS (As := [.long r36.toInt64, .long (97 : Int64), .long (122 : Int64)]) (rest := []) C hJ lk_RX12_138 (cM_in hF hg42) rfl rfl (Nat.le_of_ble_eq_true rfl) hl.1 (hR_of (by omega) (by decide)) ⟨Nat.le_refl _, Nat.le_refl _⟩ dX12_next_89) (fun H locs hJ => ?_)
      refine lv_if_eq (tgt := 185) hx hb dX12_next_92 (by decide) (fun c43 => ?_) (fun c43 => ?_)
      · have hf := ite_t hf c43
        refine lv_iload_n hx hb dX12_next_185 rfl (lv_at hl 0 rfl) ?_
        refine lv_i2l (v := r36.toInt64) hx hb dX12_next_186 rfl ?_
        refine lv_ldc2 (v := 48) hx hb hown (hts _ kl_RX12_200) dX12_next_187 ?_
        refine lv_ldc2 (v := 57) hx hb hown (hts _ kl_RX12_202) dX12_next_190 ?_
        obtain ⟨σ44, r45, hg46, hf⟩ := cal_some hf
        refine backI hsb hJ (runS (As := [.long r36.toInt64, .long (48 : Int64), .long (57 : Int64)]) (rest := []) C hJ lk_RX12_138 (cM_in hF hg46) rfl rfl (Nat.le_of_ble_eq_true rfl) hl.1 (hR_of (by omega) (by decide)) ⟨Nat.le_refl _, Nat.le_refl _⟩ dX12_next_193) (fun H locs hJ => ?_)
        refine lv_if_eq (tgt := 303) hx hb dX12_next_196 (by decide) (fun c47 => ?_) (fun c47 => ?_)
        · have hf := ite_t hf c47
          refine lv_iload_n hx hb dX12_next_303 rfl (lv_at hl 0 rfl) ?_
          refine lv_bipush (v := 40) hx hb dX12_next_304 (by decide) ?_
          refine lv_icmp_eq (tgt := 351) hx hb dX12_next_306 (by decide) (fun c48 => ?_) (fun c48 => ?_)
          · have hf := ite_t hf c48
            exact j351 σ44 r36 _ _ _ hf hJ (lv_sub hl [1, 0] rfl)
          · have hf := ite_f hf c48
            refine lv_iload_n hx hb dX12_next_309 rfl (lv_at hl 0 rfl) ?_
            refine lv_bipush (v := 41) hx hb dX12_next_310 (by decide) ?_
            refine lv_icmp_eq (tgt := 351) hx hb dX12_next_312 (by decide) (fun c49 => ?_) (fun c49 => ?_)
            · have hf := ite_t hf c49
              exact j351 σ44 r36 _ _ _ hf hJ (lv_sub hl [1, 0] rfl)
            · have hf := ite_f hf c49
              refine lv_iload_n hx hb dX12_next_315 rfl (lv_at hl 0 rfl) ?_
              refine lv_bipush (v := 59) hx hb dX12_next_316 (by decide) ?_
              refine lv_icmp_eq (tgt := 351) hx hb dX12_next_318 (by decide) (fun c50 => ?_) (fun c50 => ?_)
              · have hf := ite_t hf c50
                exact j351 σ44 r36 _ _ _ hf hJ (lv_sub hl [1, 0] rfl)
              · have hf := ite_f hf c50
                refine lv_iload_n hx hb dX12_next_321 rfl (lv_at hl 0 rfl) ?_
                refine lv_bipush (v := 43) hx hb dX12_next_322 (by decide) ?_
                refine lv_icmp_eq (tgt := 351) hx hb dX12_next_324 (by decide) (fun c51 => ?_) (fun c51 => ?_)
                · have hf := ite_t hf c51
                  exact j351 σ44 r36 _ _ _ hf hJ (lv_sub hl [1, 0] rfl)
                · have hf := ite_f hf c51
                  refine lv_iload_n hx hb dX12_next_327 rfl (lv_at hl 0 rfl) ?_
                  refine lv_bipush (v := 45) hx hb dX12_next_328 (by decide) ?_
                  refine lv_icmp_eq (tgt := 351) hx hb dX12_next_330 (by decide) (fun c52 => ?_) (fun c52 => ?_)
                  · have hf := ite_t hf c52
                    exact j351 σ44 r36 _ _ _ hf hJ (lv_sub hl [1, 0] rfl)
                  · have hf := ite_f hf c52
                    refine lv_iload_n hx hb dX12_next_333 rfl (lv_at hl 0 rfl) ?_
                    refine lv_bipush (v := 42) hx hb dX12_next_334 (by decide) ?_
                    refine lv_icmp_eq (tgt := 351) hx hb dX12_next_336 (by decide) (fun c53 => ?_) (fun c53 => ?_)
                    · have hf := ite_t hf c53
                      exact j351 σ44 r36 _ _ _ hf hJ (lv_sub hl [1, 0] rfl)
                    · have hf := ite_f hf c53
                      refine lv_iload_n hx hb dX12_next_339 rfl (lv_at hl 0 rfl) ?_
                      refine lv_bipush (v := 60) hx hb dX12_next_340 (by decide) ?_
                      refine lv_icmp_eq (tgt := 351) hx hb dX12_next_342 (by decide) (fun c54 => ?_) (fun c54 => ?_)
                      · have hf := ite_t hf c54
                        exact j351 σ44 r36 _ _ _ hf hJ (lv_sub hl [1, 0] rfl)
                      · have hf := ite_f hf c54
                        refine lv_iload_n hx hb dX12_next_345 rfl (lv_at hl 0 rfl) ?_
                        refine lv_bipush (v := 61) hx hb dX12_next_346 (by decide) ?_
                        refine lv_icmp_ne (tgt := 372) hx hb dX12_next_348 (by decide) (fun c55 => ?_) (fun c55 => ?_)
                        · have hf := ite_f hf c55
                          exact ret_V hret hJ hf dX12_next_372
                        · have hf := ite_t hf c55
                          exact j351 σ44 r36 _ _ _ hf hJ (lv_sub hl [1, 0] rfl)
        · have hf := ite_f hf c47
          refine lv_aload_n hx hb dX12_next_199 rfl (lv_at hl 1 rfl) ?_
          refine lv_iconst (v := 2) hx hb dX12_next_200 (by decide) ?_
          refine pM_0_15 C hJ fl_RX12_183 dX12_next_201 (fun σ56 H locs hs hJ => ?_)
          have hf := bnd_at hf hs
          refine lv_aload_n hx hb dX12_next_204 rfl (lv_at hl 1 rfl) ?_
          refine lv_lconst (v := 0) hx hb dX12_next_205 (by decide) ?_
          refine pM_0_17 C hJ fl_RX12_190 dX12_next_206 (fun σ57 H locs hs hJ => ?_)
          have hf := bnd_at hf hs
          refine lv_iconst (v := 0) hx hb dX12_next_209 (by decide) ?_
          refine lv_istore_n (lv' := [(2, .int (0 : Int32)), (1, .int r36), (0, .ref (q 0))]) hx hb dX12_next_210 rfl hl (by decide) rfl (fun ls hl => ?_)
          exact l211 N σ57 (0 : Int32) _ _ _ hf hJ (lv_sub hl [2, 0] rfl)
      · have hf := ite_f hf c43
        refine lv_aload_n hx hb dX12_next_95 rfl (lv_at hl 1 rfl) ?_
        refine lv_iconst (v := 1) hx hb dX12_next_96 (by decide) ?_
        refine pM_0_15 C hJ fl_RX12_183 dX12_next_97 (fun σ58 H locs hs hJ => ?_)
        have hf := bnd_at hf hs
        refine lv_aload_n hx hb dX12_next_100 rfl (lv_at hl 1 rfl) ?_
        refine lv_lconst (v := 0) hx hb dX12_next_101 (by decide) ?_
        refine pM_0_17 C hJ fl_RX12_190 dX12_next_102 (fun σ59 H locs hs hJ => ?_)
        have hf := bnd_at hf hs
        refine lv_iconst (v := 0) hx hb dX12_next_105 (by decide) ?_
        refine lv_istore_n (lv' := [(2, .int (0 : Int32)), (1, .int r36), (0, .ref (q 0))]) hx hb dX12_next_106 rfl hl (by decide) rfl (fun ls hl => ?_)
        exact l107 N σ59 (0 : Int32) _ _ _ hf hJ (lv_sub hl [2, 0] rfl)
    · have hf := ite_f hf c39
      refine lv_aload_n hx hb dX12_next_65 rfl (lv_at hl 1 rfl) ?_
      refine lv_iconst (v := 0) hx hb dX12_next_66 (by decide) ?_
      refine pM_0_15 C hJ fl_RX12_183 dX12_next_67 (fun σ60 H locs hs hJ => ?_)
      have hf := bnd_at hf hs
      refine lv_aload_n hx hb dX12_next_70 rfl (lv_at hl 1 rfl) ?_
      refine lv_aload_n hx hb dX12_next_71 rfl (lv_at hl 1 rfl) ?_
      refine gM_0_14 C hJ fl_RX12_167 dX12_next_72 ?_
      refine pM_0_16 C hJ fl_RX12_180 dX12_next_75 (fun σ61 H locs hs hJ => ?_)
      have hf := bnd_at hf hs
      refine lv_goto (tgt := 372) hx hb dX12_next_78 (by decide) ?_
      exact ret_V hret hJ hf dX12_next_372
  have l0 : ∀ (n : Nat) (σ : St) (H : Heap) (locs : List Loc) (ls : Array Slot), fM_next_l0 N  n σ = some (σ', ()) → J D (wM q cA cB) A s σ H locs → lv_has ls 3 [(0, .ref (q 0))] → W p l e (rmH 2) s m args below meth c H locs 0 0 Q (F0 m 0 ls []) := by
    intro n0
    induction n0 with
    | zero => intro σ H locs ls hf; rw [fM_next_l0] at hf; cases hf
    | succ n0 ih0 =>
      have j26 : ∀ (σ : St) (H : Heap) (locs : List Loc) (ls : Array Slot), fM_next_j26 N (fM_next_l0 N  n0) σ = some (σ', ()) → J D (wM q cA cB) A s σ H locs → lv_has ls 3 [(0, .ref (q 0))] → W p l e (rmH 2) s m args below meth c H locs 0 0 Q (F0 m 26 ls []) := by
        intro σ H locs ls hf hJ hl
        unfold fM_next_j26 at hf
        refine lv_aload_n hx hb dX12_next_26 rfl (lv_at hl 0 rfl) ?_
        refine lv_dup hx hb dX12_next_27 rfl ?_
        refine gM_0_18 C hJ fl_RX12_173 dX12_next_28 ?_
        refine lv_iconst (v := 1) hx hb dX12_next_31 (by decide) ?_
        refine lv_iadd hx hb dX12_next_32 ?_
        refine pM_0_18 C hJ fl_RX12_173 dX12_next_33 (fun σ62 H locs hs hJ => ?_)
        have hf := bnd_at hf hs
        refine lv_goto (tgt := 0) hx hb dX12_next_36 (by decide) ?_
        exact ih0 σ62  _ _ _ hf hJ (lv_sub hl [0] rfl)
      intro σ H locs ls hf hJ hl
      rw [fM_next_l0] at hf
      refine lv_aload_n hx hb dX12_next_0 rfl (lv_at hl 0 rfl) ?_
      refine lv_aload_n hx hb dX12_next_1 rfl (lv_at hl 0 rfl) ?_
      refine gM_0_18 C hJ fl_RX12_173 dX12_next_2 ?_
      obtain ⟨σ63, r64, hg65, hf⟩ := cal_some hf
      refine backI hsb hJ (runV (As := [.int (σ.1 11)]) (rest := []) C hJ lk_RX12_176 (cM_byteAt hF hg65) recM_0 rfl rfl (Nat.le_of_ble_eq_true rfl) hl.1 (hR_of (by omega) (by decide)) ⟨Nat.le_refl _, Nat.le_refl _⟩ dX12_next_5) (fun H locs hJ => ?_)
      refine lv_bipush (v := 32) hx hb dX12_next_8 (by decide) ?_
      refine lv_icmp_eq (tgt := 26) hx hb dX12_next_10 (by decide) (fun c66 => ?_) (fun c66 => ?_)
      · have hf := ite_t hf c66
        exact j26 σ63  _ _ _ hf hJ (lv_sub hl [0] rfl)
      · have hf := ite_f hf c66
        refine lv_aload_n hx hb dX12_next_13 rfl (lv_at hl 0 rfl) ?_
        refine lv_aload_n hx hb dX12_next_14 rfl (lv_at hl 0 rfl) ?_
        refine gM_0_18 C hJ fl_RX12_173 dX12_next_15 ?_
        obtain ⟨σ67, r68, hg69, hf⟩ := cal_some hf
        refine backI hsb hJ (runV (As := [.int (σ63.1 11)]) (rest := []) C hJ lk_RX12_176 (cM_byteAt hF hg69) recM_0 rfl rfl (Nat.le_of_ble_eq_true rfl) hl.1 (hR_of (by omega) (by decide)) ⟨Nat.le_refl _, Nat.le_refl _⟩ dX12_next_18) (fun H locs hJ => ?_)
        refine lv_bipush (v := 10) hx hb dX12_next_21 (by decide) ?_
        refine lv_icmp_ne (tgt := 39) hx hb dX12_next_23 (by decide) (fun c70 => ?_) (fun c70 => ?_)
        · have hf := ite_f hf c70
          exact j39 σ67  _ _ _ hf hJ (lv_sub hl [0] rfl)
        · have hf := ite_t hf c70
          exact j26 σ67  _ _ _ hf hJ (lv_sub hl [0] rfl)
  have hl : lv_has ls 3 [(0, .ref (q 0))] := hl
  unfold fM_next at hf
  exact l0 N σ  _ _ _ hf hJ (lv_sub hl [0] rfl)
set_option maxHeartbeats 4000000 in
set_option maxRecDepth 100000 in
theorem cM_isSign {l : Launch} {D : va_G} {cA cB : ClassId} {q : Nat → Nat} {A : Nat → Prop} {E : State → Prop} {N : Nat} {σ σ' : St} {r : Int32} {a1 : Int32} (hF : Fr (wM q cA cB) A E) (hf : fM_isSign N σ a1 = some (σ', r)) : MI l yX12_isSign cX12_isSign 2 .boolean 1 D (tyM cA cB) (wM q cA cB) A E [.ref (q 0), .int a1] σ σ' r := by
  refine MI_of (by decide) hF (Nat.le_of_ble_eq_true rfl) ?_
  intro p e s m args below meth c Q C hret hJ ls hl
  obtain ⟨hx, hb, hml, hown, hts, hK, hE, -⟩ := id C
  have hsb : ∀ z, A z → A z := fun _ h => h
  have hl : lv_has ls 2 [(0, .ref (q 0)), (1, .int a1)] := hl
  unfold fM_isSign at hf
  refine lv_aload_n hx hb dX12_isSign_0 rfl (lv_at hl 0 rfl) ?_
  refine gM_0_20 C hJ fl_RX12_206 dX12_isSign_1 ?_
  refine lv_if_ne (tgt := 29) hx hb dX12_isSign_4 (by decide) (fun c1 => ?_) (fun c1 => ?_)
  · have hf := ite_f hf c1
    refine lv_iconst (v := 0) hx hb dX12_isSign_29 (by decide) ?_
    exact ret_I hret hJ hf (nar_z (by decide)) dX12_isSign_30
  · have hf := ite_t hf c1
    refine lv_aload_n hx hb dX12_isSign_7 rfl (lv_at hl 0 rfl) ?_
    refine gM_0_15 C hJ fl_RX12_183 dX12_isSign_8 ?_
    refine lv_iconst (v := 3) hx hb dX12_isSign_11 (by decide) ?_
    refine lv_icmp_ne (tgt := 29) hx hb dX12_isSign_12 (by decide) (fun c2 => ?_) (fun c2 => ?_)
    · have hf := ite_f hf c2
      refine lv_iconst (v := 0) hx hb dX12_isSign_29 (by decide) ?_
      exact ret_I hret hJ hf (nar_z (by decide)) dX12_isSign_30
    · have hf := ite_t hf c2
      refine lv_aload_n hx hb dX12_isSign_15 rfl (lv_at hl 0 rfl) ?_
      refine gM_0_17 C hJ fl_RX12_190 dX12_isSign_16 ?_
      refine lv_iload_n hx hb dX12_isSign_19 rfl (lv_at hl 1 rfl) ?_
      refine lv_i2l (v := a1.toInt64) hx hb dX12_isSign_20 rfl ?_
      refine W.lcmp hx hb dX12_isSign_21 ?_
      refine lv_if_ne (tgt := 29) hx hb dX12_isSign_22 (by decide) (fun c3 => ?_) (fun c3 => ?_)
      · have hf := ite_f hf c3
        refine lv_iconst (v := 0) hx hb dX12_isSign_29 (by decide) ?_
        exact ret_I hret hJ hf (nar_z (by decide)) dX12_isSign_30
      · have hf := ite_t hf c3
        refine lv_iconst (v := 1) hx hb dX12_isSign_25 (by decide) ?_
        refine lv_goto (tgt := 30) hx hb dX12_isSign_26 (by decide) ?_
        exact ret_I hret hJ hf (nar_z (by decide)) dX12_isSign_30
set_option maxHeartbeats 4000000 in
set_option maxRecDepth 100000 in
theorem cM_opens {l : Launch} {D : va_G} {cA cB : ClassId} {q : Nat → Nat} {A : Nat → Prop} {E : State → Prop} {N : Nat} {σ σ' : St} {r : Int32} (hF : Fr (wM q cA cB) A E) (hf : fM_opens N σ  = some (σ', r)) : MI l yX12_opens cX12_opens 1 .boolean 3 D (tyM cA cB) (wM q cA cB) A E [.ref (q 0)] σ σ' r := by
  refine MI_of (by decide) hF (Nat.le_of_ble_eq_true rfl) ?_
  intro p e s m args below meth c Q C hret hJ ls hl
  obtain ⟨hx, hb, hml, hown, hts, hK, hE, -⟩ := id C
  have hsb : ∀ z, A z → A z := fun _ h => h
  have hl : lv_has ls 1 [(0, .ref (q 0))] := hl
  unfold fM_opens at hf
  refine lv_aload_n hx hb dX12_opens_0 rfl (lv_at hl 0 rfl) ?_
  refine gM_0_19 C hJ fl_RX12_213 dX12_opens_1 ?_
  refine lv_iconst (v := 5) hx hb dX12_opens_4 (by decide) ?_
  refine lv_icmp_ne (tgt := 14) hx hb dX12_opens_5 (by decide) (fun c1 => ?_) (fun c1 => ?_)
  · have hf := ite_f hf c1
    refine lv_aload_n hx hb dX12_opens_14 rfl (lv_at hl 0 rfl) ?_
    refine lv_dup hx hb dX12_opens_15 rfl ?_
    refine gM_0_19 C hJ fl_RX12_213 dX12_opens_16 ?_
    refine lv_iconst (v := 1) hx hb dX12_opens_19 (by decide) ?_
    refine lv_iadd hx hb dX12_opens_20 ?_
    refine pM_0_19 C hJ fl_RX12_213 dX12_opens_21 (fun σ2 H locs hs hJ => ?_)
    have hf := bnd_at hf hs
    refine lv_aload_n hx hb dX12_opens_24 rfl (lv_at hl 0 rfl) ?_
    obtain ⟨σ3, r4, hg5, hf⟩ := cal_some hf
    refine backV hsb hJ (runV (As := []) (rest := []) C hJ lk_RX12_219 (cM_next hF hg5) recM_0 rfl rfl (Nat.le_of_ble_eq_true rfl) hl.1 (hR_of (by omega) (by decide)) ⟨Nat.le_refl _, Nat.le_refl _⟩ dX12_opens_25) (fun H locs hJ => ?_)
    refine lv_iconst (v := 1) hx hb dX12_opens_28 (by decide) ?_
    exact ret_I hret hJ hf (nar_z (by decide)) dX12_opens_29
  · have hf := ite_t hf c1
    refine lv_aload_n hx hb dX12_opens_8 rfl (lv_at hl 0 rfl) ?_
    obtain ⟨σ6, r7, hg8, hf⟩ := cal_some hf
    refine backV hsb hJ (runV (As := []) (rest := []) C hJ lk_RX12_216 (cM_fail hF hg8) recM_0 rfl rfl (Nat.le_of_ble_eq_true rfl) hl.1 (hR_of (by omega) (by decide)) ⟨Nat.le_refl _, Nat.le_refl _⟩ dX12_opens_9) (fun H locs hJ => ?_)
    refine lv_iconst (v := 0) hx hb dX12_opens_12 (by decide) ?_
    exact ret_I hret hJ hf (nar_z (by decide)) dX12_opens_13
set_option maxHeartbeats 4000000 in
set_option maxRecDepth 100000 in
theorem cM_one {l : Launch} {D : va_G} {cA cB : ClassId} {q : Nat → Nat} {A : Nat → Prop} {E : State → Prop} {N : Nat} {kA kB kC : St → Option (St × Int32)} {k : Nat} {σ σ' : St} {r : Int32} (hF : Fr (wM q cA cB) A E) (hRa : ∀ (σ : St) (σ' : St) (r : Int32), kA σ = some (σ', r) → MI l yX12_either cX12_either 3 .int (k + 6) D (tyM cA cB) (wM q cA cB) A E [.ref (q 0)] σ σ' r) (hRb : ∀ (σ : St) (σ' : St) (r : Int32), kB σ = some (σ', r) → MI l yX12_one cX12_one 2 .int (k + 1) D (tyM cA cB) (wM q cA cB) A E [.ref (q 0)] σ σ' r) (hRc : ∀ (σ : St) (σ' : St) (r : Int32), kC σ = some (σ', r) → MI l yX12_not cX12_not 4 .int (k + 4) D (tyM cA cB) (wM q cA cB) A E [.ref (q 0)] σ σ' r) (hf : fM_one N kA kB kC σ  = some (σ', r)) : MI l yX12_one cX12_one 2 .int (k + 7) D (tyM cA cB) (wM q cA cB) A E [.ref (q 0)] σ σ' r := by
  refine MI_of (by decide) hF (Nat.le_of_ble_eq_true rfl) ?_
  intro p e s m args below meth c Q C hret hJ ls hl
  obtain ⟨hx, hb, hml, hown, hts, hK, hE, -⟩ := id C
  have hsb : ∀ z, A z → A z := fun _ h => h
  have j157 : ∀ (σ : St) (a1 : Int32) (H : Heap) (locs : List Loc) (ls : Array Slot), fM_one_j157 N kA kB kC  σ a1 = some (σ', r) → J D (wM q cA cB) A s σ H locs → lv_has ls 2 [(0, .ref (q 0)), (1, .int a1)] → W p l e (rmH (k + 7)) s m args below meth c H locs 0 0 Q (F0 m 157 ls []) := by
    intro σ a1 H locs ls hf hJ hl
    unfold fM_one_j157 at hf
    refine lv_aload_n hx hb dX12_one_157 rfl (lv_at hl 0 rfl) ?_
    obtain ⟨σ1, r2, hg3, hf⟩ := cal_some hf
    refine backV hsb hJ (runV (As := []) (rest := []) C hJ lk_RX12_216 (cM_fail hF hg3) recM_0 rfl rfl (Nat.le_of_ble_eq_true rfl) hl.1 (hR_of (by omega) (by decide)) ⟨Nat.le_refl _, Nat.le_refl _⟩ dX12_one_158) (fun H locs hJ => ?_)
    refine lv_iload_n hx hb dX12_one_161 rfl (lv_at hl 1 rfl) ?_
    exact ret_I hret hJ hf rfl dX12_one_162
  have j123 : ∀ (σ : St) (a1 : Int32) (H : Heap) (locs : List Loc) (ls : Array Slot), fM_one_j123 N kA kB kC  σ a1 = some (σ', r) → J D (wM q cA cB) A s σ H locs → lv_has ls 2 [(0, .ref (q 0)), (1, .int a1)] → W p l e (rmH (k + 7)) s m args below meth c H locs 0 0 Q (F0 m 123 ls []) := by
    intro σ a1 H locs ls hf hJ hl
    unfold fM_one_j123 at hf
    refine lv_aload_n hx hb dX12_one_123 rfl (lv_at hl 0 rfl) ?_
    refine gM_0_20 C hJ fl_RX12_206 dX12_one_124 ?_
    refine lv_if_ne (tgt := 157) hx hb dX12_one_127 (by decide) (fun c4 => ?_) (fun c4 => ?_)
    · have hf := ite_f hf c4
      exact j157 σ a1 _ _ _ hf hJ (lv_sub hl [0, 1] rfl)
    · have hf := ite_t hf c4
      refine lv_aload_n hx hb dX12_one_130 rfl (lv_at hl 0 rfl) ?_
      refine gM_0_15 C hJ fl_RX12_183 dX12_one_131 ?_
      refine lv_iconst (v := 1) hx hb dX12_one_134 (by decide) ?_
      refine lv_icmp_ne (tgt := 157) hx hb dX12_one_135 (by decide) (fun c5 => ?_) (fun c5 => ?_)
      · have hf := ite_f hf c5
        exact j157 σ a1 _ _ _ hf hJ (lv_sub hl [0, 1] rfl)
      · have hf := ite_t hf c5
        refine lv_aload_n hx hb dX12_one_138 rfl (lv_at hl 0 rfl) ?_
        obtain ⟨σ6, r7, hg8, hf⟩ := cal_some hf
        refine backI hsb hJ (runV (As := []) (rest := []) C hJ lk_RX12_264 (cM_name hF hg8) recM_0 rfl rfl (Nat.le_of_ble_eq_true rfl) hl.1 (hR_of (by omega) (by decide)) ⟨Nat.le_refl _, Nat.le_refl _⟩ dX12_one_139) (fun H locs hJ => ?_)
        refine lv_istore_n (lv' := [(1, .int r7), (0, .ref (q 0))]) hx hb dX12_one_142 rfl hl (by decide) rfl (fun ls hl => ?_)
        refine lv_aload_n hx hb dX12_one_143 rfl (lv_at hl 1 rfl) ?_
        refine gM_0_20 C hJ fl_RX12_206 dX12_one_144 ?_
        refine lv_if_ne (tgt := 161) hx hb dX12_one_147 (by decide) (fun c9 => ?_) (fun c9 => ?_)
        · have hf := ite_f hf c9
          refine lv_iload_n hx hb dX12_one_161 rfl (lv_at hl 0 rfl) ?_
          exact ret_I hret hJ hf rfl dX12_one_162
        · have hf := ite_t hf c9
          refine lv_aload_n hx hb dX12_one_150 rfl (lv_at hl 1 rfl) ?_
          obtain ⟨σ10, r11, hg12, hf⟩ := cal_some hf
          refine backV hsb hJ (runV (As := []) (rest := []) C hJ lk_RX12_219 (cM_next hF hg12) recM_0 rfl rfl (Nat.le_of_ble_eq_true rfl) hl.1 (hR_of (by omega) (by decide)) ⟨Nat.le_refl _, Nat.le_refl _⟩ dX12_one_151) (fun H locs hJ => ?_)
          refine lv_goto (tgt := 161) hx hb dX12_one_154 (by decide) ?_
          refine lv_iload_n hx hb dX12_one_161 rfl (lv_at hl 0 rfl) ?_
          exact ret_I hret hJ hf rfl dX12_one_162
  have j71 : ∀ (σ : St) (a1 : Int32) (H : Heap) (locs : List Loc) (ls : Array Slot), fM_one_j71 N kA kB kC  σ a1 = some (σ', r) → J D (wM q cA cB) A s σ H locs → lv_has ls 2 [(0, .ref (q 0)), (1, .int a1)] → W p l e (rmH (k + 7)) s m args below meth c H locs 0 0 Q (F0 m 71 ls []) := by
    intro σ a1 H locs ls hf hJ hl
    unfold fM_one_j71 at hf
    refine lv_aload_n hx hb dX12_one_71 rfl (lv_at hl 0 rfl) ?_
    refine lv_dup hx hb dX12_one_72 rfl ?_
    refine gM_0_19 C hJ fl_RX12_213 dX12_one_73 ?_
    refine lv_iconst (v := 1) hx hb dX12_one_76 (by decide) ?_
    refine lv_isub hx hb dX12_one_77 ?_
    refine pM_0_19 C hJ fl_RX12_213 dX12_one_78 (fun σ13 H locs hs hJ => ?_)
    have hf := bnd_at hf hs
    refine lv_aload_n hx hb dX12_one_81 rfl (lv_at hl 0 rfl) ?_
    refine gM_0_20 C hJ fl_RX12_206 dX12_one_82 ?_
    refine lv_if_ne (tgt := 161) hx hb dX12_one_85 (by decide) (fun c14 => ?_) (fun c14 => ?_)
    · have hf := ite_f hf c14
      refine lv_iload_n hx hb dX12_one_161 rfl (lv_at hl 1 rfl) ?_
      exact ret_I hret hJ hf rfl dX12_one_162
    · have hf := ite_t hf c14
      refine lv_aload_n hx hb dX12_one_88 rfl (lv_at hl 0 rfl) ?_
      obtain ⟨σ15, r16, hg17, hf⟩ := cal_some hf
      refine backV hsb hJ (runV (As := []) (rest := []) C hJ lk_RX12_219 (cM_next hF hg17) recM_0 rfl rfl (Nat.le_of_ble_eq_true rfl) hl.1 (hR_of (by omega) (by decide)) ⟨Nat.le_refl _, Nat.le_refl _⟩ dX12_one_89) (fun H locs hJ => ?_)
      refine lv_goto (tgt := 161) hx hb dX12_one_92 (by decide) ?_
      refine lv_iload_n hx hb dX12_one_161 rfl (lv_at hl 1 rfl) ?_
      exact ret_I hret hJ hf rfl dX12_one_162
  have hl : lv_has ls 2 [(0, .ref (q 0))] := hl
  unfold fM_one at hf
  refine lv_iconst (v := 0) hx hb dX12_one_0 (by decide) ?_
  refine lv_istore_n (lv' := [(1, .int (0 : Int32)), (0, .ref (q 0))]) hx hb dX12_one_1 rfl hl (by decide) rfl (fun ls hl => ?_)
  refine lv_aload_n hx hb dX12_one_2 rfl (lv_at hl 1 rfl) ?_
  refine lv_bipush (v := 45) hx hb dX12_one_3 (by decide) ?_
  obtain ⟨σ18, r19, hg20, hf⟩ := cal_some hf
  refine backI hsb hJ (runV (As := [.int (45 : Int32)]) (rest := []) C hJ lk_RX12_250 (cM_isSign hF hg20) recM_0 rfl rfl (Nat.le_of_ble_eq_true rfl) hl.1 (hR_of (by omega) (by decide)) ⟨Nat.le_refl _, Nat.le_refl _⟩ dX12_one_5) (fun H locs hJ => ?_)
  refine lv_if_eq (tgt := 37) hx hb dX12_one_8 (by decide) (fun c21 => ?_) (fun c21 => ?_)
  · have hf := ite_t hf c21
    refine lv_aload_n hx hb dX12_one_37 rfl (lv_at hl 1 rfl) ?_
    refine lv_bipush (v := 40) hx hb dX12_one_38 (by decide) ?_
    obtain ⟨σ22, r23, hg24, hf⟩ := cal_some hf
    refine backI hsb hJ (runV (As := [.int (40 : Int32)]) (rest := []) C hJ lk_RX12_250 (cM_isSign hF hg24) recM_0 rfl rfl (Nat.le_of_ble_eq_true rfl) hl.1 (hR_of (by omega) (by decide)) ⟨Nat.le_refl _, Nat.le_refl _⟩ dX12_one_40) (fun H locs hJ => ?_)
    refine lv_if_eq (tgt := 95) hx hb dX12_one_43 (by decide) (fun c25 => ?_) (fun c25 => ?_)
    · have hf := ite_t hf c25
      refine lv_aload_n hx hb dX12_one_95 rfl (lv_at hl 1 rfl) ?_
      refine gM_0_20 C hJ fl_RX12_206 dX12_one_96 ?_
      refine lv_if_ne (tgt := 123) hx hb dX12_one_99 (by decide) (fun c26 => ?_) (fun c26 => ?_)
      · have hf := ite_f hf c26
        exact j123 σ22 (0 : Int32) _ _ _ hf hJ (lv_sub hl [1, 0] rfl)
      · have hf := ite_t hf c26
        refine lv_aload_n hx hb dX12_one_102 rfl (lv_at hl 1 rfl) ?_
        refine gM_0_15 C hJ fl_RX12_183 dX12_one_103 ?_
        refine lv_iconst (v := 2) hx hb dX12_one_106 (by decide) ?_
        refine lv_icmp_ne (tgt := 123) hx hb dX12_one_107 (by decide) (fun c27 => ?_) (fun c27 => ?_)
        · have hf := ite_f hf c27
          exact j123 σ22 (0 : Int32) _ _ _ hf hJ (lv_sub hl [1, 0] rfl)
        · have hf := ite_t hf c27
          refine lv_aload_n hx hb dX12_one_110 rfl (lv_at hl 1 rfl) ?_
          refine gM_0_17 C hJ fl_RX12_190 dX12_one_111 ?_
          refine lv_l2i (v := (σ22.2.2 10).toInt32) hx hb dX12_one_114 rfl ?_
          refine lv_topi (fun x28 hx28 => ?_)
          have hf := bnd_at hf hx28
          refine lv_istore_n (lv' := [(1, .int x28), (0, .ref (q 0))]) hx hb dX12_one_115 rfl hl (by decide) rfl (fun ls hl => ?_)
          refine lv_aload_n hx hb dX12_one_116 rfl (lv_at hl 1 rfl) ?_
          obtain ⟨σ29, r30, hg31, hf⟩ := cal_some hf
          refine backV hsb hJ (runV (As := []) (rest := []) C hJ lk_RX12_219 (cM_next hF hg31) recM_0 rfl rfl (Nat.le_of_ble_eq_true rfl) hl.1 (hR_of (by omega) (by decide)) ⟨Nat.le_refl _, Nat.le_refl _⟩ dX12_one_117) (fun H locs hJ => ?_)
          refine lv_goto (tgt := 161) hx hb dX12_one_120 (by decide) ?_
          refine lv_iload_n hx hb dX12_one_161 rfl (lv_at hl 0 rfl) ?_
          exact ret_I hret hJ hf rfl dX12_one_162
    · have hf := ite_f hf c25
      refine lv_aload_n hx hb dX12_one_46 rfl (lv_at hl 1 rfl) ?_
      obtain ⟨σ32, r33, hg34, hf⟩ := cal_some hf
      refine backI hsb hJ (runV (As := []) (rest := []) C hJ lk_RX12_253 (cM_opens hF hg34) recM_0 rfl rfl (Nat.le_of_ble_eq_true rfl) hl.1 (hR_of (by omega) (by decide)) ⟨Nat.le_refl _, Nat.le_refl _⟩ dX12_one_47) (fun H locs hJ => ?_)
      refine lv_if_eq (tgt := 161) hx hb dX12_one_50 (by decide) (fun c35 => ?_) (fun c35 => ?_)
      · have hf := ite_t hf c35
        refine lv_iload_n hx hb dX12_one_161 rfl (lv_at hl 0 rfl) ?_
        exact ret_I hret hJ hf rfl dX12_one_162
      · have hf := ite_f hf c35
        refine lv_aload_n hx hb dX12_one_53 rfl (lv_at hl 1 rfl) ?_
        obtain ⟨σ36, r37, hg38, hf⟩ := cal_some hf
        refine backI hsb hJ (runV (As := []) (rest := []) C hJ lk_RX12_261 (hRa _ _ _ hg38) recM_0 rfl rfl (Nat.le_of_ble_eq_true rfl) hl.1 (hR_of (by omega) (by decide)) ⟨Nat.le_refl _, Nat.le_refl _⟩ dX12_one_54) (fun H locs hJ => ?_)
        refine lv_istore_n (lv' := [(1, .int r37), (0, .ref (q 0))]) hx hb dX12_one_57 rfl hl (by decide) rfl (fun ls hl => ?_)
        refine lv_aload_n hx hb dX12_one_58 rfl (lv_at hl 1 rfl) ?_
        refine lv_bipush (v := 41) hx hb dX12_one_59 (by decide) ?_
        obtain ⟨σ39, r40, hg41, hf⟩ := cal_some hf
        refine backI hsb hJ (runV (As := [.int (41 : Int32)]) (rest := []) C hJ lk_RX12_250 (cM_isSign hF hg41) recM_0 rfl rfl (Nat.le_of_ble_eq_true rfl) hl.1 (hR_of (by omega) (by decide)) ⟨Nat.le_refl _, Nat.le_refl _⟩ dX12_one_61) (fun H locs hJ => ?_)
        refine lv_if_ne (tgt := 71) hx hb dX12_one_64 (by decide) (fun c42 => ?_) (fun c42 => ?_)
        · have hf := ite_f hf c42
          exact j71 σ39 r37 _ _ _ hf hJ (lv_sub hl [1, 0] rfl)
        · have hf := ite_t hf c42
          refine lv_aload_n hx hb dX12_one_67 rfl (lv_at hl 1 rfl) ?_
          obtain ⟨σ43, r44, hg45, hf⟩ := cal_some hf
          refine backV hsb hJ (runV (As := []) (rest := []) C hJ lk_RX12_216 (cM_fail hF hg45) recM_0 rfl rfl (Nat.le_of_ble_eq_true rfl) hl.1 (hR_of (by omega) (by decide)) ⟨Nat.le_refl _, Nat.le_refl _⟩ dX12_one_68) (fun H locs hJ => ?_)
          exact j71 σ43 r37 _ _ _ hf hJ (lv_sub hl [1, 0] rfl)
  · have hf := ite_f hf c21
    refine lv_aload_n hx hb dX12_one_11 rfl (lv_at hl 1 rfl) ?_
    obtain ⟨σ46, r47, hg48, hf⟩ := cal_some hf
    refine backI hsb hJ (runV (As := []) (rest := []) C hJ lk_RX12_253 (cM_opens hF hg48) recM_0 rfl rfl (Nat.le_of_ble_eq_true rfl) hl.1 (hR_of (by omega) (by decide)) ⟨Nat.le_refl _, Nat.le_refl _⟩ dX12_one_12) (fun H locs hJ => ?_)
    refine lv_if_eq (tgt := 161) hx hb dX12_one_15 (by decide) (fun c49 => ?_) (fun c49 => ?_)
    · have hf := ite_t hf c49
      refine lv_iload_n hx hb dX12_one_161 rfl (lv_at hl 0 rfl) ?_
      exact ret_I hret hJ hf rfl dX12_one_162
    · have hf := ite_f hf c49
      refine lv_aload_n hx hb dX12_one_18 rfl (lv_at hl 1 rfl) ?_
      obtain ⟨σ50, r51, hg52, hf⟩ := cal_some hf
      refine backI hsb hJ (runV (As := []) (rest := []) C hJ lk_RX12_257 (hRb _ _ _ hg52) recM_0 rfl rfl (Nat.le_of_ble_eq_true rfl) hl.1 (hR_of (by omega) (by decide)) ⟨Nat.le_refl _, Nat.le_refl _⟩ dX12_one_19) (fun H locs hJ => ?_)
      refine lv_ineg hx hb dX12_one_22 ?_
      refine lv_topi (fun x53 hx53 => ?_)
      have hf := bnd_at hf hx53
      refine lv_istore_n (lv' := [(1, .int x53), (0, .ref (q 0))]) hx hb dX12_one_23 rfl hl (by decide) rfl (fun ls hl => ?_)
      refine lv_aload_n hx hb dX12_one_24 rfl (lv_at hl 1 rfl) ?_
      refine lv_dup hx hb dX12_one_25 rfl ?_
      refine gM_0_19 C hJ fl_RX12_213 dX12_one_26 ?_
      refine lv_iconst (v := 1) hx hb dX12_one_29 (by decide) ?_
      refine lv_isub hx hb dX12_one_30 ?_
      refine pM_0_19 C hJ fl_RX12_213 dX12_one_31 (fun σ54 H locs hs hJ => ?_)
      have hf := bnd_at hf hs
      refine lv_goto (tgt := 161) hx hb dX12_one_34 (by decide) ?_
      refine lv_iload_n hx hb dX12_one_161 rfl (lv_at hl 0 rfl) ?_
      exact ret_I hret hJ hf rfl dX12_one_162
set_option maxHeartbeats 4000000 in
set_option maxRecDepth 100000 in
theorem cM_term {l : Launch} {D : va_G} {cA cB : ClassId} {q : Nat → Nat} {A : Nat → Prop} {E : State → Prop} {N : Nat} {kA kB kC : St → Option (St × Int32)} {k : Nat} {σ σ' : St} {r : Int32} (hF : Fr (wM q cA cB) A E) (hRa : ∀ (σ : St) (σ' : St) (r : Int32), kA σ = some (σ', r) → MI l yX12_either cX12_either 3 .int (k + 6) D (tyM cA cB) (wM q cA cB) A E [.ref (q 0)] σ σ' r) (hRb : ∀ (σ : St) (σ' : St) (r : Int32), kB σ = some (σ', r) → MI l yX12_one cX12_one 2 .int (k + 1) D (tyM cA cB) (wM q cA cB) A E [.ref (q 0)] σ σ' r) (hRc : ∀ (σ : St) (σ' : St) (r : Int32), kC σ = some (σ', r) → MI l yX12_not cX12_not 4 .int (k + 4) D (tyM cA cB) (wM q cA cB) A E [.ref (q 0)] σ σ' r) (hf : fM_term N kA kB kC σ  = some (σ', r)) : MI l yX12_term cX12_term 2 .int (k + 8) D (tyM cA cB) (wM q cA cB) A E [.ref (q 0)] σ σ' r := by
  refine MI_of (by decide) hF (Nat.le_of_ble_eq_true rfl) ?_
  intro p e s m args below meth c Q C hret hJ ls hl
  obtain ⟨hx, hb, hml, hown, hts, hK, hE, -⟩ := id C
  have hsb : ∀ z, A z → A z := fun _ h => h
  have l5 : ∀ (n : Nat) (σ : St) (a1 : Int32) (H : Heap) (locs : List Loc) (ls : Array Slot), fM_term_l5 N kA kB kC  n σ a1 = some (σ', r) → J D (wM q cA cB) A s σ H locs → lv_has ls 2 [(0, .ref (q 0)), (1, .int a1)] → W p l e (rmH (k + 8)) s m args below meth c H locs 0 0 Q (F0 m 5 ls []) := by
    intro n5
    induction n5 with
    | zero => intro σ a1 H locs ls hf; rw [fM_term_l5] at hf; cases hf
    | succ n5 ih5 =>
      intro σ a1 H locs ls hf hJ hl
      rw [fM_term_l5] at hf
      refine lv_aload_n hx hb dX12_term_5 rfl (lv_at hl 0 rfl) ?_
      refine lv_bipush (v := 42) hx hb dX12_term_6 (by decide) ?_
      obtain ⟨σ1, r2, hg3, hf⟩ := cal_some hf
      refine backI hsb hJ (runV (As := [.int (42 : Int32)]) (rest := []) C hJ lk_RX12_250 (cM_isSign hF hg3) recM_0 rfl rfl (Nat.le_of_ble_eq_true rfl) hl.1 (hR_of (by omega) (by decide)) ⟨Nat.le_refl _, Nat.le_refl _⟩ dX12_term_8) (fun H locs hJ => ?_)
      refine lv_if_eq (tgt := 28) hx hb dX12_term_11 (by decide) (fun c4 => ?_) (fun c4 => ?_)
      · have hf := ite_t hf c4
        refine lv_iload_n hx hb dX12_term_28 rfl (lv_at hl 1 rfl) ?_
        exact ret_I hret hJ hf rfl dX12_term_29
      · have hf := ite_f hf c4
        refine lv_aload_n hx hb dX12_term_14 rfl (lv_at hl 0 rfl) ?_
        obtain ⟨σ5, r6, hg7, hf⟩ := cal_some hf
        refine backV hsb hJ (runV (As := []) (rest := []) C hJ lk_RX12_219 (cM_next hF hg7) recM_0 rfl rfl (Nat.le_of_ble_eq_true rfl) hl.1 (hR_of (by omega) (by decide)) ⟨Nat.le_refl _, Nat.le_refl _⟩ dX12_term_15) (fun H locs hJ => ?_)
        refine lv_iload_n hx hb dX12_term_18 rfl (lv_at hl 1 rfl) ?_
        refine lv_aload_n hx hb dX12_term_19 rfl (lv_at hl 0 rfl) ?_
        obtain ⟨σ8, r9, hg10, hf⟩ := cal_some hf
        refine backI hsb hJ (runV (As := []) (rest := [.int a1]) C hJ lk_RX12_257 (cM_one hF hRa hRb hRc hg10) recM_0 rfl rfl (Nat.le_of_ble_eq_true rfl) hl.1 (hR_of (by omega) (by decide)) ⟨Nat.le_refl _, Nat.le_refl _⟩ dX12_term_20) (fun H locs hJ => ?_)
        refine lv_imul hx hb dX12_term_23 ?_
        refine lv_topi (fun x11 hx11 => ?_)
        have hf := bnd_at hf hx11
        refine lv_istore_n (lv' := [(1, .int x11), (0, .ref (q 0))]) hx hb dX12_term_24 rfl hl (by decide) rfl (fun ls hl => ?_)
        refine lv_goto (tgt := 5) hx hb dX12_term_25 (by decide) ?_
        exact ih5 σ8 x11 _ _ _ hf hJ (lv_sub hl [1, 0] rfl)
  have hl : lv_has ls 2 [(0, .ref (q 0))] := hl
  unfold fM_term at hf
  refine lv_aload_n hx hb dX12_term_0 rfl (lv_at hl 0 rfl) ?_
  obtain ⟨σ12, r13, hg14, hf⟩ := cal_some hf
  refine backI hsb hJ (runV (As := []) (rest := []) C hJ lk_RX12_257 (cM_one hF hRa hRb hRc hg14) recM_0 rfl rfl (Nat.le_of_ble_eq_true rfl) hl.1 (hR_of (by omega) (by decide)) ⟨Nat.le_refl _, Nat.le_refl _⟩ dX12_term_1) (fun H locs hJ => ?_)
  refine lv_istore_n (lv' := [(1, .int r13), (0, .ref (q 0))]) hx hb dX12_term_4 rfl hl (by decide) rfl (fun ls hl => ?_)
  exact l5 N σ12 r13 _ _ _ hf hJ (lv_sub hl [1, 0] rfl)
set_option maxHeartbeats 4000000 in
set_option maxRecDepth 100000 in
theorem cM_added {l : Launch} {D : va_G} {cA cB : ClassId} {q : Nat → Nat} {A : Nat → Prop} {E : State → Prop} {N : Nat} {kA kB kC : St → Option (St × Int32)} {k : Nat} {σ σ' : St} {r : Int32} (hF : Fr (wM q cA cB) A E) (hRa : ∀ (σ : St) (σ' : St) (r : Int32), kA σ = some (σ', r) → MI l yX12_either cX12_either 3 .int (k + 6) D (tyM cA cB) (wM q cA cB) A E [.ref (q 0)] σ σ' r) (hRb : ∀ (σ : St) (σ' : St) (r : Int32), kB σ = some (σ', r) → MI l yX12_one cX12_one 2 .int (k + 1) D (tyM cA cB) (wM q cA cB) A E [.ref (q 0)] σ σ' r) (hRc : ∀ (σ : St) (σ' : St) (r : Int32), kC σ = some (σ', r) → MI l yX12_not cX12_not 4 .int (k + 4) D (tyM cA cB) (wM q cA cB) A E [.ref (q 0)] σ σ' r) (hf : fM_added N kA kB kC σ  = some (σ', r)) : MI l yX12_added cX12_added 4 .int (k + 9) D (tyM cA cB) (wM q cA cB) A E [.ref (q 0)] σ σ' r := by
  refine MI_of (by decide) hF (Nat.le_of_ble_eq_true rfl) ?_
  intro p e s m args below meth c Q C hret hJ ls hl
  obtain ⟨hx, hb, hml, hown, hts, hK, hE, -⟩ := id C
  have hsb : ∀ z, A z → A z := fun _ h => h
  have l5 : ∀ (n : Nat) (σ : St) (a1 : Int32) (H : Heap) (locs : List Loc) (ls : Array Slot), fM_added_l5 N kA kB kC  n σ a1 = some (σ', r) → J D (wM q cA cB) A s σ H locs → lv_has ls 4 [(0, .ref (q 0)), (1, .int a1)] → W p l e (rmH (k + 9)) s m args below meth c H locs 0 0 Q (F0 m 5 ls []) := by
    intro n5
    induction n5 with
    | zero => intro σ a1 H locs ls hf; rw [fM_added_l5] at hf; cases hf
    | succ n5 ih5 =>
      have j62 : ∀ (σ : St) (t0 : Int32) (H : Heap) (locs : List Loc) (ls : Array Slot), fM_added_j62 N kA kB kC (fM_added_l5 N kA kB kC  n5) σ t0 = some (σ', r) → J D (wM q cA cB) A s σ H locs → lv_has ls 4 [(0, .ref (q 0))] → W p l e (rmH (k + 9)) s m args below meth c H locs 0 0 Q (F0 m 62 ls [.int t0]) := by
        intro σ t0 H locs ls hf hJ hl
        unfold fM_added_j62 at hf
        refine lv_istore_n (lv' := [(1, .int t0), (0, .ref (q 0))]) hx hb dX12_added_62 rfl hl (by decide) rfl (fun ls hl => ?_)
        refine lv_goto (tgt := 5) hx hb dX12_added_63 (by decide) ?_
        exact ih5 σ t0 _ _ _ hf hJ (lv_sub hl [1, 0] rfl)
      have j39 : ∀ (σ : St) (a1 : Int32) (t0 : Int32) (H : Heap) (locs : List Loc) (ls : Array Slot), fM_added_j39 N kA kB kC (fM_added_l5 N kA kB kC  n5) σ a1 t0 = some (σ', r) → J D (wM q cA cB) A s σ H locs → lv_has ls 4 [(0, .ref (q 0)), (1, .int a1)] → W p l e (rmH (k + 9)) s m args below meth c H locs 0 0 Q (F0 m 39 ls [.int t0]) := by
        intro σ a1 t0 H locs ls hf hJ hl
        unfold fM_added_j39 at hf
        refine lv_istore_n (lv' := [(2, .int t0), (0, .ref (q 0)), (1, .int a1)]) hx hb dX12_added_39 rfl hl (by decide) rfl (fun ls hl => ?_)
        refine lv_aload_n hx hb dX12_added_40 rfl (lv_at hl 1 rfl) ?_
        obtain ⟨σ1, r2, hg3, hf⟩ := cal_some hf
        refine backV hsb hJ (runV (As := []) (rest := []) C hJ lk_RX12_219 (cM_next hF hg3) recM_0 rfl rfl (Nat.le_of_ble_eq_true rfl) hl.1 (hR_of (by omega) (by decide)) ⟨Nat.le_refl _, Nat.le_refl _⟩ dX12_added_41) (fun H locs hJ => ?_)
        refine lv_aload_n hx hb dX12_added_44 rfl (lv_at hl 1 rfl) ?_
        obtain ⟨σ4, r5, hg6, hf⟩ := cal_some hf
        refine backI hsb hJ (runV (As := []) (rest := []) C hJ lk_RX12_267 (cM_term hF hRa hRb hRc hg6) recM_0 rfl rfl (Nat.le_of_ble_eq_true rfl) hl.1 (hR_of (by omega) (by decide)) ⟨Nat.le_refl _, Nat.le_refl _⟩ dX12_added_45) (fun H locs hJ => ?_)
        refine lv_istore_n (lv' := [(3, .int r5), (2, .int t0), (0, .ref (q 0)), (1, .int a1)]) hx hb dX12_added_48 rfl hl (by decide) rfl (fun ls hl => ?_)
        refine lv_iload_n hx hb dX12_added_49 rfl (lv_at hl 1 rfl) ?_
        refine lv_if_eq (tgt := 59) hx hb dX12_added_50 (by decide) (fun c7 => ?_) (fun c7 => ?_)
        · have hf := ite_t hf c7
          refine lv_iload_n hx hb dX12_added_59 rfl (lv_at hl 3 rfl) ?_
          refine lv_iload_n hx hb dX12_added_60 rfl (lv_at hl 0 rfl) ?_
          refine lv_isub hx hb dX12_added_61 ?_
          exact j62 σ4 (a1 - r5) _ _ _ hf hJ (lv_sub hl [2] rfl)
        · have hf := ite_f hf c7
          refine lv_iload_n hx hb dX12_added_53 rfl (lv_at hl 3 rfl) ?_
          refine lv_iload_n hx hb dX12_added_54 rfl (lv_at hl 0 rfl) ?_
          refine lv_iadd hx hb dX12_added_55 ?_
          refine lv_goto (tgt := 62) hx hb dX12_added_56 (by decide) ?_
          exact j62 σ4 (a1 + r5) _ _ _ hf hJ (lv_sub hl [2] rfl)
      have j23 : ∀ (σ : St) (a1 : Int32) (H : Heap) (locs : List Loc) (ls : Array Slot), fM_added_j23 N kA kB kC (fM_added_l5 N kA kB kC  n5) σ a1 = some (σ', r) → J D (wM q cA cB) A s σ H locs → lv_has ls 4 [(0, .ref (q 0)), (1, .int a1)] → W p l e (rmH (k + 9)) s m args below meth c H locs 0 0 Q (F0 m 23 ls []) := by
        intro σ a1 H locs ls hf hJ hl
        unfold fM_added_j23 at hf
        refine lv_aload_n hx hb dX12_added_23 rfl (lv_at hl 0 rfl) ?_
        refine gM_0_17 C hJ fl_RX12_190 dX12_added_24 ?_
        refine lv_ldc2 (v := 43) hx hb hown (hts _ kl_RX12_270) dX12_added_27 ?_
        refine W.lcmp hx hb dX12_added_30 ?_
        refine lv_if_ne (tgt := 38) hx hb dX12_added_31 (by decide) (fun c8 => ?_) (fun c8 => ?_)
        · have hf := ite_f hf c8
          refine lv_iconst (v := 0) hx hb dX12_added_38 (by decide) ?_
          exact j39 σ a1 (0 : Int32) _ _ _ hf hJ (lv_sub hl [0, 1] rfl)
        · have hf := ite_t hf c8
          refine lv_iconst (v := 1) hx hb dX12_added_34 (by decide) ?_
          refine lv_goto (tgt := 39) hx hb dX12_added_35 (by decide) ?_
          exact j39 σ a1 (1 : Int32) _ _ _ hf hJ (lv_sub hl [0, 1] rfl)
      intro σ a1 H locs ls hf hJ hl
      rw [fM_added_l5] at hf
      refine lv_aload_n hx hb dX12_added_5 rfl (lv_at hl 0 rfl) ?_
      refine lv_bipush (v := 43) hx hb dX12_added_6 (by decide) ?_
      obtain ⟨σ9, r10, hg11, hf⟩ := cal_some hf
      refine backI hsb hJ (runV (As := [.int (43 : Int32)]) (rest := []) C hJ lk_RX12_250 (cM_isSign hF hg11) recM_0 rfl rfl (Nat.le_of_ble_eq_true rfl) hl.1 (hR_of (by omega) (by decide)) ⟨Nat.le_refl _, Nat.le_refl _⟩ dX12_added_8) (fun H locs hJ => ?_)
      refine lv_if_ne (tgt := 23) hx hb dX12_added_11 (by decide) (fun c12 => ?_) (fun c12 => ?_)
      · have hf := ite_f hf c12
        exact j23 σ9 a1 _ _ _ hf hJ (lv_sub hl [0, 1] rfl)
      · have hf := ite_t hf c12
        refine lv_aload_n hx hb dX12_added_14 rfl (lv_at hl 0 rfl) ?_
        refine lv_bipush (v := 45) hx hb dX12_added_15 (by decide) ?_
        obtain ⟨σ13, r14, hg15, hf⟩ := cal_some hf
        refine backI hsb hJ (runV (As := [.int (45 : Int32)]) (rest := []) C hJ lk_RX12_250 (cM_isSign hF hg15) recM_0 rfl rfl (Nat.le_of_ble_eq_true rfl) hl.1 (hR_of (by omega) (by decide)) ⟨Nat.le_refl _, Nat.le_refl _⟩ dX12_added_17) (fun H locs hJ => ?_)
        refine lv_if_eq (tgt := 66) hx hb dX12_added_20 (by decide) (fun c16 => ?_) (fun c16 => ?_)
        · have hf := ite_t hf c16
          refine lv_iload_n hx hb dX12_added_66 rfl (lv_at hl 1 rfl) ?_
          exact ret_I hret hJ hf rfl dX12_added_67
        · have hf := ite_f hf c16
          exact j23 σ13 a1 _ _ _ hf hJ (lv_sub hl [0, 1] rfl)
  have hl : lv_has ls 4 [(0, .ref (q 0))] := hl
  unfold fM_added at hf
  refine lv_aload_n hx hb dX12_added_0 rfl (lv_at hl 0 rfl) ?_
  obtain ⟨σ17, r18, hg19, hf⟩ := cal_some hf
  refine backI hsb hJ (runV (As := []) (rest := []) C hJ lk_RX12_267 (cM_term hF hRa hRb hRc hg19) recM_0 rfl rfl (Nat.le_of_ble_eq_true rfl) hl.1 (hR_of (by omega) (by decide)) ⟨Nat.le_refl _, Nat.le_refl _⟩ dX12_added_1) (fun H locs hJ => ?_)
  refine lv_istore_n (lv' := [(1, .int r18), (0, .ref (q 0))]) hx hb dX12_added_4 rfl hl (by decide) rfl (fun ls hl => ?_)
  exact l5 N σ17 r18 _ _ _ hf hJ (lv_sub hl [1, 0] rfl)
