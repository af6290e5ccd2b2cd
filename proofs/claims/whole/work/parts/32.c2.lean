set_option maxHeartbeats 4000000 in
set_option maxRecDepth 100000 in
theorem cC_A_add {l : Launch} {D : va_G} {cA cB : ClassId} {q : Nat → Nat} {x : Nat → Nat} {N : Nat} {σ σ' : St} {r : Int32} {a1 : Int32} {a2 : Int32} {a3 : Int32} (hF : Fr (wC q cA cB) (aC q) (eC q x)) (hf : fC_A_add N σ a1 a2 a3 = some (σ', r)) : MI l yX1_add cX1_add 4 .int 2 D (tyC cA cB) (wC q cA cB) (aC q) (eC q x) [.ref (q 8), .int a1, .int a2, .int a3] σ σ' r := by
  refine MI_of (by decide) hF (Nat.le_of_ble_eq_true rfl) ?_
  intro p e s m args below meth c Q C hret hJ ls hl
  obtain ⟨hx, hb, hml, hown, hts, hK, hE, -⟩ := id C
  have hsb : ∀ z, (aC q) z → (aC q) z := fun _ h => h
  have hl : lv_has ls 4 [(0, .ref (q 8)), (1, .int a1), (2, .int a2), (3, .int a3)] := hl
  unfold fC_A_add at hf
  refine lv_iload_n hx hb dX1_add_0 rfl (lv_at hl 1 rfl) ?_
  refine lv_iconst (v := 1) hx hb dX1_add_1 (by decide) ?_
  refine lv_bipush (v := 20) hx hb dX1_add_2 (by decide) ?_
  obtain ⟨σ1, r2, hg3, hf⟩ := cal_some hf
  refine backI hsb hJ (runN (As := [.int a1, .int (1 : Int32), .int (20 : Int32)]) (rest := []) C hJ lkn_yX11_isWithin (hE.1 _ nl_RX1_25) (cC_isWithin hF hg3) rfl rfl (Nat.le_of_ble_eq_true rfl) hl.1 (hR_of (by omega) (by decide)) ⟨Nat.le_refl _, Nat.le_refl _⟩ dX1_add_4) (fun H locs hJ => ?_)
  refine lv_if_eq (tgt := 31) hx hb dX1_add_7 (by decide) (fun c4 => ?_) (fun c4 => ?_)
  · have hf := ite_t hf c4
    refine lv_bipush (v := -2) hx hb dX1_add_31 (by decide) ?_
    exact ret_I hret hJ hf rfl dX1_add_33
  · have hf := ite_f hf c4
    refine lv_iload_n hx hb dX1_add_10 rfl (lv_at hl 2 rfl) ?_
    refine lv_iconst (v := 0) hx hb dX1_add_11 (by decide) ?_
    refine lv_bipush (v := 19) hx hb dX1_add_12 (by decide) ?_
    obtain ⟨σ5, r6, hg7, hf⟩ := cal_some hf
    refine backI hsb hJ (runN (As := [.int a2, .int (0 : Int32), .int (19 : Int32)]) (rest := []) C hJ lkn_yX11_isWithin (hE.1 _ nl_RX1_25) (cC_isWithin hF hg7) rfl rfl (Nat.le_of_ble_eq_true rfl) hl.1 (hR_of (by omega) (by decide)) ⟨Nat.le_refl _, Nat.le_refl _⟩ dX1_add_14) (fun H locs hJ => ?_)
    refine lv_if_eq (tgt := 31) hx hb dX1_add_17 (by decide) (fun c8 => ?_) (fun c8 => ?_)
    · have hf := ite_t hf c8
      refine lv_bipush (v := -2) hx hb dX1_add_31 (by decide) ?_
      exact ret_I hret hJ hf rfl dX1_add_33
    · have hf := ite_f hf c8
      refine lv_iload_n hx hb dX1_add_20 rfl (lv_at hl 3 rfl) ?_
      refine lv_bipush (v := -9) hx hb dX1_add_21 (by decide) ?_
      refine lv_bipush (v := 9) hx hb dX1_add_23 (by decide) ?_
      obtain ⟨σ9, r10, hg11, hf⟩ := cal_some hf
      refine backI hsb hJ (runN (As := [.int a3, .int (-9 : Int32), .int (9 : Int32)]) (rest := []) C hJ lkn_yX11_isWithin (hE.1 _ nl_RX1_25) (cC_isWithin hF hg11) rfl rfl (Nat.le_of_ble_eq_true rfl) hl.1 (hR_of (by omega) (by decide)) ⟨Nat.le_refl _, Nat.le_refl _⟩ dX1_add_25) (fun H locs hJ => ?_)
      refine lv_if_ne (tgt := 34) hx hb dX1_add_28 (by decide) (fun c12 => ?_) (fun c12 => ?_)
      · have hf := ite_f hf c12
        refine lv_aload_n hx hb dX1_add_34 rfl (lv_at hl 0 rfl) ?_
        refine gC_8_3 C hJ fl_RX1_21 dX1_add_35 ?_
        refine lv_iconst (v := 4) hx hb dX1_add_38 (by decide) ?_
        refine lv_icmp_lt (tgt := 45) hx hb dX1_add_39 (by decide) (fun c13 => ?_) (fun c13 => ?_)
        · have hf := ite_t hf c13
          refine lv_aload_n hx hb dX1_add_45 rfl (lv_at hl 0 rfl) ?_
          refine gC_8_0 C hJ fl_RX1_9 dX1_add_46 ?_
          refine lv_aload_n hx hb dX1_add_49 rfl (lv_at hl 0 rfl) ?_
          refine gC_8_3 C hJ fl_RX1_21 dX1_add_50 ?_
          refine lv_iload_n hx hb dX1_add_53 rfl (lv_at hl 1 rfl) ?_
          obtain ⟨h14, hf⟩ := gi_some hf
          refine sC_36 C hJ h14 dX1_add_54 (fun σ15 H locs hs hJ => ?_)
          have hf := bnd_at hf hs
          refine lv_aload_n hx hb dX1_add_55 rfl (lv_at hl 0 rfl) ?_
          refine gC_8_1 C hJ fl_RX1_15 dX1_add_56 ?_
          refine lv_aload_n hx hb dX1_add_59 rfl (lv_at hl 0 rfl) ?_
          refine gC_8_3 C hJ fl_RX1_21 dX1_add_60 ?_
          refine lv_iload_n hx hb dX1_add_63 rfl (lv_at hl 2 rfl) ?_
          obtain ⟨h16, hf⟩ := gi_some hf
          refine sC_37 C hJ h16 dX1_add_64 (fun σ17 H locs hs hJ => ?_)
          have hf := bnd_at hf hs
          refine lv_aload_n hx hb dX1_add_65 rfl (lv_at hl 0 rfl) ?_
          refine gC_8_2 C hJ fl_RX1_18 dX1_add_66 ?_
          refine lv_aload_n hx hb dX1_add_69 rfl (lv_at hl 0 rfl) ?_
          refine gC_8_3 C hJ fl_RX1_21 dX1_add_70 ?_
          refine lv_iload_n hx hb dX1_add_73 rfl (lv_at hl 3 rfl) ?_
          obtain ⟨h18, hf⟩ := gi_some hf
          refine sC_38 C hJ h18 dX1_add_74 (fun σ19 H locs hs hJ => ?_)
          have hf := bnd_at hf hs
          refine lv_aload_n hx hb dX1_add_75 rfl (lv_at hl 0 rfl) ?_
          refine lv_dup hx hb dX1_add_76 rfl ?_
          refine gC_8_3 C hJ fl_RX1_21 dX1_add_77 ?_
          refine lv_iconst (v := 1) hx hb dX1_add_80 (by decide) ?_
          refine lv_iadd hx hb dX1_add_81 ?_
          refine pC_8_3 C hJ fl_RX1_21 dX1_add_82 (fun σ20 H locs hs hJ => ?_)
          have hf := bnd_at hf hs
          refine lv_aload_n hx hb dX1_add_85 rfl (lv_at hl 0 rfl) ?_
          refine gC_8_3 C hJ fl_RX1_21 dX1_add_86 ?_
          refine lv_iconst (v := 1) hx hb dX1_add_89 (by decide) ?_
          refine lv_isub hx hb dX1_add_90 ?_
          exact ret_I hret hJ hf rfl dX1_add_91
        · have hf := ite_f hf c13
          refine lv_bipush (v := -4) hx hb dX1_add_42 (by decide) ?_
          exact ret_I hret hJ hf rfl dX1_add_44
      · have hf := ite_t hf c12
        refine lv_bipush (v := -2) hx hb dX1_add_31 (by decide) ?_
        exact ret_I hret hJ hf rfl dX1_add_33
set_option maxHeartbeats 4000000 in
set_option maxRecDepth 100000 in
theorem cC_camera {l : Launch} {D : va_G} {cA cB : ClassId} {q : Nat → Nat} {x : Nat → Nat} {N : Nat} {σ σ' : St} {r : Int32} {a1 : Int32} {a2 : Int32} {a3 : Int32} (hF : Fr (wC q cA cB) (aC q) (eC q x)) (hf : fC_camera N σ a1 a2 a3 = some (σ', r)) : MI l yX11_camera cX11_camera 4 .int 3 D (tyC cA cB) (wC q cA cB) (aC q) (eC q x) [.ref (q 0), .int a1, .int a2, .int a3] σ σ' r := by
  refine MI_of (by decide) hF (Nat.le_of_ble_eq_true rfl) ?_
  intro p e s m args below meth c Q C hret hJ ls hl
  obtain ⟨hx, hb, hml, hown, hts, hK, hE, -⟩ := id C
  have hsb : ∀ z, (aC q) z → (aC q) z := fun _ h => h
  have hl : lv_has ls 4 [(0, .ref (q 0)), (1, .int a1), (2, .int a2), (3, .int a3)] := hl
  unfold fC_camera at hf
  refine lv_aload_n hx hb dX11_camera_0 rfl (lv_at hl 0 rfl) ?_
  refine gC_0_0 C hJ fl_RX11_12 dX11_camera_1 ?_
  refine gC_1_1 C hJ fl_RX11_149 dX11_camera_4 ?_
  refine lv_iload_n hx hb dX11_camera_7 rfl (lv_at hl 1 rfl) ?_
  refine lv_iload_n hx hb dX11_camera_8 rfl (lv_at hl 2 rfl) ?_
  refine lv_iload_n hx hb dX11_camera_9 rfl (lv_at hl 3 rfl) ?_
  obtain ⟨σ1, r2, hg3, hf⟩ := cal_some hf
  refine backI hsb hJ (runV (As := [.int a1, .int a2, .int a3]) (rest := []) C hJ lk_RX11_153 (cC_A_add hF hg3) recC_8 rfl rfl (Nat.le_of_ble_eq_true rfl) hl.1 (hR_of (by omega) (by decide)) ⟨Nat.le_refl _, Nat.le_refl _⟩ dX11_camera_10) (fun H locs hJ => ?_)
  exact ret_I hret hJ hf rfl dX11_camera_13
set_option maxHeartbeats 4000000 in
set_option maxRecDepth 100000 in
theorem cC_A_has {l : Launch} {D : va_G} {cA cB : ClassId} {q : Nat → Nat} {x : Nat → Nat} {N : Nat} {σ σ' : St} {r : Int32} {a1 : Int32} (hF : Fr (wC q cA cB) (aC q) (eC q x)) (hf : fC_A_has N σ a1 = some (σ', r)) : MI l yX1_has cX1_has 2 .boolean 1 D (tyC cA cB) (wC q cA cB) (aC q) (eC q x) [.ref (q 8), .int a1] σ σ' r := by
  refine MI_of (by decide) hF (Nat.le_of_ble_eq_true rfl) ?_
  intro p e s m args below meth c Q C hret hJ ls hl
  obtain ⟨hx, hb, hml, hown, hts, hK, hE, -⟩ := id C
  have hsb : ∀ z, (aC q) z → (aC q) z := fun _ h => h
  have hl : lv_has ls 2 [(0, .ref (q 8)), (1, .int a1)] := hl
  unfold fC_A_has at hf
  refine lv_iload_n hx hb dX1_has_0 rfl (lv_at hl 1 rfl) ?_
  refine lv_if_lt (tgt := 16) hx hb dX1_has_1 (by decide) (fun c1 => ?_) (fun c1 => ?_)
  · have hf := ite_t hf c1
    refine lv_iconst (v := 0) hx hb dX1_has_16 (by decide) ?_
    exact ret_I hret hJ hf (nar_z (by decide)) dX1_has_17
  · have hf := ite_f hf c1
    refine lv_iload_n hx hb dX1_has_4 rfl (lv_at hl 1 rfl) ?_
    refine lv_aload_n hx hb dX1_has_5 rfl (lv_at hl 0 rfl) ?_
    refine gC_8_3 C hJ fl_RX1_21 dX1_has_6 ?_
    refine lv_icmp_ge (tgt := 16) hx hb dX1_has_9 (by decide) (fun c2 => ?_) (fun c2 => ?_)
    · have hf := ite_t hf c2
      refine lv_iconst (v := 0) hx hb dX1_has_16 (by decide) ?_
      exact ret_I hret hJ hf (nar_z (by decide)) dX1_has_17
    · have hf := ite_f hf c2
      refine lv_iconst (v := 1) hx hb dX1_has_12 (by decide) ?_
      refine lv_goto (tgt := 17) hx hb dX1_has_13 (by decide) ?_
      exact ret_I hret hJ hf (nar_z (by decide)) dX1_has_17
set_option maxHeartbeats 4000000 in
set_option maxRecDepth 100000 in
theorem cC_A_frameFor {l : Launch} {D : va_G} {cA cB : ClassId} {q : Nat → Nat} {x : Nat → Nat} {N : Nat} {σ σ' : St} {r : Int32} {a1 : Int32} {a2 : Int32} (hF : Fr (wC q cA cB) (aC q) (eC q x)) (hf : fC_A_frameFor N σ a1 a2 = some (σ', r)) : MI l yX1_frameFor cX1_frameFor 5 .int 1 D (tyC cA cB) (wC q cA cB) (aC q) (eC q x) [.ref (q 8), .int a1, .int a2] σ σ' r := by
  refine MI_of (by decide) hF (Nat.le_of_ble_eq_true rfl) ?_
  intro p e s m args below meth c Q C hret hJ ls hl
  obtain ⟨hx, hb, hml, hown, hts, hK, hE, -⟩ := id C
  have hsb : ∀ z, (aC q) z → (aC q) z := fun _ h => h
  have hl : lv_has ls 5 [(0, .ref (q 8)), (1, .int a1), (2, .int a2)] := hl
  unfold fC_A_frameFor at hf
  refine lv_aload_n hx hb dX1_frameFor_0 rfl (lv_at hl 0 rfl) ?_
  refine gC_8_1 C hJ fl_RX1_15 dX1_frameFor_1 ?_
  refine lv_iload_n hx hb dX1_frameFor_4 rfl (lv_at hl 1 rfl) ?_
  obtain ⟨h1, hf⟩ := gi_some hf
  refine aC_37 C hJ h1 dX1_frameFor_5 ?_
  refine lv_topi (fun x2 hx2 => ?_)
  have hf := bnd_at hf hx2
  refine lv_istore_n (lv' := [(3, .int x2), (0, .ref (q 8)), (1, .int a1), (2, .int a2)]) hx hb dX1_frameFor_6 rfl hl (by decide) rfl (fun ls hl => ?_)
  refine lv_aload_n hx hb dX1_frameFor_7 rfl (lv_at hl 1 rfl) ?_
  refine gC_8_0 C hJ fl_RX1_9 dX1_frameFor_8 ?_
  refine lv_iload_n hx hb dX1_frameFor_11 rfl (lv_at hl 2 rfl) ?_
  obtain ⟨h3, hf⟩ := gi_some hf
  refine aC_36 C hJ h3 dX1_frameFor_12 ?_
  refine lv_topi (fun x4 hx4 => ?_)
  have hf := bnd_at hf hx4
  refine lv_istore (lv' := [(4, .int x4), (3, .int x2), (0, .ref (q 8)), (1, .int a1), (2, .int a2)]) hx hb dX1_frameFor_13 hl (by decide) rfl (fun ls hl => ?_)
  refine lv_iload_n hx hb dX1_frameFor_15 rfl (lv_at hl 4 rfl) ?_
  refine lv_iload_n hx hb dX1_frameFor_16 rfl (lv_at hl 1 rfl) ?_
  refine lv_icmp_lt (tgt := 26) hx hb dX1_frameFor_17 (by decide) (fun c5 => ?_) (fun c5 => ?_)
  · have hf := ite_t hf c5
    refine lv_iload_n hx hb dX1_frameFor_26 rfl (lv_at hl 1 rfl) ?_
    exact ret_I hret hJ hf rfl dX1_frameFor_27
  · have hf := ite_f hf c5
    refine lv_iload hx hb dX1_frameFor_20 (lv_at hl 0 rfl) ?_
    refine lv_iconst (v := 1) hx hb dX1_frameFor_22 (by decide) ?_
    refine lv_icmp_ge (tgt := 28) hx hb dX1_frameFor_23 (by decide) (fun c6 => ?_) (fun c6 => ?_)
    · have hf := ite_t hf c6
      refine lv_iload_n hx hb dX1_frameFor_28 rfl (lv_at hl 4 rfl) ?_
      refine lv_iload_n hx hb dX1_frameFor_29 rfl (lv_at hl 4 rfl) ?_
      refine lv_iload_n hx hb dX1_frameFor_30 rfl (lv_at hl 1 rfl) ?_
      refine lv_isub hx hb dX1_frameFor_31 ?_
      refine lv_iload hx hb dX1_frameFor_32 (lv_at hl 0 rfl) ?_
      obtain ⟨h7, hf⟩ := gd_some hf
      refine lv_irem hx hb dX1_frameFor_34 h7 ?_
      refine lv_isub hx hb dX1_frameFor_35 ?_
      exact ret_I hret hJ hf rfl dX1_frameFor_36
    · have hf := ite_f hf c6
      refine lv_iload_n hx hb dX1_frameFor_26 rfl (lv_at hl 1 rfl) ?_
      exact ret_I hret hJ hf rfl dX1_frameFor_27
set_option maxHeartbeats 4000000 in
set_option maxRecDepth 100000 in
theorem cC_frame {l : Launch} {D : va_G} {cA cB : ClassId} {q : Nat → Nat} {x : Nat → Nat} {N : Nat} {σ σ' : St} {r : Int32} {a1 : Int32} {a2 : Int32} (hF : Fr (wC q cA cB) (aC q) (eC q x)) (hf : fC_frame N σ a1 a2 = some (σ', r)) : MI l yX11_frame cX11_frame 3 .int 3 D (tyC cA cB) (wC q cA cB) (aC q) (eC q x) [.ref (q 0), .int a1, .int a2] σ σ' r := by
  refine MI_of (by decide) hF (Nat.le_of_ble_eq_true rfl) ?_
  intro p e s m args below meth c Q C hret hJ ls hl
  obtain ⟨hx, hb, hml, hown, hts, hK, hE, -⟩ := id C
  have hsb : ∀ z, (aC q) z → (aC q) z := fun _ h => h
  have hl : lv_has ls 3 [(0, .ref (q 0)), (1, .int a1), (2, .int a2)] := hl
  unfold fC_frame at hf
  refine lv_aload_n hx hb dX11_frame_0 rfl (lv_at hl 0 rfl) ?_
  refine gC_0_0 C hJ fl_RX11_12 dX11_frame_1 ?_
  refine gC_1_1 C hJ fl_RX11_149 dX11_frame_4 ?_
  refine lv_iload_n hx hb dX11_frame_7 rfl (lv_at hl 1 rfl) ?_
  obtain ⟨σ1, r2, hg3, hf⟩ := cal_some hf
  refine backI hsb hJ (runV (As := [.int a1]) (rest := []) C hJ lk_RX11_156 (cC_A_has hF hg3) recC_8 rfl rfl (Nat.le_of_ble_eq_true rfl) hl.1 (hR_of (by omega) (by decide)) ⟨Nat.le_refl _, Nat.le_refl _⟩ dX11_frame_8) (fun H locs hJ => ?_)
  refine lv_if_eq (tgt := 21) hx hb dX11_frame_11 (by decide) (fun c4 => ?_) (fun c4 => ?_)
  · have hf := ite_t hf c4
    refine lv_bipush (v := -2) hx hb dX11_frame_21 (by decide) ?_
    exact ret_I hret hJ hf rfl dX11_frame_23
  · have hf := ite_f hf c4
    refine lv_iload_n hx hb dX11_frame_14 rfl (lv_at hl 2 rfl) ?_
    obtain ⟨σ5, r6, hg7, hf⟩ := cal_some hf
    refine backI hsb hJ (runS (As := [.int a2]) (rest := []) C hJ lk_RX11_124 (cC_isTick hF hg7) rfl rfl (Nat.le_of_ble_eq_true rfl) hl.1 (hR_of (by omega) (by decide)) ⟨Nat.le_refl _, Nat.le_refl _⟩ dX11_frame_15) (fun H locs hJ => ?_)
    refine lv_if_ne (tgt := 24) hx hb dX11_frame_18 (by decide) (fun c8 => ?_) (fun c8 => ?_)
    · have hf := ite_f hf c8
      refine lv_aload_n hx hb dX11_frame_24 rfl (lv_at hl 0 rfl) ?_
      refine gC_0_0 C hJ fl_RX11_12 dX11_frame_25 ?_
      refine gC_1_1 C hJ fl_RX11_149 dX11_frame_28 ?_
      refine lv_iload_n hx hb dX11_frame_31 rfl (lv_at hl 1 rfl) ?_
      refine lv_iload_n hx hb dX11_frame_32 rfl (lv_at hl 2 rfl) ?_
      obtain ⟨σ9, r10, hg11, hf⟩ := cal_some hf
      refine backI hsb hJ (runV (As := [.int a1, .int a2]) (rest := []) C hJ lk_RX11_157 (cC_A_frameFor hF hg11) recC_8 rfl rfl (Nat.le_of_ble_eq_true rfl) hl.1 (hR_of (by omega) (by decide)) ⟨Nat.le_refl _, Nat.le_refl _⟩ dX11_frame_33) (fun H locs hJ => ?_)
      exact ret_I hret hJ hf rfl dX11_frame_36
    · have hf := ite_t hf c8
      refine lv_bipush (v := -2) hx hb dX11_frame_21 (by decide) ?_
      exact ret_I hret hJ hf rfl dX11_frame_23
set_option maxHeartbeats 4000000 in
set_option maxRecDepth 100000 in
theorem cC_A_seenAt {l : Launch} {D : va_G} {cA cB : ClassId} {q : Nat → Nat} {x : Nat → Nat} {N : Nat} {σ σ' : St} {r : Int32} {a1 : Int32} {a2 : Int32} (hF : Fr (wC q cA cB) (aC q) (eC q x)) (hf : fC_A_seenAt N σ a1 a2 = some (σ', r)) : MI l yX1_seenAt cX1_seenAt 3 .int 1 D (tyC cA cB) (wC q cA cB) (aC q) (eC q x) [.ref (q 8), .int a1, .int a2] σ σ' r := by
  refine MI_of (by decide) hF (Nat.le_of_ble_eq_true rfl) ?_
  intro p e s m args below meth c Q C hret hJ ls hl
  obtain ⟨hx, hb, hml, hown, hts, hK, hE, -⟩ := id C
  have hsb : ∀ z, (aC q) z → (aC q) z := fun _ h => h
  have hl : lv_has ls 3 [(0, .ref (q 8)), (1, .int a1), (2, .int a2)] := hl
  unfold fC_A_seenAt at hf
  refine lv_iload_n hx hb dX1_seenAt_0 rfl (lv_at hl 2 rfl) ?_
  refine lv_aload_n hx hb dX1_seenAt_1 rfl (lv_at hl 0 rfl) ?_
  refine gC_8_2 C hJ fl_RX1_18 dX1_seenAt_2 ?_
  refine lv_iload_n hx hb dX1_seenAt_5 rfl (lv_at hl 1 rfl) ?_
  obtain ⟨h1, hf⟩ := gi_some hf
  refine aC_38 C hJ h1 dX1_seenAt_6 ?_
  refine lv_iload_n hx hb dX1_seenAt_7 rfl (lv_at hl 2 rfl) ?_
  refine lv_imul hx hb dX1_seenAt_8 ?_
  refine lv_sipush (v := 1000) hx hb dX1_seenAt_9 (by decide) ?_
  refine lv_idiv hx hb dX1_seenAt_12 (by decide) ?_
  refine lv_iadd hx hb dX1_seenAt_13 ?_
  exact ret_I hret hJ hf rfl dX1_seenAt_14
set_option maxHeartbeats 4000000 in
set_option maxRecDepth 100000 in
theorem cC_sees {l : Launch} {D : va_G} {cA cB : ClassId} {q : Nat → Nat} {x : Nat → Nat} {N : Nat} {σ σ' : St} {r : Int64} {a1 : Int32} {a2 : Int32} (hF : Fr (wC q cA cB) (aC q) (eC q x)) (hf : fC_sees N σ a1 a2 = some (σ', r)) : ML l yX11_sees cX11_sees 3 .long 2 D (tyC cA cB) (wC q cA cB) (aC q) (eC q x) [.ref (q 0), .int a1, .int a2] σ σ' r := by
  refine ML_of (by decide) hF (Nat.le_of_ble_eq_true rfl) ?_
  intro p e s m args below meth c Q C hret hJ ls hl
  obtain ⟨hx, hb, hml, hown, hts, hK, hE, -⟩ := id C
  have hsb : ∀ z, (aC q) z → (aC q) z := fun _ h => h
  have hl : lv_has ls 3 [(0, .ref (q 0)), (1, .int a1), (2, .int a2)] := hl
  unfold fC_sees at hf
  refine lv_aload_n hx hb dX11_sees_0 rfl (lv_at hl 0 rfl) ?_
  refine gC_0_0 C hJ fl_RX11_12 dX11_sees_1 ?_
  refine gC_1_1 C hJ fl_RX11_149 dX11_sees_4 ?_
  refine lv_iload_n hx hb dX11_sees_7 rfl (lv_at hl 1 rfl) ?_
  obtain ⟨σ1, r2, hg3, hf⟩ := cal_some hf
  refine backI hsb hJ (runV (As := [.int a1]) (rest := []) C hJ lk_RX11_156 (cC_A_has hF hg3) recC_8 rfl rfl (Nat.le_of_ble_eq_true rfl) hl.1 (hR_of (by omega) (by decide)) ⟨Nat.le_refl _, Nat.le_refl _⟩ dX11_sees_8) (fun H locs hJ => ?_)
  refine lv_if_eq (tgt := 25) hx hb dX11_sees_11 (by decide) (fun c4 => ?_) (fun c4 => ?_)
  · have hf := ite_t hf c4
    refine lv_ldc2 (v := -4611686018427387904) hx hb hown (hts _ kl_RX11_127) dX11_sees_25 ?_
    exact ret_L hret hJ hf dX11_sees_28
  · have hf := ite_f hf c4
    refine lv_iload_n hx hb dX11_sees_14 rfl (lv_at hl 2 rfl) ?_
    refine lv_ldc (v := -99999) hx hb hown (hts _ ki_RX11_160) dX11_sees_15 ?_
    refine lv_ldc (v := 99999) hx hb hown (hts _ ki_RX11_161) dX11_sees_17 ?_
    obtain ⟨σ5, r6, hg7, hf⟩ := cal_some hf
    refine backI hsb hJ (runS (As := [.int a2, .int (-99999 : Int32), .int (99999 : Int32)]) (rest := []) C hJ lk_RX11_100 (cC_isWithin hF hg7) rfl rfl (Nat.le_of_ble_eq_true rfl) hl.1 (hR_of (by omega) (by decide)) ⟨Nat.le_refl _, Nat.le_refl _⟩ dX11_sees_19) (fun H locs hJ => ?_)
    refine lv_if_ne (tgt := 29) hx hb dX11_sees_22 (by decide) (fun c8 => ?_) (fun c8 => ?_)
    · have hf := ite_f hf c8
      refine lv_aload_n hx hb dX11_sees_29 rfl (lv_at hl 0 rfl) ?_
      refine gC_0_0 C hJ fl_RX11_12 dX11_sees_30 ?_
      refine gC_1_1 C hJ fl_RX11_149 dX11_sees_33 ?_
      refine lv_iload_n hx hb dX11_sees_36 rfl (lv_at hl 1 rfl) ?_
      refine lv_iload_n hx hb dX11_sees_37 rfl (lv_at hl 2 rfl) ?_
      obtain ⟨σ9, r10, hg11, hf⟩ := cal_some hf
      refine backI hsb hJ (runV (As := [.int a1, .int a2]) (rest := []) C hJ lk_RX11_162 (cC_A_seenAt hF hg11) recC_8 rfl rfl (Nat.le_of_ble_eq_true rfl) hl.1 (hR_of (by omega) (by decide)) ⟨Nat.le_refl _, Nat.le_refl _⟩ dX11_sees_38) (fun H locs hJ => ?_)
      refine lv_i2l (v := r10.toInt64) hx hb dX11_sees_41 rfl ?_
      exact ret_L hret hJ hf dX11_sees_42
    · have hf := ite_t hf c8
      refine lv_ldc2 (v := -4611686018427387904) hx hb hown (hts _ kl_RX11_127) dX11_sees_25 ?_
      exact ret_L hret hJ hf dX11_sees_28
set_option maxHeartbeats 4000000 in
set_option maxRecDepth 100000 in
theorem cC_O_add {l : Launch} {D : va_G} {cA cB : ClassId} {q : Nat → Nat} {x : Nat → Nat} {N : Nat} {σ σ' : St} {r : Int32} {a1 : Int32} {a2 : Int32} (hF : Fr (wC q cA cB) (aC q) (eC q x)) (hf : fC_O_add N σ a1 a2 = some (σ', r)) : MI l yX3_add cX3_add 3 .int 2 D (tyC cA cB) (wC q cA cB) (aC q) (eC q x) [.ref (q 9), .int a1, .int a2] σ σ' r := by
  refine MI_of (by decide) hF (Nat.le_of_ble_eq_true rfl) ?_
  intro p e s m args below meth c Q C hret hJ ls hl
  obtain ⟨hx, hb, hml, hown, hts, hK, hE, -⟩ := id C
  have hsb : ∀ z, (aC q) z → (aC q) z := fun _ h => h
  have hl : lv_has ls 3 [(0, .ref (q 9)), (1, .int a1), (2, .int a2)] := hl
  unfold fC_O_add at hf
  refine lv_iload_n hx hb dX3_add_0 rfl (lv_at hl 1 rfl) ?_
  refine lv_bipush (v := -20) hx hb dX3_add_1 (by decide) ?_
  refine lv_bipush (v := 20) hx hb dX3_add_3 (by decide) ?_
  obtain ⟨σ1, r2, hg3, hf⟩ := cal_some hf
  refine backI hsb hJ (runN (As := [.int a1, .int (-20 : Int32), .int (20 : Int32)]) (rest := []) C hJ lkn_yX11_isWithin (hE.1 _ nl_RX3_22) (cC_isWithin hF hg3) rfl rfl (Nat.le_of_ble_eq_true rfl) hl.1 (hR_of (by omega) (by decide)) ⟨Nat.le_refl _, Nat.le_refl _⟩ dX3_add_5) (fun H locs hJ => ?_)
  refine lv_if_eq (tgt := 21) hx hb dX3_add_8 (by decide) (fun c4 => ?_) (fun c4 => ?_)
  · have hf := ite_t hf c4
    refine lv_bipush (v := -2) hx hb dX3_add_21 (by decide) ?_
    exact ret_I hret hJ hf rfl dX3_add_23
  · have hf := ite_f hf c4
    refine lv_iload_n hx hb dX3_add_11 rfl (lv_at hl 2 rfl) ?_
    refine lv_iconst (v := 0) hx hb dX3_add_12 (by decide) ?_
    refine lv_bipush (v := 9) hx hb dX3_add_13 (by decide) ?_
    obtain ⟨σ5, r6, hg7, hf⟩ := cal_some hf
    refine backI hsb hJ (runN (As := [.int a2, .int (0 : Int32), .int (9 : Int32)]) (rest := []) C hJ lkn_yX11_isWithin (hE.1 _ nl_RX3_22) (cC_isWithin hF hg7) rfl rfl (Nat.le_of_ble_eq_true rfl) hl.1 (hR_of (by omega) (by decide)) ⟨Nat.le_refl _, Nat.le_refl _⟩ dX3_add_15) (fun H locs hJ => ?_)
    refine lv_if_ne (tgt := 24) hx hb dX3_add_18 (by decide) (fun c8 => ?_) (fun c8 => ?_)
    · have hf := ite_f hf c8
      refine lv_aload_n hx hb dX3_add_24 rfl (lv_at hl 0 rfl) ?_
      refine gC_9_2 C hJ fl_RX3_18 dX3_add_25 ?_
      refine lv_bipush (v := 6) hx hb dX3_add_28 (by decide) ?_
      refine lv_icmp_lt (tgt := 36) hx hb dX3_add_30 (by decide) (fun c9 => ?_) (fun c9 => ?_)
      · have hf := ite_t hf c9
        refine lv_aload_n hx hb dX3_add_36 rfl (lv_at hl 0 rfl) ?_
        refine gC_9_0 C hJ fl_RX3_9 dX3_add_37 ?_
        refine lv_aload_n hx hb dX3_add_40 rfl (lv_at hl 0 rfl) ?_
        refine gC_9_2 C hJ fl_RX3_18 dX3_add_41 ?_
        refine lv_iload_n hx hb dX3_add_44 rfl (lv_at hl 1 rfl) ?_
        obtain ⟨h10, hf⟩ := gi_some hf
        refine sC_39 C hJ h10 dX3_add_45 (fun σ11 H locs hs hJ => ?_)
        have hf := bnd_at hf hs
        refine lv_aload_n hx hb dX3_add_46 rfl (lv_at hl 0 rfl) ?_
        refine gC_9_1 C hJ fl_RX3_15 dX3_add_47 ?_
        refine lv_aload_n hx hb dX3_add_50 rfl (lv_at hl 0 rfl) ?_
        refine gC_9_2 C hJ fl_RX3_18 dX3_add_51 ?_
        refine lv_iload_n hx hb dX3_add_54 rfl (lv_at hl 2 rfl) ?_
        obtain ⟨h12, hf⟩ := gi_some hf
        refine sC_40 C hJ h12 dX3_add_55 (fun σ13 H locs hs hJ => ?_)
        have hf := bnd_at hf hs
        refine lv_aload_n hx hb dX3_add_56 rfl (lv_at hl 0 rfl) ?_
        refine lv_dup hx hb dX3_add_57 rfl ?_
        refine gC_9_2 C hJ fl_RX3_18 dX3_add_58 ?_
        refine lv_iconst (v := 1) hx hb dX3_add_61 (by decide) ?_
        refine lv_iadd hx hb dX3_add_62 ?_
        refine pC_9_2 C hJ fl_RX3_18 dX3_add_63 (fun σ14 H locs hs hJ => ?_)
        have hf := bnd_at hf hs
        refine lv_aload_n hx hb dX3_add_66 rfl (lv_at hl 0 rfl) ?_
        refine gC_9_2 C hJ fl_RX3_18 dX3_add_67 ?_
        refine lv_iconst (v := 1) hx hb dX3_add_70 (by decide) ?_
        refine lv_isub hx hb dX3_add_71 ?_
        exact ret_I hret hJ hf rfl dX3_add_72
      · have hf := ite_f hf c9
        refine lv_bipush (v := -4) hx hb dX3_add_33 (by decide) ?_
        exact ret_I hret hJ hf rfl dX3_add_35
    · have hf := ite_t hf c8
      refine lv_bipush (v := -2) hx hb dX3_add_21 (by decide) ?_
      exact ret_I hret hJ hf rfl dX3_add_23
set_option maxHeartbeats 4000000 in
set_option maxRecDepth 100000 in
theorem cC_crosser {l : Launch} {D : va_G} {cA cB : ClassId} {q : Nat → Nat} {x : Nat → Nat} {N : Nat} {σ σ' : St} {r : Int32} {a1 : Int32} {a2 : Int32} (hF : Fr (wC q cA cB) (aC q) (eC q x)) (hf : fC_crosser N σ a1 a2 = some (σ', r)) : MI l yX11_crosser cX11_crosser 3 .int 3 D (tyC cA cB) (wC q cA cB) (aC q) (eC q x) [.ref (q 0), .int a1, .int a2] σ σ' r := by
  refine MI_of (by decide) hF (Nat.le_of_ble_eq_true rfl) ?_
  intro p e s m args below meth c Q C hret hJ ls hl
  obtain ⟨hx, hb, hml, hown, hts, hK, hE, -⟩ := id C
  have hsb : ∀ z, (aC q) z → (aC q) z := fun _ h => h
  have hl : lv_has ls 3 [(0, .ref (q 0)), (1, .int a1), (2, .int a2)] := hl
  unfold fC_crosser at hf
  refine lv_aload_n hx hb dX11_crosser_0 rfl (lv_at hl 0 rfl) ?_
  refine gC_0_0 C hJ fl_RX11_12 dX11_crosser_1 ?_
  refine gC_1_2 C hJ fl_RX11_165 dX11_crosser_4 ?_
  refine lv_iload_n hx hb dX11_crosser_7 rfl (lv_at hl 1 rfl) ?_
  refine lv_iload_n hx hb dX11_crosser_8 rfl (lv_at hl 2 rfl) ?_
  obtain ⟨σ1, r2, hg3, hf⟩ := cal_some hf
  refine backI hsb hJ (runV (As := [.int a1, .int a2]) (rest := []) C hJ lk_RX11_169 (cC_O_add hF hg3) recC_9 rfl rfl (Nat.le_of_ble_eq_true rfl) hl.1 (hR_of (by omega) (by decide)) ⟨Nat.le_refl _, Nat.le_refl _⟩ dX11_crosser_9) (fun H locs hJ => ?_)
  exact ret_I hret hJ hf rfl dX11_crosser_12
set_option maxHeartbeats 4000000 in
set_option maxRecDepth 100000 in
theorem cC_B_put {l : Launch} {D : va_G} {cA cB : ClassId} {q : Nat → Nat} {x : Nat → Nat} {N : Nat} {σ σ' : St} {a1 : Int32} (hF : Fr (wC q cA cB) (aC q) (eC q x)) (hf : fC_B_put N σ a1 = some (σ', ())) : MV l yX9_put cX9_put 2 1 D (tyC cA cB) (wC q cA cB) (aC q) (eC q x) [.ref (q 12), .int a1] σ σ' := by
  refine MV_of (by decide) hF (Nat.le_of_ble_eq_true rfl) ?_
  intro p e s m args below meth c Q C hret hJ ls hl
  obtain ⟨hx, hb, hml, hown, hts, hK, hE, -⟩ := id C
  have hsb : ∀ z, (aC q) z → (aC q) z := fun _ h => h
  have hl : lv_has ls 2 [(0, .ref (q 12)), (1, .int a1)] := hl
  unfold fC_B_put at hf
  refine lv_aload_n hx hb dX9_put_0 rfl (lv_at hl 0 rfl) ?_
  refine gC_12_1 C hJ fl_RX9_24 dX9_put_1 ?_
  refine lv_sipush (v := 160) hx hb dX9_put_4 (by decide) ?_
  refine lv_icmp_ge (tgt := 30) hx hb dX9_put_7 (by decide) (fun c1 => ?_) (fun c1 => ?_)
  · have hf := ite_t hf c1
    exact ret_V hret hJ hf dX9_put_30
  · have hf := ite_f hf c1
    refine lv_aload_n hx hb dX9_put_10 rfl (lv_at hl 0 rfl) ?_
    refine gC_12_0 C hJ fl_RX9_9 dX9_put_11 ?_
    refine lv_aload_n hx hb dX9_put_14 rfl (lv_at hl 0 rfl) ?_
    refine gC_12_1 C hJ fl_RX9_24 dX9_put_15 ?_
    refine lv_iload_n hx hb dX9_put_18 rfl (lv_at hl 1 rfl) ?_
    obtain ⟨h2, hf⟩ := gi_some hf
    refine sC_53 C hJ h2 dX9_put_19 (fun σ3 H locs hs hJ => ?_)
    have hf := bnd_at hf hs
    refine lv_aload_n hx hb dX9_put_20 rfl (lv_at hl 0 rfl) ?_
    refine lv_dup hx hb dX9_put_21 rfl ?_
    refine gC_12_1 C hJ fl_RX9_24 dX9_put_22 ?_
    refine lv_iconst (v := 1) hx hb dX9_put_25 (by decide) ?_
    refine lv_iadd hx hb dX9_put_26 ?_
    refine pC_12_1 C hJ fl_RX9_24 dX9_put_27 (fun σ4 H locs hs hJ => ?_)
    have hf := bnd_at hf hs
    exact ret_V hret hJ hf dX9_put_30
set_option maxHeartbeats 4000000 in
set_option maxRecDepth 100000 in
theorem cC_feed {l : Launch} {D : va_G} {cA cB : ClassId} {q : Nat → Nat} {x : Nat → Nat} {N : Nat} {σ σ' : St} {r : Int32} {a1 : Int32} {a2 : Int64} (hF : Fr (wC q cA cB) (aC q) (eC q x)) (hf : fC_feed N σ a1 a2 = some (σ', r)) : MI l yX11_feed cX11_feed 5 .int 2 D (tyC cA cB) (wC q cA cB) (aC q) (eC q x) [.ref (q 0), .int a1, .long a2] σ σ' r := by
  refine MI_of (by decide) hF (Nat.le_of_ble_eq_true rfl) ?_
  intro p e s m args below meth c Q C hret hJ ls hl
  obtain ⟨hx, hb, hml, hown, hts, hK, hE, -⟩ := id C
  have hsb : ∀ z, (aC q) z → (aC q) z := fun _ h => h
  have l37 : ∀ (n : Nat) (σ : St) (a1 : Int32) (a2 : Int64) (a4 : Int32) (H : Heap) (locs : List Loc) (ls : Array Slot), fC_feed_l37 N  n σ a1 a2 a4 = some (σ', r) → J D (wC q cA cB) (aC q) s σ H locs → lv_has ls 5 [(0, .ref (q 0)), (1, .int a1), (2, .long a2), (4, .int a4)] → W p l e (rmH 2) s m args below meth c H locs 0 0 Q (F0 m 37 ls []) := by
    intro n37
    induction n37 with
    | zero => intro σ a1 a2 a4 H locs ls hf; rw [fC_feed_l37] at hf; cases hf
    | succ n37 ih37 =>
      intro σ a1 a2 a4 H locs ls hf hJ hl
      rw [fC_feed_l37] at hf
      refine lv_iload hx hb dX11_feed_37 (lv_at hl 3 rfl) ?_
      refine lv_iload_n hx hb dX11_feed_39 rfl (lv_at hl 1 rfl) ?_
      refine lv_icmp_ge (tgt := 71) hx hb dX11_feed_40 (by decide) (fun c1 => ?_) (fun c1 => ?_)
      · have hf := ite_t hf c1
        refine lv_aload_n hx hb dX11_feed_71 rfl (lv_at hl 0 rfl) ?_
        refine gC_0_1 C hJ fl_RX11_19 dX11_feed_72 ?_
        refine gC_2_0 C hJ fl_RX11_59 dX11_feed_75 ?_
        refine gC_12_1 C hJ fl_RX11_173 dX11_feed_78 ?_
        exact ret_I hret hJ hf rfl dX11_feed_81
      · have hf := ite_f hf c1
        refine lv_aload_n hx hb dX11_feed_43 rfl (lv_at hl 0 rfl) ?_
        refine gC_0_1 C hJ fl_RX11_19 dX11_feed_44 ?_
        refine gC_2_0 C hJ fl_RX11_59 dX11_feed_47 ?_
        refine lv_lload_n hx hb dX11_feed_50 rfl (lv_at hl 2 rfl) ?_
        refine lv_bipush (v := 8) hx hb dX11_feed_51 (by decide) ?_
        refine lv_iload hx hb dX11_feed_53 (lv_at hl 3 rfl) ?_
        refine lv_imul hx hb dX11_feed_55 ?_
        refine lv_lushr (v := (a2.toUInt64 >>> (((8 : Int32) * a4).toInt64.toUInt64 &&& Int64.toUInt64 63)).toInt64) hx hb dX11_feed_56 rfl ?_
        refine lv_l2i (v := ((a2.toUInt64 >>> (((8 : Int32) * a4).toInt64.toUInt64 &&& Int64.toUInt64 63)).toInt64).toInt32) hx hb dX11_feed_57 rfl ?_
        refine lv_sipush (v := 255) hx hb dX11_feed_58 (by decide) ?_
        refine lv_iand hx hb dX11_feed_61 ?_
        obtain ⟨σ2, r3, hg4, hf⟩ := cal_some hf
        refine backV hsb hJ (runV (As := [.int ((((a2.toUInt64 >>> (((8 : Int32) * a4).toInt64.toUInt64 &&& Int64.toUInt64 63)).toInt64).toInt32) &&& (255 : Int32))]) (rest := []) C hJ lk_RX11_67 (cC_B_put hF hg4) recC_12 rfl rfl (Nat.le_of_ble_eq_true rfl) hl.1 (hR_of (by omega) (by decide)) ⟨Nat.le_refl _, Nat.le_refl _⟩ dX11_feed_62) (fun H locs hJ => ?_)
        obtain ⟨x5, hx5⟩ : ∃ z : Int32, z = a4 + (1 : Int32) := ⟨_, rfl⟩
        have hf := bnd_at hf hx5
        refine lv_iinc (v := x5) (lv' := [(4, .int x5), (0, .ref (q 0)), (1, .int a1), (2, .long a2)]) hx hb dX11_feed_65 hl (k := 3) rfl (by rw [hx5]; rfl) (by decide) rfl (fun ls hl => ?_)
        refine lv_goto (tgt := 37) hx hb dX11_feed_68 (by decide) ?_
        exact ih37 σ2 a1 a2 x5 _ _ _ hf hJ (lv_sub hl [1, 2, 3, 0] rfl)
  have hl : lv_has ls 5 [(0, .ref (q 0)), (1, .int a1), (2, .long a2)] := hl
  unfold fC_feed at hf
  refine lv_iload_n hx hb dX11_feed_0 rfl (lv_at hl 1 rfl) ?_
  refine lv_iconst (v := 1) hx hb dX11_feed_1 (by decide) ?_
  refine lv_bipush (v := 8) hx hb dX11_feed_2 (by decide) ?_
  obtain ⟨σ6, r7, hg8, hf⟩ := cal_some hf
  refine backI hsb hJ (runS (As := [.int a1, .int (1 : Int32), .int (8 : Int32)]) (rest := []) C hJ lk_RX11_100 (cC_isWithin hF hg8) rfl rfl (Nat.le_of_ble_eq_true rfl) hl.1 (hR_of (by omega) (by decide)) ⟨Nat.le_refl _, Nat.le_refl _⟩ dX11_feed_4) (fun H locs hJ => ?_)
  refine lv_if_ne (tgt := 13) hx hb dX11_feed_7 (by decide) (fun c9 => ?_) (fun c9 => ?_)
  · have hf := ite_f hf c9
    refine lv_aload_n hx hb dX11_feed_13 rfl (lv_at hl 0 rfl) ?_
    refine gC_0_1 C hJ fl_RX11_19 dX11_feed_14 ?_
    refine gC_2_0 C hJ fl_RX11_59 dX11_feed_17 ?_
    refine gC_12_1 C hJ fl_RX11_173 dX11_feed_20 ?_
    refine lv_iload_n hx hb dX11_feed_23 rfl (lv_at hl 1 rfl) ?_
    refine lv_iadd hx hb dX11_feed_24 ?_
    refine lv_sipush (v := 160) hx hb dX11_feed_25 (by decide) ?_
    refine lv_icmp_le (tgt := 34) hx hb dX11_feed_28 (by decide) (fun c10 => ?_) (fun c10 => ?_)
    · have hf := ite_t hf c10
      refine lv_iconst (v := 0) hx hb dX11_feed_34 (by decide) ?_
      refine lv_istore (lv' := [(4, .int (0 : Int32)), (0, .ref (q 0)), (1, .int a1), (2, .long a2)]) hx hb dX11_feed_35 hl (by decide) rfl (fun ls hl => ?_)
      exact l37 N σ6 a1 a2 (0 : Int32) _ _ _ hf hJ (lv_sub hl [1, 2, 3, 0] rfl)
    · have hf := ite_f hf c10
      refine lv_bipush (v := -4) hx hb dX11_feed_31 (by decide) ?_
      exact ret_I hret hJ hf rfl dX11_feed_33
  · have hf := ite_t hf c9
    refine lv_bipush (v := -2) hx hb dX11_feed_10 (by decide) ?_
    exact ret_I hret hJ hf rfl dX11_feed_12
set_option maxHeartbeats 4000000 in
set_option maxRecDepth 100000 in
theorem cC_B_note {l : Launch} {D : va_G} {cA cB : ClassId} {q : Nat → Nat} {x : Nat → Nat} {N : Nat} {σ σ' : St} {a1 : Int32} {a2 : Int32} {a3 : Int32} (hF : Fr (wC q cA cB) (aC q) (eC q x)) (hf : fC_B_note N σ a1 a2 a3 = some (σ', ())) : MV l yX9_note cX9_note 4 1 D (tyC cA cB) (wC q cA cB) (aC q) (eC q x) [.ref (q 12), .int a1, .int a2, .int a3] σ σ' := by
  refine MV_of (by decide) hF (Nat.le_of_ble_eq_true rfl) ?_
  intro p e s m args below meth c Q C hret hJ ls hl
  obtain ⟨hx, hb, hml, hown, hts, hK, hE, -⟩ := id C
  have hsb : ∀ z, (aC q) z → (aC q) z := fun _ h => h
  have hl : lv_has ls 4 [(0, .ref (q 12)), (1, .int a1), (2, .int a2), (3, .int a3)] := hl
  unfold fC_B_note at hf
  refine lv_aload_n hx hb dX9_note_0 rfl (lv_at hl 0 rfl) ?_
  refine gC_12_5 C hJ fl_RX9_28 dX9_note_1 ?_
  refine lv_sipush (v := 160) hx hb dX9_note_4 (by decide) ?_
  refine lv_icmp_gt (tgt := 50) hx hb dX9_note_7 (by decide) (fun c1 => ?_) (fun c1 => ?_)
  · have hf := ite_t hf c1
    exact ret_V hret hJ hf dX9_note_50
  · have hf := ite_f hf c1
    refine lv_aload_n hx hb dX9_note_10 rfl (lv_at hl 0 rfl) ?_
    refine gC_12_2 C hJ fl_RX9_15 dX9_note_11 ?_
    refine lv_aload_n hx hb dX9_note_14 rfl (lv_at hl 0 rfl) ?_
    refine gC_12_5 C hJ fl_RX9_28 dX9_note_15 ?_
    refine lv_iload_n hx hb dX9_note_18 rfl (lv_at hl 1 rfl) ?_
    obtain ⟨h2, hf⟩ := gi_some hf
    refine sC_54 C hJ h2 dX9_note_19 (fun σ3 H locs hs hJ => ?_)
    have hf := bnd_at hf hs
    refine lv_aload_n hx hb dX9_note_20 rfl (lv_at hl 0 rfl) ?_
    refine gC_12_3 C hJ fl_RX9_18 dX9_note_21 ?_
    refine lv_aload_n hx hb dX9_note_24 rfl (lv_at hl 0 rfl) ?_
    refine gC_12_5 C hJ fl_RX9_28 dX9_note_25 ?_
    refine lv_iload_n hx hb dX9_note_28 rfl (lv_at hl 2 rfl) ?_
    obtain ⟨h4, hf⟩ := gi_some hf
    refine sC_55 C hJ h4 dX9_note_29 (fun σ5 H locs hs hJ => ?_)
    have hf := bnd_at hf hs
    refine lv_aload_n hx hb dX9_note_30 rfl (lv_at hl 0 rfl) ?_
    refine gC_12_4 C hJ fl_RX9_21 dX9_note_31 ?_
    refine lv_aload_n hx hb dX9_note_34 rfl (lv_at hl 0 rfl) ?_
    refine gC_12_5 C hJ fl_RX9_28 dX9_note_35 ?_
    refine lv_iload_n hx hb dX9_note_38 rfl (lv_at hl 3 rfl) ?_
    obtain ⟨h6, hf⟩ := gi_some hf
    refine sC_56 C hJ h6 dX9_note_39 (fun σ7 H locs hs hJ => ?_)
    have hf := bnd_at hf hs
    refine lv_aload_n hx hb dX9_note_40 rfl (lv_at hl 0 rfl) ?_
    refine lv_dup hx hb dX9_note_41 rfl ?_
    refine gC_12_5 C hJ fl_RX9_28 dX9_note_42 ?_
    refine lv_iconst (v := 1) hx hb dX9_note_45 (by decide) ?_
    refine lv_iadd hx hb dX9_note_46 ?_
    refine pC_12_5 C hJ fl_RX9_28 dX9_note_47 (fun σ8 H locs hs hJ => ?_)
    have hf := bnd_at hf hs
    exact ret_V hret hJ hf dX9_note_50
set_option maxHeartbeats 4000000 in
set_option maxRecDepth 100000 in
theorem cC_B_byteAt {l : Launch} {D : va_G} {cA cB : ClassId} {q : Nat → Nat} {x : Nat → Nat} {N : Nat} {σ σ' : St} {r : Int32} {a1 : Int32} (hF : Fr (wC q cA cB) (aC q) (eC q x)) (hf : fC_B_byteAt N σ a1 = some (σ', r)) : MI l yX9_byteAt cX9_byteAt 2 .int 1 D (tyC cA cB) (wC q cA cB) (aC q) (eC q x) [.ref (q 12), .int a1] σ σ' r := by
  refine MI_of (by decide) hF (Nat.le_of_ble_eq_true rfl) ?_
  intro p e s m args below meth c Q C hret hJ ls hl
  obtain ⟨hx, hb, hml, hown, hts, hK, hE, -⟩ := id C
  have hsb : ∀ z, (aC q) z → (aC q) z := fun _ h => h
  have hl : lv_has ls 2 [(0, .ref (q 12)), (1, .int a1)] := hl
  unfold fC_B_byteAt at hf
  refine lv_iload_n hx hb dX9_byteAt_0 rfl (lv_at hl 1 rfl) ?_
  refine lv_if_lt (tgt := 21) hx hb dX9_byteAt_1 (by decide) (fun c1 => ?_) (fun c1 => ?_)
  · have hf := ite_t hf c1
    refine lv_iconst (v := -1) hx hb dX9_byteAt_21 (by decide) ?_
    exact ret_I hret hJ hf rfl dX9_byteAt_22
  · have hf := ite_f hf c1
    refine lv_iload_n hx hb dX9_byteAt_4 rfl (lv_at hl 1 rfl) ?_
    refine lv_aload_n hx hb dX9_byteAt_5 rfl (lv_at hl 0 rfl) ?_
    refine gC_12_1 C hJ fl_RX9_24 dX9_byteAt_6 ?_
    refine lv_icmp_ge (tgt := 21) hx hb dX9_byteAt_9 (by decide) (fun c2 => ?_) (fun c2 => ?_)
    · have hf := ite_t hf c2
      refine lv_iconst (v := -1) hx hb dX9_byteAt_21 (by decide) ?_
      exact ret_I hret hJ hf rfl dX9_byteAt_22
    · have hf := ite_f hf c2
      refine lv_aload_n hx hb dX9_byteAt_12 rfl (lv_at hl 0 rfl) ?_
      refine gC_12_0 C hJ fl_RX9_9 dX9_byteAt_13 ?_
      refine lv_iload_n hx hb dX9_byteAt_16 rfl (lv_at hl 1 rfl) ?_
      obtain ⟨h3, hf⟩ := gi_some hf
      refine aC_53 C hJ h3 dX9_byteAt_17 ?_
      refine lv_goto (tgt := 22) hx hb dX9_byteAt_18 (by decide) ?_
      exact ret_I hret hJ hf rfl dX9_byteAt_22
set_option maxHeartbeats 4000000 in
set_option maxRecDepth 100000 in
theorem cC_B_isLetter {l : Launch} {D : va_G} {cA cB : ClassId} {q : Nat → Nat} {x : Nat → Nat} {N : Nat} {σ σ' : St} {r : Int32} {a0 : Int32} (hF : Fr (wC q cA cB) (aC q) (eC q x)) (hf : fC_B_isLetter N σ a0 = some (σ', r)) : MI l yX9_isLetter cX9_isLetter 1 .boolean 2 D (tyC cA cB) (wC q cA cB) (aC q) (eC q x) [.int a0] σ σ' r := by
  refine MI_of (by decide) hF (Nat.le_of_ble_eq_true rfl) ?_
  intro p e s m args below meth c Q C hret hJ ls hl
  obtain ⟨hx, hb, hml, hown, hts, hK, hE, -⟩ := id C
  have hsb : ∀ z, (aC q) z → (aC q) z := fun _ h => h
  have hl : lv_has ls 1 [(0, .int a0)] := hl
  unfold fC_B_isLetter at hf
  refine lv_iload_n hx hb dX9_isLetter_0 rfl (lv_at hl 0 rfl) ?_
  refine lv_bipush (v := 97) hx hb dX9_isLetter_1 (by decide) ?_
  refine lv_bipush (v := 122) hx hb dX9_isLetter_3 (by decide) ?_
  obtain ⟨σ1, r2, hg3, hf⟩ := cal_some hf
  refine backI hsb hJ (runN (As := [.int a0, .int (97 : Int32), .int (122 : Int32)]) (rest := []) C hJ lkn_yX11_isWithin (hE.1 _ nl_RX9_67) (cC_isWithin hF hg3) rfl rfl (Nat.le_of_ble_eq_true rfl) hl.1 (hR_of (by omega) (by decide)) ⟨Nat.le_refl _, Nat.le_refl _⟩ dX9_isLetter_5) (fun H locs hJ => ?_)
  obtain ⟨h4, hf⟩ := gd_some hf
  exact ret_I hret hJ hf (nar_z h4) dX9_isLetter_8
set_option maxHeartbeats 4000000 in
set_option maxRecDepth 100000 in
theorem cC_B_isDigit {l : Launch} {D : va_G} {cA cB : ClassId} {q : Nat → Nat} {x : Nat → Nat} {N : Nat} {σ σ' : St} {r : Int32} {a0 : Int32} (hF : Fr (wC q cA cB) (aC q) (eC q x)) (hf : fC_B_isDigit N σ a0 = some (σ', r)) : MI l yX9_isDigit cX9_isDigit 1 .boolean 2 D (tyC cA cB) (wC q cA cB) (aC q) (eC q x) [.int a0] σ σ' r := by
  refine MI_of (by decide) hF (Nat.le_of_ble_eq_true rfl) ?_
  intro p e s m args below meth c Q C hret hJ ls hl
  obtain ⟨hx, hb, hml, hown, hts, hK, hE, -⟩ := id C
  have hsb : ∀ z, (aC q) z → (aC q) z := fun _ h => h
  have hl : lv_has ls 1 [(0, .int a0)] := hl
  unfold fC_B_isDigit at hf
  refine lv_iload_n hx hb dX9_isDigit_0 rfl (lv_at hl 0 rfl) ?_
  refine lv_bipush (v := 48) hx hb dX9_isDigit_1 (by decide) ?_
  refine lv_bipush (v := 57) hx hb dX9_isDigit_3 (by decide) ?_
  obtain ⟨σ1, r2, hg3, hf⟩ := cal_some hf
  refine backI hsb hJ (runN (As := [.int a0, .int (48 : Int32), .int (57 : Int32)]) (rest := []) C hJ lkn_yX11_isWithin (hE.1 _ nl_RX9_67) (cC_isWithin hF hg3) rfl rfl (Nat.le_of_ble_eq_true rfl) hl.1 (hR_of (by omega) (by decide)) ⟨Nat.le_refl _, Nat.le_refl _⟩ dX9_isDigit_5) (fun H locs hJ => ?_)
  obtain ⟨h4, hf⟩ := gd_some hf
  exact ret_I hret hJ hf (nar_z h4) dX9_isDigit_8
set_option maxHeartbeats 4000000 in
set_option maxRecDepth 100000 in
theorem cC_B_isSign {l : Launch} {D : va_G} {cA cB : ClassId} {q : Nat → Nat} {x : Nat → Nat} {N : Nat} {σ σ' : St} {r : Int32} {a0 : Int32} (hF : Fr (wC q cA cB) (aC q) (eC q x)) (hf : fC_B_isSign N σ a0 = some (σ', r)) : MI l yX9_isSign cX9_isSign 1 .boolean 1 D (tyC cA cB) (wC q cA cB) (aC q) (eC q x) [.int a0] σ σ' r := by
  refine MI_of (by decide) hF (Nat.le_of_ble_eq_true rfl) ?_
  intro p e s m args below meth c Q C hret hJ ls hl
  obtain ⟨hx, hb, hml, hown, hts, hK, hE, -⟩ := id C
  have hsb : ∀ z, (aC q) z → (aC q) z := fun _ h => h
  have hl : lv_has ls 1 [(0, .int a0)] := hl
  unfold fC_B_isSign at hf
  refine lv_iload_n hx hb dX9_isSign_0 rfl (lv_at hl 0 rfl) ?_
  refine lv_bipush (v := 40) hx hb dX9_isSign_1 (by decide) ?_
  refine lv_icmp_eq (tgt := 48) hx hb dX9_isSign_3 (by decide) (fun c1 => ?_) (fun c1 => ?_)
  · have hf := ite_t hf c1
    refine lv_iconst (v := 1) hx hb dX9_isSign_48 (by decide) ?_
    refine lv_goto (tgt := 53) hx hb dX9_isSign_49 (by decide) ?_
    exact ret_I hret hJ hf (nar_z (by decide)) dX9_isSign_53
  · have hf := ite_f hf c1
    refine lv_iload_n hx hb dX9_isSign_6 rfl (lv_at hl 0 rfl) ?_
    refine lv_bipush (v := 41) hx hb dX9_isSign_7 (by decide) ?_
    refine lv_icmp_eq (tgt := 48) hx hb dX9_isSign_9 (by decide) (fun c2 => ?_) (fun c2 => ?_)
    · have hf := ite_t hf c2
      refine lv_iconst (v := 1) hx hb dX9_isSign_48 (by decide) ?_
      refine lv_goto (tgt := 53) hx hb dX9_isSign_49 (by decide) ?_
      exact ret_I hret hJ hf (nar_z (by decide)) dX9_isSign_53
    · have hf := ite_f hf c2
      refine lv_iload_n hx hb dX9_isSign_12 rfl (lv_at hl 0 rfl) ?_
      refine lv_bipush (v := 59) hx hb dX9_isSign_13 (by decide) ?_
      refine lv_icmp_eq (tgt := 48) hx hb dX9_isSign_15 (by decide) (fun c3 => ?_) (fun c3 => ?_)
      · have hf := ite_t hf c3
        refine lv_iconst (v := 1) hx hb dX9_isSign_48 (by decide) ?_
        refine lv_goto (tgt := 53) hx hb dX9_isSign_49 (by decide) ?_
        exact ret_I hret hJ hf (nar_z (by decide)) dX9_isSign_53
      · have hf := ite_f hf c3
        refine lv_iload_n hx hb dX9_isSign_18 rfl (lv_at hl 0 rfl) ?_
        refine lv_bipush (v := 43) hx hb dX9_isSign_19 (by decide) ?_
        refine lv_icmp_eq (tgt := 48) hx hb dX9_isSign_21 (by decide) (fun c4 => ?_) (fun c4 => ?_)
        · have hf := ite_t hf c4
          refine lv_iconst (v := 1) hx hb dX9_isSign_48 (by decide) ?_
          refine lv_goto (tgt := 53) hx hb dX9_isSign_49 (by decide) ?_
          exact ret_I hret hJ hf (nar_z (by decide)) dX9_isSign_53
        · have hf := ite_f hf c4
          refine lv_iload_n hx hb dX9_isSign_24 rfl (lv_at hl 0 rfl) ?_
          refine lv_bipush (v := 45) hx hb dX9_isSign_25 (by decide) ?_
          refine lv_icmp_eq (tgt := 48) hx hb dX9_isSign_27 (by decide) (fun c5 => ?_) (fun c5 => ?_)
          · have hf := ite_t hf c5
            refine lv_iconst (v := 1) hx hb dX9_isSign_48 (by decide) ?_
            refine lv_goto (tgt := 53) hx hb dX9_isSign_49 (by decide) ?_
            exact ret_I hret hJ hf (nar_z (by decide)) dX9_isSign_53
          · have hf := ite_f hf c5
            refine lv_iload_n hx hb dX9_isSign_30 rfl (lv_at hl 0 rfl) ?_
            refine lv_bipush (v := 42) hx hb dX9_isSign_31 (by decide) ?_
            refine lv_icmp_eq (tgt := 48) hx hb dX9_isSign_33 (by decide) (fun c6 => ?_) (fun c6 => ?_)
            · have hf := ite_t hf c6
              refine lv_iconst (v := 1) hx hb dX9_isSign_48 (by decide) ?_
              refine lv_goto (tgt := 53) hx hb dX9_isSign_49 (by decide) ?_
              exact ret_I hret hJ hf (nar_z (by decide)) dX9_isSign_53
            · have hf := ite_f hf c6
              refine lv_iload_n hx hb dX9_isSign_36 rfl (lv_at hl 0 rfl) ?_
              refine lv_bipush (v := 60) hx hb dX9_isSign_37 (by decide) ?_
              refine lv_icmp_eq (tgt := 48) hx hb dX9_isSign_39 (by decide) (fun c7 => ?_) (fun c7 => ?_)
              · have hf := ite_t hf c7
                refine lv_iconst (v := 1) hx hb dX9_isSign_48 (by decide) ?_
                refine lv_goto (tgt := 53) hx hb dX9_isSign_49 (by decide) ?_
                exact ret_I hret hJ hf (nar_z (by decide)) dX9_isSign_53
              · have hf := ite_f hf c7
                refine lv_iload_n hx hb dX9_isSign_42 rfl (lv_at hl 0 rfl) ?_
                refine lv_bipush (v := 61) hx hb dX9_isSign_43 (by decide) ?_
                refine lv_icmp_ne (tgt := 52) hx hb dX9_isSign_45 (by decide) (fun c8 => ?_) (fun c8 => ?_)
                · have hf := ite_f hf c8
                  refine lv_iconst (v := 0) hx hb dX9_isSign_52 (by decide) ?_
                  exact ret_I hret hJ hf (nar_z (by decide)) dX9_isSign_53
                · have hf := ite_t hf c8
                  refine lv_iconst (v := 1) hx hb dX9_isSign_48 (by decide) ?_
                  refine lv_goto (tgt := 53) hx hb dX9_isSign_49 (by decide) ?_
                  exact ret_I hret hJ hf (nar_z (by decide)) dX9_isSign_53
set_option maxHeartbeats 4000000 in
set_option maxRecDepth 100000 in
theorem cC_B_cutNumber {l : Launch} {D : va_G} {cA cB : ClassId} {q : Nat → Nat} {x : Nat → Nat} {N : Nat} {σ σ' : St} {r : Int32} {a1 : Int32} (hF : Fr (wC q cA cB) (aC q) (eC q x)) (hf : fC_B_cutNumber N σ a1 = some (σ', r)) : MI l yX9_cutNumber cX9_cutNumber 5 .int 3 D (tyC cA cB) (wC q cA cB) (aC q) (eC q x) [.ref (q 12), .int a1] σ σ' r := by
  refine MI_of (by decide) hF (Nat.le_of_ble_eq_true rfl) ?_
  intro p e s m args below meth c Q C hret hJ ls hl
  obtain ⟨hx, hb, hml, hown, hts, hK, hE, -⟩ := id C
  have hsb : ∀ z, (aC q) z → (aC q) z := fun _ h => h
  have j72 : ∀ (σ : St) (a1 : Int32) (a2 : Int32) (a3 : Int32) (t1 : Int32) (H : Heap) (locs : List Loc) (ls : Array Slot), fC_B_cutNumber_j72 N  σ a1 a2 a3 t1 = some (σ', r) → J D (wC q cA cB) (aC q) s σ H locs → lv_has ls 5 [(1, .int a1), (2, .int a2), (3, .int a3)] → W p l e (rmH 3) s m args below meth c H locs 0 0 Q (F0 m 72 ls [.int t1, .ref (q 12)]) := by
    intro σ a1 a2 a3 t1 H locs ls hf hJ hl
    unfold fC_B_cutNumber_j72 at hf
    refine lv_iload_n hx hb dX9_cutNumber_72 rfl (lv_at hl 2 rfl) ?_
    refine lv_iload_n hx hb dX9_cutNumber_73 rfl (lv_at hl 0 rfl) ?_
    obtain ⟨σ1, r2, hg3, hf⟩ := cal_some hf
    refine backV hsb hJ (runV (As := [.int t1, .int a3, .int a1]) (rest := []) C hJ lk_RX9_51 (cC_B_note hF hg3) recC_12 rfl rfl (Nat.le_of_ble_eq_true rfl) hl.1 (hR_of (by omega) (by decide)) ⟨Nat.le_refl _, Nat.le_refl _⟩ dX9_cutNumber_74) (fun H locs hJ => ?_)
    refine lv_iload_n hx hb dX9_cutNumber_77 rfl (lv_at hl 1 rfl) ?_
    exact ret_I hret hJ hf rfl dX9_cutNumber_78
  have j57 : ∀ (σ : St) (a1 : Int32) (a2 : Int32) (a3 : Int32) (t0 : Int32) (H : Heap) (locs : List Loc) (ls : Array Slot), fC_B_cutNumber_j57 N  σ a1 a2 a3 t0 = some (σ', r) → J D (wC q cA cB) (aC q) s σ H locs → lv_has ls 5 [(0, .ref (q 12)), (1, .int a1), (2, .int a2), (3, .int a3)] → W p l e (rmH 3) s m args below meth c H locs 0 0 Q (F0 m 57 ls [.int t0]) := by
    intro σ a1 a2 a3 t0 H locs ls hf hJ hl
    unfold fC_B_cutNumber_j57 at hf
    refine lv_istore (lv' := [(4, .int t0), (0, .ref (q 12)), (1, .int a1), (2, .int a2), (3, .int a3)]) hx hb dX9_cutNumber_57 hl (by decide) rfl (fun ls hl => ?_)
    refine lv_aload_n hx hb dX9_cutNumber_59 rfl (lv_at hl 1 rfl) ?_
    refine lv_iload hx hb dX9_cutNumber_60 (lv_at hl 0 rfl) ?_
    refine lv_if_eq (tgt := 70) hx hb dX9_cutNumber_62 (by decide) (fun c4 => ?_) (fun c4 => ?_)
    · have hf := ite_t hf c4
      refine lv_bipush (v := -3) hx hb dX9_cutNumber_70 (by decide) ?_
      exact j72 σ a1 a2 a3 (-3 : Int32) _ _ _ hf hJ (lv_sub hl [2, 3, 4] rfl)
    · have hf := ite_f hf c4
      refine lv_bipush (v := -2) hx hb dX9_cutNumber_65 (by decide) ?_
      refine lv_goto (tgt := 72) hx hb dX9_cutNumber_67 (by decide) ?_
      exact j72 σ a1 a2 a3 (-2 : Int32) _ _ _ hf hJ (lv_sub hl [2, 3, 4] rfl)
  have j45 : ∀ (σ : St) (a1 : Int32) (a2 : Int32) (a3 : Int32) (H : Heap) (locs : List Loc) (ls : Array Slot), fC_B_cutNumber_j45 N  σ a1 a2 a3 = some (σ', r) → J D (wC q cA cB) (aC q) s σ H locs → lv_has ls 5 [(0, .ref (q 12)), (1, .int a1), (2, .int a2), (3, .int a3)] → W p l e (rmH 3) s m args below meth c H locs 0 0 Q (F0 m 45 ls []) := by
    intro σ a1 a2 a3 H locs ls hf hJ hl
    unfold fC_B_cutNumber_j45 at hf
    refine lv_iload_n hx hb dX9_cutNumber_45 rfl (lv_at hl 2 rfl) ?_
    refine lv_iload_n hx hb dX9_cutNumber_46 rfl (lv_at hl 1 rfl) ?_
    refine lv_isub hx hb dX9_cutNumber_47 ?_
    refine lv_iconst (v := 4) hx hb dX9_cutNumber_48 (by decide) ?_
    refine lv_icmp_le (tgt := 56) hx hb dX9_cutNumber_49 (by decide) (fun c5 => ?_) (fun c5 => ?_)
    · have hf := ite_t hf c5
      refine lv_iconst (v := 0) hx hb dX9_cutNumber_56 (by decide) ?_
      exact j57 σ a1 a2 a3 (0 : Int32) _ _ _ hf hJ (lv_sub hl [0, 1, 2, 3] rfl)
    · have hf := ite_f hf c5
      refine lv_iconst (v := 1) hx hb dX9_cutNumber_52 (by decide) ?_
      refine lv_goto (tgt := 57) hx hb dX9_cutNumber_53 (by decide) ?_
      exact j57 σ a1 a2 a3 (1 : Int32) _ _ _ hf hJ (lv_sub hl [0, 1, 2, 3] rfl)
  have l4 : ∀ (n : Nat) (σ : St) (a1 : Int32) (a2 : Int32) (a3 : Int32) (H : Heap) (locs : List Loc) (ls : Array Slot), fC_B_cutNumber_l4 N  n σ a1 a2 a3 = some (σ', r) → J D (wC q cA cB) (aC q) s σ H locs → lv_has ls 5 [(0, .ref (q 12)), (1, .int a1), (2, .int a2), (3, .int a3)] → W p l e (rmH 3) s m args below meth c H locs 0 0 Q (F0 m 4 ls []) := by
    intro n4
    induction n4 with
    | zero => intro σ a1 a2 a3 H locs ls hf; rw [fC_B_cutNumber_l4] at hf; cases hf
    | succ n4 ih4 =>
      intro σ a1 a2 a3 H locs ls hf hJ hl
      rw [fC_B_cutNumber_l4] at hf
      refine lv_iload_n hx hb dX9_cutNumber_4 rfl (lv_at hl 2 rfl) ?_
      refine lv_aload_n hx hb dX9_cutNumber_5 rfl (lv_at hl 0 rfl) ?_
      refine gC_12_1 C hJ fl_RX9_24 dX9_cutNumber_6 ?_
      refine lv_icmp_ge (tgt := 45) hx hb dX9_cutNumber_9 (by decide) (fun c6 => ?_) (fun c6 => ?_)
      · have hf := ite_t hf c6
        exact j45 σ a1 a2 a3 _ _ _ hf hJ (lv_sub hl [0, 1, 2, 3] rfl)
      · have hf := ite_f hf c6
        refine lv_aload_n hx hb dX9_cutNumber_12 rfl (lv_at hl 0 rfl) ?_
        refine gC_12_0 C hJ fl_RX9_9 dX9_cutNumber_13 ?_
        refine lv_iload_n hx hb dX9_cutNumber_16 rfl (lv_at hl 2 rfl) ?_
        obtain ⟨h7, hf⟩ := gi_some hf
        refine aC_53 C hJ h7 dX9_cutNumber_17 ?_
        obtain ⟨σ8, r9, hg10, hf⟩ := cal_some hf
        refine backI hsb hJ (runS (As := [.int (σ.2.1 53 a2.toNatClampNeg)]) (rest := []) C hJ lk_RX9_42 (cC_B_isDigit hF hg10) rfl rfl (Nat.le_of_ble_eq_true rfl) hl.1 (hR_of (by omega) (by decide)) ⟨Nat.le_refl _, Nat.le_refl _⟩ dX9_cutNumber_18) (fun H locs hJ => ?_)
        refine lv_if_eq (tgt := 45) hx hb dX9_cutNumber_21 (by decide) (fun c11 => ?_) (fun c11 => ?_)
        · have hf := ite_t hf c11
          exact j45 σ8 a1 a2 a3 _ _ _ hf hJ (lv_sub hl [0, 1, 2, 3] rfl)
        · have hf := ite_f hf c11
          refine lv_iload_n hx hb dX9_cutNumber_24 rfl (lv_at hl 3 rfl) ?_
          refine lv_bipush (v := 10) hx hb dX9_cutNumber_25 (by decide) ?_
          refine lv_imul hx hb dX9_cutNumber_27 ?_
          refine lv_aload_n hx hb dX9_cutNumber_28 rfl (lv_at hl 0 rfl) ?_
          refine gC_12_0 C hJ fl_RX9_9 dX9_cutNumber_29 ?_
          refine lv_iload_n hx hb dX9_cutNumber_32 rfl (lv_at hl 2 rfl) ?_
          obtain ⟨h12, hf⟩ := gi_some hf
          refine aC_53 C hJ h12 dX9_cutNumber_33 ?_
          refine lv_iadd hx hb dX9_cutNumber_34 ?_
          refine lv_bipush (v := 48) hx hb dX9_cutNumber_35 (by decide) ?_
          refine lv_isub hx hb dX9_cutNumber_37 ?_
          refine lv_topi (fun x13 hx13 => ?_)
          have hf := bnd_at hf hx13
          refine lv_istore_n (lv' := [(3, .int x13), (0, .ref (q 12)), (1, .int a1), (2, .int a2)]) hx hb dX9_cutNumber_38 rfl hl (by decide) rfl (fun ls hl => ?_)
          obtain ⟨x14, hx14⟩ : ∃ z : Int32, z = a2 + (1 : Int32) := ⟨_, rfl⟩
          have hf := bnd_at hf hx14
          refine lv_iinc (v := x14) (lv' := [(2, .int x14), (3, .int x13), (0, .ref (q 12)), (1, .int a1)]) hx hb dX9_cutNumber_39 hl (k := 3) rfl (by rw [hx14]; rfl) (by decide) rfl (fun ls hl => ?_)
          refine lv_goto (tgt := 4) hx hb dX9_cutNumber_42 (by decide) ?_
          exact ih4 σ8 a1 x14 x13 _ _ _ hf hJ (lv_sub hl [2, 3, 0, 1] rfl)
  have hl : lv_has ls 5 [(0, .ref (q 12)), (1, .int a1)] := hl
  unfold fC_B_cutNumber at hf
  refine lv_iload_n hx hb dX9_cutNumber_0 rfl (lv_at hl 1 rfl) ?_
  refine lv_istore_n (lv' := [(2, .int a1), (0, .ref (q 12)), (1, .int a1)]) hx hb dX9_cutNumber_1 rfl hl (by decide) rfl (fun ls hl => ?_)
  refine lv_iconst (v := 0) hx hb dX9_cutNumber_2 (by decide) ?_
  refine lv_istore_n (lv' := [(3, .int (0 : Int32)), (2, .int a1), (0, .ref (q 12)), (1, .int a1)]) hx hb dX9_cutNumber_3 rfl hl (by decide) rfl (fun ls hl => ?_)
  exact l4 N σ a1 a1 (0 : Int32) _ _ _ hf hJ (lv_sub hl [2, 3, 1, 0] rfl)
set_option maxHeartbeats 4000000 in
set_option maxRecDepth 100000 in
theorem cC_B_wordAmong {l : Launch} {D : va_G} {cA cB : ClassId} {q : Nat → Nat} {x : Nat → Nat} {N : Nat} {σ σ' : St} {r : Int32} {a1 : Int32} {a2 : Int32} (hF : Fr (wC q cA cB) (aC q) (eC q x)) (hf : fC_B_wordAmong N σ a1 a2 = some (σ', r)) : MI l yX9_wordAmong cX9_wordAmong 5 .int 5 D (tyC cA cB) (wC q cA cB) (aC q) (eC q x) [.ref (q 12), .int a1, .int a2] σ σ' r := by
  refine MI_of (by decide) hF (Nat.le_of_ble_eq_true rfl) ?_
  intro p e s m args below meth c Q C hret hJ ls hl
  obtain ⟨hx, hb, hml, hown, hts, hK, hE, -⟩ := id C
  have hsb : ∀ z, (aC q) z → (aC q) z := fun _ h => h
  have l10 : ∀ (n : Nat) (σ : St) (a1 : Int32) (a2 : Int32) (a3 : Int32) (H : Heap) (locs : List Loc) (ls : Array Slot), fC_B_wordAmong_l10 N  n σ a1 a2 a3 = some (σ', r) → J D (wC q cA cB) (aC q) s σ H locs → lv_has ls 5 [(0, .ref (q 12)), (1, .int a1), (2, .int a2), (3, .int a3)] → W p l e (rmH 5) s m args below meth c H locs 0 0 Q (F0 m 10 ls []) := by
    intro n10
    induction n10 with
    | zero => intro σ a1 a2 a3 H locs ls hf; rw [fC_B_wordAmong_l10] at hf; cases hf
    | succ n10 ih10 =>
      have j78 : ∀ (σ : St) (a1 : Int32) (a2 : Int32) (a3 : Int32) (H : Heap) (locs : List Loc) (ls : Array Slot), fC_B_wordAmong_j78 N (fC_B_wordAmong_l10 N  n10) σ a1 a2 a3 = some (σ', r) → J D (wC q cA cB) (aC q) s σ H locs → lv_has ls 5 [(0, .ref (q 12)), (1, .int a1), (2, .int a2), (3, .int a3)] → W p l e (rmH 5) s m args below meth c H locs 0 0 Q (F0 m 78 ls []) := by
        intro σ a1 a2 a3 H locs ls hf hJ hl
        unfold fC_B_wordAmong_j78 at hf
        obtain ⟨x1, hx1⟩ : ∃ z : Int32, z = a3 + (1 : Int32) := ⟨_, rfl⟩
        have hf := bnd_at hf hx1
        refine lv_iinc (v := x1) (lv' := [(3, .int x1), (0, .ref (q 12)), (1, .int a1), (2, .int a2)]) hx hb dX9_wordAmong_78 hl (k := 3) rfl (by rw [hx1]; rfl) (by decide) rfl (fun ls hl => ?_)
        refine lv_goto (tgt := 10) hx hb dX9_wordAmong_81 (by decide) ?_
        exact ih10 σ a1 a2 x1 _ _ _ hf hJ (lv_sub hl [1, 2, 3, 0] rfl)
      have j54 : ∀ (σ : St) (a1 : Int32) (a2 : Int32) (a3 : Int32) (a4 : Int32) (H : Heap) (locs : List Loc) (ls : Array Slot), fC_B_wordAmong_j54 N (fC_B_wordAmong_l10 N  n10) σ a1 a2 a3 a4 = some (σ', r) → J D (wC q cA cB) (aC q) s σ H locs → lv_has ls 5 [(0, .ref (q 12)), (1, .int a1), (2, .int a2), (3, .int a3), (4, .int a4)] → W p l e (rmH 5) s m args below meth c H locs 0 0 Q (F0 m 54 ls []) := by
        intro σ a1 a2 a3 a4 H locs ls hf hJ hl
        unfold fC_B_wordAmong_j54 at hf
        refine lv_iload hx hb dX9_wordAmong_54 (lv_at hl 4 rfl) ?_
        refine lv_iload_n hx hb dX9_wordAmong_56 rfl (lv_at hl 2 rfl) ?_
        refine lv_icmp_ne (tgt := 78) hx hb dX9_wordAmong_57 (by decide) (fun c2 => ?_) (fun c2 => ?_)
        · have hf := ite_f hf c2
          exact j78 σ a1 a2 a3 _ _ _ hf hJ (lv_sub hl [0, 1, 2, 3] rfl)
        · have hf := ite_t hf c2
          refine va_ldcS hx hb hown hE.2.2.2.2.1 dX9_wordAmong_60 ?_
          refine lv_iload_n hx hb dX9_wordAmong_62 rfl (lv_at hl 3 rfl) ?_
          refine lv_bipush (v := 6) hx hb dX9_wordAmong_63 (by decide) ?_
          refine lv_imul hx hb dX9_wordAmong_65 ?_
          refine lv_iload_n hx hb dX9_wordAmong_66 rfl (lv_at hl 2 rfl) ?_
          refine lv_iadd hx hb dX9_wordAmong_67 ?_
          obtain ⟨h3, hf⟩ := gi_some hf
          refine backI hsb hJ (runW (As := [.int ((a3 * (6 : Int32)) + a2)]) (rest := []) C hJ lk_RX9_61 (cS_charAt (i := 1) hF (by decide) h3) (vk_recv (i := 1) hE.2.2.2.2.2.1 (by decide) hJ.2) rfl rfl (Nat.le_of_ble_eq_true rfl) hl.1 (hR_of (by omega) (by decide)) ⟨Nat.le_refl _, Nat.le_refl _⟩ dX9_wordAmong_68) (fun H locs hJ => ?_)
          refine lv_bipush (v := 32) hx hb dX9_wordAmong_71 (by decide) ?_
          refine lv_icmp_ne (tgt := 78) hx hb dX9_wordAmong_73 (by decide) (fun c4 => ?_) (fun c4 => ?_)
          · have hf := ite_f hf c4
            exact j78 σ a1 a2 a3 _ _ _ hf hJ (lv_sub hl [0, 1, 2, 3] rfl)
          · have hf := ite_t hf c4
            refine lv_iload_n hx hb dX9_wordAmong_76 rfl (lv_at hl 3 rfl) ?_
            exact ret_I hret hJ hf rfl dX9_wordAmong_77
      have l19 : ∀ (n : Nat) (σ : St) (a1 : Int32) (a2 : Int32) (a3 : Int32) (a4 : Int32) (H : Heap) (locs : List Loc) (ls : Array Slot), fC_B_wordAmong_l19 N (fC_B_wordAmong_l10 N  n10) n σ a1 a2 a3 a4 = some (σ', r) → J D (wC q cA cB) (aC q) s σ H locs → lv_has ls 5 [(0, .ref (q 12)), (1, .int a1), (2, .int a2), (3, .int a3), (4, .int a4)] → W p l e (rmH 5) s m args below meth c H locs 0 0 Q (F0 m 19 ls []) := by
        intro n19
        induction n19 with
        | zero => intro σ a1 a2 a3 a4 H locs ls hf; rw [fC_B_wordAmong_l19] at hf; cases hf
        | succ n19 ih19 =>
          intro σ a1 a2 a3 a4 H locs ls hf hJ hl
          rw [fC_B_wordAmong_l19] at hf
          refine lv_iload hx hb dX9_wordAmong_19 (lv_at hl 4 rfl) ?_
          refine lv_iload_n hx hb dX9_wordAmong_21 rfl (lv_at hl 2 rfl) ?_
          refine lv_icmp_ge (tgt := 54) hx hb dX9_wordAmong_22 (by decide) (fun c5 => ?_) (fun c5 => ?_)
          · have hf := ite_t hf c5
            exact j54 σ a1 a2 a3 a4 _ _ _ hf hJ (lv_sub hl [0, 1, 2, 3, 4] rfl)
          · have hf := ite_f hf c5
            refine va_ldcS hx hb hown hE.2.2.2.2.1 dX9_wordAmong_25 ?_
            refine lv_iload_n hx hb dX9_wordAmong_27 rfl (lv_at hl 3 rfl) ?_
            refine lv_bipush (v := 6) hx hb dX9_wordAmong_28 (by decide) ?_
            refine lv_imul hx hb dX9_wordAmong_30 ?_
            refine lv_iload hx hb dX9_wordAmong_31 (lv_at hl 4 rfl) ?_
            refine lv_iadd hx hb dX9_wordAmong_33 ?_
            obtain ⟨h6, hf⟩ := gi_some hf
            refine backI hsb hJ (runW (As := [.int ((a3 * (6 : Int32)) + a4)]) (rest := []) C hJ lk_RX9_61 (cS_charAt (i := 1) hF (by decide) h6) (vk_recv (i := 1) hE.2.2.2.2.2.1 (by decide) hJ.2) rfl rfl (Nat.le_of_ble_eq_true rfl) hl.1 (hR_of (by omega) (by decide)) ⟨Nat.le_refl _, Nat.le_refl _⟩ dX9_wordAmong_34) (fun H locs hJ => ?_)
            refine lv_aload_n hx hb dX9_wordAmong_37 rfl (lv_at hl 0 rfl) ?_
            refine lv_iload_n hx hb dX9_wordAmong_38 rfl (lv_at hl 1 rfl) ?_
            refine lv_iload hx hb dX9_wordAmong_39 (lv_at hl 4 rfl) ?_
            refine lv_iadd hx hb dX9_wordAmong_41 ?_
            obtain ⟨σ7, r8, hg9, hf⟩ := cal_some hf
            refine backI hsb hJ (runV (As := [.int (a1 + a4)]) (rest := [.int (sch 1 ((a3 * (6 : Int32)) + a4).toNatClampNeg)]) C hJ lk_RX9_31 (cC_B_byteAt hF hg9) recC_12 rfl rfl (Nat.le_of_ble_eq_true rfl) hl.1 (hR_of (by omega) (by decide)) ⟨Nat.le_refl _, Nat.le_refl _⟩ dX9_wordAmong_42) (fun H locs hJ => ?_)
            refine lv_icmp_ne (tgt := 54) hx hb dX9_wordAmong_45 (by decide) (fun c10 => ?_) (fun c10 => ?_)
            · have hf := ite_f hf c10
              exact j54 σ7 a1 a2 a3 a4 _ _ _ hf hJ (lv_sub hl [0, 1, 2, 3, 4] rfl)
            · have hf := ite_t hf c10
              obtain ⟨x11, hx11⟩ : ∃ z : Int32, z = a4 + (1 : Int32) := ⟨_, rfl⟩
              have hf := bnd_at hf hx11
              refine lv_iinc (v := x11) (lv' := [(4, .int x11), (0, .ref (q 12)), (1, .int a1), (2, .int a2), (3, .int a3)]) hx hb dX9_wordAmong_48 hl (k := 4) rfl (by rw [hx11]; rfl) (by decide) rfl (fun ls hl => ?_)
              refine lv_goto (tgt := 19) hx hb dX9_wordAmong_51 (by decide) ?_
              exact ih19 σ7 a1 a2 a3 x11 _ _ _ hf hJ (lv_sub hl [1, 2, 3, 4, 0] rfl)
      intro σ a1 a2 a3 H locs ls hf hJ hl
      rw [fC_B_wordAmong_l10] at hf
      refine lv_iload_n hx hb dX9_wordAmong_10 rfl (lv_at hl 3 rfl) ?_
      refine lv_bipush (v := 12) hx hb dX9_wordAmong_11 (by decide) ?_
      refine lv_icmp_ge (tgt := 84) hx hb dX9_wordAmong_13 (by decide) (fun c12 => ?_) (fun c12 => ?_)
      · have hf := ite_t hf c12
        refine lv_iconst (v := -1) hx hb dX9_wordAmong_84 (by decide) ?_
        exact ret_I hret hJ hf rfl dX9_wordAmong_85
      · have hf := ite_f hf c12
        refine lv_iconst (v := 0) hx hb dX9_wordAmong_16 (by decide) ?_
        refine lv_istore (lv' := [(4, .int (0 : Int32)), (0, .ref (q 12)), (1, .int a1), (2, .int a2), (3, .int a3)]) hx hb dX9_wordAmong_17 hl (by decide) rfl (fun ls hl => ?_)
        exact l19 N σ a1 a2 a3 (0 : Int32) _ _ _ hf hJ (lv_sub hl [1, 2, 3, 4, 0] rfl)
  have hl : lv_has ls 5 [(0, .ref (q 12)), (1, .int a1), (2, .int a2)] := hl
  unfold fC_B_wordAmong at hf
  refine lv_iload_n hx hb dX9_wordAmong_0 rfl (lv_at hl 2 rfl) ?_
  refine lv_bipush (v := 6) hx hb dX9_wordAmong_1 (by decide) ?_
  refine lv_icmp_lt (tgt := 8) hx hb dX9_wordAmong_3 (by decide) (fun c13 => ?_) (fun c13 => ?_)
  · have hf := ite_t hf c13
    refine lv_iconst (v := 0) hx hb dX9_wordAmong_8 (by decide) ?_
    refine lv_istore_n (lv' := [(3, .int (0 : Int32)), (0, .ref (q 12)), (1, .int a1), (2, .int a2)]) hx hb dX9_wordAmong_9 rfl hl (by decide) rfl (fun ls hl => ?_)
    exact l10 N σ a1 a2 (0 : Int32) _ _ _ hf hJ (lv_sub hl [1, 2, 3, 0] rfl)
  · have hf := ite_f hf c13
    refine lv_iconst (v := -1) hx hb dX9_wordAmong_6 (by decide) ?_
    exact ret_I hret hJ hf rfl dX9_wordAmong_7
set_option maxHeartbeats 4000000 in
set_option maxRecDepth 100000 in
theorem cC_B_cutWord {l : Launch} {D : va_G} {cA cB : ClassId} {q : Nat → Nat} {x : Nat → Nat} {N : Nat} {σ σ' : St} {r : Int32} {a1 : Int32} (hF : Fr (wC q cA cB) (aC q) (eC q x)) (hf : fC_B_cutWord N σ a1 = some (σ', r)) : MI l yX9_cutWord cX9_cutWord 4 .int 6 D (tyC cA cB) (wC q cA cB) (aC q) (eC q x) [.ref (q 12), .int a1] σ σ' r := by
  refine MI_of (by decide) hF (Nat.le_of_ble_eq_true rfl) ?_
  intro p e s m args below meth c Q C hret hJ ls hl
  obtain ⟨hx, hb, hml, hown, hts, hK, hE, -⟩ := id C
  have hsb : ∀ z, (aC q) z → (aC q) z := fun _ h => h
  have j30 : ∀ (σ : St) (a1 : Int32) (a2 : Int32) (H : Heap) (locs : List Loc) (ls : Array Slot), fC_B_cutWord_j30 N  σ a1 a2 = some (σ', r) → J D (wC q cA cB) (aC q) s σ H locs → lv_has ls 4 [(0, .ref (q 12)), (1, .int a1), (2, .int a2)] → W p l e (rmH 6) s m args below meth c H locs 0 0 Q (F0 m 30 ls []) := by
    intro σ a1 a2 H locs ls hf hJ hl
    unfold fC_B_cutWord_j30 at hf
    refine lv_aload_n hx hb dX9_cutWord_30 rfl (lv_at hl 0 rfl) ?_
    refine lv_iload_n hx hb dX9_cutWord_31 rfl (lv_at hl 1 rfl) ?_
    refine lv_iload_n hx hb dX9_cutWord_32 rfl (lv_at hl 2 rfl) ?_
    refine lv_iload_n hx hb dX9_cutWord_33 rfl (lv_at hl 1 rfl) ?_
    refine lv_isub hx hb dX9_cutWord_34 ?_
    obtain ⟨σ1, r2, hg3, hf⟩ := cal_some hf
    refine backI hsb hJ (runV (As := [.int a1, .int (a2 - a1)]) (rest := []) C hJ lk_RX9_55 (cC_B_wordAmong hF hg3) recC_12 rfl rfl (Nat.le_of_ble_eq_true rfl) hl.1 (hR_of (by omega) (by decide)) ⟨Nat.le_refl _, Nat.le_refl _⟩ dX9_cutWord_35) (fun H locs hJ => ?_)
    refine lv_istore_n (lv' := [(3, .int r2), (0, .ref (q 12)), (1, .int a1), (2, .int a2)]) hx hb dX9_cutWord_38 rfl hl (by decide) rfl (fun ls hl => ?_)
    refine lv_iload_n hx hb dX9_cutWord_39 rfl (lv_at hl 0 rfl) ?_
    refine lv_iconst (v := -1) hx hb dX9_cutWord_40 (by decide) ?_
    refine lv_icmp_ne (tgt := 55) hx hb dX9_cutWord_41 (by decide) (fun c4 => ?_) (fun c4 => ?_)
    · have hf := ite_f hf c4
      refine lv_iload_n hx hb dX9_cutWord_55 rfl (lv_at hl 0 rfl) ?_
      refine lv_bipush (v := 6) hx hb dX9_cutWord_56 (by decide) ?_
      refine lv_icmp_ge (tgt := 74) hx hb dX9_cutWord_58 (by decide) (fun c5 => ?_) (fun c5 => ?_)
      · have hf := ite_t hf c5
        refine lv_aload_n hx hb dX9_cutWord_74 rfl (lv_at hl 1 rfl) ?_
        refine lv_sipush (v := 256) hx hb dX9_cutWord_75 (by decide) ?_
        refine lv_iload_n hx hb dX9_cutWord_78 rfl (lv_at hl 0 rfl) ?_
        refine lv_iadd hx hb dX9_cutWord_79 ?_
        refine lv_iconst (v := 0) hx hb dX9_cutWord_80 (by decide) ?_
        refine lv_iload_n hx hb dX9_cutWord_81 rfl (lv_at hl 2 rfl) ?_
        obtain ⟨σ6, r7, hg8, hf⟩ := cal_some hf
        refine backV hsb hJ (runV (As := [.int ((256 : Int32) + r2), .int (0 : Int32), .int a1]) (rest := []) C hJ lk_RX9_51 (cC_B_note hF hg8) recC_12 rfl rfl (Nat.le_of_ble_eq_true rfl) hl.1 (hR_of (by omega) (by decide)) ⟨Nat.le_refl _, Nat.le_refl _⟩ dX9_cutWord_82) (fun H locs hJ => ?_)
        refine lv_iload_n hx hb dX9_cutWord_85 rfl (lv_at hl 3 rfl) ?_
        exact ret_I hret hJ hf rfl dX9_cutWord_86
      · have hf := ite_f hf c5
        refine lv_aload_n hx hb dX9_cutWord_61 rfl (lv_at hl 1 rfl) ?_
        refine lv_bipush (v := -4) hx hb dX9_cutWord_62 (by decide) ?_
        refine lv_iconst (v := -1) hx hb dX9_cutWord_64 (by decide) ?_
        refine lv_iload_n hx hb dX9_cutWord_65 rfl (lv_at hl 0 rfl) ?_
        refine lv_isub hx hb dX9_cutWord_66 ?_
        refine lv_iload_n hx hb dX9_cutWord_67 rfl (lv_at hl 2 rfl) ?_
        obtain ⟨σ9, r10, hg11, hf⟩ := cal_some hf
        refine backV hsb hJ (runV (As := [.int (-4 : Int32), .int ((-1 : Int32) - r2), .int a1]) (rest := []) C hJ lk_RX9_51 (cC_B_note hF hg11) recC_12 rfl rfl (Nat.le_of_ble_eq_true rfl) hl.1 (hR_of (by omega) (by decide)) ⟨Nat.le_refl _, Nat.le_refl _⟩ dX9_cutWord_68) (fun H locs hJ => ?_)
        refine lv_goto (tgt := 85) hx hb dX9_cutWord_71 (by decide) ?_
        refine lv_iload_n hx hb dX9_cutWord_85 rfl (lv_at hl 3 rfl) ?_
        exact ret_I hret hJ hf rfl dX9_cutWord_86
    · have hf := ite_t hf c4
      refine lv_aload_n hx hb dX9_cutWord_44 rfl (lv_at hl 1 rfl) ?_
      refine lv_bipush (v := -2) hx hb dX9_cutWord_45 (by decide) ?_
      refine lv_iconst (v := 0) hx hb dX9_cutWord_47 (by decide) ?_
      refine lv_iload_n hx hb dX9_cutWord_48 rfl (lv_at hl 2 rfl) ?_
      obtain ⟨σ12, r13, hg14, hf⟩ := cal_some hf
      refine backV hsb hJ (runV (As := [.int (-2 : Int32), .int (0 : Int32), .int a1]) (rest := []) C hJ lk_RX9_51 (cC_B_note hF hg14) recC_12 rfl rfl (Nat.le_of_ble_eq_true rfl) hl.1 (hR_of (by omega) (by decide)) ⟨Nat.le_refl _, Nat.le_refl _⟩ dX9_cutWord_49) (fun H locs hJ => ?_)
      refine lv_goto (tgt := 85) hx hb dX9_cutWord_52 (by decide) ?_
      refine lv_iload_n hx hb dX9_cutWord_85 rfl (lv_at hl 3 rfl) ?_
      exact ret_I hret hJ hf rfl dX9_cutWord_86
  have l4 : ∀ (n : Nat) (σ : St) (a1 : Int32) (a2 : Int32) (H : Heap) (locs : List Loc) (ls : Array Slot), fC_B_cutWord_l4 N  n σ a1 a2 = some (σ', r) → J D (wC q cA cB) (aC q) s σ H locs → lv_has ls 4 [(0, .ref (q 12)), (1, .int a1), (2, .int a2)] → W p l e (rmH 6) s m args below meth c H locs 0 0 Q (F0 m 4 ls []) := by
    intro n4
    induction n4 with
    | zero => intro σ a1 a2 H locs ls hf; rw [fC_B_cutWord_l4] at hf; cases hf
    | succ n4 ih4 =>
      intro σ a1 a2 H locs ls hf hJ hl
      rw [fC_B_cutWord_l4] at hf
      refine lv_iload_n hx hb dX9_cutWord_4 rfl (lv_at hl 2 rfl) ?_
      refine lv_aload_n hx hb dX9_cutWord_5 rfl (lv_at hl 0 rfl) ?_
      refine gC_12_1 C hJ fl_RX9_24 dX9_cutWord_6 ?_
      refine lv_icmp_ge (tgt := 30) hx hb dX9_cutWord_9 (by decide) (fun c15 => ?_) (fun c15 => ?_)
      · have hf := ite_t hf c15
        exact j30 σ a1 a2 _ _ _ hf hJ (lv_sub hl [0, 1, 2] rfl)
      · have hf := ite_f hf c15
        refine lv_aload_n hx hb dX9_cutWord_12 rfl (lv_at hl 0 rfl) ?_
        refine gC_12_0 C hJ fl_RX9_9 dX9_cutWord_13 ?_
        refine lv_iload_n hx hb dX9_cutWord_16 rfl (lv_at hl 2 rfl) ?_
        obtain ⟨h16, hf⟩ := gi_some hf
        refine aC_53 C hJ h16 dX9_cutWord_17 ?_
        obtain ⟨σ17, r18, hg19, hf⟩ := cal_some hf
        refine backI hsb hJ (runS (As := [.int (σ.2.1 53 a2.toNatClampNeg)]) (rest := []) C hJ lk_RX9_35 (cC_B_isLetter hF hg19) rfl rfl (Nat.le_of_ble_eq_true rfl) hl.1 (hR_of (by omega) (by decide)) ⟨Nat.le_refl _, Nat.le_refl _⟩ dX9_cutWord_18) (fun H locs hJ => ?_)
        refine lv_if_eq (tgt := 30) hx hb dX9_cutWord_21 (by decide) (fun c20 => ?_) (fun c20 => ?_)
        · have hf := ite_t hf c20
          exact j30 σ17 a1 a2 _ _ _ hf hJ (lv_sub hl [0, 1, 2] rfl)
        · have hf := ite_f hf c20
          obtain ⟨x21, hx21⟩ : ∃ z : Int32, z = a2 + (1 : Int32) := ⟨_, rfl⟩
          have hf := bnd_at hf hx21
          refine lv_iinc (v := x21) (lv' := [(2, .int x21), (0, .ref (q 12)), (1, .int a1)]) hx hb dX9_cutWord_24 hl (k := 2) rfl (by rw [hx21]; rfl) (by decide) rfl (fun ls hl => ?_)
          refine lv_goto (tgt := 4) hx hb dX9_cutWord_27 (by decide) ?_
          exact ih4 σ17 a1 x21 _ _ _ hf hJ (lv_sub hl [1, 2, 0] rfl)
  have hl : lv_has ls 4 [(0, .ref (q 12)), (1, .int a1)] := hl
  unfold fC_B_cutWord at hf
  refine lv_iload_n hx hb dX9_cutWord_0 rfl (lv_at hl 1 rfl) ?_
  refine lv_iconst (v := 1) hx hb dX9_cutWord_1 (by decide) ?_
  refine lv_iadd hx hb dX9_cutWord_2 ?_
  refine lv_topi (fun x22 hx22 => ?_)
  have hf := bnd_at hf hx22
  refine lv_istore_n (lv' := [(2, .int x22), (0, .ref (q 12)), (1, .int a1)]) hx hb dX9_cutWord_3 rfl hl (by decide) rfl (fun ls hl => ?_)
  exact l4 N σ a1 x22 _ _ _ hf hJ (lv_sub hl [1, 2, 0] rfl)
