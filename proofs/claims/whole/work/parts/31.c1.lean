set_option maxHeartbeats 4000000 in
set_option maxRecDepth 100000 in
theorem cC_part {l : Launch} {D : va_G} {cA cB : ClassId} {q : Nat → Nat} {x : Nat → Nat} {N : Nat} {σ σ' : St} {r : Int32} {a1 : Int32} {a2 : Int32} {a3 : Int32} (hF : Fr (wC q cA cB) (aC q) (eC q x)) (hf : fC_part N σ a1 a2 a3 = some (σ', r)) : MI l yX11_part cX11_part 5 .int 3 D (tyC cA cB) (wC q cA cB) (aC q) (eC q x) [.ref (q 0), .int a1, .int a2, .int a3] σ σ' r := by
  refine MI_of (by decide) hF (Nat.le_of_ble_eq_true rfl) ?_
  intro p e s m args below meth c Q C hret hJ ls hl
  obtain ⟨hx, hb, hml, hown, hts, hK, hE, -⟩ := id C
  have hsb : ∀ z, (aC q) z → (aC q) z := fun _ h => h
  have hl : lv_has ls 5 [(0, .ref (q 0)), (1, .int a1), (2, .int a2), (3, .int a3)] := hl
  unfold fC_part at hf
  refine lv_aload_n hx hb dX11_part_0 rfl (lv_at hl 0 rfl) ?_
  refine gC_0_0 C hJ fl_RX11_12 dX11_part_1 ?_
  refine gC_1_0 C hJ fl_RX11_86 dX11_part_4 ?_
  refine lv_iload_n hx hb dX11_part_7 rfl (lv_at hl 1 rfl) ?_
  obtain ⟨σ1, r2, hg3, hf⟩ := cal_some hf
  refine backI hsb hJ (runV (As := [.int a1]) (rest := []) C hJ lk_RX11_93 (cC_S_has hF hg3) recC_7 rfl rfl (Nat.le_of_ble_eq_true rfl) hl.1 (hR_of (by omega) (by decide)) ⟨Nat.le_refl _, Nat.le_refl _⟩ dX11_part_8) (fun H locs hJ => ?_)
  refine lv_if_eq (tgt := 34) hx hb dX11_part_11 (by decide) (fun c4 => ?_) (fun c4 => ?_)
  · have hf := ite_t hf c4
    refine lv_sipush (v := -1000) hx hb dX11_part_34 (by decide) ?_
    exact ret_I hret hJ hf rfl dX11_part_37
  · have hf := ite_f hf c4
    refine lv_iload_n hx hb dX11_part_14 rfl (lv_at hl 2 rfl) ?_
    obtain ⟨σ5, r6, hg7, hf⟩ := cal_some hf
    refine backI hsb hJ (runS (As := [.int a2]) (rest := []) C hJ lk_RX11_97 (cC_isPart hF hg7) rfl rfl (Nat.le_of_ble_eq_true rfl) hl.1 (hR_of (by omega) (by decide)) ⟨Nat.le_refl _, Nat.le_refl _⟩ dX11_part_15) (fun H locs hJ => ?_)
    refine lv_if_eq (tgt := 34) hx hb dX11_part_18 (by decide) (fun c8 => ?_) (fun c8 => ?_)
    · have hf := ite_t hf c8
      refine lv_sipush (v := -1000) hx hb dX11_part_34 (by decide) ?_
      exact ret_I hret hJ hf rfl dX11_part_37
    · have hf := ite_f hf c8
      refine lv_iload_n hx hb dX11_part_21 rfl (lv_at hl 3 rfl) ?_
      refine lv_sipush (v := -199) hx hb dX11_part_22 (by decide) ?_
      refine lv_sipush (v := 199) hx hb dX11_part_25 (by decide) ?_
      obtain ⟨σ9, r10, hg11, hf⟩ := cal_some hf
      refine backI hsb hJ (runS (As := [.int a3, .int (-199 : Int32), .int (199 : Int32)]) (rest := []) C hJ lk_RX11_100 (cC_isWithin hF hg11) rfl rfl (Nat.le_of_ble_eq_true rfl) hl.1 (hR_of (by omega) (by decide)) ⟨Nat.le_refl _, Nat.le_refl _⟩ dX11_part_28) (fun H locs hJ => ?_)
      refine lv_if_ne (tgt := 38) hx hb dX11_part_31 (by decide) (fun c12 => ?_) (fun c12 => ?_)
      · have hf := ite_f hf c12
        refine lv_aload_n hx hb dX11_part_38 rfl (lv_at hl 0 rfl) ?_
        refine gC_0_0 C hJ fl_RX11_12 dX11_part_39 ?_
        refine gC_1_0 C hJ fl_RX11_86 dX11_part_42 ?_
        refine lv_iload_n hx hb dX11_part_45 rfl (lv_at hl 1 rfl) ?_
        refine lv_iload_n hx hb dX11_part_46 rfl (lv_at hl 2 rfl) ?_
        obtain ⟨σ13, r14, hg15, hf⟩ := cal_some hf
        refine backI hsb hJ (runV (As := [.int a1, .int a2]) (rest := []) C hJ lk_RX11_104 (cC_S_offOf hF hg15) recC_7 rfl rfl (Nat.le_of_ble_eq_true rfl) hl.1 (hR_of (by omega) (by decide)) ⟨Nat.le_refl _, Nat.le_refl _⟩ dX11_part_47) (fun H locs hJ => ?_)
        refine lv_istore (lv' := [(4, .int r14), (0, .ref (q 0)), (1, .int a1), (2, .int a2), (3, .int a3)]) hx hb dX11_part_50 hl (by decide) rfl (fun ls hl => ?_)
        refine lv_aload_n hx hb dX11_part_52 rfl (lv_at hl 1 rfl) ?_
        refine gC_0_0 C hJ fl_RX11_12 dX11_part_53 ?_
        refine gC_1_0 C hJ fl_RX11_86 dX11_part_56 ?_
        refine gC_7_3 C hJ fl_RX11_108 dX11_part_59 ?_
        refine lv_iload_n hx hb dX11_part_62 rfl (lv_at hl 2 rfl) ?_
        refine lv_iconst (v := 4) hx hb dX11_part_63 (by decide) ?_
        refine lv_imul hx hb dX11_part_64 ?_
        refine lv_iload_n hx hb dX11_part_65 rfl (lv_at hl 3 rfl) ?_
        refine lv_iadd hx hb dX11_part_66 ?_
        refine lv_iload_n hx hb dX11_part_67 rfl (lv_at hl 4 rfl) ?_
        obtain ⟨h16, hf⟩ := gi_some hf
        refine sC_35 C hJ h16 dX11_part_68 (fun σ17 H locs hs hJ => ?_)
        have hf := bnd_at hf hs
        refine lv_iload hx hb dX11_part_69 (lv_at hl 0 rfl) ?_
        exact ret_I hret hJ hf rfl dX11_part_71
      · have hf := ite_t hf c12
        refine lv_sipush (v := -1000) hx hb dX11_part_34 (by decide) ?_
        exact ret_I hret hJ hf rfl dX11_part_37
set_option maxHeartbeats 4000000 in
set_option maxRecDepth 100000 in
theorem cC_move {l : Launch} {D : va_G} {cA cB : ClassId} {q : Nat → Nat} {x : Nat → Nat} {N : Nat} {σ σ' : St} {r : Int32} {a1 : Int32} {a2 : Int32} {a3 : Int32} (hF : Fr (wC q cA cB) (aC q) (eC q x)) (hf : fC_move N σ a1 a2 a3 = some (σ', r)) : MI l yX11_move cX11_move 5 .int 3 D (tyC cA cB) (wC q cA cB) (aC q) (eC q x) [.ref (q 0), .int a1, .int a2, .int a3] σ σ' r := by
  refine MI_of (by decide) hF (Nat.le_of_ble_eq_true rfl) ?_
  intro p e s m args below meth c Q C hret hJ ls hl
  obtain ⟨hx, hb, hml, hown, hts, hK, hE, -⟩ := id C
  have hsb : ∀ z, (aC q) z → (aC q) z := fun _ h => h
  have j59 : ∀ (σ : St) (a1 : Int32) (a2 : Int32) (a3 : Int32) (H : Heap) (locs : List Loc) (ls : Array Slot), fC_move_j59 N  σ a1 a2 a3 = some (σ', r) → J D (wC q cA cB) (aC q) s σ H locs → lv_has ls 5 [(0, .ref (q 0)), (1, .int a1), (2, .int a2), (3, .int a3)] → W p l e (rmH 3) s m args below meth c H locs 0 0 Q (F0 m 59 ls []) := by
    intro σ a1 a2 a3 H locs ls hf hJ hl
    unfold fC_move_j59 at hf
    refine lv_iload_n hx hb dX11_move_59 rfl (lv_at hl 2 rfl) ?_
    refine lv_iconst (v := 1) hx hb dX11_move_60 (by decide) ?_
    refine lv_icmp_ne (tgt := 101) hx hb dX11_move_61 (by decide) (fun c1 => ?_) (fun c1 => ?_)
    · have hf := ite_f hf c1
      refine lv_sipush (v := -1000) hx hb dX11_move_101 (by decide) ?_
      exact ret_I hret hJ hf rfl dX11_move_104
    · have hf := ite_t hf c1
      refine lv_iload_n hx hb dX11_move_64 rfl (lv_at hl 3 rfl) ?_
      obtain ⟨σ2, r3, hg4, hf⟩ := cal_some hf
      refine backI hsb hJ (runS (As := [.int a3]) (rest := []) C hJ lk_RX11_118 (cC_isSpeed hF hg4) rfl rfl (Nat.le_of_ble_eq_true rfl) hl.1 (hR_of (by omega) (by decide)) ⟨Nat.le_refl _, Nat.le_refl _⟩ dX11_move_65) (fun H locs hJ => ?_)
      refine lv_if_eq (tgt := 101) hx hb dX11_move_68 (by decide) (fun c5 => ?_) (fun c5 => ?_)
      · have hf := ite_t hf c5
        refine lv_sipush (v := -1000) hx hb dX11_move_101 (by decide) ?_
        exact ret_I hret hJ hf rfl dX11_move_104
      · have hf := ite_f hf c5
        refine lv_aload_n hx hb dX11_move_71 rfl (lv_at hl 0 rfl) ?_
        refine gC_0_0 C hJ fl_RX11_12 dX11_move_72 ?_
        refine gC_1_0 C hJ fl_RX11_86 dX11_move_75 ?_
        refine gC_7_2 C hJ fl_RX11_121 dX11_move_78 ?_
        refine lv_iload_n hx hb dX11_move_81 rfl (lv_at hl 1 rfl) ?_
        obtain ⟨h6, hf⟩ := gi_some hf
        refine aC_34 C hJ h6 dX11_move_82 ?_
        refine lv_topi (fun x7 hx7 => ?_)
        have hf := bnd_at hf hx7
        refine lv_istore (lv' := [(4, .int x7), (0, .ref (q 0)), (1, .int a1), (2, .int a2), (3, .int a3)]) hx hb dX11_move_83 hl (by decide) rfl (fun ls hl => ?_)
        refine lv_aload_n hx hb dX11_move_85 rfl (lv_at hl 1 rfl) ?_
        refine gC_0_0 C hJ fl_RX11_12 dX11_move_86 ?_
        refine gC_1_0 C hJ fl_RX11_86 dX11_move_89 ?_
        refine gC_7_2 C hJ fl_RX11_121 dX11_move_92 ?_
        refine lv_iload_n hx hb dX11_move_95 rfl (lv_at hl 2 rfl) ?_
        refine lv_iload_n hx hb dX11_move_96 rfl (lv_at hl 4 rfl) ?_
        obtain ⟨h8, hf⟩ := gi_some hf
        refine sC_34 C hJ h8 dX11_move_97 (fun σ9 H locs hs hJ => ?_)
        have hf := bnd_at hf hs
        refine lv_iload hx hb dX11_move_98 (lv_at hl 0 rfl) ?_
        exact ret_I hret hJ hf rfl dX11_move_100
  have hl : lv_has ls 5 [(0, .ref (q 0)), (1, .int a1), (2, .int a2), (3, .int a3)] := hl
  unfold fC_move at hf
  refine lv_aload_n hx hb dX11_move_0 rfl (lv_at hl 0 rfl) ?_
  refine gC_0_0 C hJ fl_RX11_12 dX11_move_1 ?_
  refine gC_1_0 C hJ fl_RX11_86 dX11_move_4 ?_
  refine lv_iload_n hx hb dX11_move_7 rfl (lv_at hl 1 rfl) ?_
  obtain ⟨σ10, r11, hg12, hf⟩ := cal_some hf
  refine backI hsb hJ (runV (As := [.int a1]) (rest := []) C hJ lk_RX11_93 (cC_S_has hF hg12) recC_7 rfl rfl (Nat.le_of_ble_eq_true rfl) hl.1 (hR_of (by omega) (by decide)) ⟨Nat.le_refl _, Nat.le_refl _⟩ dX11_move_8) (fun H locs hJ => ?_)
  refine lv_if_ne (tgt := 18) hx hb dX11_move_11 (by decide) (fun c13 => ?_) (fun c13 => ?_)
  · have hf := ite_f hf c13
    refine lv_iload_n hx hb dX11_move_18 rfl (lv_at hl 2 rfl) ?_
    refine lv_if_ne (tgt := 59) hx hb dX11_move_19 (by decide) (fun c14 => ?_) (fun c14 => ?_)
    · have hf := ite_f hf c14
      exact j59 σ10 a1 a2 a3 _ _ _ hf hJ (lv_sub hl [0, 1, 2, 3] rfl)
    · have hf := ite_t hf c14
      refine lv_iload_n hx hb dX11_move_22 rfl (lv_at hl 3 rfl) ?_
      obtain ⟨σ15, r16, hg17, hf⟩ := cal_some hf
      refine backI hsb hJ (runS (As := [.int a3]) (rest := []) C hJ lk_RX11_112 (cC_isPlace hF hg17) rfl rfl (Nat.le_of_ble_eq_true rfl) hl.1 (hR_of (by omega) (by decide)) ⟨Nat.le_refl _, Nat.le_refl _⟩ dX11_move_23) (fun H locs hJ => ?_)
      refine lv_if_eq (tgt := 59) hx hb dX11_move_26 (by decide) (fun c18 => ?_) (fun c18 => ?_)
      · have hf := ite_t hf c18
        exact j59 σ15 a1 a2 a3 _ _ _ hf hJ (lv_sub hl [0, 1, 2, 3] rfl)
      · have hf := ite_f hf c18
        refine lv_aload_n hx hb dX11_move_29 rfl (lv_at hl 0 rfl) ?_
        refine gC_0_0 C hJ fl_RX11_12 dX11_move_30 ?_
        refine gC_1_0 C hJ fl_RX11_86 dX11_move_33 ?_
        refine gC_7_1 C hJ fl_RX11_115 dX11_move_36 ?_
        refine lv_iload_n hx hb dX11_move_39 rfl (lv_at hl 1 rfl) ?_
        obtain ⟨h19, hf⟩ := gi_some hf
        refine aC_33 C hJ h19 dX11_move_40 ?_
        refine lv_topi (fun x20 hx20 => ?_)
        have hf := bnd_at hf hx20
        refine lv_istore (lv' := [(4, .int x20), (0, .ref (q 0)), (1, .int a1), (2, .int a2), (3, .int a3)]) hx hb dX11_move_41 hl (by decide) rfl (fun ls hl => ?_)
        refine lv_aload_n hx hb dX11_move_43 rfl (lv_at hl 1 rfl) ?_
        refine gC_0_0 C hJ fl_RX11_12 dX11_move_44 ?_
        refine gC_1_0 C hJ fl_RX11_86 dX11_move_47 ?_
        refine gC_7_1 C hJ fl_RX11_115 dX11_move_50 ?_
        refine lv_iload_n hx hb dX11_move_53 rfl (lv_at hl 2 rfl) ?_
        refine lv_iload_n hx hb dX11_move_54 rfl (lv_at hl 4 rfl) ?_
        obtain ⟨h21, hf⟩ := gi_some hf
        refine sC_33 C hJ h21 dX11_move_55 (fun σ22 H locs hs hJ => ?_)
        have hf := bnd_at hf hs
        refine lv_iload hx hb dX11_move_56 (lv_at hl 0 rfl) ?_
        exact ret_I hret hJ hf rfl dX11_move_58
  · have hf := ite_t hf c13
    refine lv_sipush (v := -1000) hx hb dX11_move_14 (by decide) ?_
    exact ret_I hret hJ hf rfl dX11_move_17
set_option maxHeartbeats 4000000 in
set_option maxRecDepth 100000 in
theorem cC_isTick {l : Launch} {D : va_G} {cA cB : ClassId} {q : Nat → Nat} {x : Nat → Nat} {N : Nat} {σ σ' : St} {r : Int32} {a0 : Int32} (hF : Fr (wC q cA cB) (aC q) (eC q x)) (hf : fC_isTick N σ a0 = some (σ', r)) : MI l yX11_isTick cX11_isTick 1 .boolean 2 D (tyC cA cB) (wC q cA cB) (aC q) (eC q x) [.int a0] σ σ' r := by
  refine MI_of (by decide) hF (Nat.le_of_ble_eq_true rfl) ?_
  intro p e s m args below meth c Q C hret hJ ls hl
  obtain ⟨hx, hb, hml, hown, hts, hK, hE, -⟩ := id C
  have hsb : ∀ z, (aC q) z → (aC q) z := fun _ h => h
  have hl : lv_has ls 1 [(0, .int a0)] := hl
  unfold fC_isTick at hf
  refine lv_iload_n hx hb dX11_isTick_0 rfl (lv_at hl 0 rfl) ?_
  refine lv_iconst (v := 0) hx hb dX11_isTick_1 (by decide) ?_
  refine lv_sipush (v := 200) hx hb dX11_isTick_2 (by decide) ?_
  obtain ⟨σ1, r2, hg3, hf⟩ := cal_some hf
  refine backI hsb hJ (runS (As := [.int a0, .int (0 : Int32), .int (200 : Int32)]) (rest := []) C hJ lk_RX11_100 (cC_isWithin hF hg3) rfl rfl (Nat.le_of_ble_eq_true rfl) hl.1 (hR_of (by omega) (by decide)) ⟨Nat.le_refl _, Nat.le_refl _⟩ dX11_isTick_5) (fun H locs hJ => ?_)
  obtain ⟨h4, hf⟩ := gd_some hf
  exact ret_I hret hJ hf (nar_z h4) dX11_isTick_8
set_option maxHeartbeats 4000000 in
set_option maxRecDepth 100000 in
theorem cC_P_lookAsStanding {l : Launch} {D : va_G} {cA cB : ClassId} {q : Nat → Nat} {x : Nat → Nat} {N : Nat} {σ σ' : St} {a1 : Int32} {a2 : Int32} {a3 : Int32} (hF : Fr (wC q cA cB) (aC q) (eC q x)) (hf : fC_P_lookAsStanding N σ a1 a2 a3 = some (σ', ())) : MV l yX5_lookAsStanding cX5_lookAsStanding 4 1 D (tyC cA cB) (wC q cA cB) (aC q) (eC q x) [.ref (q 1), .int a1, .int a2, .int a3] σ σ' := by
  refine MV_of (by decide) hF (Nat.le_of_ble_eq_true rfl) ?_
  intro p e s m args below meth c Q C hret hJ ls hl
  obtain ⟨hx, hb, hml, hown, hts, hK, hE, -⟩ := id C
  have hsb : ∀ z, (aC q) z → (aC q) z := fun _ h => h
  have hl : lv_has ls 4 [(0, .ref (q 1)), (1, .int a1), (2, .int a2), (3, .int a3)] := hl
  unfold fC_P_lookAsStanding at hf
  refine lv_aload_n hx hb dX5_lookAsStanding_0 rfl (lv_at hl 0 rfl) ?_
  refine lv_iload_n hx hb dX5_lookAsStanding_1 rfl (lv_at hl 1 rfl) ?_
  refine pC_1_5 C hJ fl_RX5_54 dX5_lookAsStanding_2 (fun σ1 H locs hs hJ => ?_)
  have hf := bnd_at hf hs
  refine lv_aload_n hx hb dX5_lookAsStanding_5 rfl (lv_at hl 0 rfl) ?_
  refine lv_iload_n hx hb dX5_lookAsStanding_6 rfl (lv_at hl 2 rfl) ?_
  refine pC_1_6 C hJ fl_RX5_46 dX5_lookAsStanding_7 (fun σ2 H locs hs hJ => ?_)
  have hf := bnd_at hf hs
  refine lv_aload_n hx hb dX5_lookAsStanding_10 rfl (lv_at hl 0 rfl) ?_
  refine lv_iload_n hx hb dX5_lookAsStanding_11 rfl (lv_at hl 3 rfl) ?_
  refine pC_1_7 C hJ fl_RX5_57 dX5_lookAsStanding_12 (fun σ3 H locs hs hJ => ?_)
  have hf := bnd_at hf hs
  exact ret_V hret hJ hf dX5_lookAsStanding_15
set_option maxHeartbeats 4000000 in
set_option maxRecDepth 100000 in
theorem cC_P_lookAs {l : Launch} {D : va_G} {cA cB : ClassId} {q : Nat → Nat} {x : Nat → Nat} {N : Nat} {σ σ' : St} {a1 : Int32} (hF : Fr (wC q cA cB) (aC q) (eC q x)) (hf : fC_P_lookAs N σ a1 = some (σ', ())) : MV l yX5_lookAs cX5_lookAs 2 2 D (tyC cA cB) (wC q cA cB) (aC q) (eC q x) [.ref (q 1), .int a1] σ σ' := by
  refine MV_of (by decide) hF (Nat.le_of_ble_eq_true rfl) ?_
  intro p e s m args below meth c Q C hret hJ ls hl
  obtain ⟨hx, hb, hml, hown, hts, hK, hE, -⟩ := id C
  have hsb : ∀ z, (aC q) z → (aC q) z := fun _ h => h
  have hl : lv_has ls 2 [(0, .ref (q 1)), (1, .int a1)] := hl
  unfold fC_P_lookAs at hf
  refine lv_aload_n hx hb dX5_lookAs_0 rfl (lv_at hl 0 rfl) ?_
  refine lv_iload_n hx hb dX5_lookAs_1 rfl (lv_at hl 1 rfl) ?_
  refine lv_iconst (v := -1) hx hb dX5_lookAs_2 (by decide) ?_
  refine lv_iconst (v := 0) hx hb dX5_lookAs_3 (by decide) ?_
  obtain ⟨σ1, r2, hg3, hf⟩ := cal_some hf
  refine backV hsb hJ (runV (As := [.int a1, .int (-1 : Int32), .int (0 : Int32)]) (rest := []) C hJ lk_RX5_50 (cC_P_lookAsStanding hF hg3) recC_1 rfl rfl (Nat.le_of_ble_eq_true rfl) hl.1 (hR_of (by omega) (by decide)) ⟨Nat.le_refl _, Nat.le_refl _⟩ dX5_lookAs_4) (fun H locs hJ => ?_)
  exact ret_V hret hJ hf dX5_lookAs_7
set_option maxHeartbeats 4000000 in
set_option maxRecDepth 100000 in
theorem cC_P_whereIs {l : Launch} {D : va_G} {cA cB : ClassId} {q : Nat → Nat} {x : Nat → Nat} {N : Nat} {σ σ' : St} {r : Int32} {a1 : Int32} {a2 : Int32} (hF : Fr (wC q cA cB) (aC q) (eC q x)) (hf : fC_P_whereIs N σ a1 a2 = some (σ', r)) : MI l yX5_whereIs cX5_whereIs 4 .int 1 D (tyC cA cB) (wC q cA cB) (aC q) (eC q x) [.ref (q 1), .int a1, .int a2] σ σ' r := by
  refine MI_of (by decide) hF (Nat.le_of_ble_eq_true rfl) ?_
  intro p e s m args below meth c Q C hret hJ ls hl
  obtain ⟨hx, hb, hml, hown, hts, hK, hE, -⟩ := id C
  have hsb : ∀ z, (aC q) z → (aC q) z := fun _ h => h
  have j24 : ∀ (σ : St) (a1 : Int32) (a2 : Int32) (t0 : Int32) (H : Heap) (locs : List Loc) (ls : Array Slot), fC_P_whereIs_j24 N  σ a1 a2 t0 = some (σ', r) → J D (wC q cA cB) (aC q) s σ H locs → lv_has ls 4 [(0, .ref (q 1)), (1, .int a1), (2, .int a2)] → W p l e (rmH 1) s m args below meth c H locs 0 0 Q (F0 m 24 ls [.int t0]) := by
    intro σ a1 a2 t0 H locs ls hf hJ hl
    unfold fC_P_whereIs_j24 at hf
    refine lv_istore_n (lv' := [(3, .int t0), (0, .ref (q 1)), (1, .int a1), (2, .int a2)]) hx hb dX5_whereIs_24 rfl hl (by decide) rfl (fun ls hl => ?_)
    refine lv_aload_n hx hb dX5_whereIs_25 rfl (lv_at hl 1 rfl) ?_
    refine gC_1_0 C hJ fl_RX5_12 dX5_whereIs_26 ?_
    refine gC_7_1 C hJ fl_RX5_64 dX5_whereIs_29 ?_
    refine lv_iload_n hx hb dX5_whereIs_32 rfl (lv_at hl 2 rfl) ?_
    obtain ⟨h1, hf⟩ := gi_some hf
    refine aC_33 C hJ h1 dX5_whereIs_33 ?_
    refine lv_iload_n hx hb dX5_whereIs_34 rfl (lv_at hl 0 rfl) ?_
    refine lv_isub hx hb dX5_whereIs_35 ?_
    refine lv_iload_n hx hb dX5_whereIs_36 rfl (lv_at hl 3 rfl) ?_
    refine lv_aload_n hx hb dX5_whereIs_37 rfl (lv_at hl 1 rfl) ?_
    refine gC_1_0 C hJ fl_RX5_12 dX5_whereIs_38 ?_
    refine gC_7_2 C hJ fl_RX5_67 dX5_whereIs_41 ?_
    refine lv_iload_n hx hb dX5_whereIs_44 rfl (lv_at hl 2 rfl) ?_
    obtain ⟨h2, hf⟩ := gi_some hf
    refine aC_34 C hJ h2 dX5_whereIs_45 ?_
    refine lv_imul hx hb dX5_whereIs_46 ?_
    refine lv_iadd hx hb dX5_whereIs_47 ?_
    exact ret_I hret hJ hf rfl dX5_whereIs_48
  have hl : lv_has ls 4 [(0, .ref (q 1)), (1, .int a1), (2, .int a2)] := hl
  unfold fC_P_whereIs at hf
  refine lv_aload_n hx hb dX5_whereIs_0 rfl (lv_at hl 0 rfl) ?_
  refine gC_1_0 C hJ fl_RX5_12 dX5_whereIs_1 ?_
  refine gC_7_0 C hJ fl_RX5_60 dX5_whereIs_4 ?_
  refine lv_iload_n hx hb dX5_whereIs_7 rfl (lv_at hl 1 rfl) ?_
  obtain ⟨h3, hf⟩ := gi_some hf
  refine aC_32 C hJ h3 dX5_whereIs_8 ?_
  refine lv_aload_n hx hb dX5_whereIs_9 rfl (lv_at hl 0 rfl) ?_
  refine gC_1_6 C hJ fl_RX5_46 dX5_whereIs_10 ?_
  refine lv_icmp_ne (tgt := 23) hx hb dX5_whereIs_13 (by decide) (fun c4 => ?_) (fun c4 => ?_)
  · have hf := ite_f hf c4
    refine lv_iconst (v := 0) hx hb dX5_whereIs_23 (by decide) ?_
    exact j24 σ a1 a2 (0 : Int32) _ _ _ hf hJ (lv_sub hl [0, 1, 2] rfl)
  · have hf := ite_t hf c4
    refine lv_aload_n hx hb dX5_whereIs_16 rfl (lv_at hl 0 rfl) ?_
    refine gC_1_7 C hJ fl_RX5_57 dX5_whereIs_17 ?_
    refine lv_goto (tgt := 24) hx hb dX5_whereIs_20 (by decide) ?_
    exact j24 σ a1 a2 (σ.1 6) _ _ _ hf hJ (lv_sub hl [0, 1, 2] rfl)
set_option maxHeartbeats 4000000 in
set_option maxRecDepth 100000 in
theorem cC_T_ofOne {l : Launch} {D : va_G} {cA cB : ClassId} {q : Nat → Nat} {x : Nat → Nat} {N : Nat} {σ σ' : St} {r : Int32} {a0 : Int32} {a1 : Int32} (hF : Fr (wC q cA cB) (aC q) (eC q x)) (hf : fC_T_ofOne N σ a0 a1 = some (σ', r)) : MI l yX10_ofOne cX10_ofOne 2 .int 1 D (tyC cA cB) (wC q cA cB) (aC q) (eC q x) [.int a0, .int a1] σ σ' r := by
  refine MI_of (by decide) hF (Nat.le_of_ble_eq_true rfl) ?_
  intro p e s m args below meth c Q C hret hJ ls hl
  obtain ⟨hx, hb, hml, hown, hts, hK, hE, -⟩ := id C
  have hsb : ∀ z, (aC q) z → (aC q) z := fun _ h => h
  have hl : lv_has ls 2 [(0, .int a0), (1, .int a1)] := hl
  unfold fC_T_ofOne at hf
  refine lv_iload_n hx hb dX10_ofOne_0 rfl (lv_at hl 0 rfl) ?_
  refine lv_bipush (v := -19) hx hb dX10_ofOne_1 (by decide) ?_
  refine lv_icmp_ne (tgt := 9) hx hb dX10_ofOne_3 (by decide) (fun c1 => ?_) (fun c1 => ?_)
  · have hf := ite_f hf c1
    refine lv_iload_n hx hb dX10_ofOne_9 rfl (lv_at hl 1 rfl) ?_
    refine lv_if_ne (tgt := 17) hx hb dX10_ofOne_10 (by decide) (fun c2 => ?_) (fun c2 => ?_)
    · have hf := ite_f hf c2
      refine lv_iconst (v := 0) hx hb dX10_ofOne_17 (by decide) ?_
      exact ret_I hret hJ hf rfl dX10_ofOne_18
    · have hf := ite_t hf c2
      refine lv_iconst (v := 1) hx hb dX10_ofOne_13 (by decide) ?_
      refine lv_goto (tgt := 18) hx hb dX10_ofOne_14 (by decide) ?_
      exact ret_I hret hJ hf rfl dX10_ofOne_18
  · have hf := ite_t hf c1
    refine lv_iload_n hx hb dX10_ofOne_6 rfl (lv_at hl 1 rfl) ?_
    refine lv_ineg hx hb dX10_ofOne_7 ?_
    exact ret_I hret hJ hf rfl dX10_ofOne_8
set_option maxHeartbeats 4000000 in
set_option maxRecDepth 100000 in
theorem cC_T_ofTwo {l : Launch} {D : va_G} {cA cB : ClassId} {q : Nat → Nat} {x : Nat → Nat} {N : Nat} {σ σ' : St} {r : Int32} {a0 : Int32} {a1 : Int32} {a2 : Int32} (hF : Fr (wC q cA cB) (aC q) (eC q x)) (hf : fC_T_ofTwo N σ a0 a1 a2 = some (σ', r)) : MI l yX10_ofTwo cX10_ofTwo 3 .int 1 D (tyC cA cB) (wC q cA cB) (aC q) (eC q x) [.int a0, .int a1, .int a2] σ σ' r := by
  refine MI_of (by decide) hF (Nat.le_of_ble_eq_true rfl) ?_
  intro p e s m args below meth c Q C hret hJ ls hl
  obtain ⟨hx, hb, hml, hown, hts, hK, hE, -⟩ := id C
  have hsb : ∀ z, (aC q) z → (aC q) z := fun _ h => h
  have hl : lv_has ls 3 [(0, .int a0), (1, .int a1), (2, .int a2)] := hl
  unfold fC_T_ofTwo at hf
  refine lv_iload_n hx hb dX10_ofTwo_0 rfl (lv_at hl 0 rfl) ?_
  by_cases c1 : a0 = (-17 : Int32)
  · have hf := ite_t hf c1
    refine lv_tableIn (off := 97) (tgt := 98) hx hb dX10_ofTwo_1 (by rw [c1]; decide) (by rw [c1]; decide) (by rw [c1]; rfl) (by decide) ?_
    refine lv_iload_n hx hb dX10_ofTwo_98 rfl (lv_at hl 1 rfl) ?_
    refine lv_iload_n hx hb dX10_ofTwo_99 rfl (lv_at hl 2 rfl) ?_
    refine lv_isub hx hb dX10_ofTwo_100 ?_
    exact ret_I hret hJ hf rfl dX10_ofTwo_101
  have hf := ite_f hf c1
  by_cases c2 : a0 = (-16 : Int32)
  · have hf := ite_t hf c2
    refine lv_tableIn (off := 93) (tgt := 94) hx hb dX10_ofTwo_1 (by rw [c2]; decide) (by rw [c2]; decide) (by rw [c2]; rfl) (by decide) ?_
    refine lv_iload_n hx hb dX10_ofTwo_94 rfl (lv_at hl 1 rfl) ?_
    refine lv_iload_n hx hb dX10_ofTwo_95 rfl (lv_at hl 2 rfl) ?_
    refine lv_iadd hx hb dX10_ofTwo_96 ?_
    exact ret_I hret hJ hf rfl dX10_ofTwo_97
  have hf := ite_f hf c2
  by_cases c3 : a0 = (-15 : Int32)
  · have hf := ite_t hf c3
    refine lv_tableIn (off := 82) (tgt := 83) hx hb dX10_ofTwo_1 (by rw [c3]; decide) (by rw [c3]; decide) (by rw [c3]; rfl) (by decide) ?_
    refine lv_iload_n hx hb dX10_ofTwo_83 rfl (lv_at hl 1 rfl) ?_
    refine lv_iload_n hx hb dX10_ofTwo_84 rfl (lv_at hl 2 rfl) ?_
    refine lv_icmp_ne (tgt := 92) hx hb dX10_ofTwo_85 (by decide) (fun c4 => ?_) (fun c4 => ?_)
    · have hf := ite_f hf c4
      refine lv_iconst (v := 0) hx hb dX10_ofTwo_92 (by decide) ?_
      exact ret_I hret hJ hf rfl dX10_ofTwo_93
    · have hf := ite_t hf c4
      refine lv_iconst (v := 1) hx hb dX10_ofTwo_88 (by decide) ?_
      refine lv_goto (tgt := 93) hx hb dX10_ofTwo_89 (by decide) ?_
      exact ret_I hret hJ hf rfl dX10_ofTwo_93
  have hf := ite_f hf c3
  by_cases c5 : a0 = (-14 : Int32)
  · have hf := ite_t hf c5
    refine lv_tableIn (off := 71) (tgt := 72) hx hb dX10_ofTwo_1 (by rw [c5]; decide) (by rw [c5]; decide) (by rw [c5]; rfl) (by decide) ?_
    refine lv_iload_n hx hb dX10_ofTwo_72 rfl (lv_at hl 1 rfl) ?_
    refine lv_iload_n hx hb dX10_ofTwo_73 rfl (lv_at hl 2 rfl) ?_
    refine lv_icmp_ge (tgt := 81) hx hb dX10_ofTwo_74 (by decide) (fun c6 => ?_) (fun c6 => ?_)
    · have hf := ite_t hf c6
      refine lv_iconst (v := 0) hx hb dX10_ofTwo_81 (by decide) ?_
      exact ret_I hret hJ hf rfl dX10_ofTwo_82
    · have hf := ite_f hf c6
      refine lv_iconst (v := 1) hx hb dX10_ofTwo_77 (by decide) ?_
      refine lv_goto (tgt := 82) hx hb dX10_ofTwo_78 (by decide) ?_
      exact ret_I hret hJ hf rfl dX10_ofTwo_82
  have hf := ite_f hf c5
  by_cases c7 : a0 = (-13 : Int32)
  · have hf := ite_t hf c7
    refine lv_tableIn (off := 101) (tgt := 102) hx hb dX10_ofTwo_1 (by rw [c7]; decide) (by rw [c7]; decide) (by rw [c7]; rfl) (by decide) ?_
    refine lv_iload_n hx hb dX10_ofTwo_102 rfl (lv_at hl 1 rfl) ?_
    refine lv_iload_n hx hb dX10_ofTwo_103 rfl (lv_at hl 2 rfl) ?_
    refine lv_imul hx hb dX10_ofTwo_104 ?_
    exact ret_I hret hJ hf rfl dX10_ofTwo_105
  have hf := ite_f hf c7
  by_cases c8 : a0 = (-12 : Int32)
  · have hf := ite_t hf c8
    refine lv_tableIn (off := 57) (tgt := 58) hx hb dX10_ofTwo_1 (by rw [c8]; decide) (by rw [c8]; decide) (by rw [c8]; rfl) (by decide) ?_
    refine lv_iload_n hx hb dX10_ofTwo_58 rfl (lv_at hl 1 rfl) ?_
    refine lv_if_eq (tgt := 70) hx hb dX10_ofTwo_59 (by decide) (fun c9 => ?_) (fun c9 => ?_)
    · have hf := ite_t hf c9
      refine lv_iconst (v := 0) hx hb dX10_ofTwo_70 (by decide) ?_
      exact ret_I hret hJ hf rfl dX10_ofTwo_71
    · have hf := ite_f hf c9
      refine lv_iload_n hx hb dX10_ofTwo_62 rfl (lv_at hl 2 rfl) ?_
      refine lv_if_eq (tgt := 70) hx hb dX10_ofTwo_63 (by decide) (fun c10 => ?_) (fun c10 => ?_)
      · have hf := ite_t hf c10
        refine lv_iconst (v := 0) hx hb dX10_ofTwo_70 (by decide) ?_
        exact ret_I hret hJ hf rfl dX10_ofTwo_71
      · have hf := ite_f hf c10
        refine lv_iconst (v := 1) hx hb dX10_ofTwo_66 (by decide) ?_
        refine lv_goto (tgt := 71) hx hb dX10_ofTwo_67 (by decide) ?_
        exact ret_I hret hJ hf rfl dX10_ofTwo_71
  have hf := ite_f hf c8
  by_cases c11 : a0 = (-11 : Int32)
  · have hf := ite_t hf c11
    refine lv_tableIn (off := 43) (tgt := 44) hx hb dX10_ofTwo_1 (by rw [c11]; decide) (by rw [c11]; decide) (by rw [c11]; rfl) (by decide) ?_
    refine lv_iload_n hx hb dX10_ofTwo_44 rfl (lv_at hl 1 rfl) ?_
    refine lv_if_ne (tgt := 52) hx hb dX10_ofTwo_45 (by decide) (fun c12 => ?_) (fun c12 => ?_)
    · have hf := ite_f hf c12
      refine lv_iconst (v := 1) hx hb dX10_ofTwo_52 (by decide) ?_
      refine lv_goto (tgt := 57) hx hb dX10_ofTwo_53 (by decide) ?_
      exact ret_I hret hJ hf rfl dX10_ofTwo_57
    · have hf := ite_t hf c12
      refine lv_iload_n hx hb dX10_ofTwo_48 rfl (lv_at hl 2 rfl) ?_
      refine lv_if_eq (tgt := 56) hx hb dX10_ofTwo_49 (by decide) (fun c13 => ?_) (fun c13 => ?_)
      · have hf := ite_t hf c13
        refine lv_iconst (v := 0) hx hb dX10_ofTwo_56 (by decide) ?_
        exact ret_I hret hJ hf rfl dX10_ofTwo_57
      · have hf := ite_f hf c13
        refine lv_iconst (v := 1) hx hb dX10_ofTwo_52 (by decide) ?_
        refine lv_goto (tgt := 57) hx hb dX10_ofTwo_53 (by decide) ?_
        exact ret_I hret hJ hf rfl dX10_ofTwo_57
  have hf := ite_f hf c11
  refine lv_tableOut (tgt := 102) hx hb dX10_ofTwo_1 (by have ec1 : a0.toInt ≠ -17 := fun h => c1 (Int32.toInt_inj.mp (h.trans (by decide))); have ec2 : a0.toInt ≠ -16 := fun h => c2 (Int32.toInt_inj.mp (h.trans (by decide))); have ec3 : a0.toInt ≠ -15 := fun h => c3 (Int32.toInt_inj.mp (h.trans (by decide))); have ec5 : a0.toInt ≠ -14 := fun h => c5 (Int32.toInt_inj.mp (h.trans (by decide))); have ec7 : a0.toInt ≠ -13 := fun h => c7 (Int32.toInt_inj.mp (h.trans (by decide))); have ec8 : a0.toInt ≠ -12 := fun h => c8 (Int32.toInt_inj.mp (h.trans (by decide))); have ec11 : a0.toInt ≠ -11 := fun h => c11 (Int32.toInt_inj.mp (h.trans (by decide))); omega) (by decide) ?_
  refine lv_iload_n hx hb dX10_ofTwo_102 rfl (lv_at hl 1 rfl) ?_
  refine lv_iload_n hx hb dX10_ofTwo_103 rfl (lv_at hl 2 rfl) ?_
  refine lv_imul hx hb dX10_ofTwo_104 ?_
  exact ret_I hret hJ hf rfl dX10_ofTwo_105
set_option maxHeartbeats 4000000 in
set_option maxRecDepth 100000 in
theorem cC_T_worth {l : Launch} {D : va_G} {cA cB : ClassId} {q : Nat → Nat} {x : Nat → Nat} {N : Nat} {σ σ' : St} {r : Int32} {a1 : Int32} {a2 : Int32} {a3 : Int32} (hF : Fr (wC q cA cB) (aC q) (eC q x)) (hf : fC_T_worth N σ a1 a2 a3 = some (σ', r)) : MI l yX10_worth cX10_worth 8 .int 2 D (tyC cA cB) (wC q cA cB) (aC q) (eC q x) [.ref (q 10), .int a1, .int a2, .int a3] σ σ' r := by
  refine MI_of (by decide) hF (Nat.le_of_ble_eq_true rfl) ?_
  intro p e s m args below meth c Q C hret hJ ls hl
  obtain ⟨hx, hb, hml, hown, hts, hK, hE, -⟩ := id C
  have hsb : ∀ z, (aC q) z → (aC q) z := fun _ h => h
  have j201 : ∀ (σ : St) (a5 : Int32) (H : Heap) (locs : List Loc) (ls : Array Slot), fC_T_worth_j201 N  σ a5 = some (σ', r) → J D (wC q cA cB) (aC q) s σ H locs → lv_has ls 8 [(0, .ref (q 10)), (5, .int a5)] → W p l e (rmH 2) s m args below meth c H locs 0 0 Q (F0 m 201 ls []) := by
    intro σ a5 H locs ls hf hJ hl
    unfold fC_T_worth_j201 at hf
    refine lv_iload hx hb dX10_worth_201 (lv_at hl 1 rfl) ?_
    refine lv_if_le (tgt := 218) hx hb dX10_worth_203 (by decide) (fun c1 => ?_) (fun c1 => ?_)
    · have hf := ite_t hf c1
      refine lv_iconst (v := 0) hx hb dX10_worth_218 (by decide) ?_
      exact ret_I hret hJ hf rfl dX10_worth_219
    · have hf := ite_f hf c1
      refine lv_aload_n hx hb dX10_worth_206 rfl (lv_at hl 0 rfl) ?_
      refine gC_10_4 C hJ fl_RX10_24 dX10_worth_207 ?_
      refine lv_iload hx hb dX10_worth_210 (lv_at hl 1 rfl) ?_
      refine lv_iconst (v := 1) hx hb dX10_worth_212 (by decide) ?_
      refine lv_isub hx hb dX10_worth_213 ?_
      obtain ⟨h2, hf⟩ := gi_some hf
      refine aC_45 C hJ h2 dX10_worth_214 ?_
      refine lv_goto (tgt := 219) hx hb dX10_worth_215 (by decide) ?_
      exact ret_I hret hJ hf rfl dX10_worth_219
  have l36 : ∀ (n : Nat) (σ : St) (a4 : Int32) (a5 : Int32) (a6 : Int32) (H : Heap) (locs : List Loc) (ls : Array Slot), fC_T_worth_l36 N  n σ a4 a5 a6 = some (σ', r) → J D (wC q cA cB) (aC q) s σ H locs → lv_has ls 8 [(0, .ref (q 10)), (4, .int a4), (5, .int a5), (6, .int a6)] → W p l e (rmH 2) s m args below meth c H locs 0 0 Q (F0 m 36 ls []) := by
    intro n36
    induction n36 with
    | zero => intro σ a4 a5 a6 H locs ls hf; rw [fC_T_worth_l36] at hf; cases hf
    | succ n36 ih36 =>
      have j195 : ∀ (σ : St) (a4 : Int32) (a5 : Int32) (a6 : Int32) (H : Heap) (locs : List Loc) (ls : Array Slot), fC_T_worth_j195 N (fC_T_worth_l36 N  n36) σ a4 a5 a6 = some (σ', r) → J D (wC q cA cB) (aC q) s σ H locs → lv_has ls 8 [(0, .ref (q 10)), (4, .int a4), (5, .int a5), (6, .int a6)] → W p l e (rmH 2) s m args below meth c H locs 0 0 Q (F0 m 195 ls []) := by
        intro σ a4 a5 a6 H locs ls hf hJ hl
        unfold fC_T_worth_j195 at hf
        obtain ⟨x3, hx3⟩ : ∃ z : Int32, z = a6 + (1 : Int32) := ⟨_, rfl⟩
        have hf := bnd_at hf hx3
        refine lv_iinc (v := x3) (lv' := [(6, .int x3), (0, .ref (q 10)), (4, .int a4), (5, .int a5)]) hx hb dX10_worth_195 hl (k := 3) rfl (by rw [hx3]; rfl) (by decide) rfl (fun ls hl => ?_)
        refine lv_goto (tgt := 36) hx hb dX10_worth_198 (by decide) ?_
        exact ih36 σ a4 a5 x3 _ _ _ hf hJ (lv_sub hl [1, 2, 3, 0] rfl)
      have j120 : ∀ (σ : St) (a4 : Int32) (a5 : Int32) (a6 : Int32) (a7 : Int32) (H : Heap) (locs : List Loc) (ls : Array Slot), fC_T_worth_j120 N (fC_T_worth_l36 N  n36) σ a4 a5 a6 a7 = some (σ', r) → J D (wC q cA cB) (aC q) s σ H locs → lv_has ls 8 [(0, .ref (q 10)), (4, .int a4), (5, .int a5), (6, .int a6), (7, .int a7)] → W p l e (rmH 2) s m args below meth c H locs 0 0 Q (F0 m 120 ls []) := by
        intro σ a4 a5 a6 a7 H locs ls hf hJ hl
        unfold fC_T_worth_j120 at hf
        refine lv_iload hx hb dX10_worth_120 (lv_at hl 2 rfl) ?_
        refine lv_iconst (v := 1) hx hb dX10_worth_122 (by decide) ?_
        refine lv_icmp_ge (tgt := 128) hx hb dX10_worth_123 (by decide) (fun c4 => ?_) (fun c4 => ?_)
        · have hf := ite_t hf c4
          refine lv_aload_n hx hb dX10_worth_128 rfl (lv_at hl 0 rfl) ?_
          refine gC_10_4 C hJ fl_RX10_24 dX10_worth_129 ?_
          refine lv_iload hx hb dX10_worth_132 (lv_at hl 2 rfl) ?_
          refine lv_iconst (v := 1) hx hb dX10_worth_134 (by decide) ?_
          refine lv_isub hx hb dX10_worth_135 ?_
          refine lv_iload hx hb dX10_worth_136 (lv_at hl 4 rfl) ?_
          refine lv_aload_n hx hb dX10_worth_138 rfl (lv_at hl 0 rfl) ?_
          refine gC_10_4 C hJ fl_RX10_24 dX10_worth_139 ?_
          refine lv_iload hx hb dX10_worth_142 (lv_at hl 2 rfl) ?_
          refine lv_iconst (v := 1) hx hb dX10_worth_144 (by decide) ?_
          refine lv_isub hx hb dX10_worth_145 ?_
          obtain ⟨h5, hf⟩ := gi_some hf
          refine aC_45 C hJ h5 dX10_worth_146 ?_
          obtain ⟨σ6, r7, hg8, hf⟩ := cal_some hf
          refine backI hsb hJ (runS (As := [.int a7, .int (σ.2.1 45 (a5 - (1 : Int32)).toNatClampNeg)]) (rest := [.int (a5 - (1 : Int32)), .ref (q 45)]) C hJ lk_RX10_38 (cC_T_ofOne hF hg8) rfl rfl (Nat.le_of_ble_eq_true rfl) hl.1 (hR_of (by omega) (by decide)) ⟨Nat.le_refl _, Nat.le_refl _⟩ dX10_worth_147) (fun H locs hJ => ?_)
          obtain ⟨h9, hf⟩ := gi_some hf
          refine sC_45 C hJ h9 dX10_worth_150 (fun σ10 H locs hs hJ => ?_)
          have hf := bnd_at hf hs
          refine lv_goto (tgt := 195) hx hb dX10_worth_151 (by decide) ?_
          exact j195 σ10 a4 a5 a6 _ _ _ hf hJ (lv_sub hl [0, 1, 2, 3] rfl)
        · have hf := ite_f hf c4
          refine lv_iconst (v := 0) hx hb dX10_worth_126 (by decide) ?_
          exact ret_I hret hJ hf rfl dX10_worth_127
      have j99 : ∀ (σ : St) (a4 : Int32) (a5 : Int32) (a6 : Int32) (t1 : Int32) (t2 : Int32) (H : Heap) (locs : List Loc) (ls : Array Slot), fC_T_worth_j99 N (fC_T_worth_l36 N  n36) σ a4 a5 a6 t1 t2 = some (σ', r) → J D (wC q cA cB) (aC q) s σ H locs → lv_has ls 8 [(0, .ref (q 10)), (4, .int a4), (5, .int a5), (6, .int a6)] → W p l e (rmH 2) s m args below meth c H locs 0 0 Q (F0 m 99 ls [.int t2, .int t1, .ref (q 45)]) := by
        intro σ a4 a5 a6 t1 t2 H locs ls hf hJ hl
        unfold fC_T_worth_j99 at hf
        obtain ⟨h11, hf⟩ := gi_some hf
        refine sC_45 C hJ h11 dX10_worth_99 (fun σ12 H locs hs hJ => ?_)
        have hf := bnd_at hf hs
        obtain ⟨x13, hx13⟩ : ∃ z : Int32, z = a5 + (1 : Int32) := ⟨_, rfl⟩
        have hf := bnd_at hf hx13
        refine lv_iinc (v := x13) (lv' := [(5, .int x13), (0, .ref (q 10)), (4, .int a4), (6, .int a6)]) hx hb dX10_worth_100 hl (k := 2) rfl (by rw [hx13]; rfl) (by decide) rfl (fun ls hl => ?_)
        refine lv_goto (tgt := 195) hx hb dX10_worth_103 (by decide) ?_
        exact j195 σ12 a4 x13 a6 _ _ _ hf hJ (lv_sub hl [1, 2, 0, 3] rfl)
      intro σ a4 a5 a6 H locs ls hf hJ hl
      rw [fC_T_worth_l36] at hf
      refine lv_iload hx hb dX10_worth_36 (lv_at hl 3 rfl) ?_
      refine lv_aload_n hx hb dX10_worth_38 rfl (lv_at hl 0 rfl) ?_
      refine gC_10_2 C hJ fl_RX10_18 dX10_worth_39 ?_
      refine lv_iload hx hb dX10_worth_42 (lv_at hl 1 rfl) ?_
      obtain ⟨h14, hf⟩ := gi_some hf
      refine aC_43 C hJ h14 dX10_worth_44 ?_
      refine lv_icmp_ge (tgt := 201) hx hb dX10_worth_45 (by decide) (fun c15 => ?_) (fun c15 => ?_)
      · have hf := ite_t hf c15
        exact j201 σ a5 _ _ _ hf hJ (lv_sub hl [0, 2] rfl)
      · have hf := ite_f hf c15
        refine lv_aload_n hx hb dX10_worth_48 rfl (lv_at hl 0 rfl) ?_
        refine gC_10_0 C hJ fl_RX10_9 dX10_worth_49 ?_
        refine lv_iload hx hb dX10_worth_52 (lv_at hl 3 rfl) ?_
        obtain ⟨h16, hf⟩ := gi_some hf
        refine aC_41 C hJ h16 dX10_worth_54 ?_
        refine lv_topi (fun x17 hx17 => ?_)
        have hf := bnd_at hf hx17
        refine lv_istore (lv' := [(7, .int x17), (0, .ref (q 10)), (4, .int a4), (5, .int a5), (6, .int a6)]) hx hb dX10_worth_55 hl (by decide) rfl (fun ls hl => ?_)
        refine lv_iload hx hb dX10_worth_57 (lv_at hl 0 rfl) ?_
        refine lv_bipush (v := -6) hx hb dX10_worth_59 (by decide) ?_
        refine lv_icmp_lt (tgt := 106) hx hb dX10_worth_61 (by decide) (fun c18 => ?_) (fun c18 => ?_)
        · have hf := ite_t hf c18
          refine lv_iload hx hb dX10_worth_106 (lv_at hl 0 rfl) ?_
          refine lv_bipush (v := -13) hx hb dX10_worth_108 (by decide) ?_
          refine lv_icmp_eq (tgt := 120) hx hb dX10_worth_110 (by decide) (fun c19 => ?_) (fun c19 => ?_)
          · have hf := ite_t hf c19
            exact j120 σ a4 a5 a6 x17 _ _ _ hf hJ (lv_sub hl [1, 2, 3, 4, 0] rfl)
          · have hf := ite_f hf c19
            refine lv_iload hx hb dX10_worth_113 (lv_at hl 0 rfl) ?_
            refine lv_bipush (v := -19) hx hb dX10_worth_115 (by decide) ?_
            refine lv_icmp_ne (tgt := 154) hx hb dX10_worth_117 (by decide) (fun c20 => ?_) (fun c20 => ?_)
            · have hf := ite_f hf c20
              refine lv_iload hx hb dX10_worth_154 (lv_at hl 3 rfl) ?_
              refine lv_iconst (v := 2) hx hb dX10_worth_156 (by decide) ?_
              refine lv_icmp_ge (tgt := 162) hx hb dX10_worth_157 (by decide) (fun c21 => ?_) (fun c21 => ?_)
              · have hf := ite_t hf c21
                obtain ⟨x22, hx22⟩ : ∃ z : Int32, z = a5 + (-1 : Int32) := ⟨_, rfl⟩
                have hf := bnd_at hf hx22
                refine lv_iinc (v := x22) (lv' := [(5, .int x22), (7, .int x17), (0, .ref (q 10)), (4, .int a4), (6, .int a6)]) hx hb dX10_worth_162 hl (k := 3) rfl (by rw [hx22]; rfl) (by decide) rfl (fun ls hl => ?_)
                refine lv_aload_n hx hb dX10_worth_165 rfl (lv_at hl 2 rfl) ?_
                refine gC_10_4 C hJ fl_RX10_24 dX10_worth_166 ?_
                refine lv_iload hx hb dX10_worth_169 (lv_at hl 0 rfl) ?_
                refine lv_iconst (v := 1) hx hb dX10_worth_171 (by decide) ?_
                refine lv_isub hx hb dX10_worth_172 ?_
                refine lv_iload hx hb dX10_worth_173 (lv_at hl 1 rfl) ?_
                refine lv_aload_n hx hb dX10_worth_175 rfl (lv_at hl 2 rfl) ?_
                refine gC_10_4 C hJ fl_RX10_24 dX10_worth_176 ?_
                refine lv_iload hx hb dX10_worth_179 (lv_at hl 0 rfl) ?_
                refine lv_iconst (v := 1) hx hb dX10_worth_181 (by decide) ?_
                refine lv_isub hx hb dX10_worth_182 ?_
                obtain ⟨h23, hf⟩ := gi_some hf
                refine aC_45 C hJ h23 dX10_worth_183 ?_
                refine lv_aload_n hx hb dX10_worth_184 rfl (lv_at hl 2 rfl) ?_
                refine gC_10_4 C hJ fl_RX10_24 dX10_worth_185 ?_
                refine lv_iload hx hb dX10_worth_188 (lv_at hl 0 rfl) ?_
                obtain ⟨h24, hf⟩ := gi_some hf
                refine aC_45 C hJ h24 dX10_worth_190 ?_
                obtain ⟨σ25, r26, hg27, hf⟩ := cal_some hf
                refine backI hsb hJ (runS (As := [.int x17, .int (σ.2.1 45 (x22 - (1 : Int32)).toNatClampNeg), .int (σ.2.1 45 x22.toNatClampNeg)]) (rest := [.int (x22 - (1 : Int32)), .ref (q 45)]) C hJ lk_RX10_42 (cC_T_ofTwo hF hg27) rfl rfl (Nat.le_of_ble_eq_true rfl) hl.1 (hR_of (by omega) (by decide)) ⟨Nat.le_refl _, Nat.le_refl _⟩ dX10_worth_191) (fun H locs hJ => ?_)
                obtain ⟨h28, hf⟩ := gi_some hf
                refine sC_45 C hJ h28 dX10_worth_194 (fun σ29 H locs hs hJ => ?_)
                have hf := bnd_at hf hs
                exact j195 σ29 a4 x22 a6 _ _ _ hf hJ (lv_sub hl [2, 3, 0, 4] rfl)
              · have hf := ite_f hf c21
                refine lv_iconst (v := 0) hx hb dX10_worth_160 (by decide) ?_
                exact ret_I hret hJ hf rfl dX10_worth_161
            · have hf := ite_t hf c20
              exact j120 σ a4 a5 a6 x17 _ _ _ hf hJ (lv_sub hl [1, 2, 3, 4, 0] rfl)
        · have hf := ite_f hf c18
          refine lv_iload hx hb dX10_worth_64 (lv_at hl 3 rfl) ?_
          refine lv_sipush (v := 160) hx hb dX10_worth_66 (by decide) ?_
          refine lv_icmp_lt (tgt := 74) hx hb dX10_worth_69 (by decide) (fun c30 => ?_) (fun c30 => ?_)
          · have hf := ite_t hf c30
            refine lv_aload_n hx hb dX10_worth_74 rfl (lv_at hl 1 rfl) ?_
            refine gC_10_4 C hJ fl_RX10_24 dX10_worth_75 ?_
            refine lv_iload hx hb dX10_worth_78 (lv_at hl 3 rfl) ?_
            refine lv_iload hx hb dX10_worth_80 (lv_at hl 0 rfl) ?_
            refine lv_if_lt (tgt := 90) hx hb dX10_worth_82 (by decide) (fun c31 => ?_) (fun c31 => ?_)
            · have hf := ite_t hf c31
              refine lv_aload_n hx hb dX10_worth_90 rfl (lv_at hl 1 rfl) ?_
              refine gC_10_3 C hJ fl_RX10_21 dX10_worth_91 ?_
              refine lv_iconst (v := -1) hx hb dX10_worth_94 (by decide) ?_
              refine lv_iload hx hb dX10_worth_95 (lv_at hl 0 rfl) ?_
              refine lv_isub hx hb dX10_worth_97 ?_
              obtain ⟨h32, hf⟩ := gi_some hf
              refine aC_44 C hJ h32 dX10_worth_98 ?_
              exact j99 σ a4 a5 a6 a5 (σ.2.1 44 ((-1 : Int32) - x17).toNatClampNeg) _ _ _ hf hJ (lv_sub hl [1, 2, 3, 4] rfl)
            · have hf := ite_f hf c31
              refine lv_iload hx hb dX10_worth_85 (lv_at hl 0 rfl) ?_
              refine lv_goto (tgt := 99) hx hb dX10_worth_87 (by decide) ?_
              exact j99 σ a4 a5 a6 a5 x17 _ _ _ hf hJ (lv_sub hl [1, 2, 3, 4] rfl)
          · have hf := ite_f hf c30
            refine lv_iconst (v := 0) hx hb dX10_worth_72 (by decide) ?_
            exact ret_I hret hJ hf rfl dX10_worth_73
  have hl : lv_has ls 8 [(0, .ref (q 10)), (1, .int a1), (2, .int a2), (3, .int a3)] := hl
  unfold fC_T_worth at hf
  refine lv_aload_n hx hb dX10_worth_0 rfl (lv_at hl 0 rfl) ?_
  refine gC_10_3 C hJ fl_RX10_21 dX10_worth_1 ?_
  refine lv_iconst (v := 0) hx hb dX10_worth_4 (by decide) ?_
  refine lv_iload_n hx hb dX10_worth_5 rfl (lv_at hl 2 rfl) ?_
  obtain ⟨h33, hf⟩ := gi_some hf
  refine sC_44 C hJ h33 dX10_worth_6 (fun σ34 H locs hs hJ => ?_)
  have hf := bnd_at hf hs
  refine lv_aload_n hx hb dX10_worth_7 rfl (lv_at hl 0 rfl) ?_
  refine gC_10_3 C hJ fl_RX10_21 dX10_worth_8 ?_
  refine lv_iconst (v := 1) hx hb dX10_worth_11 (by decide) ?_
  refine lv_iload_n hx hb dX10_worth_12 rfl (lv_at hl 3 rfl) ?_
  obtain ⟨h35, hf⟩ := gi_some hf
  refine sC_44 C hJ h35 dX10_worth_13 (fun σ36 H locs hs hJ => ?_)
  have hf := bnd_at hf hs
  refine lv_aload_n hx hb dX10_worth_14 rfl (lv_at hl 0 rfl) ?_
  refine gC_10_6 C hJ fl_RX10_35 dX10_worth_15 ?_
  refine lv_iconst (v := 3) hx hb dX10_worth_18 (by decide) ?_
  refine lv_imul hx hb dX10_worth_19 ?_
  refine lv_iload_n hx hb dX10_worth_20 rfl (lv_at hl 1 rfl) ?_
  refine lv_iadd hx hb dX10_worth_21 ?_
  refine lv_topi (fun x37 hx37 => ?_)
  have hf := bnd_at hf hx37
  refine lv_istore (lv' := [(4, .int x37), (0, .ref (q 10)), (1, .int a1), (2, .int a2), (3, .int a3)]) hx hb dX10_worth_22 hl (by decide) rfl (fun ls hl => ?_)
  refine lv_iconst (v := 0) hx hb dX10_worth_24 (by decide) ?_
  refine lv_istore (lv' := [(5, .int (0 : Int32)), (4, .int x37), (0, .ref (q 10)), (1, .int a1), (2, .int a2), (3, .int a3)]) hx hb dX10_worth_25 hl (by decide) rfl (fun ls hl => ?_)
  refine lv_aload_n hx hb dX10_worth_27 rfl (lv_at hl 2 rfl) ?_
  refine gC_10_1 C hJ fl_RX10_15 dX10_worth_28 ?_
  refine lv_iload hx hb dX10_worth_31 (lv_at hl 1 rfl) ?_
  obtain ⟨h38, hf⟩ := gi_some hf
  refine aC_42 C hJ h38 dX10_worth_33 ?_
  refine lv_topi (fun x39 hx39 => ?_)
  have hf := bnd_at hf hx39
  refine lv_istore (lv' := [(6, .int x39), (5, .int (0 : Int32)), (4, .int x37), (0, .ref (q 10)), (1, .int a1), (2, .int a2), (3, .int a3)]) hx hb dX10_worth_34 hl (by decide) rfl (fun ls hl => ?_)
  exact l36 N σ36 x37 (0 : Int32) x39 _ _ _ hf hJ (lv_sub hl [3, 2, 1, 0] rfl)
set_option maxHeartbeats 4000000 in
set_option maxRecDepth 100000 in
theorem cC_T_regard {l : Launch} {D : va_G} {cA cB : ClassId} {q : Nat → Nat} {x : Nat → Nat} {N : Nat} {σ σ' : St} {a1 : Int32} {a2 : Int32} {a3 : Int32} {a4 : Int32} (hF : Fr (wC q cA cB) (aC q) (eC q x)) (hf : fC_T_regard N σ a1 a2 a3 a4 = some (σ', ())) : MV l yX10_regard cX10_regard 5 1 D (tyC cA cB) (wC q cA cB) (aC q) (eC q x) [.ref (q 10), .int a1, .int a2, .int a3, .int a4] σ σ' := by
  refine MV_of (by decide) hF (Nat.le_of_ble_eq_true rfl) ?_
  intro p e s m args below meth c Q C hret hJ ls hl
  obtain ⟨hx, hb, hml, hown, hts, hK, hE, -⟩ := id C
  have hsb : ∀ z, (aC q) z → (aC q) z := fun _ h => h
  have hl : lv_has ls 5 [(0, .ref (q 10)), (1, .int a1), (2, .int a2), (3, .int a3), (4, .int a4)] := hl
  unfold fC_T_regard at hf
  refine lv_aload_n hx hb dX10_regard_0 rfl (lv_at hl 0 rfl) ?_
  refine gC_10_3 C hJ fl_RX10_21 dX10_regard_1 ?_
  refine lv_iconst (v := 2) hx hb dX10_regard_4 (by decide) ?_
  refine lv_iload_n hx hb dX10_regard_5 rfl (lv_at hl 1 rfl) ?_
  obtain ⟨h1, hf⟩ := gi_some hf
  refine sC_44 C hJ h1 dX10_regard_6 (fun σ2 H locs hs hJ => ?_)
  have hf := bnd_at hf hs
  refine lv_aload_n hx hb dX10_regard_7 rfl (lv_at hl 0 rfl) ?_
  refine gC_10_3 C hJ fl_RX10_21 dX10_regard_8 ?_
  refine lv_iconst (v := 3) hx hb dX10_regard_11 (by decide) ?_
  refine lv_iload_n hx hb dX10_regard_12 rfl (lv_at hl 2 rfl) ?_
  obtain ⟨h3, hf⟩ := gi_some hf
  refine sC_44 C hJ h3 dX10_regard_13 (fun σ4 H locs hs hJ => ?_)
  have hf := bnd_at hf hs
  refine lv_aload_n hx hb dX10_regard_14 rfl (lv_at hl 0 rfl) ?_
  refine gC_10_3 C hJ fl_RX10_21 dX10_regard_15 ?_
  refine lv_iconst (v := 4) hx hb dX10_regard_18 (by decide) ?_
  refine lv_iload_n hx hb dX10_regard_19 rfl (lv_at hl 3 rfl) ?_
  obtain ⟨h5, hf⟩ := gi_some hf
  refine sC_44 C hJ h5 dX10_regard_20 (fun σ6 H locs hs hJ => ?_)
  have hf := bnd_at hf hs
  refine lv_aload_n hx hb dX10_regard_21 rfl (lv_at hl 0 rfl) ?_
  refine gC_10_3 C hJ fl_RX10_21 dX10_regard_22 ?_
  refine lv_iconst (v := 5) hx hb dX10_regard_25 (by decide) ?_
  refine lv_iload hx hb dX10_regard_26 (lv_at hl 4 rfl) ?_
  obtain ⟨h7, hf⟩ := gi_some hf
  refine sC_44 C hJ h7 dX10_regard_28 (fun σ8 H locs hs hJ => ?_)
  have hf := bnd_at hf hs
  exact ret_V hret hJ hf dX10_regard_29
set_option maxHeartbeats 4000000 in
set_option maxRecDepth 100000 in
theorem cC_P_leadOf {l : Launch} {D : va_G} {cA cB : ClassId} {q : Nat → Nat} {x : Nat → Nat} {N : Nat} {σ σ' : St} {r : Int32} {a1 : Int32} {a2 : Int32} (hF : Fr (wC q cA cB) (aC q) (eC q x)) (hf : fC_P_leadOf N σ a1 a2 = some (σ', r)) : MI l yX5_leadOf cX5_leadOf 7 .int 3 D (tyC cA cB) (wC q cA cB) (aC q) (eC q x) [.ref (q 1), .int a1, .int a2] σ σ' r := by
  refine MI_of (by decide) hF (Nat.le_of_ble_eq_true rfl) ?_
  intro p e s m args below meth c Q C hret hJ ls hl
  obtain ⟨hx, hb, hml, hown, hts, hK, hE, -⟩ := id C
  have hsb : ∀ z, (aC q) z → (aC q) z := fun _ h => h
  have l35 : ∀ (n : Nat) (σ : St) (a1 : Int32) (a3 : Int32) (a4 : Int32) (H : Heap) (locs : List Loc) (ls : Array Slot), fC_P_leadOf_l35 N  n σ a1 a3 a4 = some (σ', r) → J D (wC q cA cB) (aC q) s σ H locs → lv_has ls 7 [(0, .ref (q 1)), (1, .int a1), (3, .int a3), (4, .int a4)] → W p l e (rmH 3) s m args below meth c H locs 0 0 Q (F0 m 35 ls []) := by
    intro n35
    induction n35 with
    | zero => intro σ a1 a3 a4 H locs ls hf; rw [fC_P_leadOf_l35] at hf; cases hf
    | succ n35 ih35 =>
      have j102 : ∀ (σ : St) (a1 : Int32) (a3 : Int32) (a4 : Int32) (H : Heap) (locs : List Loc) (ls : Array Slot), fC_P_leadOf_j102 N (fC_P_leadOf_l35 N  n35) σ a1 a3 a4 = some (σ', r) → J D (wC q cA cB) (aC q) s σ H locs → lv_has ls 7 [(0, .ref (q 1)), (1, .int a1), (3, .int a3), (4, .int a4)] → W p l e (rmH 3) s m args below meth c H locs 0 0 Q (F0 m 102 ls []) := by
        intro σ a1 a3 a4 H locs ls hf hJ hl
        unfold fC_P_leadOf_j102 at hf
        obtain ⟨x1, hx1⟩ : ∃ z : Int32, z = a4 + (1 : Int32) := ⟨_, rfl⟩
        have hf := bnd_at hf hx1
        refine lv_iinc (v := x1) (lv' := [(4, .int x1), (0, .ref (q 1)), (1, .int a1), (3, .int a3)]) hx hb dX5_leadOf_102 hl (k := 3) rfl (by rw [hx1]; rfl) (by decide) rfl (fun ls hl => ?_)
        refine lv_goto (tgt := 35) hx hb dX5_leadOf_105 (by decide) ?_
        exact ih35 σ a1 a3 x1 _ _ _ hf hJ (lv_sub hl [1, 2, 3, 0] rfl)
      have j77 : ∀ (σ : St) (a1 : Int32) (a3 : Int32) (a4 : Int32) (a5 : Int32) (t0 : Int32) (H : Heap) (locs : List Loc) (ls : Array Slot), fC_P_leadOf_j77 N (fC_P_leadOf_l35 N  n35) σ a1 a3 a4 a5 t0 = some (σ', r) → J D (wC q cA cB) (aC q) s σ H locs → lv_has ls 7 [(0, .ref (q 1)), (1, .int a1), (3, .int a3), (4, .int a4), (5, .int a5)] → W p l e (rmH 3) s m args below meth c H locs 0 0 Q (F0 m 77 ls [.int t0]) := by
        intro σ a1 a3 a4 a5 t0 H locs ls hf hJ hl
        unfold fC_P_leadOf_j77 at hf
        refine lv_istore (lv' := [(6, .int t0), (0, .ref (q 1)), (1, .int a1), (3, .int a3), (4, .int a4), (5, .int a5)]) hx hb dX5_leadOf_77 hl (by decide) rfl (fun ls hl => ?_)
        refine lv_iload hx hb dX5_leadOf_79 (lv_at hl 0 rfl) ?_
        refine lv_if_eq (tgt := 102) hx hb dX5_leadOf_81 (by decide) (fun c2 => ?_) (fun c2 => ?_)
        · have hf := ite_t hf c2
          exact j102 σ a1 a3 a4 _ _ _ hf hJ (lv_sub hl [1, 2, 3, 4] rfl)
        · have hf := ite_f hf c2
          refine lv_aload_n hx hb dX5_leadOf_84 rfl (lv_at hl 1 rfl) ?_
          refine gC_1_3 C hJ fl_RX5_35 dX5_leadOf_85 ?_
          refine lv_iconst (v := 0) hx hb dX5_leadOf_88 (by decide) ?_
          refine lv_iload hx hb dX5_leadOf_89 (lv_at hl 4 rfl) ?_
          refine lv_iload hx hb dX5_leadOf_91 (lv_at hl 5 rfl) ?_
          obtain ⟨σ3, r4, hg5, hf⟩ := cal_some hf
          refine backI hsb hJ (runV (As := [.int (0 : Int32), .int a4, .int a5]) (rest := []) C hJ lk_RX5_78 (cC_T_worth hF hg5) recC_10 rfl rfl (Nat.le_of_ble_eq_true rfl) hl.1 (hR_of (by omega) (by decide)) ⟨Nat.le_refl _, Nat.le_refl _⟩ dX5_leadOf_93) (fun H locs hJ => ?_)
          refine lv_if_eq (tgt := 102) hx hb dX5_leadOf_96 (by decide) (fun c6 => ?_) (fun c6 => ?_)
          · have hf := ite_t hf c6
            exact j102 σ3 a1 a3 a4 _ _ _ hf hJ (lv_sub hl [1, 2, 3, 4] rfl)
          · have hf := ite_f hf c6
            refine lv_iload hx hb dX5_leadOf_99 (lv_at hl 4 rfl) ?_
            refine lv_istore_n (lv' := [(3, .int a4), (6, .int t0), (0, .ref (q 1)), (1, .int a1), (4, .int a4), (5, .int a5)]) hx hb dX5_leadOf_101 rfl hl (by decide) rfl (fun ls hl => ?_)
            exact j102 σ3 a1 a4 a4 _ _ _ hf hJ (lv_sub hl [2, 3, 0, 4] rfl)
      have j72 : ∀ (σ : St) (a1 : Int32) (a3 : Int32) (a4 : Int32) (a5 : Int32) (H : Heap) (locs : List Loc) (ls : Array Slot), fC_P_leadOf_j72 N (fC_P_leadOf_l35 N  n35) σ a1 a3 a4 a5 = some (σ', r) → J D (wC q cA cB) (aC q) s σ H locs → lv_has ls 7 [(0, .ref (q 1)), (1, .int a1), (3, .int a3), (4, .int a4), (5, .int a5)] → W p l e (rmH 3) s m args below meth c H locs 0 0 Q (F0 m 72 ls []) := by
        intro σ a1 a3 a4 a5 H locs ls hf hJ hl
        unfold fC_P_leadOf_j72 at hf
        refine lv_iconst (v := 1) hx hb dX5_leadOf_72 (by decide) ?_
        refine lv_goto (tgt := 77) hx hb dX5_leadOf_73 (by decide) ?_
        exact j77 σ a1 a3 a4 a5 (1 : Int32) _ _ _ hf hJ (lv_sub hl [0, 1, 2, 3, 4] rfl)
      intro σ a1 a3 a4 H locs ls hf hJ hl
      rw [fC_P_leadOf_l35] at hf
      refine lv_iload hx hb dX5_leadOf_35 (lv_at hl 3 rfl) ?_
      refine lv_iconst (v := 4) hx hb dX5_leadOf_37 (by decide) ?_
      refine lv_icmp_ge (tgt := 108) hx hb dX5_leadOf_38 (by decide) (fun c7 => ?_) (fun c7 => ?_)
      · have hf := ite_t hf c7
        refine lv_iload_n hx hb dX5_leadOf_108 rfl (lv_at hl 2 rfl) ?_
        exact ret_I hret hJ hf rfl dX5_leadOf_109
      · have hf := ite_f hf c7
        refine lv_aload_n hx hb dX5_leadOf_41 rfl (lv_at hl 0 rfl) ?_
        refine gC_1_0 C hJ fl_RX5_12 dX5_leadOf_42 ?_
        refine lv_iload_n hx hb dX5_leadOf_45 rfl (lv_at hl 1 rfl) ?_
        refine lv_iload hx hb dX5_leadOf_46 (lv_at hl 3 rfl) ?_
        obtain ⟨σ8, r9, hg10, hf⟩ := cal_some hf
        refine backI hsb hJ (runV (As := [.int a1, .int a4]) (rest := []) C hJ lk_RX5_74 (cC_S_offOf hF hg10) recC_7 rfl rfl (Nat.le_of_ble_eq_true rfl) hl.1 (hR_of (by omega) (by decide)) ⟨Nat.le_refl _, Nat.le_refl _⟩ dX5_leadOf_48) (fun H locs hJ => ?_)
        refine lv_istore (lv' := [(5, .int r9), (0, .ref (q 1)), (1, .int a1), (3, .int a3), (4, .int a4)]) hx hb dX5_leadOf_51 hl (by decide) rfl (fun ls hl => ?_)
        refine lv_iload_n hx hb dX5_leadOf_53 rfl (lv_at hl 3 rfl) ?_
        refine lv_iconst (v := -1) hx hb dX5_leadOf_54 (by decide) ?_
        refine lv_icmp_eq (tgt := 72) hx hb dX5_leadOf_55 (by decide) (fun c11 => ?_) (fun c11 => ?_)
        · have hf := ite_t hf c11
          exact j72 σ8 a1 a3 a4 r9 _ _ _ hf hJ (lv_sub hl [1, 2, 3, 4, 0] rfl)
        · have hf := ite_f hf c11
          refine lv_iload hx hb dX5_leadOf_58 (lv_at hl 0 rfl) ?_
          refine lv_aload_n hx hb dX5_leadOf_60 rfl (lv_at hl 1 rfl) ?_
          refine gC_1_0 C hJ fl_RX5_12 dX5_leadOf_61 ?_
          refine lv_iload_n hx hb dX5_leadOf_64 rfl (lv_at hl 2 rfl) ?_
          refine lv_iload_n hx hb dX5_leadOf_65 rfl (lv_at hl 3 rfl) ?_
          obtain ⟨σ12, r13, hg14, hf⟩ := cal_some hf
          refine backI hsb hJ (runV (As := [.int a1, .int a3]) (rest := [.int r9]) C hJ lk_RX5_74 (cC_S_offOf hF hg14) recC_7 rfl rfl (Nat.le_of_ble_eq_true rfl) hl.1 (hR_of (by omega) (by decide)) ⟨Nat.le_refl _, Nat.le_refl _⟩ dX5_leadOf_66) (fun H locs hJ => ?_)
          refine lv_icmp_le (tgt := 76) hx hb dX5_leadOf_69 (by decide) (fun c15 => ?_) (fun c15 => ?_)
          · have hf := ite_t hf c15
            refine lv_iconst (v := 0) hx hb dX5_leadOf_76 (by decide) ?_
            exact j77 σ12 a1 a3 a4 r9 (0 : Int32) _ _ _ hf hJ (lv_sub hl [1, 2, 3, 4, 0] rfl)
          · have hf := ite_f hf c15
            exact j72 σ12 a1 a3 a4 r9 _ _ _ hf hJ (lv_sub hl [1, 2, 3, 4, 0] rfl)
  have hl : lv_has ls 7 [(0, .ref (q 1)), (1, .int a1), (2, .int a2)] := hl
  unfold fC_P_leadOf at hf
  refine lv_aload_n hx hb dX5_leadOf_0 rfl (lv_at hl 0 rfl) ?_
  refine gC_1_3 C hJ fl_RX5_35 dX5_leadOf_1 ?_
  refine lv_aload_n hx hb dX5_leadOf_4 rfl (lv_at hl 0 rfl) ?_
  refine gC_1_0 C hJ fl_RX5_12 dX5_leadOf_5 ?_
  refine gC_7_2 C hJ fl_RX5_67 dX5_leadOf_8 ?_
  refine lv_iload_n hx hb dX5_leadOf_11 rfl (lv_at hl 1 rfl) ?_
  obtain ⟨h16, hf⟩ := gi_some hf
  refine aC_34 C hJ h16 dX5_leadOf_12 ?_
  refine lv_aload_n hx hb dX5_leadOf_13 rfl (lv_at hl 0 rfl) ?_
  refine gC_1_0 C hJ fl_RX5_12 dX5_leadOf_14 ?_
  refine gC_7_0 C hJ fl_RX5_60 dX5_leadOf_17 ?_
  refine lv_iload_n hx hb dX5_leadOf_20 rfl (lv_at hl 1 rfl) ?_
  obtain ⟨h17, hf⟩ := gi_some hf
  refine aC_32 C hJ h17 dX5_leadOf_21 ?_
  refine lv_iload_n hx hb dX5_leadOf_22 rfl (lv_at hl 2 rfl) ?_
  refine lv_aload_n hx hb dX5_leadOf_23 rfl (lv_at hl 0 rfl) ?_
  refine gC_1_5 C hJ fl_RX5_54 dX5_leadOf_24 ?_
  obtain ⟨σ18, r19, hg20, hf⟩ := cal_some hf
  refine backV hsb hJ (runV (As := [.int (σ.2.1 34 a1.toNatClampNeg), .int (σ.2.1 32 a1.toNatClampNeg), .int a2, .int (σ.1 4)]) (rest := []) C hJ lk_RX5_70 (cC_T_regard hF hg20) recC_10 rfl rfl (Nat.le_of_ble_eq_true rfl) hl.1 (hR_of (by omega) (by decide)) ⟨Nat.le_refl _, Nat.le_refl _⟩ dX5_leadOf_27) (fun H locs hJ => ?_)
  refine lv_iconst (v := -1) hx hb dX5_leadOf_30 (by decide) ?_
  refine lv_istore_n (lv' := [(3, .int (-1 : Int32)), (0, .ref (q 1)), (1, .int a1), (2, .int a2)]) hx hb dX5_leadOf_31 rfl hl (by decide) rfl (fun ls hl => ?_)
  refine lv_iconst (v := 0) hx hb dX5_leadOf_32 (by decide) ?_
  refine lv_istore (lv' := [(4, .int (0 : Int32)), (3, .int (-1 : Int32)), (0, .ref (q 1)), (1, .int a1), (2, .int a2)]) hx hb dX5_leadOf_33 hl (by decide) rfl (fun ls hl => ?_)
  exact l35 N σ18 a1 (-1 : Int32) (0 : Int32) _ _ _ hf hJ (lv_sub hl [2, 3, 1, 0] rfl)
set_option maxHeartbeats 4000000 in
set_option maxRecDepth 100000 in
theorem cC_P_frontOf {l : Launch} {D : va_G} {cA cB : ClassId} {q : Nat → Nat} {x : Nat → Nat} {N : Nat} {σ σ' : St} {r : Int32} {a1 : Int32} {a2 : Int32} (hF : Fr (wC q cA cB) (aC q) (eC q x)) (hf : fC_P_frontOf N σ a1 a2 = some (σ', r)) : MI l yX5_frontOf cX5_frontOf 5 .int 4 D (tyC cA cB) (wC q cA cB) (aC q) (eC q x) [.ref (q 1), .int a1, .int a2] σ σ' r := by
  refine MI_of (by decide) hF (Nat.le_of_ble_eq_true rfl) ?_
  intro p e s m args below meth c Q C hret hJ ls hl
  obtain ⟨hx, hb, hml, hown, hts, hK, hE, -⟩ := id C
  have hsb : ∀ z, (aC q) z → (aC q) z := fun _ h => h
  have j25 : ∀ (σ : St) (a1 : Int32) (a2 : Int32) (t0 : Int32) (H : Heap) (locs : List Loc) (ls : Array Slot), fC_P_frontOf_j25 N  σ a1 a2 t0 = some (σ', r) → J D (wC q cA cB) (aC q) s σ H locs → lv_has ls 5 [(0, .ref (q 1)), (1, .int a1), (2, .int a2)] → W p l e (rmH 4) s m args below meth c H locs 0 0 Q (F0 m 25 ls [.int t0]) := by
    intro σ a1 a2 t0 H locs ls hf hJ hl
    unfold fC_P_frontOf_j25 at hf
    refine lv_istore (lv' := [(4, .int t0), (0, .ref (q 1)), (1, .int a1), (2, .int a2)]) hx hb dX5_frontOf_25 hl (by decide) rfl (fun ls hl => ?_)
    refine lv_aload_n hx hb dX5_frontOf_27 rfl (lv_at hl 1 rfl) ?_
    refine lv_iload_n hx hb dX5_frontOf_28 rfl (lv_at hl 2 rfl) ?_
    refine lv_iload_n hx hb dX5_frontOf_29 rfl (lv_at hl 3 rfl) ?_
    obtain ⟨σ1, r2, hg3, hf⟩ := cal_some hf
    refine backI hsb hJ (runV (As := [.int a1, .int a2]) (rest := []) C hJ lk_RX5_85 (cC_P_whereIs hF hg3) recC_1 rfl rfl (Nat.le_of_ble_eq_true rfl) hl.1 (hR_of (by omega) (by decide)) ⟨Nat.le_refl _, Nat.le_refl _⟩ dX5_frontOf_30) (fun H locs hJ => ?_)
    refine lv_iload hx hb dX5_frontOf_33 (lv_at hl 0 rfl) ?_
    refine lv_iadd hx hb dX5_frontOf_35 ?_
    exact ret_I hret hJ hf rfl dX5_frontOf_36
  have hl : lv_has ls 5 [(0, .ref (q 1)), (1, .int a1), (2, .int a2)] := hl
  unfold fC_P_frontOf at hf
  refine lv_aload_n hx hb dX5_frontOf_0 rfl (lv_at hl 0 rfl) ?_
  refine lv_iload_n hx hb dX5_frontOf_1 rfl (lv_at hl 1 rfl) ?_
  refine lv_iload_n hx hb dX5_frontOf_2 rfl (lv_at hl 2 rfl) ?_
  obtain ⟨σ4, r5, hg6, hf⟩ := cal_some hf
  refine backI hsb hJ (runV (As := [.int a1, .int a2]) (rest := []) C hJ lk_RX5_82 (cC_P_leadOf hF hg6) recC_1 rfl rfl (Nat.le_of_ble_eq_true rfl) hl.1 (hR_of (by omega) (by decide)) ⟨Nat.le_refl _, Nat.le_refl _⟩ dX5_frontOf_3) (fun H locs hJ => ?_)
  refine lv_istore_n (lv' := [(3, .int r5), (0, .ref (q 1)), (1, .int a1), (2, .int a2)]) hx hb dX5_frontOf_6 rfl hl (by decide) rfl (fun ls hl => ?_)
  refine lv_iload_n hx hb dX5_frontOf_7 rfl (lv_at hl 0 rfl) ?_
  refine lv_iconst (v := -1) hx hb dX5_frontOf_8 (by decide) ?_
  refine lv_icmp_ne (tgt := 16) hx hb dX5_frontOf_9 (by decide) (fun c7 => ?_) (fun c7 => ?_)
  · have hf := ite_f hf c7
    refine lv_aload_n hx hb dX5_frontOf_16 rfl (lv_at hl 1 rfl) ?_
    refine gC_1_0 C hJ fl_RX5_12 dX5_frontOf_17 ?_
    refine lv_iload_n hx hb dX5_frontOf_20 rfl (lv_at hl 2 rfl) ?_
    refine lv_iload_n hx hb dX5_frontOf_21 rfl (lv_at hl 0 rfl) ?_
    obtain ⟨σ8, r9, hg10, hf⟩ := cal_some hf
    refine backI hsb hJ (runV (As := [.int a1, .int r5]) (rest := []) C hJ lk_RX5_74 (cC_S_offOf hF hg10) recC_7 rfl rfl (Nat.le_of_ble_eq_true rfl) hl.1 (hR_of (by omega) (by decide)) ⟨Nat.le_refl _, Nat.le_refl _⟩ dX5_frontOf_22) (fun H locs hJ => ?_)
    exact j25 σ8 a1 a2 r9 _ _ _ hf hJ (lv_sub hl [1, 2, 3] rfl)
  · have hf := ite_t hf c7
    refine lv_iconst (v := 0) hx hb dX5_frontOf_12 (by decide) ?_
    refine lv_goto (tgt := 25) hx hb dX5_frontOf_13 (by decide) ?_
    exact j25 σ4 a1 a2 (0 : Int32) _ _ _ hf hJ (lv_sub hl [1, 2, 3] rfl)
set_option maxHeartbeats 4000000 in
set_option maxRecDepth 100000 in
theorem cC_footIfNone {l : Launch} {D : va_G} {cA cB : ClassId} {q : Nat → Nat} {x : Nat → Nat} {N : Nat} {σ σ' : St} {r : Int32} {a0 : Int32} (hF : Fr (wC q cA cB) (aC q) (eC q x)) (hf : fC_footIfNone N σ a0 = some (σ', r)) : MI l yX11_footIfNone cX11_footIfNone 1 .int 1 D (tyC cA cB) (wC q cA cB) (aC q) (eC q x) [.int a0] σ σ' r := by
  refine MI_of (by decide) hF (Nat.le_of_ble_eq_true rfl) ?_
  intro p e s m args below meth c Q C hret hJ ls hl
  obtain ⟨hx, hb, hml, hown, hts, hK, hE, -⟩ := id C
  have hsb : ∀ z, (aC q) z → (aC q) z := fun _ h => h
  have hl : lv_has ls 1 [(0, .int a0)] := hl
  unfold fC_footIfNone at hf
  refine lv_iload_n hx hb dX11_footIfNone_0 rfl (lv_at hl 0 rfl) ?_
  refine lv_iconst (v := -1) hx hb dX11_footIfNone_1 (by decide) ?_
  refine lv_icmp_ne (tgt := 9) hx hb dX11_footIfNone_2 (by decide) (fun c1 => ?_) (fun c1 => ?_)
  · have hf := ite_f hf c1
    refine lv_iload_n hx hb dX11_footIfNone_9 rfl (lv_at hl 0 rfl) ?_
    exact ret_I hret hJ hf rfl dX11_footIfNone_10
  · have hf := ite_t hf c1
    refine lv_iconst (v := 3) hx hb dX11_footIfNone_5 (by decide) ?_
    refine lv_goto (tgt := 10) hx hb dX11_footIfNone_6 (by decide) ?_
    exact ret_I hret hJ hf rfl dX11_footIfNone_10
set_option maxHeartbeats 4000000 in
set_option maxRecDepth 100000 in
theorem cC_front {l : Launch} {D : va_G} {cA cB : ClassId} {q : Nat → Nat} {x : Nat → Nat} {N : Nat} {σ σ' : St} {r : Int64} {a1 : Int32} {a2 : Int32} {a3 : Int32} (hF : Fr (wC q cA cB) (aC q) (eC q x)) (hf : fC_front N σ a1 a2 a3 = some (σ', r)) : ML l yX11_front cX11_front 4 .long 5 D (tyC cA cB) (wC q cA cB) (aC q) (eC q x) [.ref (q 0), .int a1, .int a2, .int a3] σ σ' r := by
  refine ML_of (by decide) hF (Nat.le_of_ble_eq_true rfl) ?_
  intro p e s m args below meth c Q C hret hJ ls hl
  obtain ⟨hx, hb, hml, hown, hts, hK, hE, -⟩ := id C
  have hsb : ∀ z, (aC q) z → (aC q) z := fun _ h => h
  have hl : lv_has ls 4 [(0, .ref (q 0)), (1, .int a1), (2, .int a2), (3, .int a3)] := hl
  unfold fC_front at hf
  refine lv_aload_n hx hb dX11_front_0 rfl (lv_at hl 0 rfl) ?_
  refine gC_0_0 C hJ fl_RX11_12 dX11_front_1 ?_
  refine gC_1_0 C hJ fl_RX11_86 dX11_front_4 ?_
  refine lv_iload_n hx hb dX11_front_7 rfl (lv_at hl 1 rfl) ?_
  obtain ⟨σ1, r2, hg3, hf⟩ := cal_some hf
  refine backI hsb hJ (runV (As := [.int a1]) (rest := []) C hJ lk_RX11_93 (cC_S_has hF hg3) recC_7 rfl rfl (Nat.le_of_ble_eq_true rfl) hl.1 (hR_of (by omega) (by decide)) ⟨Nat.le_refl _, Nat.le_refl _⟩ dX11_front_8) (fun H locs hJ => ?_)
  refine lv_if_eq (tgt := 21) hx hb dX11_front_11 (by decide) (fun c4 => ?_) (fun c4 => ?_)
  · have hf := ite_t hf c4
    refine lv_ldc2 (v := -4611686018427387904) hx hb hown (hts _ kl_RX11_127) dX11_front_21 ?_
    exact ret_L hret hJ hf dX11_front_24
  · have hf := ite_f hf c4
    refine lv_iload_n hx hb dX11_front_14 rfl (lv_at hl 2 rfl) ?_
    obtain ⟨σ5, r6, hg7, hf⟩ := cal_some hf
    refine backI hsb hJ (runS (As := [.int a2]) (rest := []) C hJ lk_RX11_124 (cC_isTick hF hg7) rfl rfl (Nat.le_of_ble_eq_true rfl) hl.1 (hR_of (by omega) (by decide)) ⟨Nat.le_refl _, Nat.le_refl _⟩ dX11_front_15) (fun H locs hJ => ?_)
    refine lv_if_ne (tgt := 25) hx hb dX11_front_18 (by decide) (fun c8 => ?_) (fun c8 => ?_)
    · have hf := ite_f hf c8
      refine lv_aload_n hx hb dX11_front_25 rfl (lv_at hl 0 rfl) ?_
      refine gC_0_0 C hJ fl_RX11_12 dX11_front_26 ?_
      refine lv_aload_n hx hb dX11_front_29 rfl (lv_at hl 0 rfl) ?_
      refine gC_0_9 C hJ fl_RX11_129 dX11_front_30 ?_
      obtain ⟨σ9, r10, hg11, hf⟩ := cal_some hf
      refine backV hsb hJ (runV (As := [.int (σ5.1 3)]) (rest := []) C hJ lk_RX11_133 (cC_P_lookAs hF hg11) recC_1 rfl rfl (Nat.le_of_ble_eq_true rfl) hl.1 (hR_of (by omega) (by decide)) ⟨Nat.le_refl _, Nat.le_refl _⟩ dX11_front_33) (fun H locs hJ => ?_)
      refine lv_iload_n hx hb dX11_front_36 rfl (lv_at hl 3 rfl) ?_
      by_cases c12 : a3 = (0 : Int32)
      · have hf := ite_t hf c12
        refine lv_tableIn (off := 27) (tgt := 64) hx hb dX11_front_37 (by rw [c12]; decide) (by rw [c12]; decide) (by rw [c12]; rfl) (by decide) ?_
        refine lv_aload_n hx hb dX11_front_64 rfl (lv_at hl 0 rfl) ?_
        refine gC_0_0 C hJ fl_RX11_12 dX11_front_65 ?_
        refine lv_iload_n hx hb dX11_front_68 rfl (lv_at hl 1 rfl) ?_
        refine lv_iload_n hx hb dX11_front_69 rfl (lv_at hl 2 rfl) ?_
        obtain ⟨σ13, r14, hg15, hf⟩ := cal_some hf
        refine backI hsb hJ (runV (As := [.int a1, .int a2]) (rest := []) C hJ lk_RX11_136 (cC_P_frontOf hF hg15) recC_1 rfl rfl (Nat.le_of_ble_eq_true rfl) hl.1 (hR_of (by omega) (by decide)) ⟨Nat.le_refl _, Nat.le_refl _⟩ dX11_front_70) (fun H locs hJ => ?_)
        refine lv_i2l (v := r14.toInt64) hx hb dX11_front_73 rfl ?_
        exact ret_L hret hJ hf dX11_front_74
      have hf := ite_f hf c12
      by_cases c16 : a3 = (1 : Int32)
      · have hf := ite_t hf c16
        refine lv_tableIn (off := 38) (tgt := 75) hx hb dX11_front_37 (by rw [c16]; decide) (by rw [c16]; decide) (by rw [c16]; rfl) (by decide) ?_
        refine lv_aload_n hx hb dX11_front_75 rfl (lv_at hl 0 rfl) ?_
        refine gC_0_0 C hJ fl_RX11_12 dX11_front_76 ?_
        refine lv_iload_n hx hb dX11_front_79 rfl (lv_at hl 1 rfl) ?_
        refine lv_iload_n hx hb dX11_front_80 rfl (lv_at hl 2 rfl) ?_
        obtain ⟨σ17, r18, hg19, hf⟩ := cal_some hf
        refine backI hsb hJ (runV (As := [.int a1, .int a2]) (rest := []) C hJ lk_RX11_139 (cC_P_leadOf hF hg19) recC_1 rfl rfl (Nat.le_of_ble_eq_true rfl) hl.1 (hR_of (by omega) (by decide)) ⟨Nat.le_refl _, Nat.le_refl _⟩ dX11_front_81) (fun H locs hJ => ?_)
        obtain ⟨σ20, r21, hg22, hf⟩ := cal_some hf
        refine backI hsb hJ (runS (As := [.int r18]) (rest := []) C hJ lk_RX11_142 (cC_footIfNone hF hg22) rfl rfl (Nat.le_of_ble_eq_true rfl) hl.1 (hR_of (by omega) (by decide)) ⟨Nat.le_refl _, Nat.le_refl _⟩ dX11_front_84) (fun H locs hJ => ?_)
        refine lv_i2l (v := r21.toInt64) hx hb dX11_front_87 rfl ?_
        exact ret_L hret hJ hf dX11_front_88
      have hf := ite_f hf c16
      by_cases c23 : a3 = (2 : Int32)
      · have hf := ite_t hf c23
        refine lv_tableIn (off := 52) (tgt := 89) hx hb dX11_front_37 (by rw [c23]; decide) (by rw [c23]; decide) (by rw [c23]; rfl) (by decide) ?_
        refine lv_aload_n hx hb dX11_front_89 rfl (lv_at hl 0 rfl) ?_
        refine gC_0_0 C hJ fl_RX11_12 dX11_front_90 ?_
        refine lv_iload_n hx hb dX11_front_93 rfl (lv_at hl 1 rfl) ?_
        refine lv_iload_n hx hb dX11_front_94 rfl (lv_at hl 2 rfl) ?_
        obtain ⟨σ24, r25, hg26, hf⟩ := cal_some hf
        refine backI hsb hJ (runV (As := [.int a1, .int a2]) (rest := []) C hJ lk_RX11_146 (cC_P_whereIs hF hg26) recC_1 rfl rfl (Nat.le_of_ble_eq_true rfl) hl.1 (hR_of (by omega) (by decide)) ⟨Nat.le_refl _, Nat.le_refl _⟩ dX11_front_95) (fun H locs hJ => ?_)
        refine lv_i2l (v := r25.toInt64) hx hb dX11_front_98 rfl ?_
        exact ret_L hret hJ hf dX11_front_99
      have hf := ite_f hf c23
      refine lv_tableOut (tgt := 100) hx hb dX11_front_37 (by have ec12 : a3.toInt ≠ 0 := fun h => c12 (Int32.toInt_inj.mp (h.trans (by decide))); have ec16 : a3.toInt ≠ 1 := fun h => c16 (Int32.toInt_inj.mp (h.trans (by decide))); have ec23 : a3.toInt ≠ 2 := fun h => c23 (Int32.toInt_inj.mp (h.trans (by decide))); omega) (by decide) ?_
      refine lv_ldc2 (v := -4611686018427387904) hx hb hown (hts _ kl_RX11_127) dX11_front_100 ?_
      exact ret_L hret hJ hf dX11_front_103
    · have hf := ite_t hf c8
      refine lv_ldc2 (v := -4611686018427387904) hx hb hown (hts _ kl_RX11_127) dX11_front_21 ?_
      exact ret_L hret hJ hf dX11_front_24
