set_option maxHeartbeats 4000000 in
set_option maxRecDepth 100000 in
theorem cM_isCall {l : Launch} {D : va_G} {cA cB : ClassId} {q : Nat → Nat} {A : Nat → Prop} {E : State → Prop} {N : Nat} {σ σ' : St} {r : Int32} {a1 : Int32} (hF : Fr (wM q cA cB) A E) (hf : fM_isCall N σ a1 = some (σ', r)) : MI l yX12_isCall cX12_isCall 2 .boolean 2 D (tyM cA cB) (wM q cA cB) A E [.ref (q 0), .int a1] σ σ' r := by
  refine MI_of (by decide) hF (Nat.le_of_ble_eq_true rfl) ?_
  intro p e s m args below meth c Q C hret hJ ls hl
  obtain ⟨hx, hb, hml, hown, hts, hK, hE, -⟩ := id C
  have hsb : ∀ z, A z → A z := fun _ h => h
  have hl : lv_has ls 2 [(0, .ref (q 0)), (1, .int a1)] := hl
  unfold fM_isCall at hf
  refine lv_iload_n hx hb dX12_isCall_0 rfl (lv_at hl 1 rfl) ?_
  refine lv_i2l (v := a1.toInt64) hx hb dX12_isCall_1 rfl ?_
  refine lv_lconst (v := 0) hx hb dX12_isCall_2 (by decide) ?_
  refine lv_aload_n hx hb dX12_isCall_3 rfl (lv_at hl 0 rfl) ?_
  refine gM_0_41 C hJ fl_RX12_363 dX12_isCall_4 ?_
  refine lv_iconst (v := 1) hx hb dX12_isCall_7 (by decide) ?_
  refine lv_isub hx hb dX12_isCall_8 ?_
  refine lv_i2l (v := ((σ.1 23) - (1 : Int32)).toInt64) hx hb dX12_isCall_9 rfl ?_
  obtain ⟨σ1, r2, hg3, hf⟩ := cal_some hf
  refine backI hsb hJ (runS (As := [.long a1.toInt64, .long (0 : Int64), .long (((σ.1 23) - (1 : Int32)).toInt64)]) (rest := []) C hJ lk_RX12_138 (cM_in hF hg3) rfl rfl (Nat.le_of_ble_eq_true rfl) hl.1 (hR_of (by omega) (by decide)) ⟨Nat.le_refl _, Nat.le_refl _⟩ dX12_isCall_10) (fun H locs hJ => ?_)
  obtain ⟨h4, hf⟩ := gd_some hf
  exact ret_I hret hJ hf (nar_z h4) dX12_isCall_13
set_option maxHeartbeats 4000000 in
set_option maxRecDepth 100000 in
theorem cM_spreadOf {l : Launch} {D : va_G} {cA cB : ClassId} {q : Nat → Nat} {A : Nat → Prop} {E : State → Prop} {N : Nat} {σ σ' : St} {r : Int32} {a1 : Int32} (hF : Fr (wM q cA cB) A E) (hf : fM_spreadOf N σ a1 = some (σ', r)) : MI l yX12_spreadOf cX12_spreadOf 2 .int 1 D (tyM cA cB) (wM q cA cB) A E [.ref (q 0), .int a1] σ σ' r := by
  refine MI_of (by decide) hF (Nat.le_of_ble_eq_true rfl) ?_
  intro p e s m args below meth c Q C hret hJ ls hl
  obtain ⟨hx, hb, hml, hown, hts, hK, hE, -⟩ := id C
  have hsb : ∀ z, A z → A z := fun _ h => h
  have j20 : ∀ (σ : St) (a1 : Int32) (H : Heap) (locs : List Loc) (ls : Array Slot), fM_spreadOf_j20 N  σ a1 = some (σ', r) → J D (wM q cA cB) A s σ H locs → lv_has ls 2 [(0, .ref (q 0)), (1, .int a1)] → W p l e (rmH 1) s m args below meth c H locs 0 0 Q (F0 m 20 ls []) := by
    intro σ a1 H locs ls hf hJ hl
    unfold fM_spreadOf_j20 at hf
    refine lv_aload_n hx hb dX12_spreadOf_20 rfl (lv_at hl 0 rfl) ?_
    refine gM_0_33 C hJ fl_RX12_47 dX12_spreadOf_21 ?_
    refine lv_aload_n hx hb dX12_spreadOf_24 rfl (lv_at hl 0 rfl) ?_
    refine gM_0_40 C hJ fl_RX12_65 dX12_spreadOf_25 ?_
    refine lv_iload_n hx hb dX12_spreadOf_28 rfl (lv_at hl 1 rfl) ?_
    obtain ⟨h1, hf⟩ := gi_some hf
    refine aM_18 C hJ h1 dX12_spreadOf_29 ?_
    obtain ⟨h2, hf⟩ := gi_some hf
    refine aM_12 C hJ h2 dX12_spreadOf_30 ?_
    refine lv_goto (tgt := 35) hx hb dX12_spreadOf_31 (by decide) ?_
    exact ret_I hret hJ hf rfl dX12_spreadOf_35
  have hl : lv_has ls 2 [(0, .ref (q 0)), (1, .int a1)] := hl
  unfold fM_spreadOf at hf
  refine lv_aload_n hx hb dX12_spreadOf_0 rfl (lv_at hl 0 rfl) ?_
  refine gM_0_35 C hJ fl_RX12_50 dX12_spreadOf_1 ?_
  refine lv_iload_n hx hb dX12_spreadOf_4 rfl (lv_at hl 1 rfl) ?_
  obtain ⟨h3, hf⟩ := gi_some hf
  refine aM_13 C hJ h3 dX12_spreadOf_5 ?_
  refine lv_iconst (v := 2) hx hb dX12_spreadOf_6 (by decide) ?_
  refine lv_icmp_eq (tgt := 20) hx hb dX12_spreadOf_7 (by decide) (fun c4 => ?_) (fun c4 => ?_)
  · have hf := ite_t hf c4
    exact j20 σ a1 _ _ _ hf hJ (lv_sub hl [0, 1] rfl)
  · have hf := ite_f hf c4
    refine lv_aload_n hx hb dX12_spreadOf_10 rfl (lv_at hl 0 rfl) ?_
    refine gM_0_35 C hJ fl_RX12_50 dX12_spreadOf_11 ?_
    refine lv_iload_n hx hb dX12_spreadOf_14 rfl (lv_at hl 1 rfl) ?_
    obtain ⟨h5, hf⟩ := gi_some hf
    refine aM_13 C hJ h5 dX12_spreadOf_15 ?_
    refine lv_iconst (v := 3) hx hb dX12_spreadOf_16 (by decide) ?_
    refine lv_icmp_ne (tgt := 34) hx hb dX12_spreadOf_17 (by decide) (fun c6 => ?_) (fun c6 => ?_)
    · have hf := ite_f hf c6
      refine lv_iconst (v := 0) hx hb dX12_spreadOf_34 (by decide) ?_
      exact ret_I hret hJ hf rfl dX12_spreadOf_35
    · have hf := ite_t hf c6
      exact j20 σ a1 _ _ _ hf hJ (lv_sub hl [0, 1] rfl)
set_option maxHeartbeats 4000000 in
set_option maxRecDepth 100000 in
theorem cM_trueMargin {l : Launch} {D : va_G} {cA cB : ClassId} {q : Nat → Nat} {A : Nat → Prop} {E : State → Prop} {N : Nat} {σ σ' : St} {r : Int32} {a1 : Int32} {a2 : Int32} (hF : Fr (wM q cA cB) A E) (hf : fM_trueMargin N σ a1 a2 = some (σ', r)) : MI l yX12_trueMargin cX12_trueMargin 3 .int 53 D (tyM cA cB) (wM q cA cB) A E [.ref (q 0), .int a1, .int a2] σ σ' r := by
  refine MI_of (by decide) hF (Nat.le_of_ble_eq_true rfl) ?_
  intro p e s m args below meth c Q C hret hJ ls hl
  obtain ⟨hx, hb, hml, hown, hts, hK, hE, -⟩ := id C
  have hsb : ∀ z, A z → A z := fun _ h => h
  have hl : lv_has ls 3 [(0, .ref (q 0)), (1, .int a1), (2, .int a2)] := hl
  unfold fM_trueMargin at hf
  refine lv_aload_n hx hb dX12_trueMargin_0 rfl (lv_at hl 0 rfl) ?_
  refine lv_aload_n hx hb dX12_trueMargin_1 rfl (lv_at hl 0 rfl) ?_
  refine gM_0_36 C hJ fl_RX12_53 dX12_trueMargin_2 ?_
  refine lv_iload_n hx hb dX12_trueMargin_5 rfl (lv_at hl 1 rfl) ?_
  obtain ⟨h1, hf⟩ := gi_some hf
  refine aM_14 C hJ h1 dX12_trueMargin_6 ?_
  refine lv_iload_n hx hb dX12_trueMargin_7 rfl (lv_at hl 2 rfl) ?_
  obtain ⟨σ2, r3, hg4, hf⟩ := cal_some hf
  refine backI hsb hJ (runV (As := [.int (σ.2.1 14 a1.toNatClampNeg), .int a2]) (rest := []) C hJ lk_RX12_332 (cM_frontOf hF hg4) recM_0 rfl rfl (Nat.le_of_ble_eq_true rfl) hl.1 (hR_of (by omega) (by decide)) ⟨Nat.le_refl _, Nat.le_refl _⟩ dX12_trueMargin_8) (fun H locs hJ => ?_)
  refine lv_aload_n hx hb dX12_trueMargin_11 rfl (lv_at hl 0 rfl) ?_
  refine lv_aload_n hx hb dX12_trueMargin_12 rfl (lv_at hl 0 rfl) ?_
  refine gM_0_37 C hJ fl_RX12_56 dX12_trueMargin_13 ?_
  refine lv_iload_n hx hb dX12_trueMargin_16 rfl (lv_at hl 1 rfl) ?_
  obtain ⟨h5, hf⟩ := gi_some hf
  refine aM_15 C hJ h5 dX12_trueMargin_17 ?_
  refine lv_iload_n hx hb dX12_trueMargin_18 rfl (lv_at hl 2 rfl) ?_
  obtain ⟨σ6, r7, hg8, hf⟩ := cal_some hf
  refine backI hsb hJ (runV (As := [.int (σ2.2.1 15 a1.toNatClampNeg), .int a2]) (rest := [.int r3]) C hJ lk_RX12_332 (cM_frontOf hF hg8) recM_0 rfl rfl (Nat.le_of_ble_eq_true rfl) hl.1 (hR_of (by omega) (by decide)) ⟨Nat.le_refl _, Nat.le_refl _⟩ dX12_trueMargin_19) (fun H locs hJ => ?_)
  refine lv_isub hx hb dX12_trueMargin_22 ?_
  exact ret_I hret hJ hf rfl dX12_trueMargin_23
set_option maxHeartbeats 4000000 in
set_option maxRecDepth 100000 in
theorem cM_crossed {l : Launch} {D : va_G} {cA cB : ClassId} {q : Nat → Nat} {A : Nat → Prop} {E : State → Prop} {N : Nat} {σ σ' : St} {r : Int32} {a1 : Int32} {a2 : Int32} {a3 : Int32} {a4 : Int32} (hF : Fr (wM q cA cB) A E) (hf : fM_crossed N σ a1 a2 a3 a4 = some (σ', r)) : MI l yX12_crossed cX12_crossed 7 .int 53 D (tyM cA cB) (wM q cA cB) A E [.ref (q 0), .int a1, .int a2, .int a3, .int a4] σ σ' r := by
  refine MI_of (by decide) hF (Nat.le_of_ble_eq_true rfl) ?_
  intro p e s m args below meth c Q C hret hJ ls hl
  obtain ⟨hx, hb, hml, hown, hts, hK, hE, -⟩ := id C
  have hsb : ∀ z, A z → A z := fun _ h => h
  have j38 : ∀ (σ : St) (a2 : Int32) (a5 : Int32) (t0 : Int32) (H : Heap) (locs : List Loc) (ls : Array Slot), fM_crossed_j38 N  σ a2 a5 t0 = some (σ', r) → J D (wM q cA cB) A s σ H locs → lv_has ls 7 [(0, .ref (q 0)), (2, .int a2), (5, .int a5)] → W p l e (rmH 53) s m args below meth c H locs 0 0 Q (F0 m 38 ls [.int t0]) := by
    intro σ a2 a5 t0 H locs ls hf hJ hl
    unfold fM_crossed_j38 at hf
    refine lv_istore (lv' := [(6, .int t0), (0, .ref (q 0)), (2, .int a2), (5, .int a5)]) hx hb dX12_crossed_38 hl (by decide) rfl (fun ls hl => ?_)
    refine lv_aload_n hx hb dX12_crossed_40 rfl (lv_at hl 1 rfl) ?_
    refine gM_0_9 C hJ fl_RX12_29 dX12_crossed_41 ?_
    refine lv_iload_n hx hb dX12_crossed_44 rfl (lv_at hl 2 rfl) ?_
    obtain ⟨h1, hf⟩ := gi_some hf
    refine aM_6 C hJ h1 dX12_crossed_45 ?_
    refine lv_if_le (tgt := 57) hx hb dX12_crossed_46 (by decide) (fun c2 => ?_) (fun c2 => ?_)
    · have hf := ite_t hf c2
      refine lv_iload hx hb dX12_crossed_57 (lv_at hl 3 rfl) ?_
      refine lv_iload hx hb dX12_crossed_59 (lv_at hl 0 rfl) ?_
      refine lv_isub hx hb dX12_crossed_61 ?_
      exact ret_I hret hJ hf rfl dX12_crossed_62
    · have hf := ite_f hf c2
      refine lv_iload hx hb dX12_crossed_49 (lv_at hl 3 rfl) ?_
      refine lv_iload hx hb dX12_crossed_51 (lv_at hl 0 rfl) ?_
      refine lv_iadd hx hb dX12_crossed_53 ?_
      refine lv_goto (tgt := 62) hx hb dX12_crossed_54 (by decide) ?_
      exact ret_I hret hJ hf rfl dX12_crossed_62
  have hl : lv_has ls 7 [(0, .ref (q 0)), (1, .int a1), (2, .int a2), (3, .int a3), (4, .int a4)] := hl
  unfold fM_crossed at hf
  refine lv_aload_n hx hb dX12_crossed_0 rfl (lv_at hl 0 rfl) ?_
  refine lv_aload_n hx hb dX12_crossed_1 rfl (lv_at hl 0 rfl) ?_
  refine gM_0_39 C hJ fl_RX12_62 dX12_crossed_2 ?_
  refine lv_iload_n hx hb dX12_crossed_5 rfl (lv_at hl 1 rfl) ?_
  obtain ⟨h3, hf⟩ := gi_some hf
  refine aM_17 C hJ h3 dX12_crossed_6 ?_
  refine lv_aload_n hx hb dX12_crossed_7 rfl (lv_at hl 0 rfl) ?_
  refine lv_iload_n hx hb dX12_crossed_8 rfl (lv_at hl 2 rfl) ?_
  refine lv_iload_n hx hb dX12_crossed_9 rfl (lv_at hl 3 rfl) ?_
  obtain ⟨σ4, r5, hg6, hf⟩ := cal_some hf
  refine backI hsb hJ (runV (As := [.int a2, .int a3]) (rest := [.int (σ.2.1 17 a1.toNatClampNeg), .ref (q 0)]) C hJ lk_RX12_332 (cM_frontOf hF hg6) recM_0 rfl rfl (Nat.le_of_ble_eq_true rfl) hl.1 (hR_of (by omega) (by decide)) ⟨Nat.le_refl _, Nat.le_refl _⟩ dX12_crossed_10) (fun H locs hJ => ?_)
  obtain ⟨σ7, r8, hg9, hf⟩ := cal_some hf
  refine backI hsb hJ (runV (As := [.int (σ.2.1 17 a1.toNatClampNeg), .int r5]) (rest := []) C hJ lk_RX12_353 (cM_seen hF hg9) recM_0 rfl rfl (Nat.le_of_ble_eq_true rfl) hl.1 (hR_of (by omega) (by decide)) ⟨Nat.le_refl _, Nat.le_refl _⟩ dX12_crossed_13) (fun H locs hJ => ?_)
  refine lv_istore (lv' := [(5, .int r8), (0, .ref (q 0)), (1, .int a1), (2, .int a2), (3, .int a3), (4, .int a4)]) hx hb dX12_crossed_16 hl (by decide) rfl (fun ls hl => ?_)
  refine lv_iload hx hb dX12_crossed_18 (lv_at hl 5 rfl) ?_
  refine lv_if_eq (tgt := 37) hx hb dX12_crossed_20 (by decide) (fun c10 => ?_) (fun c10 => ?_)
  · have hf := ite_t hf c10
    refine lv_iconst (v := 0) hx hb dX12_crossed_37 (by decide) ?_
    exact j38 σ7 a2 r8 (0 : Int32) _ _ _ hf hJ (lv_sub hl [1, 3, 0] rfl)
  · have hf := ite_f hf c10
    refine lv_aload_n hx hb dX12_crossed_23 rfl (lv_at hl 1 rfl) ?_
    refine gM_0_32 C hJ fl_RX12_44 dX12_crossed_24 ?_
    refine lv_aload_n hx hb dX12_crossed_27 rfl (lv_at hl 1 rfl) ?_
    refine gM_0_40 C hJ fl_RX12_65 dX12_crossed_28 ?_
    refine lv_iload_n hx hb dX12_crossed_31 rfl (lv_at hl 2 rfl) ?_
    obtain ⟨h11, hf⟩ := gi_some hf
    refine aM_18 C hJ h11 dX12_crossed_32 ?_
    obtain ⟨h12, hf⟩ := gi_some hf
    refine aM_11 C hJ h12 dX12_crossed_33 ?_
    refine lv_goto (tgt := 38) hx hb dX12_crossed_34 (by decide) ?_
    exact j38 σ7 a2 r8 (σ7.2.1 11 (σ7.2.1 18 a1.toNatClampNeg).toNatClampNeg) _ _ _ hf hJ (lv_sub hl [1, 3, 0] rfl)
set_option maxHeartbeats 4000000 in
set_option maxRecDepth 100000 in
theorem cM_marginBy {l : Launch} {D : va_G} {cA cB : ClassId} {q : Nat → Nat} {A : Nat → Prop} {E : State → Prop} {N : Nat} {σ σ' : St} {r : Int32} {a1 : Int32} {a2 : Int32} (hF : Fr (wM q cA cB) A E) (hf : fM_marginBy N σ a1 a2 = some (σ', r)) : MI l yX12_marginBy cX12_marginBy 5 .int 54 D (tyM cA cB) (wM q cA cB) A E [.ref (q 0), .int a1, .int a2] σ σ' r := by
  refine MI_of (by decide) hF (Nat.le_of_ble_eq_true rfl) ?_
  intro p e s m args below meth c Q C hret hJ ls hl
  obtain ⟨hx, hb, hml, hown, hts, hK, hE, -⟩ := id C
  have hsb : ∀ z, A z → A z := fun _ h => h
  have hl : lv_has ls 5 [(0, .ref (q 0)), (1, .int a1), (2, .int a2)] := hl
  unfold fM_marginBy at hf
  refine lv_aload_n hx hb dX12_marginBy_0 rfl (lv_at hl 0 rfl) ?_
  refine lv_aload_n hx hb dX12_marginBy_1 rfl (lv_at hl 0 rfl) ?_
  refine gM_0_39 C hJ fl_RX12_62 dX12_marginBy_2 ?_
  refine lv_iload_n hx hb dX12_marginBy_5 rfl (lv_at hl 1 rfl) ?_
  obtain ⟨h1, hf⟩ := gi_some hf
  refine aM_17 C hJ h1 dX12_marginBy_6 ?_
  refine lv_aload_n hx hb dX12_marginBy_7 rfl (lv_at hl 0 rfl) ?_
  refine gM_0_38 C hJ fl_RX12_59 dX12_marginBy_8 ?_
  refine lv_iload_n hx hb dX12_marginBy_11 rfl (lv_at hl 1 rfl) ?_
  obtain ⟨h2, hf⟩ := gi_some hf
  refine aM_16 C hJ h2 dX12_marginBy_12 ?_
  obtain ⟨σ3, r4, hg5, hf⟩ := cal_some hf
  refine backI hsb hJ (runV (As := [.int (σ.2.1 17 a1.toNatClampNeg), .int (σ.2.1 16 a1.toNatClampNeg)]) (rest := []) C hJ lk_RX12_346 (cM_frameOf hF hg5) recM_0 rfl rfl (Nat.le_of_ble_eq_true rfl) hl.1 (hR_of (by omega) (by decide)) ⟨Nat.le_refl _, Nat.le_refl _⟩ dX12_marginBy_13) (fun H locs hJ => ?_)
  refine lv_istore_n (lv' := [(3, .int r4), (0, .ref (q 0)), (1, .int a1), (2, .int a2)]) hx hb dX12_marginBy_16 rfl hl (by decide) rfl (fun ls hl => ?_)
  refine lv_iconst (v := 2) hx hb dX12_marginBy_17 (by decide) ?_
  refine lv_aload_n hx hb dX12_marginBy_18 rfl (lv_at hl 1 rfl) ?_
  refine gM_0_9 C hJ fl_RX12_29 dX12_marginBy_19 ?_
  refine lv_aload_n hx hb dX12_marginBy_22 rfl (lv_at hl 1 rfl) ?_
  refine gM_0_36 C hJ fl_RX12_53 dX12_marginBy_23 ?_
  refine lv_iload_n hx hb dX12_marginBy_26 rfl (lv_at hl 2 rfl) ?_
  obtain ⟨h6, hf⟩ := gi_some hf
  refine aM_14 C hJ h6 dX12_marginBy_27 ?_
  obtain ⟨h7, hf⟩ := gi_some hf
  refine aM_6 C hJ h7 dX12_marginBy_28 ?_
  refine lv_aload_n hx hb dX12_marginBy_29 rfl (lv_at hl 1 rfl) ?_
  refine gM_0_9 C hJ fl_RX12_29 dX12_marginBy_30 ?_
  refine lv_aload_n hx hb dX12_marginBy_33 rfl (lv_at hl 1 rfl) ?_
  refine gM_0_37 C hJ fl_RX12_56 dX12_marginBy_34 ?_
  refine lv_iload_n hx hb dX12_marginBy_37 rfl (lv_at hl 2 rfl) ?_
  obtain ⟨h8, hf⟩ := gi_some hf
  refine aM_15 C hJ h8 dX12_marginBy_38 ?_
  obtain ⟨h9, hf⟩ := gi_some hf
  refine aM_6 C hJ h9 dX12_marginBy_39 ?_
  refine lv_isub hx hb dX12_marginBy_40 ?_
  refine lv_imul hx hb dX12_marginBy_41 ?_
  refine lv_topi (fun x10 hx10 => ?_)
  have hf := bnd_at hf hx10
  refine lv_istore (lv' := [(4, .int x10), (3, .int r4), (0, .ref (q 0)), (1, .int a1), (2, .int a2)]) hx hb dX12_marginBy_42 hl (by decide) rfl (fun ls hl => ?_)
  refine lv_iload_n hx hb dX12_marginBy_44 rfl (lv_at hl 4 rfl) ?_
  by_cases c11 : a2 = (1 : Int32)
  · have hf := ite_t hf c11
    refine lv_tableIn (off := 35) (tgt := 80) hx hb dX12_marginBy_45 (by rw [c11]; decide) (by rw [c11]; decide) (by rw [c11]; rfl) (by decide) ?_
    refine lv_aload_n hx hb dX12_marginBy_80 rfl (lv_at hl 2 rfl) ?_
    refine lv_iload_n hx hb dX12_marginBy_81 rfl (lv_at hl 3 rfl) ?_
    refine lv_aload_n hx hb dX12_marginBy_82 rfl (lv_at hl 2 rfl) ?_
    refine gM_0_38 C hJ fl_RX12_59 dX12_marginBy_83 ?_
    refine lv_iload_n hx hb dX12_marginBy_86 rfl (lv_at hl 3 rfl) ?_
    obtain ⟨h12, hf⟩ := gi_some hf
    refine aM_16 C hJ h12 dX12_marginBy_87 ?_
    obtain ⟨σ13, r14, hg15, hf⟩ := cal_some hf
    refine backI hsb hJ (runV (As := [.int a1, .int (σ3.2.1 16 a1.toNatClampNeg)]) (rest := []) C hJ lk_RX12_366 (cM_trueMargin hF hg15) recM_0 rfl rfl (Nat.le_of_ble_eq_true rfl) hl.1 (hR_of (by omega) (by decide)) ⟨Nat.le_refl _, Nat.le_refl _⟩ dX12_marginBy_88) (fun H locs hJ => ?_)
    refine lv_iload hx hb dX12_marginBy_91 (lv_at hl 0 rfl) ?_
    refine lv_iadd hx hb dX12_marginBy_93 ?_
    exact ret_I hret hJ hf rfl dX12_marginBy_94
  have hf := ite_f hf c11
  by_cases c16 : a2 = (2 : Int32)
  · have hf := ite_t hf c16
    refine lv_tableIn (off := 68) (tgt := 113) hx hb dX12_marginBy_45 (by rw [c16]; decide) (by rw [c16]; decide) (by rw [c16]; rfl) (by decide) ?_
    refine lv_aload_n hx hb dX12_marginBy_113 rfl (lv_at hl 2 rfl) ?_
    refine lv_iload_n hx hb dX12_marginBy_114 rfl (lv_at hl 3 rfl) ?_
    refine lv_aload_n hx hb dX12_marginBy_115 rfl (lv_at hl 2 rfl) ?_
    refine gM_0_36 C hJ fl_RX12_53 dX12_marginBy_116 ?_
    refine lv_iload_n hx hb dX12_marginBy_119 rfl (lv_at hl 3 rfl) ?_
    obtain ⟨h17, hf⟩ := gi_some hf
    refine aM_14 C hJ h17 dX12_marginBy_120 ?_
    refine lv_iload_n hx hb dX12_marginBy_121 rfl (lv_at hl 1 rfl) ?_
    refine lv_iconst (v := 1) hx hb dX12_marginBy_122 (by decide) ?_
    obtain ⟨σ18, r19, hg20, hf⟩ := cal_some hf
    refine backI hsb hJ (runV (As := [.int a1, .int (σ3.2.1 14 a1.toNatClampNeg), .int r4, .int (1 : Int32)]) (rest := []) C hJ lk_RX12_369 (cM_crossed hF hg20) recM_0 rfl rfl (Nat.le_of_ble_eq_true rfl) hl.1 (hR_of (by omega) (by decide)) ⟨Nat.le_refl _, Nat.le_refl _⟩ dX12_marginBy_123) (fun H locs hJ => ?_)
    refine lv_aload_n hx hb dX12_marginBy_126 rfl (lv_at hl 2 rfl) ?_
    refine lv_iload_n hx hb dX12_marginBy_127 rfl (lv_at hl 3 rfl) ?_
    refine lv_aload_n hx hb dX12_marginBy_128 rfl (lv_at hl 2 rfl) ?_
    refine gM_0_37 C hJ fl_RX12_56 dX12_marginBy_129 ?_
    refine lv_iload_n hx hb dX12_marginBy_132 rfl (lv_at hl 3 rfl) ?_
    obtain ⟨h21, hf⟩ := gi_some hf
    refine aM_15 C hJ h21 dX12_marginBy_133 ?_
    refine lv_iload_n hx hb dX12_marginBy_134 rfl (lv_at hl 1 rfl) ?_
    refine lv_iconst (v := 1) hx hb dX12_marginBy_135 (by decide) ?_
    obtain ⟨σ22, r23, hg24, hf⟩ := cal_some hf
    refine backI hsb hJ (runV (As := [.int a1, .int (σ18.2.1 15 a1.toNatClampNeg), .int r4, .int (1 : Int32)]) (rest := [.int r19]) C hJ lk_RX12_369 (cM_crossed hF hg24) recM_0 rfl rfl (Nat.le_of_ble_eq_true rfl) hl.1 (hR_of (by omega) (by decide)) ⟨Nat.le_refl _, Nat.le_refl _⟩ dX12_marginBy_136) (fun H locs hJ => ?_)
    refine lv_isub hx hb dX12_marginBy_139 ?_
    exact ret_I hret hJ hf rfl dX12_marginBy_140
  have hf := ite_f hf c16
  by_cases c25 : a2 = (3 : Int32)
  · have hf := ite_t hf c25
    refine lv_tableIn (off := 68) (tgt := 113) hx hb dX12_marginBy_45 (by rw [c25]; decide) (by rw [c25]; decide) (by rw [c25]; rfl) (by decide) ?_
    refine lv_aload_n hx hb dX12_marginBy_113 rfl (lv_at hl 2 rfl) ?_
    refine lv_iload_n hx hb dX12_marginBy_114 rfl (lv_at hl 3 rfl) ?_
    refine lv_aload_n hx hb dX12_marginBy_115 rfl (lv_at hl 2 rfl) ?_
    refine gM_0_36 C hJ fl_RX12_53 dX12_marginBy_116 ?_
    refine lv_iload_n hx hb dX12_marginBy_119 rfl (lv_at hl 3 rfl) ?_
    obtain ⟨h26, hf⟩ := gi_some hf
    refine aM_14 C hJ h26 dX12_marginBy_120 ?_
    refine lv_iload_n hx hb dX12_marginBy_121 rfl (lv_at hl 1 rfl) ?_
    refine lv_iconst (v := 1) hx hb dX12_marginBy_122 (by decide) ?_
    obtain ⟨σ27, r28, hg29, hf⟩ := cal_some hf
    refine backI hsb hJ (runV (As := [.int a1, .int (σ3.2.1 14 a1.toNatClampNeg), .int r4, .int (1 : Int32)]) (rest := []) C hJ lk_RX12_369 (cM_crossed hF hg29) recM_0 rfl rfl (Nat.le_of_ble_eq_true rfl) hl.1 (hR_of (by omega) (by decide)) ⟨Nat.le_refl _, Nat.le_refl _⟩ dX12_marginBy_123) (fun H locs hJ => ?_)
    refine lv_aload_n hx hb dX12_marginBy_126 rfl (lv_at hl 2 rfl) ?_
    refine lv_iload_n hx hb dX12_marginBy_127 rfl (lv_at hl 3 rfl) ?_
    refine lv_aload_n hx hb dX12_marginBy_128 rfl (lv_at hl 2 rfl) ?_
    refine gM_0_37 C hJ fl_RX12_56 dX12_marginBy_129 ?_
    refine lv_iload_n hx hb dX12_marginBy_132 rfl (lv_at hl 3 rfl) ?_
    obtain ⟨h30, hf⟩ := gi_some hf
    refine aM_15 C hJ h30 dX12_marginBy_133 ?_
    refine lv_iload_n hx hb dX12_marginBy_134 rfl (lv_at hl 1 rfl) ?_
    refine lv_iconst (v := 1) hx hb dX12_marginBy_135 (by decide) ?_
    obtain ⟨σ31, r32, hg33, hf⟩ := cal_some hf
    refine backI hsb hJ (runV (As := [.int a1, .int (σ27.2.1 15 a1.toNatClampNeg), .int r4, .int (1 : Int32)]) (rest := [.int r28]) C hJ lk_RX12_369 (cM_crossed hF hg33) recM_0 rfl rfl (Nat.le_of_ble_eq_true rfl) hl.1 (hR_of (by omega) (by decide)) ⟨Nat.le_refl _, Nat.le_refl _⟩ dX12_marginBy_136) (fun H locs hJ => ?_)
    refine lv_isub hx hb dX12_marginBy_139 ?_
    exact ret_I hret hJ hf rfl dX12_marginBy_140
  have hf := ite_f hf c25
  by_cases c34 : a2 = (4 : Int32)
  · have hf := ite_t hf c34
    refine lv_tableIn (off := 50) (tgt := 95) hx hb dX12_marginBy_45 (by rw [c34]; decide) (by rw [c34]; decide) (by rw [c34]; rfl) (by decide) ?_
    refine lv_aload_n hx hb dX12_marginBy_95 rfl (lv_at hl 2 rfl) ?_
    refine lv_iload_n hx hb dX12_marginBy_96 rfl (lv_at hl 3 rfl) ?_
    refine lv_aload_n hx hb dX12_marginBy_97 rfl (lv_at hl 2 rfl) ?_
    refine gM_0_38 C hJ fl_RX12_59 dX12_marginBy_98 ?_
    refine lv_iload_n hx hb dX12_marginBy_101 rfl (lv_at hl 3 rfl) ?_
    obtain ⟨h35, hf⟩ := gi_some hf
    refine aM_16 C hJ h35 dX12_marginBy_102 ?_
    obtain ⟨σ36, r37, hg38, hf⟩ := cal_some hf
    refine backI hsb hJ (runV (As := [.int a1, .int (σ3.2.1 16 a1.toNatClampNeg)]) (rest := []) C hJ lk_RX12_366 (cM_trueMargin hF hg38) recM_0 rfl rfl (Nat.le_of_ble_eq_true rfl) hl.1 (hR_of (by omega) (by decide)) ⟨Nat.le_refl _, Nat.le_refl _⟩ dX12_marginBy_103) (fun H locs hJ => ?_)
    refine lv_iload hx hb dX12_marginBy_106 (lv_at hl 0 rfl) ?_
    refine lv_iadd hx hb dX12_marginBy_108 ?_
    refine lv_bipush (v := 10) hx hb dX12_marginBy_109 (by decide) ?_
    refine lv_isub hx hb dX12_marginBy_111 ?_
    exact ret_I hret hJ hf rfl dX12_marginBy_112
  have hf := ite_f hf c34
  by_cases c39 : a2 = (5 : Int32)
  · have hf := ite_t hf c39
    refine lv_tableIn (off := 96) (tgt := 141) hx hb dX12_marginBy_45 (by rw [c39]; decide) (by rw [c39]; decide) (by rw [c39]; rfl) (by decide) ?_
    refine lv_aload_n hx hb dX12_marginBy_141 rfl (lv_at hl 2 rfl) ?_
    refine lv_iload_n hx hb dX12_marginBy_142 rfl (lv_at hl 3 rfl) ?_
    refine lv_aload_n hx hb dX12_marginBy_143 rfl (lv_at hl 2 rfl) ?_
    refine gM_0_36 C hJ fl_RX12_53 dX12_marginBy_144 ?_
    refine lv_iload_n hx hb dX12_marginBy_147 rfl (lv_at hl 3 rfl) ?_
    obtain ⟨h40, hf⟩ := gi_some hf
    refine aM_14 C hJ h40 dX12_marginBy_148 ?_
    refine lv_iload_n hx hb dX12_marginBy_149 rfl (lv_at hl 1 rfl) ?_
    refine lv_iconst (v := 0) hx hb dX12_marginBy_150 (by decide) ?_
    obtain ⟨σ41, r42, hg43, hf⟩ := cal_some hf
    refine backI hsb hJ (runV (As := [.int a1, .int (σ3.2.1 14 a1.toNatClampNeg), .int r4, .int (0 : Int32)]) (rest := []) C hJ lk_RX12_369 (cM_crossed hF hg43) recM_0 rfl rfl (Nat.le_of_ble_eq_true rfl) hl.1 (hR_of (by omega) (by decide)) ⟨Nat.le_refl _, Nat.le_refl _⟩ dX12_marginBy_151) (fun H locs hJ => ?_)
    refine lv_aload_n hx hb dX12_marginBy_154 rfl (lv_at hl 2 rfl) ?_
    refine lv_iload_n hx hb dX12_marginBy_155 rfl (lv_at hl 3 rfl) ?_
    refine lv_aload_n hx hb dX12_marginBy_156 rfl (lv_at hl 2 rfl) ?_
    refine gM_0_37 C hJ fl_RX12_56 dX12_marginBy_157 ?_
    refine lv_iload_n hx hb dX12_marginBy_160 rfl (lv_at hl 3 rfl) ?_
    obtain ⟨h44, hf⟩ := gi_some hf
    refine aM_15 C hJ h44 dX12_marginBy_161 ?_
    refine lv_iload_n hx hb dX12_marginBy_162 rfl (lv_at hl 1 rfl) ?_
    refine lv_iconst (v := 0) hx hb dX12_marginBy_163 (by decide) ?_
    obtain ⟨σ45, r46, hg47, hf⟩ := cal_some hf
    refine backI hsb hJ (runV (As := [.int a1, .int (σ41.2.1 15 a1.toNatClampNeg), .int r4, .int (0 : Int32)]) (rest := [.int r42]) C hJ lk_RX12_369 (cM_crossed hF hg47) recM_0 rfl rfl (Nat.le_of_ble_eq_true rfl) hl.1 (hR_of (by omega) (by decide)) ⟨Nat.le_refl _, Nat.le_refl _⟩ dX12_marginBy_164) (fun H locs hJ => ?_)
    refine lv_isub hx hb dX12_marginBy_167 ?_
    refine lv_iconst (v := 2) hx hb dX12_marginBy_168 (by decide) ?_
    refine lv_isub hx hb dX12_marginBy_169 ?_
    exact ret_I hret hJ hf rfl dX12_marginBy_170
  have hf := ite_f hf c39
  refine lv_tableOut (tgt := 171) hx hb dX12_marginBy_45 (by have ec11 : a2.toInt ≠ 1 := fun h => c11 (Int32.toInt_inj.mp (h.trans (by decide))); have ec16 : a2.toInt ≠ 2 := fun h => c16 (Int32.toInt_inj.mp (h.trans (by decide))); have ec25 : a2.toInt ≠ 3 := fun h => c25 (Int32.toInt_inj.mp (h.trans (by decide))); have ec34 : a2.toInt ≠ 4 := fun h => c34 (Int32.toInt_inj.mp (h.trans (by decide))); have ec39 : a2.toInt ≠ 5 := fun h => c39 (Int32.toInt_inj.mp (h.trans (by decide))); omega) (by decide) ?_
  refine lv_aload_n hx hb dX12_marginBy_171 rfl (lv_at hl 2 rfl) ?_
  refine lv_iload_n hx hb dX12_marginBy_172 rfl (lv_at hl 3 rfl) ?_
  refine lv_aload_n hx hb dX12_marginBy_173 rfl (lv_at hl 2 rfl) ?_
  refine gM_0_38 C hJ fl_RX12_59 dX12_marginBy_174 ?_
  refine lv_iload_n hx hb dX12_marginBy_177 rfl (lv_at hl 3 rfl) ?_
  obtain ⟨h48, hf⟩ := gi_some hf
  refine aM_16 C hJ h48 dX12_marginBy_178 ?_
  obtain ⟨σ49, r50, hg51, hf⟩ := cal_some hf
  refine backI hsb hJ (runV (As := [.int a1, .int (σ3.2.1 16 a1.toNatClampNeg)]) (rest := []) C hJ lk_RX12_366 (cM_trueMargin hF hg51) recM_0 rfl rfl (Nat.le_of_ble_eq_true rfl) hl.1 (hR_of (by omega) (by decide)) ⟨Nat.le_refl _, Nat.le_refl _⟩ dX12_marginBy_179) (fun H locs hJ => ?_)
  exact ret_I hret hJ hf rfl dX12_marginBy_182
set_option maxHeartbeats 4000000 in
set_option maxRecDepth 100000 in
theorem cM_nearOf {l : Launch} {D : va_G} {cA cB : ClassId} {q : Nat → Nat} {A : Nat → Prop} {E : State → Prop} {N : Nat} {σ σ' : St} {r : Int32} {a1 : Int32} (hF : Fr (wM q cA cB) A E) (hf : fM_nearOf N σ a1 = some (σ', r)) : MI l yX12_nearOf cX12_nearOf 3 .int 52 D (tyM cA cB) (wM q cA cB) A E [.ref (q 0), .int a1] σ σ' r := by
  refine MI_of (by decide) hF (Nat.le_of_ble_eq_true rfl) ?_
  intro p e s m args below meth c Q C hret hJ ls hl
  obtain ⟨hx, hb, hml, hown, hts, hK, hE, -⟩ := id C
  have hsb : ∀ z, A z → A z := fun _ h => h
  have hl : lv_has ls 3 [(0, .ref (q 0)), (1, .int a1)] := hl
  unfold fM_nearOf at hf
  refine lv_aload_n hx hb dX12_nearOf_0 rfl (lv_at hl 0 rfl) ?_
  refine lv_aload_n hx hb dX12_nearOf_1 rfl (lv_at hl 0 rfl) ?_
  refine gM_0_4 C hJ fl_RX12_303 dX12_nearOf_2 ?_
  refine lv_aload_n hx hb dX12_nearOf_5 rfl (lv_at hl 0 rfl) ?_
  refine gM_0_36 C hJ fl_RX12_53 dX12_nearOf_6 ?_
  refine lv_iload_n hx hb dX12_nearOf_9 rfl (lv_at hl 1 rfl) ?_
  obtain ⟨h1, hf⟩ := gi_some hf
  refine aM_14 C hJ h1 dX12_nearOf_10 ?_
  refine lv_aload_n hx hb dX12_nearOf_11 rfl (lv_at hl 0 rfl) ?_
  refine lv_aload_n hx hb dX12_nearOf_12 rfl (lv_at hl 0 rfl) ?_
  refine gM_0_36 C hJ fl_RX12_53 dX12_nearOf_13 ?_
  refine lv_iload_n hx hb dX12_nearOf_16 rfl (lv_at hl 1 rfl) ?_
  obtain ⟨h2, hf⟩ := gi_some hf
  refine aM_14 C hJ h2 dX12_nearOf_17 ?_
  refine lv_aload_n hx hb dX12_nearOf_18 rfl (lv_at hl 0 rfl) ?_
  refine gM_0_38 C hJ fl_RX12_59 dX12_nearOf_19 ?_
  refine lv_iload_n hx hb dX12_nearOf_22 rfl (lv_at hl 1 rfl) ?_
  obtain ⟨h3, hf⟩ := gi_some hf
  refine aM_16 C hJ h3 dX12_nearOf_23 ?_
  obtain ⟨σ4, r5, hg6, hf⟩ := cal_some hf
  refine backI hsb hJ (runV (As := [.int (σ.2.1 14 a1.toNatClampNeg), .int (σ.2.1 16 a1.toNatClampNeg)]) (rest := [.int (σ.2.1 14 a1.toNatClampNeg), .int (σ.1 2), .ref (q 0)]) C hJ lk_RX12_325 (cM_foremost hF hg6) recM_0 rfl rfl (Nat.le_of_ble_eq_true rfl) hl.1 (hR_of (by omega) (by decide)) ⟨Nat.le_refl _, Nat.le_refl _⟩ dX12_nearOf_24) (fun H locs hJ => ?_)
  refine lv_aload_n hx hb dX12_nearOf_27 rfl (lv_at hl 0 rfl) ?_
  refine gM_0_38 C hJ fl_RX12_59 dX12_nearOf_28 ?_
  refine lv_iload_n hx hb dX12_nearOf_31 rfl (lv_at hl 1 rfl) ?_
  obtain ⟨h7, hf⟩ := gi_some hf
  refine aM_16 C hJ h7 dX12_nearOf_32 ?_
  refine lv_iconst (v := 1) hx hb dX12_nearOf_33 (by decide) ?_
  obtain ⟨σ8, r9, hg10, hf⟩ := cal_some hf
  refine backI hsb hJ (runV (As := [.int (σ.1 2), .int (σ.2.1 14 a1.toNatClampNeg), .int r5, .int (σ4.2.1 16 a1.toNatClampNeg), .int (1 : Int32)]) (rest := []) C hJ lk_RX12_299 (cM_read hF hg10) recM_0 rfl rfl (Nat.le_of_ble_eq_true rfl) hl.1 (hR_of (by omega) (by decide)) ⟨Nat.le_refl _, Nat.le_refl _⟩ dX12_nearOf_34) (fun H locs hJ => ?_)
  refine lv_istore_n (lv' := [(2, .int r9), (0, .ref (q 0)), (1, .int a1)]) hx hb dX12_nearOf_37 rfl hl (by decide) rfl (fun ls hl => ?_)
  refine lv_iload_n hx hb dX12_nearOf_38 rfl (lv_at hl 0 rfl) ?_
  refine lv_if_ge (tgt := 46) hx hb dX12_nearOf_39 (by decide) (fun c11 => ?_) (fun c11 => ?_)
  · have hf := ite_t hf c11
    refine lv_iload_n hx hb dX12_nearOf_46 rfl (lv_at hl 0 rfl) ?_
    refine lv_sipush (v := 999) hx hb dX12_nearOf_47 (by decide) ?_
    refine lv_icmp_le (tgt := 59) hx hb dX12_nearOf_50 (by decide) (fun c12 => ?_) (fun c12 => ?_)
    · have hf := ite_t hf c12
      refine lv_iload_n hx hb dX12_nearOf_59 rfl (lv_at hl 0 rfl) ?_
      exact ret_I hret hJ hf rfl dX12_nearOf_60
    · have hf := ite_f hf c12
      refine lv_sipush (v := 999) hx hb dX12_nearOf_53 (by decide) ?_
      refine lv_goto (tgt := 60) hx hb dX12_nearOf_56 (by decide) ?_
      exact ret_I hret hJ hf rfl dX12_nearOf_60
  · have hf := ite_f hf c11
    refine lv_iconst (v := 0) hx hb dX12_nearOf_42 (by decide) ?_
    refine lv_goto (tgt := 60) hx hb dX12_nearOf_43 (by decide) ?_
    exact ret_I hret hJ hf rfl dX12_nearOf_60
set_option maxHeartbeats 4000000 in
set_option maxRecDepth 100000 in
theorem cM_bandBy {l : Launch} {D : va_G} {cA cB : ClassId} {q : Nat → Nat} {A : Nat → Prop} {E : State → Prop} {N : Nat} {σ σ' : St} {r : Int32} {a1 : Int32} {a2 : Int32} (hF : Fr (wM q cA cB) A E) (hf : fM_bandBy N σ a1 a2 = some (σ', r)) : MI l yX12_bandBy cX12_bandBy 3 .int 53 D (tyM cA cB) (wM q cA cB) A E [.ref (q 0), .int a1, .int a2] σ σ' r := by
  refine MI_of (by decide) hF (Nat.le_of_ble_eq_true rfl) ?_
  intro p e s m args below meth c Q C hret hJ ls hl
  obtain ⟨hx, hb, hml, hown, hts, hK, hE, -⟩ := id C
  have hsb : ∀ z, A z → A z := fun _ h => h
  have hl : lv_has ls 3 [(0, .ref (q 0)), (1, .int a1), (2, .int a2)] := hl
  unfold fM_bandBy at hf
  refine lv_iload_n hx hb dX12_bandBy_0 rfl (lv_at hl 2 rfl) ?_
  by_cases c1 : a2 = (2 : Int32)
  · have hf := ite_t hf c1
    refine lv_tableIn (off := 31) (tgt := 32) hx hb dX12_bandBy_1 (by rw [c1]; decide) (by rw [c1]; decide) (by rw [c1]; rfl) (by decide) ?_
    refine lv_iconst (v := 1) hx hb dX12_bandBy_32 (by decide) ?_
    exact ret_I hret hJ hf rfl dX12_bandBy_33
  have hf := ite_f hf c1
  by_cases c2 : a2 = (3 : Int32)
  · have hf := ite_t hf c2
    refine lv_tableIn (off := 33) (tgt := 34) hx hb dX12_bandBy_1 (by rw [c2]; decide) (by rw [c2]; decide) (by rw [c2]; rfl) (by decide) ?_
    refine lv_iconst (v := 1) hx hb dX12_bandBy_34 (by decide) ?_
    refine lv_aload_n hx hb dX12_bandBy_35 rfl (lv_at hl 0 rfl) ?_
    refine lv_iload_n hx hb dX12_bandBy_36 rfl (lv_at hl 1 rfl) ?_
    obtain ⟨σ3, r4, hg5, hf⟩ := cal_some hf
    refine backI hsb hJ (runV (As := [.int a1]) (rest := [.int (1 : Int32)]) C hJ lk_RX12_373 (cM_nearOf hF hg5) recM_0 rfl rfl (Nat.le_of_ble_eq_true rfl) hl.1 (hR_of (by omega) (by decide)) ⟨Nat.le_refl _, Nat.le_refl _⟩ dX12_bandBy_37) (fun H locs hJ => ?_)
    refine lv_iadd hx hb dX12_bandBy_40 ?_
    exact ret_I hret hJ hf rfl dX12_bandBy_41
  have hf := ite_f hf c2
  by_cases c6 : a2 = (4 : Int32)
  · have hf := ite_t hf c6
    refine lv_tableIn (off := 41) (tgt := 42) hx hb dX12_bandBy_1 (by rw [c6]; decide) (by rw [c6]; decide) (by rw [c6]; rfl) (by decide) ?_
    refine lv_iconst (v := 3) hx hb dX12_bandBy_42 (by decide) ?_
    exact ret_I hret hJ hf rfl dX12_bandBy_43
  have hf := ite_f hf c6
  by_cases c7 : a2 = (5 : Int32)
  · have hf := ite_t hf c7
    refine lv_tableIn (off := 31) (tgt := 32) hx hb dX12_bandBy_1 (by rw [c7]; decide) (by rw [c7]; decide) (by rw [c7]; rfl) (by decide) ?_
    refine lv_iconst (v := 1) hx hb dX12_bandBy_32 (by decide) ?_
    exact ret_I hret hJ hf rfl dX12_bandBy_33
  have hf := ite_f hf c7
  refine lv_tableOut (tgt := 44) hx hb dX12_bandBy_1 (by have ec1 : a2.toInt ≠ 2 := fun h => c1 (Int32.toInt_inj.mp (h.trans (by decide))); have ec2 : a2.toInt ≠ 3 := fun h => c2 (Int32.toInt_inj.mp (h.trans (by decide))); have ec6 : a2.toInt ≠ 4 := fun h => c6 (Int32.toInt_inj.mp (h.trans (by decide))); have ec7 : a2.toInt ≠ 5 := fun h => c7 (Int32.toInt_inj.mp (h.trans (by decide))); omega) (by decide) ?_
  refine lv_iconst (v := 0) hx hb dX12_bandBy_44 (by decide) ?_
  exact ret_I hret hJ hf rfl dX12_bandBy_45
set_option maxHeartbeats 4000000 in
set_option maxRecDepth 100000 in
theorem cM_isAhead {l : Launch} {D : va_G} {cA cB : ClassId} {q : Nat → Nat} {A : Nat → Prop} {E : State → Prop} {N : Nat} {σ σ' : St} {r : Int32} {a1 : Int32} {a2 : Int32} (hF : Fr (wM q cA cB) A E) (hf : fM_isAhead N σ a1 a2 = some (σ', r)) : MI l yX12_isAhead cX12_isAhead 3 .boolean 55 D (tyM cA cB) (wM q cA cB) A E [.ref (q 0), .int a1, .int a2] σ σ' r := by
  refine MI_of (by decide) hF (Nat.le_of_ble_eq_true rfl) ?_
  intro p e s m args below meth c Q C hret hJ ls hl
  obtain ⟨hx, hb, hml, hown, hts, hK, hE, -⟩ := id C
  have hsb : ∀ z, A z → A z := fun _ h => h
  have hl : lv_has ls 3 [(0, .ref (q 0)), (1, .int a1), (2, .int a2)] := hl
  unfold fM_isAhead at hf
  refine lv_aload_n hx hb dX12_isAhead_0 rfl (lv_at hl 0 rfl) ?_
  refine lv_iload_n hx hb dX12_isAhead_1 rfl (lv_at hl 1 rfl) ?_
  refine lv_iload_n hx hb dX12_isAhead_2 rfl (lv_at hl 2 rfl) ?_
  obtain ⟨σ1, r2, hg3, hf⟩ := cal_some hf
  refine backI hsb hJ (runV (As := [.int a1, .int a2]) (rest := []) C hJ lk_RX12_376 (cM_marginBy hF hg3) recM_0 rfl rfl (Nat.le_of_ble_eq_true rfl) hl.1 (hR_of (by omega) (by decide)) ⟨Nat.le_refl _, Nat.le_refl _⟩ dX12_isAhead_3) (fun H locs hJ => ?_)
  refine lv_aload_n hx hb dX12_isAhead_6 rfl (lv_at hl 0 rfl) ?_
  refine lv_iload_n hx hb dX12_isAhead_7 rfl (lv_at hl 1 rfl) ?_
  refine lv_iload_n hx hb dX12_isAhead_8 rfl (lv_at hl 2 rfl) ?_
  obtain ⟨σ4, r5, hg6, hf⟩ := cal_some hf
  refine backI hsb hJ (runV (As := [.int a1, .int a2]) (rest := [.int r2]) C hJ lk_RX12_379 (cM_bandBy hF hg6) recM_0 rfl rfl (Nat.le_of_ble_eq_true rfl) hl.1 (hR_of (by omega) (by decide)) ⟨Nat.le_refl _, Nat.le_refl _⟩ dX12_isAhead_9) (fun H locs hJ => ?_)
  refine lv_icmp_le (tgt := 19) hx hb dX12_isAhead_12 (by decide) (fun c7 => ?_) (fun c7 => ?_)
  · have hf := ite_t hf c7
    refine lv_iconst (v := 0) hx hb dX12_isAhead_19 (by decide) ?_
    exact ret_I hret hJ hf (nar_z (by decide)) dX12_isAhead_20
  · have hf := ite_f hf c7
    refine lv_iconst (v := 1) hx hb dX12_isAhead_15 (by decide) ?_
    refine lv_goto (tgt := 20) hx hb dX12_isAhead_16 (by decide) ?_
    exact ret_I hret hJ hf (nar_z (by decide)) dX12_isAhead_20
set_option maxHeartbeats 4000000 in
set_option maxRecDepth 100000 in
theorem cM_isOffside {l : Launch} {D : va_G} {cA cB : ClassId} {q : Nat → Nat} {A : Nat → Prop} {E : State → Prop} {N : Nat} {σ σ' : St} {r : Int32} {a1 : Int32} {a2 : Int32} (hF : Fr (wM q cA cB) A E) (hf : fM_isOffside N σ a1 a2 = some (σ', r)) : MI l yX12_isOffside cX12_isOffside 3 .boolean 56 D (tyM cA cB) (wM q cA cB) A E [.ref (q 0), .int a1, .int a2] σ σ' r := by
  refine MI_of (by decide) hF (Nat.le_of_ble_eq_true rfl) ?_
  intro p e s m args below meth c Q C hret hJ ls hl
  obtain ⟨hx, hb, hml, hown, hts, hK, hE, -⟩ := id C
  have hsb : ∀ z, A z → A z := fun _ h => h
  have hl : lv_has ls 3 [(0, .ref (q 0)), (1, .int a1), (2, .int a2)] := hl
  unfold fM_isOffside at hf
  refine lv_aload_n hx hb dX12_isOffside_0 rfl (lv_at hl 0 rfl) ?_
  refine lv_iload_n hx hb dX12_isOffside_1 rfl (lv_at hl 1 rfl) ?_
  refine lv_iload_n hx hb dX12_isOffside_2 rfl (lv_at hl 2 rfl) ?_
  obtain ⟨σ1, r2, hg3, hf⟩ := cal_some hf
  refine backI hsb hJ (runV (As := [.int a1, .int a2]) (rest := []) C hJ lk_RX12_382 (cM_isAhead hF hg3) recM_0 rfl rfl (Nat.le_of_ble_eq_true rfl) hl.1 (hR_of (by omega) (by decide)) ⟨Nat.le_refl _, Nat.le_refl _⟩ dX12_isOffside_3) (fun H locs hJ => ?_)
  refine lv_if_eq (tgt := 53) hx hb dX12_isOffside_6 (by decide) (fun c4 => ?_) (fun c4 => ?_)
  · have hf := ite_t hf c4
    refine lv_iconst (v := 0) hx hb dX12_isOffside_53 (by decide) ?_
    exact ret_I hret hJ hf (nar_z (by decide)) dX12_isOffside_54
  · have hf := ite_f hf c4
    refine lv_aload_n hx hb dX12_isOffside_9 rfl (lv_at hl 0 rfl) ?_
    refine lv_aload_n hx hb dX12_isOffside_10 rfl (lv_at hl 0 rfl) ?_
    refine gM_0_4 C hJ fl_RX12_303 dX12_isOffside_11 ?_
    refine lv_aload_n hx hb dX12_isOffside_14 rfl (lv_at hl 0 rfl) ?_
    refine gM_0_36 C hJ fl_RX12_53 dX12_isOffside_15 ?_
    refine lv_iload_n hx hb dX12_isOffside_18 rfl (lv_at hl 1 rfl) ?_
    obtain ⟨h5, hf⟩ := gi_some hf
    refine aM_14 C hJ h5 dX12_isOffside_19 ?_
    refine lv_aload_n hx hb dX12_isOffside_20 rfl (lv_at hl 0 rfl) ?_
    refine lv_aload_n hx hb dX12_isOffside_21 rfl (lv_at hl 0 rfl) ?_
    refine gM_0_36 C hJ fl_RX12_53 dX12_isOffside_22 ?_
    refine lv_iload_n hx hb dX12_isOffside_25 rfl (lv_at hl 1 rfl) ?_
    obtain ⟨h6, hf⟩ := gi_some hf
    refine aM_14 C hJ h6 dX12_isOffside_26 ?_
    refine lv_aload_n hx hb dX12_isOffside_27 rfl (lv_at hl 0 rfl) ?_
    refine gM_0_38 C hJ fl_RX12_59 dX12_isOffside_28 ?_
    refine lv_iload_n hx hb dX12_isOffside_31 rfl (lv_at hl 1 rfl) ?_
    obtain ⟨h7, hf⟩ := gi_some hf
    refine aM_16 C hJ h7 dX12_isOffside_32 ?_
    obtain ⟨σ8, r9, hg10, hf⟩ := cal_some hf
    refine backI hsb hJ (runV (As := [.int (σ1.2.1 14 a1.toNatClampNeg), .int (σ1.2.1 16 a1.toNatClampNeg)]) (rest := [.int (σ1.2.1 14 a1.toNatClampNeg), .int (σ1.1 2), .ref (q 0)]) C hJ lk_RX12_325 (cM_foremost hF hg10) recM_0 rfl rfl (Nat.le_of_ble_eq_true rfl) hl.1 (hR_of (by omega) (by decide)) ⟨Nat.le_refl _, Nat.le_refl _⟩ dX12_isOffside_33) (fun H locs hJ => ?_)
    refine lv_aload_n hx hb dX12_isOffside_36 rfl (lv_at hl 0 rfl) ?_
    refine gM_0_38 C hJ fl_RX12_59 dX12_isOffside_37 ?_
    refine lv_iload_n hx hb dX12_isOffside_40 rfl (lv_at hl 1 rfl) ?_
    obtain ⟨h11, hf⟩ := gi_some hf
    refine aM_16 C hJ h11 dX12_isOffside_41 ?_
    refine lv_iconst (v := 2) hx hb dX12_isOffside_42 (by decide) ?_
    obtain ⟨σ12, r13, hg14, hf⟩ := cal_some hf
    refine backI hsb hJ (runV (As := [.int (σ1.1 2), .int (σ1.2.1 14 a1.toNatClampNeg), .int r9, .int (σ8.2.1 16 a1.toNatClampNeg), .int (2 : Int32)]) (rest := []) C hJ lk_RX12_299 (cM_read hF hg14) recM_0 rfl rfl (Nat.le_of_ble_eq_true rfl) hl.1 (hR_of (by omega) (by decide)) ⟨Nat.le_refl _, Nat.le_refl _⟩ dX12_isOffside_43) (fun H locs hJ => ?_)
    refine lv_if_eq (tgt := 53) hx hb dX12_isOffside_46 (by decide) (fun c15 => ?_) (fun c15 => ?_)
    · have hf := ite_t hf c15
      refine lv_iconst (v := 0) hx hb dX12_isOffside_53 (by decide) ?_
      exact ret_I hret hJ hf (nar_z (by decide)) dX12_isOffside_54
    · have hf := ite_f hf c15
      refine lv_iconst (v := 1) hx hb dX12_isOffside_49 (by decide) ?_
      refine lv_goto (tgt := 54) hx hb dX12_isOffside_50 (by decide) ?_
      exact ret_I hret hJ hf (nar_z (by decide)) dX12_isOffside_54
set_option maxHeartbeats 4000000 in
set_option maxRecDepth 100000 in
theorem cM_waysOf {l : Launch} {D : va_G} {cA cB : ClassId} {q : Nat → Nat} {A : Nat → Prop} {E : State → Prop} {N : Nat} {σ σ' : St} {r : Int32} {a1 : Int32} (hF : Fr (wM q cA cB) A E) (hf : fM_waysOf N σ a1 = some (σ', r)) : MI l yX12_waysOf cX12_waysOf 8 .int 55 D (tyM cA cB) (wM q cA cB) A E [.ref (q 0), .int a1] σ σ' r := by
  refine MI_of (by decide) hF (Nat.le_of_ble_eq_true rfl) ?_
  intro p e s m args below meth c Q C hret hJ ls hl
  obtain ⟨hx, hb, hml, hown, hts, hK, hE, -⟩ := id C
  have hsb : ∀ z, A z → A z := fun _ h => h
  have l39 : ∀ (n : Nat) (σ : St) (a2 : Int32) (a3 : Int32) (a4 : Int32) (a5 : Int32) (a6 : Int32) (H : Heap) (locs : List Loc) (ls : Array Slot), fM_waysOf_l39 N  n σ a2 a3 a4 a5 a6 = some (σ', r) → J D (wM q cA cB) A s σ H locs → lv_has ls 8 [(2, .int a2), (3, .int a3), (4, .int a4), (5, .int a5), (6, .int a6)] → W p l e (rmH 55) s m args below meth c H locs 0 0 Q (F0 m 39 ls []) := by
    intro n39
    induction n39 with
    | zero => intro σ a2 a3 a4 a5 a6 H locs ls hf; rw [fM_waysOf_l39] at hf; cases hf
    | succ n39 ih39 =>
      have j85 : ∀ (σ : St) (a2 : Int32) (a3 : Int32) (a4 : Int32) (a5 : Int32) (a6 : Int32) (H : Heap) (locs : List Loc) (ls : Array Slot), fM_waysOf_j85 N (fM_waysOf_l39 N  n39) σ a2 a3 a4 a5 a6 = some (σ', r) → J D (wM q cA cB) A s σ H locs → lv_has ls 8 [(2, .int a2), (3, .int a3), (4, .int a4), (5, .int a5), (6, .int a6)] → W p l e (rmH 55) s m args below meth c H locs 0 0 Q (F0 m 85 ls []) := by
        intro σ a2 a3 a4 a5 a6 H locs ls hf hJ hl
        unfold fM_waysOf_j85 at hf
        obtain ⟨x1, hx1⟩ : ∃ z : Int32, z = a6 + (1 : Int32) := ⟨_, rfl⟩
        have hf := bnd_at hf hx1
        refine lv_iinc (v := x1) (lv' := [(6, .int x1), (2, .int a2), (3, .int a3), (4, .int a4), (5, .int a5)]) hx hb dX12_waysOf_85 hl (k := 4) rfl (by rw [hx1]; rfl) (by decide) rfl (fun ls hl => ?_)
        refine lv_goto (tgt := 39) hx hb dX12_waysOf_88 (by decide) ?_
        exact ih39 σ a2 a3 a4 a5 x1 _ _ _ hf hJ (lv_sub hl [1, 2, 3, 4, 0] rfl)
      have l51 : ∀ (n : Nat) (σ : St) (a2 : Int32) (a3 : Int32) (a4 : Int32) (a5 : Int32) (a6 : Int32) (a7 : Int32) (H : Heap) (locs : List Loc) (ls : Array Slot), fM_waysOf_l51 N (fM_waysOf_l39 N  n39) n σ a2 a3 a4 a5 a6 a7 = some (σ', r) → J D (wM q cA cB) A s σ H locs → lv_has ls 8 [(2, .int a2), (3, .int a3), (4, .int a4), (5, .int a5), (6, .int a6), (7, .int a7)] → W p l e (rmH 55) s m args below meth c H locs 0 0 Q (F0 m 51 ls []) := by
        intro n51
        induction n51 with
        | zero => intro σ a2 a3 a4 a5 a6 a7 H locs ls hf; rw [fM_waysOf_l51] at hf; cases hf
        | succ n51 ih51 =>
          have j76 : ∀ (σ : St) (a2 : Int32) (a3 : Int32) (a4 : Int32) (a6 : Int32) (a7 : Int32) (t0 : Int32) (t1 : Int32) (H : Heap) (locs : List Loc) (ls : Array Slot), fM_waysOf_j76 N (fM_waysOf_l39 N  n39) (fM_waysOf_l51 N (fM_waysOf_l39 N  n39) n51) σ a2 a3 a4 a6 a7 t0 t1 = some (σ', r) → J D (wM q cA cB) A s σ H locs → lv_has ls 8 [(2, .int a2), (3, .int a3), (4, .int a4), (6, .int a6), (7, .int a7)] → W p l e (rmH 55) s m args below meth c H locs 0 0 Q (F0 m 76 ls [.int t1, .int t0]) := by
            intro σ a2 a3 a4 a6 a7 t0 t1 H locs ls hf hJ hl
            unfold fM_waysOf_j76 at hf
            refine lv_iadd hx hb dX12_waysOf_76 ?_
            refine lv_topi (fun x2 hx2 => ?_)
            have hf := bnd_at hf hx2
            refine lv_istore (lv' := [(5, .int x2), (2, .int a2), (3, .int a3), (4, .int a4), (6, .int a6), (7, .int a7)]) hx hb dX12_waysOf_77 hl (by decide) rfl (fun ls hl => ?_)
            obtain ⟨x3, hx3⟩ : ∃ z : Int32, z = a7 + (1 : Int32) := ⟨_, rfl⟩
            have hf := bnd_at hf hx3
            refine lv_iinc (v := x3) (lv' := [(7, .int x3), (5, .int x2), (2, .int a2), (3, .int a3), (4, .int a4), (6, .int a6)]) hx hb dX12_waysOf_79 hl (k := 5) rfl (by rw [hx3]; rfl) (by decide) rfl (fun ls hl => ?_)
            refine lv_goto (tgt := 51) hx hb dX12_waysOf_82 (by decide) ?_
            exact ih51 σ a2 a3 a4 x2 a6 x3 _ _ _ hf hJ (lv_sub hl [2, 3, 4, 1, 5, 0] rfl)
          intro σ a2 a3 a4 a5 a6 a7 H locs ls hf hJ hl
          rw [fM_waysOf_l51] at hf
          refine lv_iload hx hb dX12_waysOf_51 (lv_at hl 5 rfl) ?_
          refine lv_iload hx hb dX12_waysOf_53 (lv_at hl 2 rfl) ?_
          refine lv_icmp_gt (tgt := 85) hx hb dX12_waysOf_55 (by decide) (fun c4 => ?_) (fun c4 => ?_)
          · have hf := ite_t hf c4
            exact j85 σ a2 a3 a4 a5 a6 _ _ _ hf hJ (lv_sub hl [0, 1, 2, 3, 4] rfl)
          · have hf := ite_f hf c4
            refine lv_iload hx hb dX12_waysOf_58 (lv_at hl 3 rfl) ?_
            refine lv_iload_n hx hb dX12_waysOf_60 rfl (lv_at hl 0 rfl) ?_
            refine lv_iload hx hb dX12_waysOf_61 (lv_at hl 4 rfl) ?_
            refine lv_iadd hx hb dX12_waysOf_63 ?_
            refine lv_iload hx hb dX12_waysOf_64 (lv_at hl 5 rfl) ?_
            refine lv_isub hx hb dX12_waysOf_66 ?_
            refine lv_iload_n hx hb dX12_waysOf_67 rfl (lv_at hl 1 rfl) ?_
            refine lv_icmp_le (tgt := 75) hx hb dX12_waysOf_68 (by decide) (fun c5 => ?_) (fun c5 => ?_)
            · have hf := ite_t hf c5
              refine lv_iconst (v := 0) hx hb dX12_waysOf_75 (by decide) ?_
              exact j76 σ a2 a3 a4 a6 a7 a5 (0 : Int32) _ _ _ hf hJ (lv_sub hl [0, 1, 2, 4, 5] rfl)
            · have hf := ite_f hf c5
              refine lv_iconst (v := 1) hx hb dX12_waysOf_71 (by decide) ?_
              refine lv_goto (tgt := 76) hx hb dX12_waysOf_72 (by decide) ?_
              exact j76 σ a2 a3 a4 a6 a7 a5 (1 : Int32) _ _ _ hf hJ (lv_sub hl [0, 1, 2, 4, 5] rfl)
      intro σ a2 a3 a4 a5 a6 H locs ls hf hJ hl
      rw [fM_waysOf_l39] at hf
      refine lv_iload hx hb dX12_waysOf_39 (lv_at hl 4 rfl) ?_
      refine lv_iload hx hb dX12_waysOf_41 (lv_at hl 2 rfl) ?_
      refine lv_icmp_gt (tgt := 91) hx hb dX12_waysOf_43 (by decide) (fun c6 => ?_) (fun c6 => ?_)
      · have hf := ite_t hf c6
        refine lv_iload hx hb dX12_waysOf_91 (lv_at hl 3 rfl) ?_
        exact ret_I hret hJ hf rfl dX12_waysOf_93
      · have hf := ite_f hf c6
        refine lv_iload hx hb dX12_waysOf_46 (lv_at hl 2 rfl) ?_
        refine lv_ineg hx hb dX12_waysOf_48 ?_
        refine lv_topi (fun x7 hx7 => ?_)
        have hf := bnd_at hf hx7
        refine lv_istore (lv' := [(7, .int x7), (2, .int a2), (3, .int a3), (4, .int a4), (5, .int a5), (6, .int a6)]) hx hb dX12_waysOf_49 hl (by decide) rfl (fun ls hl => ?_)
        exact l51 N σ a2 a3 a4 a5 a6 x7 _ _ _ hf hJ (lv_sub hl [1, 2, 3, 4, 5, 0] rfl)
  have hl : lv_has ls 8 [(0, .ref (q 0)), (1, .int a1)] := hl
  unfold fM_waysOf at hf
  refine lv_aload_n hx hb dX12_waysOf_0 rfl (lv_at hl 0 rfl) ?_
  refine lv_iload_n hx hb dX12_waysOf_1 rfl (lv_at hl 1 rfl) ?_
  refine lv_aload_n hx hb dX12_waysOf_2 rfl (lv_at hl 0 rfl) ?_
  refine gM_0_35 C hJ fl_RX12_50 dX12_waysOf_3 ?_
  refine lv_iload_n hx hb dX12_waysOf_6 rfl (lv_at hl 1 rfl) ?_
  obtain ⟨h8, hf⟩ := gi_some hf
  refine aM_13 C hJ h8 dX12_waysOf_7 ?_
  obtain ⟨σ9, r10, hg11, hf⟩ := cal_some hf
  refine backI hsb hJ (runV (As := [.int a1, .int (σ.2.1 13 a1.toNatClampNeg)]) (rest := []) C hJ lk_RX12_376 (cM_marginBy hF hg11) recM_0 rfl rfl (Nat.le_of_ble_eq_true rfl) hl.1 (hR_of (by omega) (by decide)) ⟨Nat.le_refl _, Nat.le_refl _⟩ dX12_waysOf_8) (fun H locs hJ => ?_)
  refine lv_istore_n (lv' := [(2, .int r10), (0, .ref (q 0)), (1, .int a1)]) hx hb dX12_waysOf_11 rfl hl (by decide) rfl (fun ls hl => ?_)
  refine lv_aload_n hx hb dX12_waysOf_12 rfl (lv_at hl 1 rfl) ?_
  refine lv_iload_n hx hb dX12_waysOf_13 rfl (lv_at hl 2 rfl) ?_
  refine lv_aload_n hx hb dX12_waysOf_14 rfl (lv_at hl 1 rfl) ?_
  refine gM_0_35 C hJ fl_RX12_50 dX12_waysOf_15 ?_
  refine lv_iload_n hx hb dX12_waysOf_18 rfl (lv_at hl 2 rfl) ?_
  obtain ⟨h12, hf⟩ := gi_some hf
  refine aM_13 C hJ h12 dX12_waysOf_19 ?_
  obtain ⟨σ13, r14, hg15, hf⟩ := cal_some hf
  refine backI hsb hJ (runV (As := [.int a1, .int (σ9.2.1 13 a1.toNatClampNeg)]) (rest := []) C hJ lk_RX12_379 (cM_bandBy hF hg15) recM_0 rfl rfl (Nat.le_of_ble_eq_true rfl) hl.1 (hR_of (by omega) (by decide)) ⟨Nat.le_refl _, Nat.le_refl _⟩ dX12_waysOf_20) (fun H locs hJ => ?_)
  refine lv_istore_n (lv' := [(3, .int r14), (2, .int r10), (0, .ref (q 0)), (1, .int a1)]) hx hb dX12_waysOf_23 rfl hl (by decide) rfl (fun ls hl => ?_)
  refine lv_aload_n hx hb dX12_waysOf_24 rfl (lv_at hl 2 rfl) ?_
  refine lv_iload_n hx hb dX12_waysOf_25 rfl (lv_at hl 3 rfl) ?_
  obtain ⟨σ16, r17, hg18, hf⟩ := cal_some hf
  refine backI hsb hJ (runV (As := [.int a1]) (rest := []) C hJ lk_RX12_386 (cM_spreadOf hF hg18) recM_0 rfl rfl (Nat.le_of_ble_eq_true rfl) hl.1 (hR_of (by omega) (by decide)) ⟨Nat.le_refl _, Nat.le_refl _⟩ dX12_waysOf_26) (fun H locs hJ => ?_)
  refine lv_istore (lv' := [(4, .int r17), (3, .int r14), (2, .int r10), (0, .ref (q 0)), (1, .int a1)]) hx hb dX12_waysOf_29 hl (by decide) rfl (fun ls hl => ?_)
  refine lv_iconst (v := 0) hx hb dX12_waysOf_31 (by decide) ?_
  refine lv_istore (lv' := [(5, .int (0 : Int32)), (4, .int r17), (3, .int r14), (2, .int r10), (0, .ref (q 0)), (1, .int a1)]) hx hb dX12_waysOf_32 hl (by decide) rfl (fun ls hl => ?_)
  refine lv_iload hx hb dX12_waysOf_34 (lv_at hl 1 rfl) ?_
  refine lv_ineg hx hb dX12_waysOf_36 ?_
  refine lv_topi (fun x19 hx19 => ?_)
  have hf := bnd_at hf hx19
  refine lv_istore (lv' := [(6, .int x19), (5, .int (0 : Int32)), (4, .int r17), (3, .int r14), (2, .int r10), (0, .ref (q 0)), (1, .int a1)]) hx hb dX12_waysOf_37 hl (by decide) rfl (fun ls hl => ?_)
  exact l39 N σ16 r10 r14 r17 (0 : Int32) x19 _ _ _ hf hJ (lv_sub hl [4, 3, 2, 1, 0] rfl)
set_option maxHeartbeats 4000000 in
set_option maxRecDepth 100000 in
theorem cM_turnsOf {l : Launch} {D : va_G} {cA cB : ClassId} {q : Nat → Nat} {A : Nat → Prop} {E : State → Prop} {N : Nat} {σ σ' : St} {r : Int32} {a1 : Int32} (hF : Fr (wM q cA cB) A E) (hf : fM_turnsOf N σ a1 = some (σ', r)) : MI l yX12_turnsOf cX12_turnsOf 5 .int 56 D (tyM cA cB) (wM q cA cB) A E [.ref (q 0), .int a1] σ σ' r := by
  refine MI_of (by decide) hF (Nat.le_of_ble_eq_true rfl) ?_
  intro p e s m args below meth c Q C hret hJ ls hl
  obtain ⟨hx, hb, hml, hown, hts, hK, hE, -⟩ := id C
  have hsb : ∀ z, A z → A z := fun _ h => h
  have j52 : ∀ (σ : St) (a2 : Int32) (a3 : Int32) (H : Heap) (locs : List Loc) (ls : Array Slot), fM_turnsOf_j52 N  σ a2 a3 = some (σ', r) → J D (wM q cA cB) A s σ H locs → lv_has ls 5 [(0, .ref (q 0)), (2, .int a2), (3, .int a3)] → W p l e (rmH 56) s m args below meth c H locs 0 0 Q (F0 m 52 ls []) := by
    intro σ a2 a3 H locs ls hf hJ hl
    unfold fM_turnsOf_j52 at hf
    refine lv_aload_n hx hb dX12_turnsOf_52 rfl (lv_at hl 0 rfl) ?_
    refine lv_iload_n hx hb dX12_turnsOf_53 rfl (lv_at hl 1 rfl) ?_
    refine pM_0_12 C hJ fl_RX12_247 dX12_turnsOf_54 (fun σ1 H locs hs hJ => ?_)
    have hf := bnd_at hf hs
    refine lv_iload_n hx hb dX12_turnsOf_57 rfl (lv_at hl 2 rfl) ?_
    exact ret_I hret hJ hf rfl dX12_turnsOf_58
  have l10 : ∀ (n : Nat) (σ : St) (a1 : Int32) (a2 : Int32) (a3 : Int32) (a4 : Int32) (H : Heap) (locs : List Loc) (ls : Array Slot), fM_turnsOf_l10 N  n σ a1 a2 a3 a4 = some (σ', r) → J D (wM q cA cB) A s σ H locs → lv_has ls 5 [(0, .ref (q 0)), (1, .int a1), (2, .int a2), (3, .int a3), (4, .int a4)] → W p l e (rmH 56) s m args below meth c H locs 0 0 Q (F0 m 10 ls []) := by
    intro n10
    induction n10 with
    | zero => intro σ a1 a2 a3 a4 H locs ls hf; rw [fM_turnsOf_l10] at hf; cases hf
    | succ n10 ih10 =>
      have j46 : ∀ (σ : St) (a1 : Int32) (a2 : Int32) (a3 : Int32) (a4 : Int32) (H : Heap) (locs : List Loc) (ls : Array Slot), fM_turnsOf_j46 N (fM_turnsOf_l10 N  n10) σ a1 a2 a3 a4 = some (σ', r) → J D (wM q cA cB) A s σ H locs → lv_has ls 5 [(0, .ref (q 0)), (1, .int a1), (2, .int a2), (3, .int a3), (4, .int a4)] → W p l e (rmH 56) s m args below meth c H locs 0 0 Q (F0 m 46 ls []) := by
        intro σ a1 a2 a3 a4 H locs ls hf hJ hl
        unfold fM_turnsOf_j46 at hf
        obtain ⟨x2, hx2⟩ : ∃ z : Int32, z = a4 + (1 : Int32) := ⟨_, rfl⟩
        have hf := bnd_at hf hx2
        refine lv_iinc (v := x2) (lv' := [(4, .int x2), (0, .ref (q 0)), (1, .int a1), (2, .int a2), (3, .int a3)]) hx hb dX12_turnsOf_46 hl (k := 4) rfl (by rw [hx2]; rfl) (by decide) rfl (fun ls hl => ?_)
        refine lv_goto (tgt := 10) hx hb dX12_turnsOf_49 (by decide) ?_
        exact ih10 σ a1 a2 a3 x2 _ _ _ hf hJ (lv_sub hl [1, 2, 3, 4, 0] rfl)
      intro σ a1 a2 a3 a4 H locs ls hf hJ hl
      rw [fM_turnsOf_l10] at hf
      refine lv_iload hx hb dX12_turnsOf_10 (lv_at hl 4 rfl) ?_
      refine lv_sipush (v := 999) hx hb dX12_turnsOf_12 (by decide) ?_
      refine lv_icmp_gt (tgt := 52) hx hb dX12_turnsOf_15 (by decide) (fun c3 => ?_) (fun c3 => ?_)
      · have hf := ite_t hf c3
        exact j52 σ a2 a3 _ _ _ hf hJ (lv_sub hl [0, 2, 3] rfl)
      · have hf := ite_f hf c3
        refine lv_iload_n hx hb dX12_turnsOf_18 rfl (lv_at hl 3 rfl) ?_
        refine lv_iconst (v := -1) hx hb dX12_turnsOf_19 (by decide) ?_
        refine lv_icmp_ne (tgt := 52) hx hb dX12_turnsOf_20 (by decide) (fun c4 => ?_) (fun c4 => ?_)
        · have hf := ite_f hf c4
          exact j52 σ a2 a3 _ _ _ hf hJ (lv_sub hl [0, 2, 3] rfl)
        · have hf := ite_t hf c4
          refine lv_aload_n hx hb dX12_turnsOf_23 rfl (lv_at hl 0 rfl) ?_
          refine lv_iload hx hb dX12_turnsOf_24 (lv_at hl 4 rfl) ?_
          refine pM_0_12 C hJ fl_RX12_247 dX12_turnsOf_26 (fun σ5 H locs hs hJ => ?_)
          have hf := bnd_at hf hs
          refine lv_aload_n hx hb dX12_turnsOf_29 rfl (lv_at hl 0 rfl) ?_
          refine lv_iload_n hx hb dX12_turnsOf_30 rfl (lv_at hl 1 rfl) ?_
          refine lv_aload_n hx hb dX12_turnsOf_31 rfl (lv_at hl 0 rfl) ?_
          refine gM_0_35 C hJ fl_RX12_50 dX12_turnsOf_32 ?_
          refine lv_iload_n hx hb dX12_turnsOf_35 rfl (lv_at hl 1 rfl) ?_
          obtain ⟨h6, hf⟩ := gi_some hf
          refine aM_13 C hJ h6 dX12_turnsOf_36 ?_
          obtain ⟨σ7, r8, hg9, hf⟩ := cal_some hf
          refine backI hsb hJ (runV (As := [.int a1, .int (σ5.2.1 13 a1.toNatClampNeg)]) (rest := []) C hJ lk_RX12_382 (cM_isAhead hF hg9) recM_0 rfl rfl (Nat.le_of_ble_eq_true rfl) hl.1 (hR_of (by omega) (by decide)) ⟨Nat.le_refl _, Nat.le_refl _⟩ dX12_turnsOf_37) (fun H locs hJ => ?_)
          refine lv_if_ne (tgt := 46) hx hb dX12_turnsOf_40 (by decide) (fun c10 => ?_) (fun c10 => ?_)
          · have hf := ite_f hf c10
            exact j46 σ7 a1 a2 a3 a4 _ _ _ hf hJ (lv_sub hl [0, 1, 2, 3, 4] rfl)
          · have hf := ite_t hf c10
            refine lv_iload hx hb dX12_turnsOf_43 (lv_at hl 4 rfl) ?_
            refine lv_istore_n (lv' := [(3, .int a4), (0, .ref (q 0)), (1, .int a1), (2, .int a2), (4, .int a4)]) hx hb dX12_turnsOf_45 rfl hl (by decide) rfl (fun ls hl => ?_)
            exact j46 σ7 a1 a2 a4 a4 _ _ _ hf hJ (lv_sub hl [1, 2, 3, 0, 4] rfl)
  have hl : lv_has ls 5 [(0, .ref (q 0)), (1, .int a1)] := hl
  unfold fM_turnsOf at hf
  refine lv_aload_n hx hb dX12_turnsOf_0 rfl (lv_at hl 0 rfl) ?_
  refine gM_0_12 C hJ fl_RX12_247 dX12_turnsOf_1 ?_
  refine lv_topi (fun x11 hx11 => ?_)
  have hf := bnd_at hf hx11
  refine lv_istore_n (lv' := [(2, .int x11), (0, .ref (q 0)), (1, .int a1)]) hx hb dX12_turnsOf_4 rfl hl (by decide) rfl (fun ls hl => ?_)
  refine lv_iconst (v := -1) hx hb dX12_turnsOf_5 (by decide) ?_
  refine lv_istore_n (lv' := [(3, .int (-1 : Int32)), (2, .int x11), (0, .ref (q 0)), (1, .int a1)]) hx hb dX12_turnsOf_6 rfl hl (by decide) rfl (fun ls hl => ?_)
  refine lv_iconst (v := 0) hx hb dX12_turnsOf_7 (by decide) ?_
  refine lv_istore (lv' := [(4, .int (0 : Int32)), (3, .int (-1 : Int32)), (2, .int x11), (0, .ref (q 0)), (1, .int a1)]) hx hb dX12_turnsOf_8 hl (by decide) rfl (fun ls hl => ?_)
  exact l10 N σ a1 x11 (-1 : Int32) (0 : Int32) _ _ _ hf hJ (lv_sub hl [3, 4, 2, 1, 0] rfl)
set_option maxHeartbeats 4000000 in
set_option maxRecDepth 100000 in
theorem cM_told {l : Launch} {D : va_G} {cA cB : ClassId} {q : Nat → Nat} {A : Nat → Prop} {E : State → Prop} {N : Nat} {σ σ' : St} {r : Int64} {a1 : Int32} {a2 : Int32} (hF : Fr (wM q cA cB) A E) (hf : fM_told N σ a1 a2 = some (σ', r)) : ML l yX12_told cX12_told 5 .long 57 D (tyM cA cB) (wM q cA cB) A E [.ref (q 0), .int a1, .int a2] σ σ' r := by
  refine ML_of (by decide) hF (Nat.le_of_ble_eq_true rfl) ?_
  intro p e s m args below meth c Q C hret hJ ls hl
  obtain ⟨hx, hb, hml, hown, hts, hK, hE, -⟩ := id C
  have hsb : ∀ z, A z → A z := fun _ h => h
  have hl : lv_has ls 5 [(0, .ref (q 0)), (1, .int a1), (2, .int a2)] := hl
  unfold fM_told at hf
  refine lv_aload_n hx hb dX12_told_0 rfl (lv_at hl 0 rfl) ?_
  refine lv_iload_n hx hb dX12_told_1 rfl (lv_at hl 1 rfl) ?_
  obtain ⟨σ1, r2, hg3, hf⟩ := cal_some hf
  refine backI hsb hJ (runV (As := [.int a1]) (rest := []) C hJ lk_RX12_389 (cM_isCall hF hg3) recM_0 rfl rfl (Nat.le_of_ble_eq_true rfl) hl.1 (hR_of (by omega) (by decide)) ⟨Nat.le_refl _, Nat.le_refl _⟩ dX12_told_2) (fun H locs hJ => ?_)
  refine lv_if_ne (tgt := 12) hx hb dX12_told_5 (by decide) (fun c4 => ?_) (fun c4 => ?_)
  · have hf := ite_f hf c4
    refine lv_aload_n hx hb dX12_told_12 rfl (lv_at hl 0 rfl) ?_
    refine gM_0_35 C hJ fl_RX12_50 dX12_told_13 ?_
    refine lv_iload_n hx hb dX12_told_16 rfl (lv_at hl 1 rfl) ?_
    obtain ⟨h5, hf⟩ := gi_some hf
    refine aM_13 C hJ h5 dX12_told_17 ?_
    refine lv_topi (fun x6 hx6 => ?_)
    have hf := bnd_at hf hx6
    refine lv_istore_n (lv' := [(3, .int x6), (0, .ref (q 0)), (1, .int a1), (2, .int a2)]) hx hb dX12_told_18 rfl hl (by decide) rfl (fun ls hl => ?_)
    refine lv_iconst (v := 2) hx hb dX12_told_19 (by decide) ?_
    refine lv_aload_n hx hb dX12_told_20 rfl (lv_at hl 1 rfl) ?_
    refine lv_iload_n hx hb dX12_told_21 rfl (lv_at hl 2 rfl) ?_
    obtain ⟨σ7, r8, hg9, hf⟩ := cal_some hf
    refine backI hsb hJ (runV (As := [.int a1]) (rest := [.int (2 : Int32)]) C hJ lk_RX12_386 (cM_spreadOf hF hg9) recM_0 rfl rfl (Nat.le_of_ble_eq_true rfl) hl.1 (hR_of (by omega) (by decide)) ⟨Nat.le_refl _, Nat.le_refl _⟩ dX12_told_22) (fun H locs hJ => ?_)
    refine lv_imul hx hb dX12_told_25 ?_
    refine lv_iconst (v := 1) hx hb dX12_told_26 (by decide) ?_
    refine lv_iadd hx hb dX12_told_27 ?_
    refine lv_topi (fun x10 hx10 => ?_)
    have hf := bnd_at hf hx10
    refine lv_istore (lv' := [(4, .int x10), (3, .int x6), (0, .ref (q 0)), (1, .int a1), (2, .int a2)]) hx hb dX12_told_28 hl (by decide) rfl (fun ls hl => ?_)
    refine lv_iload_n hx hb dX12_told_30 rfl (lv_at hl 4 rfl) ?_
    by_cases c11 : a2 = (0 : Int32)
    · have hf := ite_t hf c11
      refine lv_tableIn (off := 53) (tgt := 84) hx hb dX12_told_31 (by rw [c11]; decide) (by rw [c11]; decide) (by rw [c11]; rfl) (by decide) ?_
      refine lv_iload_n hx hb dX12_told_84 rfl (lv_at hl 1 rfl) ?_
      refine lv_i2l (v := x6.toInt64) hx hb dX12_told_85 rfl ?_
      exact ret_L hret hJ hf dX12_told_86
    have hf := ite_f hf c11
    by_cases c12 : a2 = (1 : Int32)
    · have hf := ite_t hf c12
      refine lv_tableIn (off := 56) (tgt := 87) hx hb dX12_told_31 (by rw [c12]; decide) (by rw [c12]; decide) (by rw [c12]; rfl) (by decide) ?_
      refine lv_aload_n hx hb dX12_told_87 rfl (lv_at hl 2 rfl) ?_
      refine lv_iload_n hx hb dX12_told_88 rfl (lv_at hl 3 rfl) ?_
      refine lv_iload_n hx hb dX12_told_89 rfl (lv_at hl 1 rfl) ?_
      obtain ⟨σ13, r14, hg15, hf⟩ := cal_some hf
      refine backI hsb hJ (runV (As := [.int a1, .int x6]) (rest := []) C hJ lk_RX12_376 (cM_marginBy hF hg15) recM_0 rfl rfl (Nat.le_of_ble_eq_true rfl) hl.1 (hR_of (by omega) (by decide)) ⟨Nat.le_refl _, Nat.le_refl _⟩ dX12_told_90) (fun H locs hJ => ?_)
      refine lv_i2l (v := r14.toInt64) hx hb dX12_told_93 rfl ?_
      exact ret_L hret hJ hf dX12_told_94
    have hf := ite_f hf c12
    by_cases c16 : a2 = (2 : Int32)
    · have hf := ite_t hf c16
      refine lv_tableIn (off := 64) (tgt := 95) hx hb dX12_told_31 (by rw [c16]; decide) (by rw [c16]; decide) (by rw [c16]; rfl) (by decide) ?_
      refine lv_aload_n hx hb dX12_told_95 rfl (lv_at hl 2 rfl) ?_
      refine lv_iload_n hx hb dX12_told_96 rfl (lv_at hl 3 rfl) ?_
      refine lv_iload_n hx hb dX12_told_97 rfl (lv_at hl 1 rfl) ?_
      obtain ⟨σ17, r18, hg19, hf⟩ := cal_some hf
      refine backI hsb hJ (runV (As := [.int a1, .int x6]) (rest := []) C hJ lk_RX12_379 (cM_bandBy hF hg19) recM_0 rfl rfl (Nat.le_of_ble_eq_true rfl) hl.1 (hR_of (by omega) (by decide)) ⟨Nat.le_refl _, Nat.le_refl _⟩ dX12_told_98) (fun H locs hJ => ?_)
      refine lv_i2l (v := r18.toInt64) hx hb dX12_told_101 rfl ?_
      exact ret_L hret hJ hf dX12_told_102
    have hf := ite_f hf c16
    by_cases c20 : a2 = (3 : Int32)
    · have hf := ite_t hf c20
      refine lv_tableIn (off := 72) (tgt := 103) hx hb dX12_told_31 (by rw [c20]; decide) (by rw [c20]; decide) (by rw [c20]; rfl) (by decide) ?_
      refine lv_aload_n hx hb dX12_told_103 rfl (lv_at hl 2 rfl) ?_
      refine lv_iload_n hx hb dX12_told_104 rfl (lv_at hl 3 rfl) ?_
      refine lv_iload_n hx hb dX12_told_105 rfl (lv_at hl 1 rfl) ?_
      obtain ⟨σ21, r22, hg23, hf⟩ := cal_some hf
      refine backI hsb hJ (runV (As := [.int a1, .int x6]) (rest := []) C hJ lk_RX12_382 (cM_isAhead hF hg23) recM_0 rfl rfl (Nat.le_of_ble_eq_true rfl) hl.1 (hR_of (by omega) (by decide)) ⟨Nat.le_refl _, Nat.le_refl _⟩ dX12_told_106) (fun H locs hJ => ?_)
      refine lv_if_eq (tgt := 116) hx hb dX12_told_109 (by decide) (fun c24 => ?_) (fun c24 => ?_)
      · have hf := ite_t hf c24
        refine lv_lconst (v := 0) hx hb dX12_told_116 (by decide) ?_
        exact ret_L hret hJ hf dX12_told_117
      · have hf := ite_f hf c24
        refine lv_lconst (v := 1) hx hb dX12_told_112 (by decide) ?_
        refine lv_goto (tgt := 117) hx hb dX12_told_113 (by decide) ?_
        exact ret_L hret hJ hf dX12_told_117
    have hf := ite_f hf c20
    by_cases c25 : a2 = (4 : Int32)
    · have hf := ite_t hf c25
      refine lv_tableIn (off := 87) (tgt := 118) hx hb dX12_told_31 (by rw [c25]; decide) (by rw [c25]; decide) (by rw [c25]; rfl) (by decide) ?_
      refine lv_aload_n hx hb dX12_told_118 rfl (lv_at hl 2 rfl) ?_
      refine lv_iload_n hx hb dX12_told_119 rfl (lv_at hl 3 rfl) ?_
      refine lv_iload_n hx hb dX12_told_120 rfl (lv_at hl 1 rfl) ?_
      obtain ⟨σ26, r27, hg28, hf⟩ := cal_some hf
      refine backI hsb hJ (runV (As := [.int a1, .int x6]) (rest := []) C hJ lk_RX12_392 (cM_isOffside hF hg28) recM_0 rfl rfl (Nat.le_of_ble_eq_true rfl) hl.1 (hR_of (by omega) (by decide)) ⟨Nat.le_refl _, Nat.le_refl _⟩ dX12_told_121) (fun H locs hJ => ?_)
      refine lv_if_eq (tgt := 131) hx hb dX12_told_124 (by decide) (fun c29 => ?_) (fun c29 => ?_)
      · have hf := ite_t hf c29
        refine lv_lconst (v := 0) hx hb dX12_told_131 (by decide) ?_
        exact ret_L hret hJ hf dX12_told_132
      · have hf := ite_f hf c29
        refine lv_lconst (v := 1) hx hb dX12_told_127 (by decide) ?_
        refine lv_goto (tgt := 132) hx hb dX12_told_128 (by decide) ?_
        exact ret_L hret hJ hf dX12_told_132
    have hf := ite_f hf c25
    by_cases c30 : a2 = (5 : Int32)
    · have hf := ite_t hf c30
      refine lv_tableIn (off := 102) (tgt := 133) hx hb dX12_told_31 (by rw [c30]; decide) (by rw [c30]; decide) (by rw [c30]; rfl) (by decide) ?_
      refine lv_aload_n hx hb dX12_told_133 rfl (lv_at hl 2 rfl) ?_
      refine lv_iload_n hx hb dX12_told_134 rfl (lv_at hl 3 rfl) ?_
      refine lv_iload_n hx hb dX12_told_135 rfl (lv_at hl 1 rfl) ?_
      obtain ⟨σ31, r32, hg33, hf⟩ := cal_some hf
      refine backI hsb hJ (runV (As := [.int a1, .int x6]) (rest := []) C hJ lk_RX12_392 (cM_isOffside hF hg33) recM_0 rfl rfl (Nat.le_of_ble_eq_true rfl) hl.1 (hR_of (by omega) (by decide)) ⟨Nat.le_refl _, Nat.le_refl _⟩ dX12_told_136) (fun H locs hJ => ?_)
      refine lv_aload_n hx hb dX12_told_139 rfl (lv_at hl 2 rfl) ?_
      refine lv_iload_n hx hb dX12_told_140 rfl (lv_at hl 3 rfl) ?_
      refine lv_iconst (v := 0) hx hb dX12_told_141 (by decide) ?_
      obtain ⟨σ34, r35, hg36, hf⟩ := cal_some hf
      refine backI hsb hJ (runV (As := [.int a1, .int (0 : Int32)]) (rest := [.int r32]) C hJ lk_RX12_392 (cM_isOffside hF hg36) recM_0 rfl rfl (Nat.le_of_ble_eq_true rfl) hl.1 (hR_of (by omega) (by decide)) ⟨Nat.le_refl _, Nat.le_refl _⟩ dX12_told_142) (fun H locs hJ => ?_)
      refine lv_icmp_eq (tgt := 152) hx hb dX12_told_145 (by decide) (fun c37 => ?_) (fun c37 => ?_)
      · have hf := ite_t hf c37
        refine lv_lconst (v := 0) hx hb dX12_told_152 (by decide) ?_
        exact ret_L hret hJ hf dX12_told_153
      · have hf := ite_f hf c37
        refine lv_lconst (v := 1) hx hb dX12_told_148 (by decide) ?_
        refine lv_goto (tgt := 153) hx hb dX12_told_149 (by decide) ?_
        exact ret_L hret hJ hf dX12_told_153
    have hf := ite_f hf c30
    by_cases c38 : a2 = (6 : Int32)
    · have hf := ite_t hf c38
      refine lv_tableIn (off := 123) (tgt := 154) hx hb dX12_told_31 (by rw [c38]; decide) (by rw [c38]; decide) (by rw [c38]; rfl) (by decide) ?_
      refine lv_aload_n hx hb dX12_told_154 rfl (lv_at hl 2 rfl) ?_
      refine lv_iload_n hx hb dX12_told_155 rfl (lv_at hl 3 rfl) ?_
      obtain ⟨σ39, r40, hg41, hf⟩ := cal_some hf
      refine backI hsb hJ (runV (As := [.int a1]) (rest := []) C hJ lk_RX12_395 (cM_waysOf hF hg41) recM_0 rfl rfl (Nat.le_of_ble_eq_true rfl) hl.1 (hR_of (by omega) (by decide)) ⟨Nat.le_refl _, Nat.le_refl _⟩ dX12_told_156) (fun H locs hJ => ?_)
      refine lv_i2l (v := r40.toInt64) hx hb dX12_told_159 rfl ?_
      exact ret_L hret hJ hf dX12_told_160
    have hf := ite_f hf c38
    by_cases c42 : a2 = (7 : Int32)
    · have hf := ite_t hf c42
      refine lv_tableIn (off := 130) (tgt := 161) hx hb dX12_told_31 (by rw [c42]; decide) (by rw [c42]; decide) (by rw [c42]; rfl) (by decide) ?_
      refine lv_iload hx hb dX12_told_161 (lv_at hl 0 rfl) ?_
      refine lv_iload hx hb dX12_told_163 (lv_at hl 0 rfl) ?_
      refine lv_imul hx hb dX12_told_165 ?_
      refine lv_i2l (v := (x10 * x10).toInt64) hx hb dX12_told_166 rfl ?_
      exact ret_L hret hJ hf dX12_told_167
    have hf := ite_f hf c42
    by_cases c43 : a2 = (8 : Int32)
    · have hf := ite_t hf c43
      refine lv_tableIn (off := 137) (tgt := 168) hx hb dX12_told_31 (by rw [c43]; decide) (by rw [c43]; decide) (by rw [c43]; rfl) (by decide) ?_
      refine lv_aload_n hx hb dX12_told_168 rfl (lv_at hl 2 rfl) ?_
      refine lv_iload_n hx hb dX12_told_169 rfl (lv_at hl 3 rfl) ?_
      refine lv_aload_n hx hb dX12_told_170 rfl (lv_at hl 2 rfl) ?_
      refine lv_aload_n hx hb dX12_told_171 rfl (lv_at hl 2 rfl) ?_
      refine gM_0_39 C hJ fl_RX12_62 dX12_told_172 ?_
      refine lv_iload_n hx hb dX12_told_175 rfl (lv_at hl 3 rfl) ?_
      obtain ⟨h44, hf⟩ := gi_some hf
      refine aM_17 C hJ h44 dX12_told_176 ?_
      refine lv_aload_n hx hb dX12_told_177 rfl (lv_at hl 2 rfl) ?_
      refine gM_0_38 C hJ fl_RX12_59 dX12_told_178 ?_
      refine lv_iload_n hx hb dX12_told_181 rfl (lv_at hl 3 rfl) ?_
      obtain ⟨h45, hf⟩ := gi_some hf
      refine aM_16 C hJ h45 dX12_told_182 ?_
      obtain ⟨σ46, r47, hg48, hf⟩ := cal_some hf
      refine backI hsb hJ (runV (As := [.int (σ7.2.1 17 a1.toNatClampNeg), .int (σ7.2.1 16 a1.toNatClampNeg)]) (rest := [.int a1, .ref (q 0)]) C hJ lk_RX12_346 (cM_frameOf hF hg48) recM_0 rfl rfl (Nat.le_of_ble_eq_true rfl) hl.1 (hR_of (by omega) (by decide)) ⟨Nat.le_refl _, Nat.le_refl _⟩ dX12_told_183) (fun H locs hJ => ?_)
      obtain ⟨σ49, r50, hg51, hf⟩ := cal_some hf
      refine backI hsb hJ (runV (As := [.int a1, .int r47]) (rest := []) C hJ lk_RX12_366 (cM_trueMargin hF hg51) recM_0 rfl rfl (Nat.le_of_ble_eq_true rfl) hl.1 (hR_of (by omega) (by decide)) ⟨Nat.le_refl _, Nat.le_refl _⟩ dX12_told_186) (fun H locs hJ => ?_)
      refine lv_aload_n hx hb dX12_told_189 rfl (lv_at hl 2 rfl) ?_
      refine lv_iload_n hx hb dX12_told_190 rfl (lv_at hl 3 rfl) ?_
      refine lv_aload_n hx hb dX12_told_191 rfl (lv_at hl 2 rfl) ?_
      refine gM_0_38 C hJ fl_RX12_59 dX12_told_192 ?_
      refine lv_iload_n hx hb dX12_told_195 rfl (lv_at hl 3 rfl) ?_
      obtain ⟨h52, hf⟩ := gi_some hf
      refine aM_16 C hJ h52 dX12_told_196 ?_
      obtain ⟨σ53, r54, hg55, hf⟩ := cal_some hf
      refine backI hsb hJ (runV (As := [.int a1, .int (σ49.2.1 16 a1.toNatClampNeg)]) (rest := [.int r50]) C hJ lk_RX12_366 (cM_trueMargin hF hg55) recM_0 rfl rfl (Nat.le_of_ble_eq_true rfl) hl.1 (hR_of (by omega) (by decide)) ⟨Nat.le_refl _, Nat.le_refl _⟩ dX12_told_197) (fun H locs hJ => ?_)
      refine lv_isub hx hb dX12_told_200 ?_
      refine lv_i2l (v := (r50 - r54).toInt64) hx hb dX12_told_201 rfl ?_
      exact ret_L hret hJ hf dX12_told_202
    have hf := ite_f hf c43
    by_cases c56 : a2 = (9 : Int32)
    · have hf := ite_t hf c56
      refine lv_tableIn (off := 172) (tgt := 203) hx hb dX12_told_31 (by rw [c56]; decide) (by rw [c56]; decide) (by rw [c56]; rfl) (by decide) ?_
      refine lv_aload_n hx hb dX12_told_203 rfl (lv_at hl 2 rfl) ?_
      refine lv_iload_n hx hb dX12_told_204 rfl (lv_at hl 3 rfl) ?_
      obtain ⟨σ57, r58, hg59, hf⟩ := cal_some hf
      refine backI hsb hJ (runV (As := [.int a1]) (rest := []) C hJ lk_RX12_398 (cM_turnsOf hF hg59) recM_0 rfl rfl (Nat.le_of_ble_eq_true rfl) hl.1 (hR_of (by omega) (by decide)) ⟨Nat.le_refl _, Nat.le_refl _⟩ dX12_told_205) (fun H locs hJ => ?_)
      refine lv_i2l (v := r58.toInt64) hx hb dX12_told_208 rfl ?_
      exact ret_L hret hJ hf dX12_told_209
    have hf := ite_f hf c56
    refine lv_tableOut (tgt := 210) hx hb dX12_told_31 (by have ec11 : a2.toInt ≠ 0 := fun h => c11 (Int32.toInt_inj.mp (h.trans (by decide))); have ec12 : a2.toInt ≠ 1 := fun h => c12 (Int32.toInt_inj.mp (h.trans (by decide))); have ec16 : a2.toInt ≠ 2 := fun h => c16 (Int32.toInt_inj.mp (h.trans (by decide))); have ec20 : a2.toInt ≠ 3 := fun h => c20 (Int32.toInt_inj.mp (h.trans (by decide))); have ec25 : a2.toInt ≠ 4 := fun h => c25 (Int32.toInt_inj.mp (h.trans (by decide))); have ec30 : a2.toInt ≠ 5 := fun h => c30 (Int32.toInt_inj.mp (h.trans (by decide))); have ec38 : a2.toInt ≠ 6 := fun h => c38 (Int32.toInt_inj.mp (h.trans (by decide))); have ec42 : a2.toInt ≠ 7 := fun h => c42 (Int32.toInt_inj.mp (h.trans (by decide))); have ec43 : a2.toInt ≠ 8 := fun h => c43 (Int32.toInt_inj.mp (h.trans (by decide))); have ec56 : a2.toInt ≠ 9 := fun h => c56 (Int32.toInt_inj.mp (h.trans (by decide))); omega) (by decide) ?_
    refine lv_ldc2 (v := -4611686018427387904) hx hb hown (hts _ kl_RX12_311) dX12_told_210 ?_
    exact ret_L hret hJ hf dX12_told_213
  · have hf := ite_t hf c4
    refine lv_ldc2 (v := -4611686018427387904) hx hb hown (hts _ kl_RX12_311) dX12_told_8 ?_
    exact ret_L hret hJ hf dX12_told_11
