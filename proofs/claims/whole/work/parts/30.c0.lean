set_option maxHeartbeats 4000000 in
set_option maxRecDepth 100000 in
theorem cC_R_emit {l : Launch} {D : va_G} {cA cB : ClassId} {q : Nat → Nat} {x : Nat → Nat} {N : Nat} {σ σ' : St} {a1 : Int32} (hF : Fr (wC q cA cB) (aC q) (eC q x)) (hf : fC_R_emit N σ a1 = some (σ', ())) : MV l yX6_emit cX6_emit 2 1 D (tyC cA cB) (wC q cA cB) (aC q) (eC q x) [.ref (q 2), .int a1] σ σ' := by
  refine MV_of (by decide) hF (Nat.le_of_ble_eq_true rfl) ?_
  intro p e s m args below meth c Q C hret hJ ls hl
  obtain ⟨hx, hb, hml, hown, hts, hK, hE, -⟩ := id C
  have hsb : ∀ z, (aC q) z → (aC q) z := fun _ h => h
  have hl : lv_has ls 2 [(0, .ref (q 2)), (1, .int a1)] := hl
  unfold fC_R_emit at hf
  refine lv_aload_n hx hb dX6_emit_0 rfl (lv_at hl 0 rfl) ?_
  refine gC_2_3 C hJ fl_RX6_32 dX6_emit_1 ?_
  refine lv_sipush (v := 160) hx hb dX6_emit_4 (by decide) ?_
  refine lv_icmp_ge (tgt := 30) hx hb dX6_emit_7 (by decide) (fun c1 => ?_) (fun c1 => ?_)
  · have hf := ite_t hf c1
    exact ret_V hret hJ hf dX6_emit_30
  · have hf := ite_f hf c1
    refine lv_aload_n hx hb dX6_emit_10 rfl (lv_at hl 0 rfl) ?_
    refine gC_2_1 C hJ fl_RX6_18 dX6_emit_11 ?_
    refine lv_aload_n hx hb dX6_emit_14 rfl (lv_at hl 0 rfl) ?_
    refine gC_2_3 C hJ fl_RX6_32 dX6_emit_15 ?_
    refine lv_iload_n hx hb dX6_emit_18 rfl (lv_at hl 1 rfl) ?_
    obtain ⟨h2, hf⟩ := gi_some hf
    refine sC_13 C hJ h2 dX6_emit_19 (fun σ3 H locs hs hJ => ?_)
    have hf := bnd_at hf hs
    refine lv_aload_n hx hb dX6_emit_20 rfl (lv_at hl 0 rfl) ?_
    refine lv_dup hx hb dX6_emit_21 rfl ?_
    refine gC_2_3 C hJ fl_RX6_32 dX6_emit_22 ?_
    refine lv_iconst (v := 1) hx hb dX6_emit_25 (by decide) ?_
    refine lv_iadd hx hb dX6_emit_26 ?_
    refine pC_2_3 C hJ fl_RX6_32 dX6_emit_27 (fun σ4 H locs hs hJ => ?_)
    have hf := bnd_at hf hs
    exact ret_V hret hJ hf dX6_emit_30
set_option maxHeartbeats 4000000 in
set_option maxRecDepth 100000 in
theorem cC_R_kindNow {l : Launch} {D : va_G} {cA cB : ClassId} {q : Nat → Nat} {x : Nat → Nat} {N : Nat} {σ σ' : St} {r : Int32} (hF : Fr (wC q cA cB) (aC q) (eC q x)) (hf : fC_R_kindNow N σ  = some (σ', r)) : MI l yX6_kindNow cX6_kindNow 1 .int 1 D (tyC cA cB) (wC q cA cB) (aC q) (eC q x) [.ref (q 2)] σ σ' r := by
  refine MI_of (by decide) hF (Nat.le_of_ble_eq_true rfl) ?_
  intro p e s m args below meth c Q C hret hJ ls hl
  obtain ⟨hx, hb, hml, hown, hts, hK, hE, -⟩ := id C
  have hsb : ∀ z, (aC q) z → (aC q) z := fun _ h => h
  have hl : lv_has ls 1 [(0, .ref (q 2))] := hl
  unfold fC_R_kindNow at hf
  refine lv_aload_n hx hb dX6_kindNow_0 rfl (lv_at hl 0 rfl) ?_
  refine gC_2_4 C hJ fl_RX6_28 dX6_kindNow_1 ?_
  refine lv_aload_n hx hb dX6_kindNow_4 rfl (lv_at hl 0 rfl) ?_
  refine gC_2_0 C hJ fl_RX6_12 dX6_kindNow_5 ?_
  refine gC_12_5 C hJ fl_RX6_39 dX6_kindNow_8 ?_
  refine lv_icmp_ge (tgt := 29) hx hb dX6_kindNow_11 (by decide) (fun c1 => ?_) (fun c1 => ?_)
  · have hf := ite_t hf c1
    refine lv_iconst (v := -1) hx hb dX6_kindNow_29 (by decide) ?_
    exact ret_I hret hJ hf rfl dX6_kindNow_30
  · have hf := ite_f hf c1
    refine lv_aload_n hx hb dX6_kindNow_14 rfl (lv_at hl 0 rfl) ?_
    refine gC_2_0 C hJ fl_RX6_12 dX6_kindNow_15 ?_
    refine gC_12_2 C hJ fl_RX6_59 dX6_kindNow_18 ?_
    refine lv_aload_n hx hb dX6_kindNow_21 rfl (lv_at hl 0 rfl) ?_
    refine gC_2_4 C hJ fl_RX6_28 dX6_kindNow_22 ?_
    obtain ⟨h2, hf⟩ := gi_some hf
    refine aC_54 C hJ h2 dX6_kindNow_25 ?_
    refine lv_goto (tgt := 30) hx hb dX6_kindNow_26 (by decide) ?_
    exact ret_I hret hJ hf rfl dX6_kindNow_30
set_option maxHeartbeats 4000000 in
set_option maxRecDepth 100000 in
theorem cC_R_pass {l : Launch} {D : va_G} {cA cB : ClassId} {q : Nat → Nat} {x : Nat → Nat} {N : Nat} {σ σ' : St} {r : Int32} {a1 : Int32} (hF : Fr (wC q cA cB) (aC q) (eC q x)) (hf : fC_R_pass N σ a1 = some (σ', r)) : MI l yX6_pass cX6_pass 2 .boolean 2 D (tyC cA cB) (wC q cA cB) (aC q) (eC q x) [.ref (q 2), .int a1] σ σ' r := by
  refine MI_of (by decide) hF (Nat.le_of_ble_eq_true rfl) ?_
  intro p e s m args below meth c Q C hret hJ ls hl
  obtain ⟨hx, hb, hml, hown, hts, hK, hE, -⟩ := id C
  have hsb : ∀ z, (aC q) z → (aC q) z := fun _ h => h
  have hl : lv_has ls 2 [(0, .ref (q 2)), (1, .int a1)] := hl
  unfold fC_R_pass at hf
  refine lv_aload_n hx hb dX6_pass_0 rfl (lv_at hl 0 rfl) ?_
  obtain ⟨σ1, r2, hg3, hf⟩ := cal_some hf
  refine backI hsb hJ (runV (As := []) (rest := []) C hJ lk_RX6_55 (cC_R_kindNow hF hg3) recC_2 rfl rfl (Nat.le_of_ble_eq_true rfl) hl.1 (hR_of (by omega) (by decide)) ⟨Nat.le_refl _, Nat.le_refl _⟩ dX6_pass_1) (fun H locs hJ => ?_)
  refine lv_iload_n hx hb dX6_pass_4 rfl (lv_at hl 1 rfl) ?_
  refine lv_icmp_eq (tgt := 10) hx hb dX6_pass_5 (by decide) (fun c4 => ?_) (fun c4 => ?_)
  · have hf := ite_t hf c4
    refine lv_aload_n hx hb dX6_pass_10 rfl (lv_at hl 0 rfl) ?_
    refine lv_dup hx hb dX6_pass_11 rfl ?_
    refine gC_2_4 C hJ fl_RX6_28 dX6_pass_12 ?_
    refine lv_iconst (v := 1) hx hb dX6_pass_15 (by decide) ?_
    refine lv_iadd hx hb dX6_pass_16 ?_
    refine pC_2_4 C hJ fl_RX6_28 dX6_pass_17 (fun σ5 H locs hs hJ => ?_)
    have hf := bnd_at hf hs
    refine lv_iconst (v := 1) hx hb dX6_pass_20 (by decide) ?_
    exact ret_I hret hJ hf (nar_z (by decide)) dX6_pass_21
  · have hf := ite_f hf c4
    refine lv_iconst (v := 0) hx hb dX6_pass_8 (by decide) ?_
    exact ret_I hret hJ hf (nar_z (by decide)) dX6_pass_9
set_option maxHeartbeats 4000000 in
set_option maxRecDepth 100000 in
theorem cC_R_readOne {l : Launch} {D : va_G} {cA cB : ClassId} {q : Nat → Nat} {x : Nat → Nat} {N : Nat} {kA kB kC : St → Int32 → Option (St × Int32)} {k : Nat} {σ σ' : St} {r : Int32} {a1 : Int32} (hF : Fr (wC q cA cB) (aC q) (eC q x)) (hRa : ∀ (σ : St) (a1 : Int32) (σ' : St) (r : Int32), kA σ a1 = some (σ', r) → MI l yX6_readOr cX6_readOr 3 .boolean (k + 6) D (tyC cA cB) (wC q cA cB) (aC q) (eC q x) [.ref (q 2), .int a1] σ σ' r) (hRb : ∀ (σ : St) (a1 : Int32) (σ' : St) (r : Int32), kB σ a1 = some (σ', r) → MI l yX6_readOne cX6_readOne 3 .boolean (k + 1) D (tyC cA cB) (wC q cA cB) (aC q) (eC q x) [.ref (q 2), .int a1] σ σ' r) (hRc : ∀ (σ : St) (a1 : Int32) (σ' : St) (r : Int32), kC σ a1 = some (σ', r) → MI l yX6_readNot cX6_readNot 3 .boolean (k + 4) D (tyC cA cB) (wC q cA cB) (aC q) (eC q x) [.ref (q 2), .int a1] σ σ' r) (hf : fC_R_readOne N kA kB kC σ a1 = some (σ', r)) : MI l yX6_readOne cX6_readOne 3 .boolean (k + 7) D (tyC cA cB) (wC q cA cB) (aC q) (eC q x) [.ref (q 2), .int a1] σ σ' r := by
  refine MI_of (by decide) hF (Nat.le_of_ble_eq_true rfl) ?_
  intro p e s m args below meth c Q C hret hJ ls hl
  obtain ⟨hx, hb, hml, hown, hts, hK, hE, -⟩ := id C
  have hsb : ∀ z, (aC q) z → (aC q) z := fun _ h => h
  have j57 : ∀ (σ : St) (a1 : Int32) (a2 : Int32) (H : Heap) (locs : List Loc) (ls : Array Slot), fC_R_readOne_j57 N kA kB kC  σ a1 a2 = some (σ', r) → J D (wC q cA cB) (aC q) s σ H locs → lv_has ls 3 [(0, .ref (q 2)), (1, .int a1), (2, .int a2)] → W p l e (rmH (k + 7)) s m args below meth c H locs 0 0 Q (F0 m 57 ls []) := by
    intro σ a1 a2 H locs ls hf hJ hl
    unfold fC_R_readOne_j57 at hf
    refine lv_iload_n hx hb dX6_readOne_57 rfl (lv_at hl 1 rfl) ?_
    refine lv_iconst (v := 5) hx hb dX6_readOne_58 (by decide) ?_
    refine lv_icmp_lt (tgt := 64) hx hb dX6_readOne_59 (by decide) (fun c1 => ?_) (fun c1 => ?_)
    · have hf := ite_t hf c1
      refine lv_aload_n hx hb dX6_readOne_64 rfl (lv_at hl 0 rfl) ?_
      refine lv_dup hx hb dX6_readOne_65 rfl ?_
      refine gC_2_4 C hJ fl_RX6_28 dX6_readOne_66 ?_
      refine lv_iconst (v := 1) hx hb dX6_readOne_69 (by decide) ?_
      refine lv_iadd hx hb dX6_readOne_70 ?_
      refine pC_2_4 C hJ fl_RX6_28 dX6_readOne_71 (fun σ2 H locs hs hJ => ?_)
      have hf := bnd_at hf hs
      refine lv_iload_n hx hb dX6_readOne_74 rfl (lv_at hl 2 rfl) ?_
      refine lv_bipush (v := 40) hx hb dX6_readOne_75 (by decide) ?_
      refine lv_icmp_ne (tgt := 105) hx hb dX6_readOne_77 (by decide) (fun c3 => ?_) (fun c3 => ?_)
      · have hf := ite_f hf c3
        refine lv_aload_n hx hb dX6_readOne_105 rfl (lv_at hl 0 rfl) ?_
        refine lv_iload_n hx hb dX6_readOne_106 rfl (lv_at hl 1 rfl) ?_
        refine lv_iconst (v := 1) hx hb dX6_readOne_107 (by decide) ?_
        refine lv_iadd hx hb dX6_readOne_108 ?_
        obtain ⟨σ4, r5, hg6, hf⟩ := cal_some hf
        refine backI hsb hJ (runV (As := [.int (a1 + (1 : Int32))]) (rest := []) C hJ lk_RX6_78 (hRb _ _ _ _ hg6) recC_2 rfl rfl (Nat.le_of_ble_eq_true rfl) hl.1 (hR_of (by omega) (by decide)) ⟨Nat.le_refl _, Nat.le_refl _⟩ dX6_readOne_109) (fun H locs hJ => ?_)
        refine lv_if_ne (tgt := 117) hx hb dX6_readOne_112 (by decide) (fun c7 => ?_) (fun c7 => ?_)
        · have hf := ite_f hf c7
          refine lv_aload_n hx hb dX6_readOne_117 rfl (lv_at hl 0 rfl) ?_
          refine lv_bipush (v := -19) hx hb dX6_readOne_118 (by decide) ?_
          obtain ⟨σ8, r9, hg10, hf⟩ := cal_some hf
          refine backV hsb hJ (runV (As := [.int (-19 : Int32)]) (rest := []) C hJ lk_RX6_65 (cC_R_emit hF hg10) recC_2 rfl rfl (Nat.le_of_ble_eq_true rfl) hl.1 (hR_of (by omega) (by decide)) ⟨Nat.le_refl _, Nat.le_refl _⟩ dX6_readOne_120) (fun H locs hJ => ?_)
          refine lv_iconst (v := 1) hx hb dX6_readOne_123 (by decide) ?_
          exact ret_I hret hJ hf (nar_z (by decide)) dX6_readOne_124
        · have hf := ite_t hf c7
          refine lv_iconst (v := 0) hx hb dX6_readOne_115 (by decide) ?_
          exact ret_I hret hJ hf (nar_z (by decide)) dX6_readOne_116
      · have hf := ite_t hf c3
        refine lv_aload_n hx hb dX6_readOne_80 rfl (lv_at hl 0 rfl) ?_
        refine lv_iload_n hx hb dX6_readOne_81 rfl (lv_at hl 1 rfl) ?_
        refine lv_iconst (v := 1) hx hb dX6_readOne_82 (by decide) ?_
        refine lv_iadd hx hb dX6_readOne_83 ?_
        obtain ⟨σ11, r12, hg13, hf⟩ := cal_some hf
        refine backI hsb hJ (runV (As := [.int (a1 + (1 : Int32))]) (rest := []) C hJ lk_RX6_52 (hRa _ _ _ _ hg13) recC_2 rfl rfl (Nat.le_of_ble_eq_true rfl) hl.1 (hR_of (by omega) (by decide)) ⟨Nat.le_refl _, Nat.le_refl _⟩ dX6_readOne_84) (fun H locs hJ => ?_)
        refine lv_if_eq (tgt := 103) hx hb dX6_readOne_87 (by decide) (fun c14 => ?_) (fun c14 => ?_)
        · have hf := ite_t hf c14
          refine lv_iconst (v := 0) hx hb dX6_readOne_103 (by decide) ?_
          exact ret_I hret hJ hf (nar_z (by decide)) dX6_readOne_104
        · have hf := ite_f hf c14
          refine lv_aload_n hx hb dX6_readOne_90 rfl (lv_at hl 0 rfl) ?_
          refine lv_bipush (v := 41) hx hb dX6_readOne_91 (by decide) ?_
          obtain ⟨σ15, r16, hg17, hf⟩ := cal_some hf
          refine backI hsb hJ (runV (As := [.int (41 : Int32)]) (rest := []) C hJ lk_RX6_48 (cC_R_pass hF hg17) recC_2 rfl rfl (Nat.le_of_ble_eq_true rfl) hl.1 (hR_of (by omega) (by decide)) ⟨Nat.le_refl _, Nat.le_refl _⟩ dX6_readOne_93) (fun H locs hJ => ?_)
          refine lv_if_eq (tgt := 103) hx hb dX6_readOne_96 (by decide) (fun c18 => ?_) (fun c18 => ?_)
          · have hf := ite_t hf c18
            refine lv_iconst (v := 0) hx hb dX6_readOne_103 (by decide) ?_
            exact ret_I hret hJ hf (nar_z (by decide)) dX6_readOne_104
          · have hf := ite_f hf c18
            refine lv_iconst (v := 1) hx hb dX6_readOne_99 (by decide) ?_
            refine lv_goto (tgt := 104) hx hb dX6_readOne_100 (by decide) ?_
            exact ret_I hret hJ hf (nar_z (by decide)) dX6_readOne_104
    · have hf := ite_f hf c1
      refine lv_iconst (v := 0) hx hb dX6_readOne_62 (by decide) ?_
      exact ret_I hret hJ hf (nar_z (by decide)) dX6_readOne_63
  have j17 : ∀ (σ : St) (H : Heap) (locs : List Loc) (ls : Array Slot), fC_R_readOne_j17 N kA kB kC  σ = some (σ', r) → J D (wC q cA cB) (aC q) s σ H locs → lv_has ls 3 [(0, .ref (q 2))] → W p l e (rmH (k + 7)) s m args below meth c H locs 0 0 Q (F0 m 17 ls []) := by
    intro σ H locs ls hf hJ hl
    unfold fC_R_readOne_j17 at hf
    refine lv_aload_n hx hb dX6_readOne_17 rfl (lv_at hl 0 rfl) ?_
    refine lv_aload_n hx hb dX6_readOne_18 rfl (lv_at hl 0 rfl) ?_
    refine gC_2_0 C hJ fl_RX6_12 dX6_readOne_19 ?_
    refine gC_12_3 C hJ fl_RX6_81 dX6_readOne_22 ?_
    refine lv_aload_n hx hb dX6_readOne_25 rfl (lv_at hl 0 rfl) ?_
    refine gC_2_4 C hJ fl_RX6_28 dX6_readOne_26 ?_
    obtain ⟨h19, hf⟩ := gi_some hf
    refine aC_55 C hJ h19 dX6_readOne_29 ?_
    obtain ⟨σ20, r21, hg22, hf⟩ := cal_some hf
    refine backV hsb hJ (runV (As := [.int (σ.2.1 55 (σ.1 10).toNatClampNeg)]) (rest := []) C hJ lk_RX6_65 (cC_R_emit hF hg22) recC_2 rfl rfl (Nat.le_of_ble_eq_true rfl) hl.1 (hR_of (by omega) (by decide)) ⟨Nat.le_refl _, Nat.le_refl _⟩ dX6_readOne_30) (fun H locs hJ => ?_)
    refine lv_aload_n hx hb dX6_readOne_33 rfl (lv_at hl 0 rfl) ?_
    refine lv_dup hx hb dX6_readOne_34 rfl ?_
    refine gC_2_4 C hJ fl_RX6_28 dX6_readOne_35 ?_
    refine lv_iconst (v := 1) hx hb dX6_readOne_38 (by decide) ?_
    refine lv_iadd hx hb dX6_readOne_39 ?_
    refine pC_2_4 C hJ fl_RX6_28 dX6_readOne_40 (fun σ23 H locs hs hJ => ?_)
    have hf := bnd_at hf hs
    refine lv_iconst (v := 1) hx hb dX6_readOne_43 (by decide) ?_
    exact ret_I hret hJ hf (nar_z (by decide)) dX6_readOne_44
  have hl : lv_has ls 3 [(0, .ref (q 2)), (1, .int a1)] := hl
  unfold fC_R_readOne at hf
  refine lv_aload_n hx hb dX6_readOne_0 rfl (lv_at hl 0 rfl) ?_
  obtain ⟨σ24, r25, hg26, hf⟩ := cal_some hf
  refine backI hsb hJ (runV (As := []) (rest := []) C hJ lk_RX6_55 (cC_R_kindNow hF hg26) recC_2 rfl rfl (Nat.le_of_ble_eq_true rfl) hl.1 (hR_of (by omega) (by decide)) ⟨Nat.le_refl _, Nat.le_refl _⟩ dX6_readOne_1) (fun H locs hJ => ?_)
  refine lv_istore_n (lv' := [(2, .int r25), (0, .ref (q 2)), (1, .int a1)]) hx hb dX6_readOne_4 rfl hl (by decide) rfl (fun ls hl => ?_)
  refine lv_iload_n hx hb dX6_readOne_5 rfl (lv_at hl 0 rfl) ?_
  refine lv_bipush (v := -3) hx hb dX6_readOne_6 (by decide) ?_
  refine lv_icmp_eq (tgt := 17) hx hb dX6_readOne_8 (by decide) (fun c27 => ?_) (fun c27 => ?_)
  · have hf := ite_t hf c27
    exact j17 σ24  _ _ _ hf hJ (lv_sub hl [1] rfl)
  · have hf := ite_f hf c27
    refine lv_iload_n hx hb dX6_readOne_11 rfl (lv_at hl 0 rfl) ?_
    refine lv_bipush (v := -4) hx hb dX6_readOne_12 (by decide) ?_
    refine lv_icmp_ne (tgt := 45) hx hb dX6_readOne_14 (by decide) (fun c28 => ?_) (fun c28 => ?_)
    · have hf := ite_f hf c28
      refine lv_iload_n hx hb dX6_readOne_45 rfl (lv_at hl 0 rfl) ?_
      refine lv_bipush (v := 40) hx hb dX6_readOne_46 (by decide) ?_
      refine lv_icmp_eq (tgt := 57) hx hb dX6_readOne_48 (by decide) (fun c29 => ?_) (fun c29 => ?_)
      · have hf := ite_t hf c29
        exact j57 σ24 a1 r25 _ _ _ hf hJ (lv_sub hl [1, 2, 0] rfl)
      · have hf := ite_f hf c29
        refine lv_iload_n hx hb dX6_readOne_51 rfl (lv_at hl 0 rfl) ?_
        refine lv_bipush (v := 45) hx hb dX6_readOne_52 (by decide) ?_
        refine lv_icmp_ne (tgt := 62) hx hb dX6_readOne_54 (by decide) (fun c30 => ?_) (fun c30 => ?_)
        · have hf := ite_f hf c30
          refine lv_iconst (v := 0) hx hb dX6_readOne_62 (by decide) ?_
          exact ret_I hret hJ hf (nar_z (by decide)) dX6_readOne_63
        · have hf := ite_t hf c30
          exact j57 σ24 a1 r25 _ _ _ hf hJ (lv_sub hl [1, 2, 0] rfl)
    · have hf := ite_t hf c28
      exact j17 σ24  _ _ _ hf hJ (lv_sub hl [1] rfl)
set_option maxHeartbeats 4000000 in
set_option maxRecDepth 100000 in
theorem cC_R_readTerm {l : Launch} {D : va_G} {cA cB : ClassId} {q : Nat → Nat} {x : Nat → Nat} {N : Nat} {kA kB kC : St → Int32 → Option (St × Int32)} {k : Nat} {σ σ' : St} {r : Int32} {a1 : Int32} (hF : Fr (wC q cA cB) (aC q) (eC q x)) (hRa : ∀ (σ : St) (a1 : Int32) (σ' : St) (r : Int32), kA σ a1 = some (σ', r) → MI l yX6_readOr cX6_readOr 3 .boolean (k + 6) D (tyC cA cB) (wC q cA cB) (aC q) (eC q x) [.ref (q 2), .int a1] σ σ' r) (hRb : ∀ (σ : St) (a1 : Int32) (σ' : St) (r : Int32), kB σ a1 = some (σ', r) → MI l yX6_readOne cX6_readOne 3 .boolean (k + 1) D (tyC cA cB) (wC q cA cB) (aC q) (eC q x) [.ref (q 2), .int a1] σ σ' r) (hRc : ∀ (σ : St) (a1 : Int32) (σ' : St) (r : Int32), kC σ a1 = some (σ', r) → MI l yX6_readNot cX6_readNot 3 .boolean (k + 4) D (tyC cA cB) (wC q cA cB) (aC q) (eC q x) [.ref (q 2), .int a1] σ σ' r) (hf : fC_R_readTerm N kA kB kC σ a1 = some (σ', r)) : MI l yX6_readTerm cX6_readTerm 3 .boolean (k + 8) D (tyC cA cB) (wC q cA cB) (aC q) (eC q x) [.ref (q 2), .int a1] σ σ' r := by
  refine MI_of (by decide) hF (Nat.le_of_ble_eq_true rfl) ?_
  intro p e s m args below meth c Q C hret hJ ls hl
  obtain ⟨hx, hb, hml, hown, hts, hK, hE, -⟩ := id C
  have hsb : ∀ z, (aC q) z → (aC q) z := fun _ h => h
  have l12 : ∀ (n : Nat) (σ : St) (a1 : Int32) (a2 : Int32) (H : Heap) (locs : List Loc) (ls : Array Slot), fC_R_readTerm_l12 N kA kB kC  n σ a1 a2 = some (σ', r) → J D (wC q cA cB) (aC q) s σ H locs → lv_has ls 3 [(0, .ref (q 2)), (1, .int a1), (2, .int a2)] → W p l e (rmH (k + 8)) s m args below meth c H locs 0 0 Q (F0 m 12 ls []) := by
    intro n12
    induction n12 with
    | zero => intro σ a1 a2 H locs ls hf; rw [fC_R_readTerm_l12] at hf; cases hf
    | succ n12 ih12 =>
      intro σ a1 a2 H locs ls hf hJ hl
      rw [fC_R_readTerm_l12] at hf
      refine lv_iload_n hx hb dX6_readTerm_12 rfl (lv_at hl 2 rfl) ?_
      refine lv_sipush (v := 160) hx hb dX6_readTerm_13 (by decide) ?_
      refine lv_icmp_ge (tgt := 50) hx hb dX6_readTerm_16 (by decide) (fun c1 => ?_) (fun c1 => ?_)
      · have hf := ite_t hf c1
        refine lv_iconst (v := 1) hx hb dX6_readTerm_50 (by decide) ?_
        exact ret_I hret hJ hf (nar_z (by decide)) dX6_readTerm_51
      · have hf := ite_f hf c1
        refine lv_aload_n hx hb dX6_readTerm_19 rfl (lv_at hl 0 rfl) ?_
        refine lv_bipush (v := 42) hx hb dX6_readTerm_20 (by decide) ?_
        obtain ⟨σ2, r3, hg4, hf⟩ := cal_some hf
        refine backI hsb hJ (runV (As := [.int (42 : Int32)]) (rest := []) C hJ lk_RX6_48 (cC_R_pass hF hg4) recC_2 rfl rfl (Nat.le_of_ble_eq_true rfl) hl.1 (hR_of (by omega) (by decide)) ⟨Nat.le_refl _, Nat.le_refl _⟩ dX6_readTerm_22) (fun H locs hJ => ?_)
        refine lv_if_eq (tgt := 50) hx hb dX6_readTerm_25 (by decide) (fun c5 => ?_) (fun c5 => ?_)
        · have hf := ite_t hf c5
          refine lv_iconst (v := 1) hx hb dX6_readTerm_50 (by decide) ?_
          exact ret_I hret hJ hf (nar_z (by decide)) dX6_readTerm_51
        · have hf := ite_f hf c5
          refine lv_aload_n hx hb dX6_readTerm_28 rfl (lv_at hl 0 rfl) ?_
          refine lv_iload_n hx hb dX6_readTerm_29 rfl (lv_at hl 1 rfl) ?_
          obtain ⟨σ6, r7, hg8, hf⟩ := cal_some hf
          refine backI hsb hJ (runV (As := [.int a1]) (rest := []) C hJ lk_RX6_78 (cC_R_readOne hF hRa hRb hRc hg8) recC_2 rfl rfl (Nat.le_of_ble_eq_true rfl) hl.1 (hR_of (by omega) (by decide)) ⟨Nat.le_refl _, Nat.le_refl _⟩ dX6_readTerm_30) (fun H locs hJ => ?_)
          refine lv_if_ne (tgt := 38) hx hb dX6_readTerm_33 (by decide) (fun c9 => ?_) (fun c9 => ?_)
          · have hf := ite_f hf c9
            refine lv_aload_n hx hb dX6_readTerm_38 rfl (lv_at hl 0 rfl) ?_
            refine lv_bipush (v := -18) hx hb dX6_readTerm_39 (by decide) ?_
            obtain ⟨σ10, r11, hg12, hf⟩ := cal_some hf
            refine backV hsb hJ (runV (As := [.int (-18 : Int32)]) (rest := []) C hJ lk_RX6_65 (cC_R_emit hF hg12) recC_2 rfl rfl (Nat.le_of_ble_eq_true rfl) hl.1 (hR_of (by omega) (by decide)) ⟨Nat.le_refl _, Nat.le_refl _⟩ dX6_readTerm_41) (fun H locs hJ => ?_)
            obtain ⟨x13, hx13⟩ : ∃ z : Int32, z = a2 + (1 : Int32) := ⟨_, rfl⟩
            have hf := bnd_at hf hx13
            refine lv_iinc (v := x13) (lv' := [(2, .int x13), (0, .ref (q 2)), (1, .int a1)]) hx hb dX6_readTerm_44 hl (k := 2) rfl (by rw [hx13]; rfl) (by decide) rfl (fun ls hl => ?_)
            refine lv_goto (tgt := 12) hx hb dX6_readTerm_47 (by decide) ?_
            exact ih12 σ10 a1 x13 _ _ _ hf hJ (lv_sub hl [1, 2, 0] rfl)
          · have hf := ite_t hf c9
            refine lv_iconst (v := 0) hx hb dX6_readTerm_36 (by decide) ?_
            exact ret_I hret hJ hf (nar_z (by decide)) dX6_readTerm_37
  have hl : lv_has ls 3 [(0, .ref (q 2)), (1, .int a1)] := hl
  unfold fC_R_readTerm at hf
  refine lv_aload_n hx hb dX6_readTerm_0 rfl (lv_at hl 0 rfl) ?_
  refine lv_iload_n hx hb dX6_readTerm_1 rfl (lv_at hl 1 rfl) ?_
  obtain ⟨σ14, r15, hg16, hf⟩ := cal_some hf
  refine backI hsb hJ (runV (As := [.int a1]) (rest := []) C hJ lk_RX6_78 (cC_R_readOne hF hRa hRb hRc hg16) recC_2 rfl rfl (Nat.le_of_ble_eq_true rfl) hl.1 (hR_of (by omega) (by decide)) ⟨Nat.le_refl _, Nat.le_refl _⟩ dX6_readTerm_2) (fun H locs hJ => ?_)
  refine lv_if_ne (tgt := 10) hx hb dX6_readTerm_5 (by decide) (fun c17 => ?_) (fun c17 => ?_)
  · have hf := ite_f hf c17
    refine lv_iconst (v := 0) hx hb dX6_readTerm_10 (by decide) ?_
    refine lv_istore_n (lv' := [(2, .int (0 : Int32)), (0, .ref (q 2)), (1, .int a1)]) hx hb dX6_readTerm_11 rfl hl (by decide) rfl (fun ls hl => ?_)
    exact l12 N σ14 a1 (0 : Int32) _ _ _ hf hJ (lv_sub hl [1, 2, 0] rfl)
  · have hf := ite_t hf c17
    refine lv_iconst (v := 0) hx hb dX6_readTerm_8 (by decide) ?_
    exact ret_I hret hJ hf (nar_z (by decide)) dX6_readTerm_9
set_option maxHeartbeats 4000000 in
set_option maxRecDepth 100000 in
theorem cC_R_readSum {l : Launch} {D : va_G} {cA cB : ClassId} {q : Nat → Nat} {x : Nat → Nat} {N : Nat} {kA kB kC : St → Int32 → Option (St × Int32)} {k : Nat} {σ σ' : St} {r : Int32} {a1 : Int32} (hF : Fr (wC q cA cB) (aC q) (eC q x)) (hRa : ∀ (σ : St) (a1 : Int32) (σ' : St) (r : Int32), kA σ a1 = some (σ', r) → MI l yX6_readOr cX6_readOr 3 .boolean (k + 6) D (tyC cA cB) (wC q cA cB) (aC q) (eC q x) [.ref (q 2), .int a1] σ σ' r) (hRb : ∀ (σ : St) (a1 : Int32) (σ' : St) (r : Int32), kB σ a1 = some (σ', r) → MI l yX6_readOne cX6_readOne 3 .boolean (k + 1) D (tyC cA cB) (wC q cA cB) (aC q) (eC q x) [.ref (q 2), .int a1] σ σ' r) (hRc : ∀ (σ : St) (a1 : Int32) (σ' : St) (r : Int32), kC σ a1 = some (σ', r) → MI l yX6_readNot cX6_readNot 3 .boolean (k + 4) D (tyC cA cB) (wC q cA cB) (aC q) (eC q x) [.ref (q 2), .int a1] σ σ' r) (hf : fC_R_readSum N kA kB kC σ a1 = some (σ', r)) : MI l yX6_readSum cX6_readSum 4 .boolean (k + 9) D (tyC cA cB) (wC q cA cB) (aC q) (eC q x) [.ref (q 2), .int a1] σ σ' r := by
  refine MI_of (by decide) hF (Nat.le_of_ble_eq_true rfl) ?_
  intro p e s m args below meth c Q C hret hJ ls hl
  obtain ⟨hx, hb, hml, hown, hts, hK, hE, -⟩ := id C
  have hsb : ∀ z, (aC q) z → (aC q) z := fun _ h => h
  have l17 : ∀ (n : Nat) (σ : St) (a1 : Int32) (a2 : Int32) (a3 : Int32) (H : Heap) (locs : List Loc) (ls : Array Slot), fC_R_readSum_l17 N kA kB kC  n σ a1 a2 a3 = some (σ', r) → J D (wC q cA cB) (aC q) s σ H locs → lv_has ls 4 [(0, .ref (q 2)), (1, .int a1), (2, .int a2), (3, .int a3)] → W p l e (rmH (k + 9)) s m args below meth c H locs 0 0 Q (F0 m 17 ls []) := by
    intro n17
    induction n17 with
    | zero => intro σ a1 a2 a3 H locs ls hf; rw [fC_R_readSum_l17] at hf; cases hf
    | succ n17 ih17 =>
      have j70 : ∀ (σ : St) (a1 : Int32) (a3 : Int32) (t1 : Int32) (H : Heap) (locs : List Loc) (ls : Array Slot), fC_R_readSum_j70 N kA kB kC (fC_R_readSum_l17 N kA kB kC  n17) σ a1 a3 t1 = some (σ', r) → J D (wC q cA cB) (aC q) s σ H locs → lv_has ls 4 [(0, .ref (q 2)), (1, .int a1), (3, .int a3)] → W p l e (rmH (k + 9)) s m args below meth c H locs 0 0 Q (F0 m 70 ls [.int t1, .ref (q 2)]) := by
        intro σ a1 a3 t1 H locs ls hf hJ hl
        unfold fC_R_readSum_j70 at hf
        obtain ⟨σ1, r2, hg3, hf⟩ := cal_some hf
        refine backV hsb hJ (runV (As := [.int t1]) (rest := []) C hJ lk_RX6_65 (cC_R_emit hF hg3) recC_2 rfl rfl (Nat.le_of_ble_eq_true rfl) hl.1 (hR_of (by omega) (by decide)) ⟨Nat.le_refl _, Nat.le_refl _⟩ dX6_readSum_70) (fun H locs hJ => ?_)
        refine lv_aload_n hx hb dX6_readSum_73 rfl (lv_at hl 0 rfl) ?_
        obtain ⟨σ4, r5, hg6, hf⟩ := cal_some hf
        refine backI hsb hJ (runV (As := []) (rest := []) C hJ lk_RX6_55 (cC_R_kindNow hF hg6) recC_2 rfl rfl (Nat.le_of_ble_eq_true rfl) hl.1 (hR_of (by omega) (by decide)) ⟨Nat.le_refl _, Nat.le_refl _⟩ dX6_readSum_74) (fun H locs hJ => ?_)
        refine lv_istore_n (lv' := [(2, .int r5), (0, .ref (q 2)), (1, .int a1), (3, .int a3)]) hx hb dX6_readSum_77 rfl hl (by decide) rfl (fun ls hl => ?_)
        obtain ⟨x7, hx7⟩ : ∃ z : Int32, z = a3 + (1 : Int32) := ⟨_, rfl⟩
        have hf := bnd_at hf hx7
        refine lv_iinc (v := x7) (lv' := [(3, .int x7), (2, .int r5), (0, .ref (q 2)), (1, .int a1)]) hx hb dX6_readSum_78 hl (k := 3) rfl (by rw [hx7]; rfl) (by decide) rfl (fun ls hl => ?_)
        refine lv_goto (tgt := 17) hx hb dX6_readSum_81 (by decide) ?_
        exact ih17 σ4 a1 r5 x7 _ _ _ hf hJ (lv_sub hl [2, 3, 1, 0] rfl)
      have j36 : ∀ (σ : St) (a1 : Int32) (a2 : Int32) (a3 : Int32) (H : Heap) (locs : List Loc) (ls : Array Slot), fC_R_readSum_j36 N kA kB kC (fC_R_readSum_l17 N kA kB kC  n17) σ a1 a2 a3 = some (σ', r) → J D (wC q cA cB) (aC q) s σ H locs → lv_has ls 4 [(0, .ref (q 2)), (1, .int a1), (2, .int a2), (3, .int a3)] → W p l e (rmH (k + 9)) s m args below meth c H locs 0 0 Q (F0 m 36 ls []) := by
        intro σ a1 a2 a3 H locs ls hf hJ hl
        unfold fC_R_readSum_j36 at hf
        refine lv_aload_n hx hb dX6_readSum_36 rfl (lv_at hl 0 rfl) ?_
        refine lv_dup hx hb dX6_readSum_37 rfl ?_
        refine gC_2_4 C hJ fl_RX6_28 dX6_readSum_38 ?_
        refine lv_iconst (v := 1) hx hb dX6_readSum_41 (by decide) ?_
        refine lv_iadd hx hb dX6_readSum_42 ?_
        refine pC_2_4 C hJ fl_RX6_28 dX6_readSum_43 (fun σ8 H locs hs hJ => ?_)
        have hf := bnd_at hf hs
        refine lv_aload_n hx hb dX6_readSum_46 rfl (lv_at hl 0 rfl) ?_
        refine lv_iload_n hx hb dX6_readSum_47 rfl (lv_at hl 1 rfl) ?_
        obtain ⟨σ9, r10, hg11, hf⟩ := cal_some hf
        refine backI hsb hJ (runV (As := [.int a1]) (rest := []) C hJ lk_RX6_75 (cC_R_readTerm hF hRa hRb hRc hg11) recC_2 rfl rfl (Nat.le_of_ble_eq_true rfl) hl.1 (hR_of (by omega) (by decide)) ⟨Nat.le_refl _, Nat.le_refl _⟩ dX6_readSum_48) (fun H locs hJ => ?_)
        refine lv_if_ne (tgt := 56) hx hb dX6_readSum_51 (by decide) (fun c12 => ?_) (fun c12 => ?_)
        · have hf := ite_f hf c12
          refine lv_aload_n hx hb dX6_readSum_56 rfl (lv_at hl 0 rfl) ?_
          refine lv_iload_n hx hb dX6_readSum_57 rfl (lv_at hl 2 rfl) ?_
          refine lv_bipush (v := 43) hx hb dX6_readSum_58 (by decide) ?_
          refine lv_icmp_ne (tgt := 68) hx hb dX6_readSum_60 (by decide) (fun c13 => ?_) (fun c13 => ?_)
          · have hf := ite_f hf c13
            refine lv_bipush (v := -17) hx hb dX6_readSum_68 (by decide) ?_
            exact j70 σ9 a1 a3 (-17 : Int32) _ _ _ hf hJ (lv_sub hl [0, 1, 3] rfl)
          · have hf := ite_t hf c13
            refine lv_bipush (v := -16) hx hb dX6_readSum_63 (by decide) ?_
            refine lv_goto (tgt := 70) hx hb dX6_readSum_65 (by decide) ?_
            exact j70 σ9 a1 a3 (-16 : Int32) _ _ _ hf hJ (lv_sub hl [0, 1, 3] rfl)
        · have hf := ite_t hf c12
          refine lv_iconst (v := 0) hx hb dX6_readSum_54 (by decide) ?_
          exact ret_I hret hJ hf (nar_z (by decide)) dX6_readSum_55
      intro σ a1 a2 a3 H locs ls hf hJ hl
      rw [fC_R_readSum_l17] at hf
      refine lv_iload_n hx hb dX6_readSum_17 rfl (lv_at hl 3 rfl) ?_
      refine lv_sipush (v := 160) hx hb dX6_readSum_18 (by decide) ?_
      refine lv_icmp_ge (tgt := 84) hx hb dX6_readSum_21 (by decide) (fun c14 => ?_) (fun c14 => ?_)
      · have hf := ite_t hf c14
        refine lv_iconst (v := 1) hx hb dX6_readSum_84 (by decide) ?_
        exact ret_I hret hJ hf (nar_z (by decide)) dX6_readSum_85
      · have hf := ite_f hf c14
        refine lv_iload_n hx hb dX6_readSum_24 rfl (lv_at hl 2 rfl) ?_
        refine lv_bipush (v := 43) hx hb dX6_readSum_25 (by decide) ?_
        refine lv_icmp_eq (tgt := 36) hx hb dX6_readSum_27 (by decide) (fun c15 => ?_) (fun c15 => ?_)
        · have hf := ite_t hf c15
          exact j36 σ a1 a2 a3 _ _ _ hf hJ (lv_sub hl [0, 1, 2, 3] rfl)
        · have hf := ite_f hf c15
          refine lv_iload_n hx hb dX6_readSum_30 rfl (lv_at hl 2 rfl) ?_
          refine lv_bipush (v := 45) hx hb dX6_readSum_31 (by decide) ?_
          refine lv_icmp_ne (tgt := 84) hx hb dX6_readSum_33 (by decide) (fun c16 => ?_) (fun c16 => ?_)
          · have hf := ite_f hf c16
            refine lv_iconst (v := 1) hx hb dX6_readSum_84 (by decide) ?_
            exact ret_I hret hJ hf (nar_z (by decide)) dX6_readSum_85
          · have hf := ite_t hf c16
            exact j36 σ a1 a2 a3 _ _ _ hf hJ (lv_sub hl [0, 1, 2, 3] rfl)
  have hl : lv_has ls 4 [(0, .ref (q 2)), (1, .int a1)] := hl
  unfold fC_R_readSum at hf
  refine lv_aload_n hx hb dX6_readSum_0 rfl (lv_at hl 0 rfl) ?_
  refine lv_iload_n hx hb dX6_readSum_1 rfl (lv_at hl 1 rfl) ?_
  obtain ⟨σ17, r18, hg19, hf⟩ := cal_some hf
  refine backI hsb hJ (runV (As := [.int a1]) (rest := []) C hJ lk_RX6_75 (cC_R_readTerm hF hRa hRb hRc hg19) recC_2 rfl rfl (Nat.le_of_ble_eq_true rfl) hl.1 (hR_of (by omega) (by decide)) ⟨Nat.le_refl _, Nat.le_refl _⟩ dX6_readSum_2) (fun H locs hJ => ?_)
  refine lv_if_ne (tgt := 10) hx hb dX6_readSum_5 (by decide) (fun c20 => ?_) (fun c20 => ?_)
  · have hf := ite_f hf c20
    refine lv_aload_n hx hb dX6_readSum_10 rfl (lv_at hl 0 rfl) ?_
    obtain ⟨σ21, r22, hg23, hf⟩ := cal_some hf
    refine backI hsb hJ (runV (As := []) (rest := []) C hJ lk_RX6_55 (cC_R_kindNow hF hg23) recC_2 rfl rfl (Nat.le_of_ble_eq_true rfl) hl.1 (hR_of (by omega) (by decide)) ⟨Nat.le_refl _, Nat.le_refl _⟩ dX6_readSum_11) (fun H locs hJ => ?_)
    refine lv_istore_n (lv' := [(2, .int r22), (0, .ref (q 2)), (1, .int a1)]) hx hb dX6_readSum_14 rfl hl (by decide) rfl (fun ls hl => ?_)
    refine lv_iconst (v := 0) hx hb dX6_readSum_15 (by decide) ?_
    refine lv_istore_n (lv' := [(3, .int (0 : Int32)), (2, .int r22), (0, .ref (q 2)), (1, .int a1)]) hx hb dX6_readSum_16 rfl hl (by decide) rfl (fun ls hl => ?_)
    exact l17 N σ21 a1 r22 (0 : Int32) _ _ _ hf hJ (lv_sub hl [2, 3, 1, 0] rfl)
  · have hf := ite_t hf c20
    refine lv_iconst (v := 0) hx hb dX6_readSum_8 (by decide) ?_
    exact ret_I hret hJ hf (nar_z (by decide)) dX6_readSum_9
set_option maxHeartbeats 4000000 in
set_option maxRecDepth 100000 in
theorem cC_R_readNot {l : Launch} {D : va_G} {cA cB : ClassId} {q : Nat → Nat} {x : Nat → Nat} {N : Nat} {kA kB kC : St → Int32 → Option (St × Int32)} {k : Nat} {σ σ' : St} {r : Int32} {a1 : Int32} (hF : Fr (wC q cA cB) (aC q) (eC q x)) (hRa : ∀ (σ : St) (a1 : Int32) (σ' : St) (r : Int32), kA σ a1 = some (σ', r) → MI l yX6_readOr cX6_readOr 3 .boolean (k + 6) D (tyC cA cB) (wC q cA cB) (aC q) (eC q x) [.ref (q 2), .int a1] σ σ' r) (hRb : ∀ (σ : St) (a1 : Int32) (σ' : St) (r : Int32), kB σ a1 = some (σ', r) → MI l yX6_readOne cX6_readOne 3 .boolean (k + 1) D (tyC cA cB) (wC q cA cB) (aC q) (eC q x) [.ref (q 2), .int a1] σ σ' r) (hRc : ∀ (σ : St) (a1 : Int32) (σ' : St) (r : Int32), kC σ a1 = some (σ', r) → MI l yX6_readNot cX6_readNot 3 .boolean (k + 4) D (tyC cA cB) (wC q cA cB) (aC q) (eC q x) [.ref (q 2), .int a1] σ σ' r) (hf : fC_R_readNot N kA kB kC σ a1 = some (σ', r)) : MI l yX6_readNot cX6_readNot 3 .boolean (k + 10) D (tyC cA cB) (wC q cA cB) (aC q) (eC q x) [.ref (q 2), .int a1] σ σ' r := by
  refine MI_of (by decide) hF (Nat.le_of_ble_eq_true rfl) ?_
  intro p e s m args below meth c Q C hret hJ ls hl
  obtain ⟨hx, hb, hml, hown, hts, hK, hE, -⟩ := id C
  have hsb : ∀ z, (aC q) z → (aC q) z := fun _ h => h
  have j108 : ∀ (σ : St) (t1 : Int32) (H : Heap) (locs : List Loc) (ls : Array Slot), fC_R_readNot_j108 N kA kB kC  σ t1 = some (σ', r) → J D (wC q cA cB) (aC q) s σ H locs → lv_has ls 3 [] → W p l e (rmH (k + 10)) s m args below meth c H locs 0 0 Q (F0 m 108 ls [.int t1, .ref (q 2)]) := by
    intro σ t1 H locs ls hf hJ hl
    unfold fC_R_readNot_j108 at hf
    obtain ⟨σ1, r2, hg3, hf⟩ := cal_some hf
    refine backV hsb hJ (runV (As := [.int t1]) (rest := []) C hJ lk_RX6_65 (cC_R_emit hF hg3) recC_2 rfl rfl (Nat.le_of_ble_eq_true rfl) hl.1 (hR_of (by omega) (by decide)) ⟨Nat.le_refl _, Nat.le_refl _⟩ dX6_readNot_108) (fun H locs hJ => ?_)
    refine lv_iconst (v := 1) hx hb dX6_readNot_111 (by decide) ?_
    exact ret_I hret hJ hf (nar_z (by decide)) dX6_readNot_112
  have j74 : ∀ (σ : St) (a1 : Int32) (a2 : Int32) (H : Heap) (locs : List Loc) (ls : Array Slot), fC_R_readNot_j74 N kA kB kC  σ a1 a2 = some (σ', r) → J D (wC q cA cB) (aC q) s σ H locs → lv_has ls 3 [(0, .ref (q 2)), (1, .int a1), (2, .int a2)] → W p l e (rmH (k + 10)) s m args below meth c H locs 0 0 Q (F0 m 74 ls []) := by
    intro σ a1 a2 H locs ls hf hJ hl
    unfold fC_R_readNot_j74 at hf
    refine lv_aload_n hx hb dX6_readNot_74 rfl (lv_at hl 0 rfl) ?_
    refine lv_dup hx hb dX6_readNot_75 rfl ?_
    refine gC_2_4 C hJ fl_RX6_28 dX6_readNot_76 ?_
    refine lv_iconst (v := 1) hx hb dX6_readNot_79 (by decide) ?_
    refine lv_iadd hx hb dX6_readNot_80 ?_
    refine pC_2_4 C hJ fl_RX6_28 dX6_readNot_81 (fun σ4 H locs hs hJ => ?_)
    have hf := bnd_at hf hs
    refine lv_aload_n hx hb dX6_readNot_84 rfl (lv_at hl 0 rfl) ?_
    refine lv_iload_n hx hb dX6_readNot_85 rfl (lv_at hl 1 rfl) ?_
    obtain ⟨σ5, r6, hg7, hf⟩ := cal_some hf
    refine backI hsb hJ (runV (As := [.int a1]) (rest := []) C hJ lk_RX6_72 (cC_R_readSum hF hRa hRb hRc hg7) recC_2 rfl rfl (Nat.le_of_ble_eq_true rfl) hl.1 (hR_of (by omega) (by decide)) ⟨Nat.le_refl _, Nat.le_refl _⟩ dX6_readNot_86) (fun H locs hJ => ?_)
    refine lv_if_ne (tgt := 94) hx hb dX6_readNot_89 (by decide) (fun c8 => ?_) (fun c8 => ?_)
    · have hf := ite_f hf c8
      refine lv_aload_n hx hb dX6_readNot_94 rfl (lv_at hl 0 rfl) ?_
      refine lv_iload_n hx hb dX6_readNot_95 rfl (lv_at hl 2 rfl) ?_
      refine lv_bipush (v := 60) hx hb dX6_readNot_96 (by decide) ?_
      refine lv_icmp_ne (tgt := 106) hx hb dX6_readNot_98 (by decide) (fun c9 => ?_) (fun c9 => ?_)
      · have hf := ite_f hf c9
        refine lv_bipush (v := -15) hx hb dX6_readNot_106 (by decide) ?_
        exact j108 σ5 (-15 : Int32) _ _ _ hf hJ (lv_sub hl [] rfl)
      · have hf := ite_t hf c9
        refine lv_bipush (v := -14) hx hb dX6_readNot_101 (by decide) ?_
        refine lv_goto (tgt := 108) hx hb dX6_readNot_103 (by decide) ?_
        exact j108 σ5 (-14 : Int32) _ _ _ hf hJ (lv_sub hl [] rfl)
    · have hf := ite_t hf c8
      refine lv_iconst (v := 0) hx hb dX6_readNot_92 (by decide) ?_
      exact ret_I hret hJ hf (nar_z (by decide)) dX6_readNot_93
  have hl : lv_has ls 3 [(0, .ref (q 2)), (1, .int a1)] := hl
  unfold fC_R_readNot at hf
  refine lv_aload_n hx hb dX6_readNot_0 rfl (lv_at hl 0 rfl) ?_
  obtain ⟨σ10, r11, hg12, hf⟩ := cal_some hf
  refine backI hsb hJ (runV (As := []) (rest := []) C hJ lk_RX6_55 (cC_R_kindNow hF hg12) recC_2 rfl rfl (Nat.le_of_ble_eq_true rfl) hl.1 (hR_of (by omega) (by decide)) ⟨Nat.le_refl _, Nat.le_refl _⟩ dX6_readNot_1) (fun H locs hJ => ?_)
  refine lv_sipush (v := 267) hx hb dX6_readNot_4 (by decide) ?_
  refine lv_icmp_ne (tgt := 47) hx hb dX6_readNot_7 (by decide) (fun c13 => ?_) (fun c13 => ?_)
  · have hf := ite_f hf c13
    refine lv_aload_n hx hb dX6_readNot_47 rfl (lv_at hl 0 rfl) ?_
    refine lv_iload_n hx hb dX6_readNot_48 rfl (lv_at hl 1 rfl) ?_
    obtain ⟨σ14, r15, hg16, hf⟩ := cal_some hf
    refine backI hsb hJ (runV (As := [.int a1]) (rest := []) C hJ lk_RX6_72 (cC_R_readSum hF hRa hRb hRc hg16) recC_2 rfl rfl (Nat.le_of_ble_eq_true rfl) hl.1 (hR_of (by omega) (by decide)) ⟨Nat.le_refl _, Nat.le_refl _⟩ dX6_readNot_49) (fun H locs hJ => ?_)
    refine lv_if_ne (tgt := 57) hx hb dX6_readNot_52 (by decide) (fun c17 => ?_) (fun c17 => ?_)
    · have hf := ite_f hf c17
      refine lv_aload_n hx hb dX6_readNot_57 rfl (lv_at hl 0 rfl) ?_
      obtain ⟨σ18, r19, hg20, hf⟩ := cal_some hf
      refine backI hsb hJ (runV (As := []) (rest := []) C hJ lk_RX6_55 (cC_R_kindNow hF hg20) recC_2 rfl rfl (Nat.le_of_ble_eq_true rfl) hl.1 (hR_of (by omega) (by decide)) ⟨Nat.le_refl _, Nat.le_refl _⟩ dX6_readNot_58) (fun H locs hJ => ?_)
      refine lv_istore_n (lv' := [(2, .int r19), (0, .ref (q 2)), (1, .int a1)]) hx hb dX6_readNot_61 rfl hl (by decide) rfl (fun ls hl => ?_)
      refine lv_iload_n hx hb dX6_readNot_62 rfl (lv_at hl 0 rfl) ?_
      refine lv_bipush (v := 60) hx hb dX6_readNot_63 (by decide) ?_
      refine lv_icmp_eq (tgt := 74) hx hb dX6_readNot_65 (by decide) (fun c21 => ?_) (fun c21 => ?_)
      · have hf := ite_t hf c21
        exact j74 σ18 a1 r19 _ _ _ hf hJ (lv_sub hl [1, 2, 0] rfl)
      · have hf := ite_f hf c21
        refine lv_iload_n hx hb dX6_readNot_68 rfl (lv_at hl 0 rfl) ?_
        refine lv_bipush (v := 61) hx hb dX6_readNot_69 (by decide) ?_
        refine lv_icmp_ne (tgt := 111) hx hb dX6_readNot_71 (by decide) (fun c22 => ?_) (fun c22 => ?_)
        · have hf := ite_f hf c22
          refine lv_iconst (v := 1) hx hb dX6_readNot_111 (by decide) ?_
          exact ret_I hret hJ hf (nar_z (by decide)) dX6_readNot_112
        · have hf := ite_t hf c22
          exact j74 σ18 a1 r19 _ _ _ hf hJ (lv_sub hl [1, 2, 0] rfl)
    · have hf := ite_t hf c17
      refine lv_iconst (v := 0) hx hb dX6_readNot_55 (by decide) ?_
      exact ret_I hret hJ hf (nar_z (by decide)) dX6_readNot_56
  · have hf := ite_t hf c13
    refine lv_iload_n hx hb dX6_readNot_10 rfl (lv_at hl 1 rfl) ?_
    refine lv_iconst (v := 5) hx hb dX6_readNot_11 (by decide) ?_
    refine lv_icmp_lt (tgt := 17) hx hb dX6_readNot_12 (by decide) (fun c23 => ?_) (fun c23 => ?_)
    · have hf := ite_t hf c23
      refine lv_aload_n hx hb dX6_readNot_17 rfl (lv_at hl 0 rfl) ?_
      refine lv_dup hx hb dX6_readNot_18 rfl ?_
      refine gC_2_4 C hJ fl_RX6_28 dX6_readNot_19 ?_
      refine lv_iconst (v := 1) hx hb dX6_readNot_22 (by decide) ?_
      refine lv_iadd hx hb dX6_readNot_23 ?_
      refine pC_2_4 C hJ fl_RX6_28 dX6_readNot_24 (fun σ24 H locs hs hJ => ?_)
      have hf := bnd_at hf hs
      refine lv_aload_n hx hb dX6_readNot_27 rfl (lv_at hl 0 rfl) ?_
      refine lv_iload_n hx hb dX6_readNot_28 rfl (lv_at hl 1 rfl) ?_
      refine lv_iconst (v := 1) hx hb dX6_readNot_29 (by decide) ?_
      refine lv_iadd hx hb dX6_readNot_30 ?_
      obtain ⟨σ25, r26, hg27, hf⟩ := cal_some hf
      refine backI hsb hJ (runV (As := [.int (a1 + (1 : Int32))]) (rest := []) C hJ lk_RX6_69 (hRc _ _ _ _ hg27) recC_2 rfl rfl (Nat.le_of_ble_eq_true rfl) hl.1 (hR_of (by omega) (by decide)) ⟨Nat.le_refl _, Nat.le_refl _⟩ dX6_readNot_31) (fun H locs hJ => ?_)
      refine lv_if_ne (tgt := 39) hx hb dX6_readNot_34 (by decide) (fun c28 => ?_) (fun c28 => ?_)
      · have hf := ite_f hf c28
        refine lv_aload_n hx hb dX6_readNot_39 rfl (lv_at hl 0 rfl) ?_
        refine lv_bipush (v := -13) hx hb dX6_readNot_40 (by decide) ?_
        obtain ⟨σ29, r30, hg31, hf⟩ := cal_some hf
        refine backV hsb hJ (runV (As := [.int (-13 : Int32)]) (rest := []) C hJ lk_RX6_65 (cC_R_emit hF hg31) recC_2 rfl rfl (Nat.le_of_ble_eq_true rfl) hl.1 (hR_of (by omega) (by decide)) ⟨Nat.le_refl _, Nat.le_refl _⟩ dX6_readNot_42) (fun H locs hJ => ?_)
        refine lv_iconst (v := 1) hx hb dX6_readNot_45 (by decide) ?_
        exact ret_I hret hJ hf (nar_z (by decide)) dX6_readNot_46
      · have hf := ite_t hf c28
        refine lv_iconst (v := 0) hx hb dX6_readNot_37 (by decide) ?_
        exact ret_I hret hJ hf (nar_z (by decide)) dX6_readNot_38
    · have hf := ite_f hf c23
      refine lv_iconst (v := 0) hx hb dX6_readNot_15 (by decide) ?_
      exact ret_I hret hJ hf (nar_z (by decide)) dX6_readNot_16
set_option maxHeartbeats 4000000 in
set_option maxRecDepth 100000 in
theorem cC_R_readAnd {l : Launch} {D : va_G} {cA cB : ClassId} {q : Nat → Nat} {x : Nat → Nat} {N : Nat} {kA kB kC : St → Int32 → Option (St × Int32)} {k : Nat} {σ σ' : St} {r : Int32} {a1 : Int32} (hF : Fr (wC q cA cB) (aC q) (eC q x)) (hRa : ∀ (σ : St) (a1 : Int32) (σ' : St) (r : Int32), kA σ a1 = some (σ', r) → MI l yX6_readOr cX6_readOr 3 .boolean (k + 6) D (tyC cA cB) (wC q cA cB) (aC q) (eC q x) [.ref (q 2), .int a1] σ σ' r) (hRb : ∀ (σ : St) (a1 : Int32) (σ' : St) (r : Int32), kB σ a1 = some (σ', r) → MI l yX6_readOne cX6_readOne 3 .boolean (k + 1) D (tyC cA cB) (wC q cA cB) (aC q) (eC q x) [.ref (q 2), .int a1] σ σ' r) (hRc : ∀ (σ : St) (a1 : Int32) (σ' : St) (r : Int32), kC σ a1 = some (σ', r) → MI l yX6_readNot cX6_readNot 3 .boolean (k + 4) D (tyC cA cB) (wC q cA cB) (aC q) (eC q x) [.ref (q 2), .int a1] σ σ' r) (hf : fC_R_readAnd N kA kB kC σ a1 = some (σ', r)) : MI l yX6_readAnd cX6_readAnd 3 .boolean (k + 11) D (tyC cA cB) (wC q cA cB) (aC q) (eC q x) [.ref (q 2), .int a1] σ σ' r := by
  refine MI_of (by decide) hF (Nat.le_of_ble_eq_true rfl) ?_
  intro p e s m args below meth c Q C hret hJ ls hl
  obtain ⟨hx, hb, hml, hown, hts, hK, hE, -⟩ := id C
  have hsb : ∀ z, (aC q) z → (aC q) z := fun _ h => h
  have l12 : ∀ (n : Nat) (σ : St) (a1 : Int32) (a2 : Int32) (H : Heap) (locs : List Loc) (ls : Array Slot), fC_R_readAnd_l12 N kA kB kC  n σ a1 a2 = some (σ', r) → J D (wC q cA cB) (aC q) s σ H locs → lv_has ls 3 [(0, .ref (q 2)), (1, .int a1), (2, .int a2)] → W p l e (rmH (k + 11)) s m args below meth c H locs 0 0 Q (F0 m 12 ls []) := by
    intro n12
    induction n12 with
    | zero => intro σ a1 a2 H locs ls hf; rw [fC_R_readAnd_l12] at hf; cases hf
    | succ n12 ih12 =>
      intro σ a1 a2 H locs ls hf hJ hl
      rw [fC_R_readAnd_l12] at hf
      refine lv_iload_n hx hb dX6_readAnd_12 rfl (lv_at hl 2 rfl) ?_
      refine lv_sipush (v := 160) hx hb dX6_readAnd_13 (by decide) ?_
      refine lv_icmp_ge (tgt := 51) hx hb dX6_readAnd_16 (by decide) (fun c1 => ?_) (fun c1 => ?_)
      · have hf := ite_t hf c1
        refine lv_iconst (v := 1) hx hb dX6_readAnd_51 (by decide) ?_
        exact ret_I hret hJ hf (nar_z (by decide)) dX6_readAnd_52
      · have hf := ite_f hf c1
        refine lv_aload_n hx hb dX6_readAnd_19 rfl (lv_at hl 0 rfl) ?_
        refine lv_sipush (v := 266) hx hb dX6_readAnd_20 (by decide) ?_
        obtain ⟨σ2, r3, hg4, hf⟩ := cal_some hf
        refine backI hsb hJ (runV (As := [.int (266 : Int32)]) (rest := []) C hJ lk_RX6_48 (cC_R_pass hF hg4) recC_2 rfl rfl (Nat.le_of_ble_eq_true rfl) hl.1 (hR_of (by omega) (by decide)) ⟨Nat.le_refl _, Nat.le_refl _⟩ dX6_readAnd_23) (fun H locs hJ => ?_)
        refine lv_if_eq (tgt := 51) hx hb dX6_readAnd_26 (by decide) (fun c5 => ?_) (fun c5 => ?_)
        · have hf := ite_t hf c5
          refine lv_iconst (v := 1) hx hb dX6_readAnd_51 (by decide) ?_
          exact ret_I hret hJ hf (nar_z (by decide)) dX6_readAnd_52
        · have hf := ite_f hf c5
          refine lv_aload_n hx hb dX6_readAnd_29 rfl (lv_at hl 0 rfl) ?_
          refine lv_iload_n hx hb dX6_readAnd_30 rfl (lv_at hl 1 rfl) ?_
          obtain ⟨σ6, r7, hg8, hf⟩ := cal_some hf
          refine backI hsb hJ (runV (As := [.int a1]) (rest := []) C hJ lk_RX6_69 (cC_R_readNot hF hRa hRb hRc hg8) recC_2 rfl rfl (Nat.le_of_ble_eq_true rfl) hl.1 (hR_of (by omega) (by decide)) ⟨Nat.le_refl _, Nat.le_refl _⟩ dX6_readAnd_31) (fun H locs hJ => ?_)
          refine lv_if_ne (tgt := 39) hx hb dX6_readAnd_34 (by decide) (fun c9 => ?_) (fun c9 => ?_)
          · have hf := ite_f hf c9
            refine lv_aload_n hx hb dX6_readAnd_39 rfl (lv_at hl 0 rfl) ?_
            refine lv_bipush (v := -12) hx hb dX6_readAnd_40 (by decide) ?_
            obtain ⟨σ10, r11, hg12, hf⟩ := cal_some hf
            refine backV hsb hJ (runV (As := [.int (-12 : Int32)]) (rest := []) C hJ lk_RX6_65 (cC_R_emit hF hg12) recC_2 rfl rfl (Nat.le_of_ble_eq_true rfl) hl.1 (hR_of (by omega) (by decide)) ⟨Nat.le_refl _, Nat.le_refl _⟩ dX6_readAnd_42) (fun H locs hJ => ?_)
            obtain ⟨x13, hx13⟩ : ∃ z : Int32, z = a2 + (1 : Int32) := ⟨_, rfl⟩
            have hf := bnd_at hf hx13
            refine lv_iinc (v := x13) (lv' := [(2, .int x13), (0, .ref (q 2)), (1, .int a1)]) hx hb dX6_readAnd_45 hl (k := 2) rfl (by rw [hx13]; rfl) (by decide) rfl (fun ls hl => ?_)
            refine lv_goto (tgt := 12) hx hb dX6_readAnd_48 (by decide) ?_
            exact ih12 σ10 a1 x13 _ _ _ hf hJ (lv_sub hl [1, 2, 0] rfl)
          · have hf := ite_t hf c9
            refine lv_iconst (v := 0) hx hb dX6_readAnd_37 (by decide) ?_
            exact ret_I hret hJ hf (nar_z (by decide)) dX6_readAnd_38
  have hl : lv_has ls 3 [(0, .ref (q 2)), (1, .int a1)] := hl
  unfold fC_R_readAnd at hf
  refine lv_aload_n hx hb dX6_readAnd_0 rfl (lv_at hl 0 rfl) ?_
  refine lv_iload_n hx hb dX6_readAnd_1 rfl (lv_at hl 1 rfl) ?_
  obtain ⟨σ14, r15, hg16, hf⟩ := cal_some hf
  refine backI hsb hJ (runV (As := [.int a1]) (rest := []) C hJ lk_RX6_69 (cC_R_readNot hF hRa hRb hRc hg16) recC_2 rfl rfl (Nat.le_of_ble_eq_true rfl) hl.1 (hR_of (by omega) (by decide)) ⟨Nat.le_refl _, Nat.le_refl _⟩ dX6_readAnd_2) (fun H locs hJ => ?_)
  refine lv_if_ne (tgt := 10) hx hb dX6_readAnd_5 (by decide) (fun c17 => ?_) (fun c17 => ?_)
  · have hf := ite_f hf c17
    refine lv_iconst (v := 0) hx hb dX6_readAnd_10 (by decide) ?_
    refine lv_istore_n (lv' := [(2, .int (0 : Int32)), (0, .ref (q 2)), (1, .int a1)]) hx hb dX6_readAnd_11 rfl hl (by decide) rfl (fun ls hl => ?_)
    exact l12 N σ14 a1 (0 : Int32) _ _ _ hf hJ (lv_sub hl [1, 2, 0] rfl)
  · have hf := ite_t hf c17
    refine lv_iconst (v := 0) hx hb dX6_readAnd_8 (by decide) ?_
    exact ret_I hret hJ hf (nar_z (by decide)) dX6_readAnd_9
set_option maxHeartbeats 4000000 in
set_option maxRecDepth 100000 in
theorem cC_R_readOr {l : Launch} {D : va_G} {cA cB : ClassId} {q : Nat → Nat} {x : Nat → Nat} {N : Nat} {kA kB kC : St → Int32 → Option (St × Int32)} {k : Nat} {σ σ' : St} {r : Int32} {a1 : Int32} (hF : Fr (wC q cA cB) (aC q) (eC q x)) (hRa : ∀ (σ : St) (a1 : Int32) (σ' : St) (r : Int32), kA σ a1 = some (σ', r) → MI l yX6_readOr cX6_readOr 3 .boolean (k + 6) D (tyC cA cB) (wC q cA cB) (aC q) (eC q x) [.ref (q 2), .int a1] σ σ' r) (hRb : ∀ (σ : St) (a1 : Int32) (σ' : St) (r : Int32), kB σ a1 = some (σ', r) → MI l yX6_readOne cX6_readOne 3 .boolean (k + 1) D (tyC cA cB) (wC q cA cB) (aC q) (eC q x) [.ref (q 2), .int a1] σ σ' r) (hRc : ∀ (σ : St) (a1 : Int32) (σ' : St) (r : Int32), kC σ a1 = some (σ', r) → MI l yX6_readNot cX6_readNot 3 .boolean (k + 4) D (tyC cA cB) (wC q cA cB) (aC q) (eC q x) [.ref (q 2), .int a1] σ σ' r) (hf : fC_R_readOr N kA kB kC σ a1 = some (σ', r)) : MI l yX6_readOr cX6_readOr 3 .boolean (k + 12) D (tyC cA cB) (wC q cA cB) (aC q) (eC q x) [.ref (q 2), .int a1] σ σ' r := by
  refine MI_of (by decide) hF (Nat.le_of_ble_eq_true rfl) ?_
  intro p e s m args below meth c Q C hret hJ ls hl
  obtain ⟨hx, hb, hml, hown, hts, hK, hE, -⟩ := id C
  have hsb : ∀ z, (aC q) z → (aC q) z := fun _ h => h
  have l12 : ∀ (n : Nat) (σ : St) (a1 : Int32) (a2 : Int32) (H : Heap) (locs : List Loc) (ls : Array Slot), fC_R_readOr_l12 N kA kB kC  n σ a1 a2 = some (σ', r) → J D (wC q cA cB) (aC q) s σ H locs → lv_has ls 3 [(0, .ref (q 2)), (1, .int a1), (2, .int a2)] → W p l e (rmH (k + 12)) s m args below meth c H locs 0 0 Q (F0 m 12 ls []) := by
    intro n12
    induction n12 with
    | zero => intro σ a1 a2 H locs ls hf; rw [fC_R_readOr_l12] at hf; cases hf
    | succ n12 ih12 =>
      intro σ a1 a2 H locs ls hf hJ hl
      rw [fC_R_readOr_l12] at hf
      refine lv_iload_n hx hb dX6_readOr_12 rfl (lv_at hl 2 rfl) ?_
      refine lv_sipush (v := 160) hx hb dX6_readOr_13 (by decide) ?_
      refine lv_icmp_ge (tgt := 51) hx hb dX6_readOr_16 (by decide) (fun c1 => ?_) (fun c1 => ?_)
      · have hf := ite_t hf c1
        refine lv_iconst (v := 1) hx hb dX6_readOr_51 (by decide) ?_
        exact ret_I hret hJ hf (nar_z (by decide)) dX6_readOr_52
      · have hf := ite_f hf c1
        refine lv_aload_n hx hb dX6_readOr_19 rfl (lv_at hl 0 rfl) ?_
        refine lv_sipush (v := 265) hx hb dX6_readOr_20 (by decide) ?_
        obtain ⟨σ2, r3, hg4, hf⟩ := cal_some hf
        refine backI hsb hJ (runV (As := [.int (265 : Int32)]) (rest := []) C hJ lk_RX6_48 (cC_R_pass hF hg4) recC_2 rfl rfl (Nat.le_of_ble_eq_true rfl) hl.1 (hR_of (by omega) (by decide)) ⟨Nat.le_refl _, Nat.le_refl _⟩ dX6_readOr_23) (fun H locs hJ => ?_)
        refine lv_if_eq (tgt := 51) hx hb dX6_readOr_26 (by decide) (fun c5 => ?_) (fun c5 => ?_)
        · have hf := ite_t hf c5
          refine lv_iconst (v := 1) hx hb dX6_readOr_51 (by decide) ?_
          exact ret_I hret hJ hf (nar_z (by decide)) dX6_readOr_52
        · have hf := ite_f hf c5
          refine lv_aload_n hx hb dX6_readOr_29 rfl (lv_at hl 0 rfl) ?_
          refine lv_iload_n hx hb dX6_readOr_30 rfl (lv_at hl 1 rfl) ?_
          obtain ⟨σ6, r7, hg8, hf⟩ := cal_some hf
          refine backI hsb hJ (runV (As := [.int a1]) (rest := []) C hJ lk_RX6_62 (cC_R_readAnd hF hRa hRb hRc hg8) recC_2 rfl rfl (Nat.le_of_ble_eq_true rfl) hl.1 (hR_of (by omega) (by decide)) ⟨Nat.le_refl _, Nat.le_refl _⟩ dX6_readOr_31) (fun H locs hJ => ?_)
          refine lv_if_ne (tgt := 39) hx hb dX6_readOr_34 (by decide) (fun c9 => ?_) (fun c9 => ?_)
          · have hf := ite_f hf c9
            refine lv_aload_n hx hb dX6_readOr_39 rfl (lv_at hl 0 rfl) ?_
            refine lv_bipush (v := -11) hx hb dX6_readOr_40 (by decide) ?_
            obtain ⟨σ10, r11, hg12, hf⟩ := cal_some hf
            refine backV hsb hJ (runV (As := [.int (-11 : Int32)]) (rest := []) C hJ lk_RX6_65 (cC_R_emit hF hg12) recC_2 rfl rfl (Nat.le_of_ble_eq_true rfl) hl.1 (hR_of (by omega) (by decide)) ⟨Nat.le_refl _, Nat.le_refl _⟩ dX6_readOr_42) (fun H locs hJ => ?_)
            obtain ⟨x13, hx13⟩ : ∃ z : Int32, z = a2 + (1 : Int32) := ⟨_, rfl⟩
            have hf := bnd_at hf hx13
            refine lv_iinc (v := x13) (lv' := [(2, .int x13), (0, .ref (q 2)), (1, .int a1)]) hx hb dX6_readOr_45 hl (k := 2) rfl (by rw [hx13]; rfl) (by decide) rfl (fun ls hl => ?_)
            refine lv_goto (tgt := 12) hx hb dX6_readOr_48 (by decide) ?_
            exact ih12 σ10 a1 x13 _ _ _ hf hJ (lv_sub hl [1, 2, 0] rfl)
          · have hf := ite_t hf c9
            refine lv_iconst (v := 0) hx hb dX6_readOr_37 (by decide) ?_
            exact ret_I hret hJ hf (nar_z (by decide)) dX6_readOr_38
  have hl : lv_has ls 3 [(0, .ref (q 2)), (1, .int a1)] := hl
  unfold fC_R_readOr at hf
  refine lv_aload_n hx hb dX6_readOr_0 rfl (lv_at hl 0 rfl) ?_
  refine lv_iload_n hx hb dX6_readOr_1 rfl (lv_at hl 1 rfl) ?_
  obtain ⟨σ14, r15, hg16, hf⟩ := cal_some hf
  refine backI hsb hJ (runV (As := [.int a1]) (rest := []) C hJ lk_RX6_62 (cC_R_readAnd hF hRa hRb hRc hg16) recC_2 rfl rfl (Nat.le_of_ble_eq_true rfl) hl.1 (hR_of (by omega) (by decide)) ⟨Nat.le_refl _, Nat.le_refl _⟩ dX6_readOr_2) (fun H locs hJ => ?_)
  refine lv_if_ne (tgt := 10) hx hb dX6_readOr_5 (by decide) (fun c17 => ?_) (fun c17 => ?_)
  · have hf := ite_f hf c17
    refine lv_iconst (v := 0) hx hb dX6_readOr_10 (by decide) ?_
    refine lv_istore_n (lv' := [(2, .int (0 : Int32)), (0, .ref (q 2)), (1, .int a1)]) hx hb dX6_readOr_11 rfl hl (by decide) rfl (fun ls hl => ?_)
    exact l12 N σ14 a1 (0 : Int32) _ _ _ hf hJ (lv_sub hl [1, 2, 0] rfl)
  · have hf := ite_t hf c17
    refine lv_iconst (v := 0) hx hb dX6_readOr_8 (by decide) ?_
    exact ret_I hret hJ hf (nar_z (by decide)) dX6_readOr_9
theorem cC_lv {l : Launch} {D : va_G} {cA cB : ClassId} {q : Nat → Nat} {x : Nat → Nat} {N : Nat} (hF : Fr (wC q cA cB) (aC q) (eC q x)) : ∀ d : Nat, (∀ (σ : St) (a1 : Int32) (σ' : St) (r : Int32), (fC_lv N d).1 σ a1 = some (σ', r) → MI l yX6_readOr cX6_readOr 3 .boolean (6 * d + 6) D (tyC cA cB) (wC q cA cB) (aC q) (eC q x) [.ref (q 2), .int a1] σ σ' r) ∧ (∀ (σ : St) (a1 : Int32) (σ' : St) (r : Int32), (fC_lv N d).2.1 σ a1 = some (σ', r) → MI l yX6_readOne cX6_readOne 3 .boolean (6 * d + 1) D (tyC cA cB) (wC q cA cB) (aC q) (eC q x) [.ref (q 2), .int a1] σ σ' r) ∧ (∀ (σ : St) (a1 : Int32) (σ' : St) (r : Int32), (fC_lv N d).2.2 σ a1 = some (σ', r) → MI l yX6_readNot cX6_readNot 3 .boolean (6 * d + 4) D (tyC cA cB) (wC q cA cB) (aC q) (eC q x) [.ref (q 2), .int a1] σ σ' r) := by
  intro d
  induction d with
  | zero => exact ⟨fun σ a1 σ' r h => (by cases h), fun σ a1 σ' r h => (by cases h), fun σ a1 σ' r h => (by cases h)⟩
  | succ d ih =>
    obtain ⟨h1, h2, h3⟩ := ih
    have e0 : 6 * (d + 1) + 6 = 6 * d + 12 := by omega
    have e1 : 6 * (d + 1) + 1 = 6 * d + 7 := by omega
    have e2 : 6 * (d + 1) + 4 = 6 * d + 10 := by omega
    rw [e0, e1, e2]
    exact ⟨fun σ a1 σ' r h => cC_R_readOr hF h1 h2 h3 h, fun σ a1 σ' r h => cC_R_readOne hF h1 h2 h3 h, fun σ a1 σ' r h => cC_R_readNot hF h1 h2 h3 h⟩
theorem cC_lv_readOr {l : Launch} {D : va_G} {cA cB : ClassId} {q : Nat → Nat} {x : Nat → Nat} {N : Nat} {σ σ' : St} {r : Int32} {a1 : Int32} (hF : Fr (wC q cA cB) (aC q) (eC q x)) (h : (fC_lv N 7).1 σ a1 = some (σ', r)) : MI l yX6_readOr cX6_readOr 3 .boolean 48 D (tyC cA cB) (wC q cA cB) (aC q) (eC q x) [.ref (q 2), .int a1] σ σ' r := (cC_lv hF 7).1 _ _ _ _ h
theorem cC_lv_readOne {l : Launch} {D : va_G} {cA cB : ClassId} {q : Nat → Nat} {x : Nat → Nat} {N : Nat} {σ σ' : St} {r : Int32} {a1 : Int32} (hF : Fr (wC q cA cB) (aC q) (eC q x)) (h : (fC_lv N 7).2.1 σ a1 = some (σ', r)) : MI l yX6_readOne cX6_readOne 3 .boolean 43 D (tyC cA cB) (wC q cA cB) (aC q) (eC q x) [.ref (q 2), .int a1] σ σ' r := (cC_lv hF 7).2.1 _ _ _ _ h
theorem cC_lv_readNot {l : Launch} {D : va_G} {cA cB : ClassId} {q : Nat → Nat} {x : Nat → Nat} {N : Nat} {σ σ' : St} {r : Int32} {a1 : Int32} (hF : Fr (wC q cA cB) (aC q) (eC q x)) (h : (fC_lv N 7).2.2 σ a1 = some (σ', r)) : MI l yX6_readNot cX6_readNot 3 .boolean 46 D (tyC cA cB) (wC q cA cB) (aC q) (eC q x) [.ref (q 2), .int a1] σ σ' r := (cC_lv hF 7).2.2 _ _ _ _ h
set_option maxHeartbeats 4000000 in
set_option maxRecDepth 100000 in
theorem cC_isWithin {l : Launch} {D : va_G} {cA cB : ClassId} {q : Nat → Nat} {x : Nat → Nat} {N : Nat} {σ σ' : St} {r : Int32} {a0 : Int32} {a1 : Int32} {a2 : Int32} (hF : Fr (wC q cA cB) (aC q) (eC q x)) (hf : fC_isWithin N σ a0 a1 a2 = some (σ', r)) : MI l yX11_isWithin cX11_isWithin 3 .boolean 1 D (tyC cA cB) (wC q cA cB) (aC q) (eC q x) [.int a0, .int a1, .int a2] σ σ' r := by
  refine MI_of (by decide) hF (Nat.le_of_ble_eq_true rfl) ?_
  intro p e s m args below meth c Q C hret hJ ls hl
  obtain ⟨hx, hb, hml, hown, hts, hK, hE, -⟩ := id C
  have hsb : ∀ z, (aC q) z → (aC q) z := fun _ h => h
  have hl : lv_has ls 3 [(0, .int a0), (1, .int a1), (2, .int a2)] := hl
  unfold fC_isWithin at hf
  refine lv_iload_n hx hb dX11_isWithin_0 rfl (lv_at hl 1 rfl) ?_
  refine lv_iload_n hx hb dX11_isWithin_1 rfl (lv_at hl 0 rfl) ?_
  refine lv_icmp_gt (tgt := 14) hx hb dX11_isWithin_2 (by decide) (fun c1 => ?_) (fun c1 => ?_)
  · have hf := ite_t hf c1
    refine lv_iconst (v := 0) hx hb dX11_isWithin_14 (by decide) ?_
    exact ret_I hret hJ hf (nar_z (by decide)) dX11_isWithin_15
  · have hf := ite_f hf c1
    refine lv_iload_n hx hb dX11_isWithin_5 rfl (lv_at hl 0 rfl) ?_
    refine lv_iload_n hx hb dX11_isWithin_6 rfl (lv_at hl 2 rfl) ?_
    refine lv_icmp_gt (tgt := 14) hx hb dX11_isWithin_7 (by decide) (fun c2 => ?_) (fun c2 => ?_)
    · have hf := ite_t hf c2
      refine lv_iconst (v := 0) hx hb dX11_isWithin_14 (by decide) ?_
      exact ret_I hret hJ hf (nar_z (by decide)) dX11_isWithin_15
    · have hf := ite_f hf c2
      refine lv_iconst (v := 1) hx hb dX11_isWithin_10 (by decide) ?_
      refine lv_goto (tgt := 15) hx hb dX11_isWithin_11 (by decide) ?_
      exact ret_I hret hJ hf (nar_z (by decide)) dX11_isWithin_15
set_option maxHeartbeats 4000000 in
set_option maxRecDepth 100000 in
theorem cC_isSide {l : Launch} {D : va_G} {cA cB : ClassId} {q : Nat → Nat} {x : Nat → Nat} {N : Nat} {σ σ' : St} {r : Int32} {a0 : Int32} (hF : Fr (wC q cA cB) (aC q) (eC q x)) (hf : fC_isSide N σ a0 = some (σ', r)) : MI l yX11_isSide cX11_isSide 1 .boolean 2 D (tyC cA cB) (wC q cA cB) (aC q) (eC q x) [.int a0] σ σ' r := by
  refine MI_of (by decide) hF (Nat.le_of_ble_eq_true rfl) ?_
  intro p e s m args below meth c Q C hret hJ ls hl
  obtain ⟨hx, hb, hml, hown, hts, hK, hE, -⟩ := id C
  have hsb : ∀ z, (aC q) z → (aC q) z := fun _ h => h
  have hl : lv_has ls 1 [(0, .int a0)] := hl
  unfold fC_isSide at hf
  refine lv_iload_n hx hb dX11_isSide_0 rfl (lv_at hl 0 rfl) ?_
  refine lv_iconst (v := 0) hx hb dX11_isSide_1 (by decide) ?_
  refine lv_iconst (v := 3) hx hb dX11_isSide_2 (by decide) ?_
  obtain ⟨σ1, r2, hg3, hf⟩ := cal_some hf
  refine backI hsb hJ (runS (As := [.int a0, .int (0 : Int32), .int (3 : Int32)]) (rest := []) C hJ lk_RX11_100 (cC_isWithin hF hg3) rfl rfl (Nat.le_of_ble_eq_true rfl) hl.1 (hR_of (by omega) (by decide)) ⟨Nat.le_refl _, Nat.le_refl _⟩ dX11_isSide_3) (fun H locs hJ => ?_)
  obtain ⟨h4, hf⟩ := gd_some hf
  exact ret_I hret hJ hf (nar_z h4) dX11_isSide_6
set_option maxHeartbeats 4000000 in
set_option maxRecDepth 100000 in
theorem cC_isPlace {l : Launch} {D : va_G} {cA cB : ClassId} {q : Nat → Nat} {x : Nat → Nat} {N : Nat} {σ σ' : St} {r : Int32} {a0 : Int32} (hF : Fr (wC q cA cB) (aC q) (eC q x)) (hf : fC_isPlace N σ a0 = some (σ', r)) : MI l yX11_isPlace cX11_isPlace 1 .boolean 2 D (tyC cA cB) (wC q cA cB) (aC q) (eC q x) [.int a0] σ σ' r := by
  refine MI_of (by decide) hF (Nat.le_of_ble_eq_true rfl) ?_
  intro p e s m args below meth c Q C hret hJ ls hl
  obtain ⟨hx, hb, hml, hown, hts, hK, hE, -⟩ := id C
  have hsb : ∀ z, (aC q) z → (aC q) z := fun _ h => h
  have hl : lv_has ls 1 [(0, .int a0)] := hl
  unfold fC_isPlace at hf
  refine lv_iload_n hx hb dX11_isPlace_0 rfl (lv_at hl 0 rfl) ?_
  refine lv_iconst (v := 0) hx hb dX11_isPlace_1 (by decide) ?_
  refine lv_sipush (v := 9999) hx hb dX11_isPlace_2 (by decide) ?_
  obtain ⟨σ1, r2, hg3, hf⟩ := cal_some hf
  refine backI hsb hJ (runS (As := [.int a0, .int (0 : Int32), .int (9999 : Int32)]) (rest := []) C hJ lk_RX11_100 (cC_isWithin hF hg3) rfl rfl (Nat.le_of_ble_eq_true rfl) hl.1 (hR_of (by omega) (by decide)) ⟨Nat.le_refl _, Nat.le_refl _⟩ dX11_isPlace_5) (fun H locs hJ => ?_)
  obtain ⟨h4, hf⟩ := gd_some hf
  exact ret_I hret hJ hf (nar_z h4) dX11_isPlace_8
set_option maxHeartbeats 4000000 in
set_option maxRecDepth 100000 in
theorem cC_isSpeed {l : Launch} {D : va_G} {cA cB : ClassId} {q : Nat → Nat} {x : Nat → Nat} {N : Nat} {σ σ' : St} {r : Int32} {a0 : Int32} (hF : Fr (wC q cA cB) (aC q) (eC q x)) (hf : fC_isSpeed N σ a0 = some (σ', r)) : MI l yX11_isSpeed cX11_isSpeed 1 .boolean 2 D (tyC cA cB) (wC q cA cB) (aC q) (eC q x) [.int a0] σ σ' r := by
  refine MI_of (by decide) hF (Nat.le_of_ble_eq_true rfl) ?_
  intro p e s m args below meth c Q C hret hJ ls hl
  obtain ⟨hx, hb, hml, hown, hts, hK, hE, -⟩ := id C
  have hsb : ∀ z, (aC q) z → (aC q) z := fun _ h => h
  have hl : lv_has ls 1 [(0, .int a0)] := hl
  unfold fC_isSpeed at hf
  refine lv_iload_n hx hb dX11_isSpeed_0 rfl (lv_at hl 0 rfl) ?_
  refine lv_bipush (v := -99) hx hb dX11_isSpeed_1 (by decide) ?_
  refine lv_bipush (v := 99) hx hb dX11_isSpeed_3 (by decide) ?_
  obtain ⟨σ1, r2, hg3, hf⟩ := cal_some hf
  refine backI hsb hJ (runS (As := [.int a0, .int (-99 : Int32), .int (99 : Int32)]) (rest := []) C hJ lk_RX11_100 (cC_isWithin hF hg3) rfl rfl (Nat.le_of_ble_eq_true rfl) hl.1 (hR_of (by omega) (by decide)) ⟨Nat.le_refl _, Nat.le_refl _⟩ dX11_isSpeed_5) (fun H locs hJ => ?_)
  obtain ⟨h4, hf⟩ := gd_some hf
  exact ret_I hret hJ hf (nar_z h4) dX11_isSpeed_8
set_option maxHeartbeats 4000000 in
set_option maxRecDepth 100000 in
theorem cC_S_add {l : Launch} {D : va_G} {cA cB : ClassId} {q : Nat → Nat} {x : Nat → Nat} {N : Nat} {σ σ' : St} {r : Int32} {a1 : Int32} {a2 : Int32} {a3 : Int32} (hF : Fr (wC q cA cB) (aC q) (eC q x)) (hf : fC_S_add N σ a1 a2 a3 = some (σ', r)) : MI l yX8_add cX8_add 4 .int 3 D (tyC cA cB) (wC q cA cB) (aC q) (eC q x) [.ref (q 7), .int a1, .int a2, .int a3] σ σ' r := by
  refine MI_of (by decide) hF (Nat.le_of_ble_eq_true rfl) ?_
  intro p e s m args below meth c Q C hret hJ ls hl
  obtain ⟨hx, hb, hml, hown, hts, hK, hE, -⟩ := id C
  have hsb : ∀ z, (aC q) z → (aC q) z := fun _ h => h
  have hl : lv_has ls 4 [(0, .ref (q 7)), (1, .int a1), (2, .int a2), (3, .int a3)] := hl
  unfold fC_S_add at hf
  refine lv_iload_n hx hb dX8_add_0 rfl (lv_at hl 1 rfl) ?_
  obtain ⟨σ1, r2, hg3, hf⟩ := cal_some hf
  refine backI hsb hJ (runN (As := [.int a1]) (rest := []) C hJ lkn_yX11_isSide (hE.1 _ nl_RX8_28) (cC_isSide hF hg3) rfl rfl (Nat.le_of_ble_eq_true rfl) hl.1 (hR_of (by omega) (by decide)) ⟨Nat.le_refl _, Nat.le_refl _⟩ dX8_add_1) (fun H locs hJ => ?_)
  refine lv_if_eq (tgt := 21) hx hb dX8_add_4 (by decide) (fun c4 => ?_) (fun c4 => ?_)
  · have hf := ite_t hf c4
    refine lv_bipush (v := -2) hx hb dX8_add_21 (by decide) ?_
    exact ret_I hret hJ hf rfl dX8_add_23
  · have hf := ite_f hf c4
    refine lv_iload_n hx hb dX8_add_7 rfl (lv_at hl 2 rfl) ?_
    obtain ⟨σ5, r6, hg7, hf⟩ := cal_some hf
    refine backI hsb hJ (runN (As := [.int a2]) (rest := []) C hJ lkn_yX11_isPlace (hE.1 _ nl_RX8_32) (cC_isPlace hF hg7) rfl rfl (Nat.le_of_ble_eq_true rfl) hl.1 (hR_of (by omega) (by decide)) ⟨Nat.le_refl _, Nat.le_refl _⟩ dX8_add_8) (fun H locs hJ => ?_)
    refine lv_if_eq (tgt := 21) hx hb dX8_add_11 (by decide) (fun c8 => ?_) (fun c8 => ?_)
    · have hf := ite_t hf c8
      refine lv_bipush (v := -2) hx hb dX8_add_21 (by decide) ?_
      exact ret_I hret hJ hf rfl dX8_add_23
    · have hf := ite_f hf c8
      refine lv_iload_n hx hb dX8_add_14 rfl (lv_at hl 3 rfl) ?_
      obtain ⟨σ9, r10, hg11, hf⟩ := cal_some hf
      refine backI hsb hJ (runN (As := [.int a3]) (rest := []) C hJ lkn_yX11_isSpeed (hE.1 _ nl_RX8_35) (cC_isSpeed hF hg11) rfl rfl (Nat.le_of_ble_eq_true rfl) hl.1 (hR_of (by omega) (by decide)) ⟨Nat.le_refl _, Nat.le_refl _⟩ dX8_add_15) (fun H locs hJ => ?_)
      refine lv_if_ne (tgt := 24) hx hb dX8_add_18 (by decide) (fun c12 => ?_) (fun c12 => ?_)
      · have hf := ite_f hf c12
        refine lv_aload_n hx hb dX8_add_24 rfl (lv_at hl 0 rfl) ?_
        refine gC_7_4 C hJ fl_RX8_24 dX8_add_25 ?_
        refine lv_bipush (v := 10) hx hb dX8_add_28 (by decide) ?_
        refine lv_icmp_lt (tgt := 36) hx hb dX8_add_30 (by decide) (fun c13 => ?_) (fun c13 => ?_)
        · have hf := ite_t hf c13
          refine lv_aload_n hx hb dX8_add_36 rfl (lv_at hl 0 rfl) ?_
          refine gC_7_0 C hJ fl_RX8_9 dX8_add_37 ?_
          refine lv_aload_n hx hb dX8_add_40 rfl (lv_at hl 0 rfl) ?_
          refine gC_7_4 C hJ fl_RX8_24 dX8_add_41 ?_
          refine lv_iload_n hx hb dX8_add_44 rfl (lv_at hl 1 rfl) ?_
          obtain ⟨h14, hf⟩ := gi_some hf
          refine sC_32 C hJ h14 dX8_add_45 (fun σ15 H locs hs hJ => ?_)
          have hf := bnd_at hf hs
          refine lv_aload_n hx hb dX8_add_46 rfl (lv_at hl 0 rfl) ?_
          refine gC_7_1 C hJ fl_RX8_15 dX8_add_47 ?_
          refine lv_aload_n hx hb dX8_add_50 rfl (lv_at hl 0 rfl) ?_
          refine gC_7_4 C hJ fl_RX8_24 dX8_add_51 ?_
          refine lv_iload_n hx hb dX8_add_54 rfl (lv_at hl 2 rfl) ?_
          obtain ⟨h16, hf⟩ := gi_some hf
          refine sC_33 C hJ h16 dX8_add_55 (fun σ17 H locs hs hJ => ?_)
          have hf := bnd_at hf hs
          refine lv_aload_n hx hb dX8_add_56 rfl (lv_at hl 0 rfl) ?_
          refine gC_7_2 C hJ fl_RX8_18 dX8_add_57 ?_
          refine lv_aload_n hx hb dX8_add_60 rfl (lv_at hl 0 rfl) ?_
          refine gC_7_4 C hJ fl_RX8_24 dX8_add_61 ?_
          refine lv_iload_n hx hb dX8_add_64 rfl (lv_at hl 3 rfl) ?_
          obtain ⟨h18, hf⟩ := gi_some hf
          refine sC_34 C hJ h18 dX8_add_65 (fun σ19 H locs hs hJ => ?_)
          have hf := bnd_at hf hs
          refine lv_aload_n hx hb dX8_add_66 rfl (lv_at hl 0 rfl) ?_
          refine lv_dup hx hb dX8_add_67 rfl ?_
          refine gC_7_4 C hJ fl_RX8_24 dX8_add_68 ?_
          refine lv_iconst (v := 1) hx hb dX8_add_71 (by decide) ?_
          refine lv_iadd hx hb dX8_add_72 ?_
          refine pC_7_4 C hJ fl_RX8_24 dX8_add_73 (fun σ20 H locs hs hJ => ?_)
          have hf := bnd_at hf hs
          refine lv_aload_n hx hb dX8_add_76 rfl (lv_at hl 0 rfl) ?_
          refine gC_7_4 C hJ fl_RX8_24 dX8_add_77 ?_
          refine lv_iconst (v := 1) hx hb dX8_add_80 (by decide) ?_
          refine lv_isub hx hb dX8_add_81 ?_
          exact ret_I hret hJ hf rfl dX8_add_82
        · have hf := ite_f hf c13
          refine lv_bipush (v := -4) hx hb dX8_add_33 (by decide) ?_
          exact ret_I hret hJ hf rfl dX8_add_35
      · have hf := ite_t hf c12
        refine lv_bipush (v := -2) hx hb dX8_add_21 (by decide) ?_
        exact ret_I hret hJ hf rfl dX8_add_23
set_option maxHeartbeats 4000000 in
set_option maxRecDepth 100000 in
theorem cC_man {l : Launch} {D : va_G} {cA cB : ClassId} {q : Nat → Nat} {x : Nat → Nat} {N : Nat} {σ σ' : St} {r : Int32} {a1 : Int32} {a2 : Int32} {a3 : Int32} (hF : Fr (wC q cA cB) (aC q) (eC q x)) (hf : fC_man N σ a1 a2 a3 = some (σ', r)) : MI l yX11_man cX11_man 4 .int 4 D (tyC cA cB) (wC q cA cB) (aC q) (eC q x) [.ref (q 0), .int a1, .int a2, .int a3] σ σ' r := by
  refine MI_of (by decide) hF (Nat.le_of_ble_eq_true rfl) ?_
  intro p e s m args below meth c Q C hret hJ ls hl
  obtain ⟨hx, hb, hml, hown, hts, hK, hE, -⟩ := id C
  have hsb : ∀ z, (aC q) z → (aC q) z := fun _ h => h
  have hl : lv_has ls 4 [(0, .ref (q 0)), (1, .int a1), (2, .int a2), (3, .int a3)] := hl
  unfold fC_man at hf
  refine lv_aload_n hx hb dX11_man_0 rfl (lv_at hl 0 rfl) ?_
  refine gC_0_0 C hJ fl_RX11_12 dX11_man_1 ?_
  refine gC_1_0 C hJ fl_RX11_86 dX11_man_4 ?_
  refine lv_iload_n hx hb dX11_man_7 rfl (lv_at hl 1 rfl) ?_
  refine lv_iload_n hx hb dX11_man_8 rfl (lv_at hl 2 rfl) ?_
  refine lv_iload_n hx hb dX11_man_9 rfl (lv_at hl 3 rfl) ?_
  obtain ⟨σ1, r2, hg3, hf⟩ := cal_some hf
  refine backI hsb hJ (runV (As := [.int a1, .int a2, .int a3]) (rest := []) C hJ lk_RX11_89 (cC_S_add hF hg3) recC_7 rfl rfl (Nat.le_of_ble_eq_true rfl) hl.1 (hR_of (by omega) (by decide)) ⟨Nat.le_refl _, Nat.le_refl _⟩ dX11_man_10) (fun H locs hJ => ?_)
  exact ret_I hret hJ hf rfl dX11_man_13
set_option maxHeartbeats 4000000 in
set_option maxRecDepth 100000 in
theorem cC_S_has {l : Launch} {D : va_G} {cA cB : ClassId} {q : Nat → Nat} {x : Nat → Nat} {N : Nat} {σ σ' : St} {r : Int32} {a1 : Int32} (hF : Fr (wC q cA cB) (aC q) (eC q x)) (hf : fC_S_has N σ a1 = some (σ', r)) : MI l yX8_has cX8_has 2 .boolean 1 D (tyC cA cB) (wC q cA cB) (aC q) (eC q x) [.ref (q 7), .int a1] σ σ' r := by
  refine MI_of (by decide) hF (Nat.le_of_ble_eq_true rfl) ?_
  intro p e s m args below meth c Q C hret hJ ls hl
  obtain ⟨hx, hb, hml, hown, hts, hK, hE, -⟩ := id C
  have hsb : ∀ z, (aC q) z → (aC q) z := fun _ h => h
  have hl : lv_has ls 2 [(0, .ref (q 7)), (1, .int a1)] := hl
  unfold fC_S_has at hf
  refine lv_iload_n hx hb dX8_has_0 rfl (lv_at hl 1 rfl) ?_
  refine lv_if_lt (tgt := 16) hx hb dX8_has_1 (by decide) (fun c1 => ?_) (fun c1 => ?_)
  · have hf := ite_t hf c1
    refine lv_iconst (v := 0) hx hb dX8_has_16 (by decide) ?_
    exact ret_I hret hJ hf (nar_z (by decide)) dX8_has_17
  · have hf := ite_f hf c1
    refine lv_iload_n hx hb dX8_has_4 rfl (lv_at hl 1 rfl) ?_
    refine lv_aload_n hx hb dX8_has_5 rfl (lv_at hl 0 rfl) ?_
    refine gC_7_4 C hJ fl_RX8_24 dX8_has_6 ?_
    refine lv_icmp_ge (tgt := 16) hx hb dX8_has_9 (by decide) (fun c2 => ?_) (fun c2 => ?_)
    · have hf := ite_t hf c2
      refine lv_iconst (v := 0) hx hb dX8_has_16 (by decide) ?_
      exact ret_I hret hJ hf (nar_z (by decide)) dX8_has_17
    · have hf := ite_f hf c2
      refine lv_iconst (v := 1) hx hb dX8_has_12 (by decide) ?_
      refine lv_goto (tgt := 17) hx hb dX8_has_13 (by decide) ?_
      exact ret_I hret hJ hf (nar_z (by decide)) dX8_has_17
set_option maxHeartbeats 4000000 in
set_option maxRecDepth 100000 in
theorem cC_isPart {l : Launch} {D : va_G} {cA cB : ClassId} {q : Nat → Nat} {x : Nat → Nat} {N : Nat} {σ σ' : St} {r : Int32} {a0 : Int32} (hF : Fr (wC q cA cB) (aC q) (eC q x)) (hf : fC_isPart N σ a0 = some (σ', r)) : MI l yX11_isPart cX11_isPart 1 .boolean 2 D (tyC cA cB) (wC q cA cB) (aC q) (eC q x) [.int a0] σ σ' r := by
  refine MI_of (by decide) hF (Nat.le_of_ble_eq_true rfl) ?_
  intro p e s m args below meth c Q C hret hJ ls hl
  obtain ⟨hx, hb, hml, hown, hts, hK, hE, -⟩ := id C
  have hsb : ∀ z, (aC q) z → (aC q) z := fun _ h => h
  have hl : lv_has ls 1 [(0, .int a0)] := hl
  unfold fC_isPart at hf
  refine lv_iload_n hx hb dX11_isPart_0 rfl (lv_at hl 0 rfl) ?_
  refine lv_iconst (v := 0) hx hb dX11_isPart_1 (by decide) ?_
  refine lv_iconst (v := 3) hx hb dX11_isPart_2 (by decide) ?_
  obtain ⟨σ1, r2, hg3, hf⟩ := cal_some hf
  refine backI hsb hJ (runS (As := [.int a0, .int (0 : Int32), .int (3 : Int32)]) (rest := []) C hJ lk_RX11_100 (cC_isWithin hF hg3) rfl rfl (Nat.le_of_ble_eq_true rfl) hl.1 (hR_of (by omega) (by decide)) ⟨Nat.le_refl _, Nat.le_refl _⟩ dX11_isPart_3) (fun H locs hJ => ?_)
  obtain ⟨h4, hf⟩ := gd_some hf
  exact ret_I hret hJ hf (nar_z h4) dX11_isPart_6
set_option maxHeartbeats 4000000 in
set_option maxRecDepth 100000 in
theorem cC_S_offOf {l : Launch} {D : va_G} {cA cB : ClassId} {q : Nat → Nat} {x : Nat → Nat} {N : Nat} {σ σ' : St} {r : Int32} {a1 : Int32} {a2 : Int32} (hF : Fr (wC q cA cB) (aC q) (eC q x)) (hf : fC_S_offOf N σ a1 a2 = some (σ', r)) : MI l yX8_offOf cX8_offOf 4 .int 1 D (tyC cA cB) (wC q cA cB) (aC q) (eC q x) [.ref (q 7), .int a1, .int a2] σ σ' r := by
  refine MI_of (by decide) hF (Nat.le_of_ble_eq_true rfl) ?_
  intro p e s m args below meth c Q C hret hJ ls hl
  obtain ⟨hx, hb, hml, hown, hts, hK, hE, -⟩ := id C
  have hsb : ∀ z, (aC q) z → (aC q) z := fun _ h => h
  have hl : lv_has ls 4 [(0, .ref (q 7)), (1, .int a1), (2, .int a2)] := hl
  unfold fC_S_offOf at hf
  refine lv_iload_n hx hb dX8_offOf_0 rfl (lv_at hl 1 rfl) ?_
  refine lv_iconst (v := 4) hx hb dX8_offOf_1 (by decide) ?_
  refine lv_imul hx hb dX8_offOf_2 ?_
  refine lv_iload_n hx hb dX8_offOf_3 rfl (lv_at hl 2 rfl) ?_
  refine lv_iadd hx hb dX8_offOf_4 ?_
  refine lv_topi (fun x1 hx1 => ?_)
  have hf := bnd_at hf hx1
  refine lv_istore_n (lv' := [(3, .int x1), (0, .ref (q 7)), (1, .int a1), (2, .int a2)]) hx hb dX8_offOf_5 rfl hl (by decide) rfl (fun ls hl => ?_)
  refine lv_iload_n hx hb dX8_offOf_6 rfl (lv_at hl 0 rfl) ?_
  refine lv_if_lt (tgt := 25) hx hb dX8_offOf_7 (by decide) (fun c2 => ?_) (fun c2 => ?_)
  · have hf := ite_t hf c2
    refine lv_iconst (v := 0) hx hb dX8_offOf_25 (by decide) ?_
    exact ret_I hret hJ hf rfl dX8_offOf_26
  · have hf := ite_f hf c2
    refine lv_iload_n hx hb dX8_offOf_10 rfl (lv_at hl 0 rfl) ?_
    refine lv_bipush (v := 40) hx hb dX8_offOf_11 (by decide) ?_
    refine lv_icmp_ge (tgt := 25) hx hb dX8_offOf_13 (by decide) (fun c3 => ?_) (fun c3 => ?_)
    · have hf := ite_t hf c3
      refine lv_iconst (v := 0) hx hb dX8_offOf_25 (by decide) ?_
      exact ret_I hret hJ hf rfl dX8_offOf_26
    · have hf := ite_f hf c3
      refine lv_aload_n hx hb dX8_offOf_16 rfl (lv_at hl 1 rfl) ?_
      refine gC_7_3 C hJ fl_RX8_21 dX8_offOf_17 ?_
      refine lv_iload_n hx hb dX8_offOf_20 rfl (lv_at hl 0 rfl) ?_
      obtain ⟨h4, hf⟩ := gi_some hf
      refine aC_35 C hJ h4 dX8_offOf_21 ?_
      refine lv_goto (tgt := 26) hx hb dX8_offOf_22 (by decide) ?_
      exact ret_I hret hJ hf rfl dX8_offOf_26
