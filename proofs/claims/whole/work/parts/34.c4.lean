set_option maxHeartbeats 4000000 in
set_option maxRecDepth 100000 in
theorem cC_F_has {l : Launch} {D : va_G} {cA cB : ClassId} {q : Nat → Nat} {x : Nat → Nat} {N : Nat} {σ σ' : St} {r : Int32} {a1 : Int32} (hF : Fr (wC q cA cB) (aC q) (eC q x)) (hf : fC_F_has N σ a1 = some (σ', r)) : MI l yX0_has cX0_has 2 .boolean 1 D (tyC cA cB) (wC q cA cB) (aC q) (eC q x) [.ref (q 11), .int a1] σ σ' r := by
  refine MI_of (by decide) hF (Nat.le_of_ble_eq_true rfl) ?_
  intro p e s m args below meth c Q C hret hJ ls hl
  obtain ⟨hx, hb, hml, hown, hts, hK, hE, -⟩ := id C
  have hsb : ∀ z, (aC q) z → (aC q) z := fun _ h => h
  have hl : lv_has ls 2 [(0, .ref (q 11)), (1, .int a1)] := hl
  unfold fC_F_has at hf
  refine lv_iload_n hx hb dX0_has_0 rfl (lv_at hl 1 rfl) ?_
  refine lv_if_lt (tgt := 16) hx hb dX0_has_1 (by decide) (fun c1 => ?_) (fun c1 => ?_)
  · have hf := ite_t hf c1
    refine lv_iconst (v := 0) hx hb dX0_has_16 (by decide) ?_
    exact ret_I hret hJ hf (nar_z (by decide)) dX0_has_17
  · have hf := ite_f hf c1
    refine lv_iload_n hx hb dX0_has_4 rfl (lv_at hl 1 rfl) ?_
    refine lv_aload_n hx hb dX0_has_5 rfl (lv_at hl 0 rfl) ?_
    refine gC_11_7 C hJ fl_RX0_33 dX0_has_6 ?_
    refine lv_icmp_ge (tgt := 16) hx hb dX0_has_9 (by decide) (fun c2 => ?_) (fun c2 => ?_)
    · have hf := ite_t hf c2
      refine lv_iconst (v := 0) hx hb dX0_has_16 (by decide) ?_
      exact ret_I hret hJ hf (nar_z (by decide)) dX0_has_17
    · have hf := ite_f hf c2
      refine lv_iconst (v := 1) hx hb dX0_has_12 (by decide) ?_
      refine lv_goto (tgt := 17) hx hb dX0_has_13 (by decide) ?_
      exact ret_I hret hJ hf (nar_z (by decide)) dX0_has_17
set_option maxHeartbeats 4000000 in
set_option maxRecDepth 100000 in
theorem cC_isUnder {l : Launch} {D : va_G} {cA cB : ClassId} {q : Nat → Nat} {x : Nat → Nat} {N : Nat} {σ σ' : St} {r : Int32} {a0 : Int32} {a1 : Int32} (hF : Fr (wC q cA cB) (aC q) (eC q x)) (hf : fC_isUnder N σ a0 a1 = some (σ', r)) : MI l yX11_isUnder cX11_isUnder 4 .boolean 2 D (tyC cA cB) (wC q cA cB) (aC q) (eC q x) [.int a0, .int a1] σ σ' r := by
  refine MI_of (by decide) hF (Nat.le_of_ble_eq_true rfl) ?_
  intro p e s m args below meth c Q C hret hJ ls hl
  obtain ⟨hx, hb, hml, hown, hts, hK, hE, -⟩ := id C
  have hsb : ∀ z, (aC q) z → (aC q) z := fun _ h => h
  have l4 : ∀ (n : Nat) (σ : St) (a1 : Int32) (a2 : Int32) (a3 : Int32) (H : Heap) (locs : List Loc) (ls : Array Slot), fC_isUnder_l4 N  n σ a1 a2 a3 = some (σ', r) → J D (wC q cA cB) (aC q) s σ H locs → lv_has ls 4 [(1, .int a1), (2, .int a2), (3, .int a3)] → W p l e (rmH 2) s m args below meth c H locs 0 0 Q (F0 m 4 ls []) := by
    intro n4
    induction n4 with
    | zero => intro σ a1 a2 a3 H locs ls hf; rw [fC_isUnder_l4] at hf; cases hf
    | succ n4 ih4 =>
      intro σ a1 a2 a3 H locs ls hf hJ hl
      rw [fC_isUnder_l4] at hf
      refine lv_iload_n hx hb dX11_isUnder_4 rfl (lv_at hl 2 rfl) ?_
      refine lv_bipush (v := 6) hx hb dX11_isUnder_5 (by decide) ?_
      refine lv_icmp_ge (tgt := 38) hx hb dX11_isUnder_7 (by decide) (fun c1 => ?_) (fun c1 => ?_)
      · have hf := ite_t hf c1
        refine lv_iconst (v := 0) hx hb dX11_isUnder_38 (by decide) ?_
        exact ret_I hret hJ hf (nar_z (by decide)) dX11_isUnder_39
      · have hf := ite_f hf c1
        refine lv_iload_n hx hb dX11_isUnder_10 rfl (lv_at hl 1 rfl) ?_
        refine lv_iconst (v := 0) hx hb dX11_isUnder_11 (by decide) ?_
        refine lv_iconst (v := 5) hx hb dX11_isUnder_12 (by decide) ?_
        obtain ⟨σ2, r3, hg4, hf⟩ := cal_some hf
        refine backI hsb hJ (runS (As := [.int a2, .int (0 : Int32), .int (5 : Int32)]) (rest := []) C hJ lk_RX11_100 (cC_isWithin hF hg4) rfl rfl (Nat.le_of_ble_eq_true rfl) hl.1 (hR_of (by omega) (by decide)) ⟨Nat.le_refl _, Nat.le_refl _⟩ dX11_isUnder_13) (fun H locs hJ => ?_)
        refine lv_if_eq (tgt := 38) hx hb dX11_isUnder_16 (by decide) (fun c5 => ?_) (fun c5 => ?_)
        · have hf := ite_t hf c5
          refine lv_iconst (v := 0) hx hb dX11_isUnder_38 (by decide) ?_
          exact ret_I hret hJ hf (nar_z (by decide)) dX11_isUnder_39
        · have hf := ite_f hf c5
          refine lv_iload_n hx hb dX11_isUnder_19 rfl (lv_at hl 1 rfl) ?_
          refine lv_iload_n hx hb dX11_isUnder_20 rfl (lv_at hl 0 rfl) ?_
          refine lv_icmp_ne (tgt := 26) hx hb dX11_isUnder_21 (by decide) (fun c6 => ?_) (fun c6 => ?_)
          · have hf := ite_f hf c6
            refine va_gets hx hb hE.2.1 hJ.2 hown (hts _ fl_RX11_341) (fun _ h => h) dX11_isUnder_26 ?_
            refine lv_iload_n hx hb dX11_isUnder_29 rfl (lv_at hl 1 rfl) ?_
            obtain ⟨h7, hf⟩ := gi_some hf
            refine va_ti hx hb hE.2.2.1 hJ.2 h7 rfl dX11_isUnder_30 ?_
            refine lv_topi (fun x8 hx8 => ?_)
            have hf := bnd_at hf hx8
            refine lv_istore_n (lv' := [(2, .int x8), (1, .int a1), (3, .int a3)]) hx hb dX11_isUnder_31 rfl hl (by decide) rfl (fun ls hl => ?_)
            obtain ⟨x9, hx9⟩ : ∃ z : Int32, z = a3 + (1 : Int32) := ⟨_, rfl⟩
            have hf := bnd_at hf hx9
            refine lv_iinc (v := x9) (lv' := [(3, .int x9), (2, .int x8), (1, .int a1)]) hx hb dX11_isUnder_32 hl (k := 2) rfl (by rw [hx9]; rfl) (by decide) rfl (fun ls hl => ?_)
            refine lv_goto (tgt := 4) hx hb dX11_isUnder_35 (by decide) ?_
            exact ih4 σ2 a1 x8 x9 _ _ _ hf hJ (lv_sub hl [2, 1, 0] rfl)
          · have hf := ite_t hf c6
            refine lv_iconst (v := 1) hx hb dX11_isUnder_24 (by decide) ?_
            exact ret_I hret hJ hf (nar_z (by decide)) dX11_isUnder_25
  have hl : lv_has ls 4 [(0, .int a0), (1, .int a1)] := hl
  unfold fC_isUnder at hf
  refine lv_iload_n hx hb dX11_isUnder_0 rfl (lv_at hl 0 rfl) ?_
  refine lv_istore_n (lv' := [(2, .int a0), (0, .int a0), (1, .int a1)]) hx hb dX11_isUnder_1 rfl hl (by decide) rfl (fun ls hl => ?_)
  refine lv_iconst (v := 0) hx hb dX11_isUnder_2 (by decide) ?_
  refine lv_istore_n (lv' := [(3, .int (0 : Int32)), (2, .int a0), (0, .int a0), (1, .int a1)]) hx hb dX11_isUnder_3 rfl hl (by decide) rfl (fun ls hl => ?_)
  exact l4 N σ a1 a0 (0 : Int32) _ _ _ hf hJ (lv_sub hl [3, 1, 0] rfl)
set_option maxHeartbeats 4000000 in
set_option maxRecDepth 100000 in
theorem cC_P_leanOn {l : Launch} {D : va_G} {cA cB : ClassId} {q : Nat → Nat} {x : Nat → Nat} {N : Nat} {σ σ' : St} {r : Int32} {a1 : Int32} {a2 : Int32} (hF : Fr (wC q cA cB) (aC q) (eC q x)) (hf : fC_P_leanOn N σ a1 a2 = some (σ', r)) : MI l yX5_leanOn cX5_leanOn 4 .int 1 D (tyC cA cB) (wC q cA cB) (aC q) (eC q x) [.ref (q 1), .int a1, .int a2] σ σ' r := by
  refine MI_of (by decide) hF (Nat.le_of_ble_eq_true rfl) ?_
  intro p e s m args below meth c Q C hret hJ ls hl
  obtain ⟨hx, hb, hml, hown, hts, hK, hE, -⟩ := id C
  have hsb : ∀ z, (aC q) z → (aC q) z := fun _ h => h
  have hl : lv_has ls 4 [(0, .ref (q 1)), (1, .int a1), (2, .int a2)] := hl
  unfold fC_P_leanOn at hf
  refine lv_aload_n hx hb dX5_leanOn_0 rfl (lv_at hl 0 rfl) ?_
  refine gC_1_2 C hJ fl_RX5_28 dX5_leanOn_1 ?_
  refine gC_9_0 C hJ fl_RX5_105 dX5_leanOn_4 ?_
  refine lv_aload_n hx hb dX5_leanOn_7 rfl (lv_at hl 0 rfl) ?_
  refine gC_1_4 C hJ fl_RX5_42 dX5_leanOn_8 ?_
  refine gC_11_5 C hJ fl_RX5_108 dX5_leanOn_11 ?_
  refine lv_iload_n hx hb dX5_leanOn_14 rfl (lv_at hl 1 rfl) ?_
  obtain ⟨h1, hf⟩ := gi_some hf
  refine aC_51 C hJ h1 dX5_leanOn_15 ?_
  obtain ⟨h2, hf⟩ := gi_some hf
  refine aC_39 C hJ h2 dX5_leanOn_16 ?_
  refine lv_topi (fun x3 hx3 => ?_)
  have hf := bnd_at hf hx3
  refine lv_istore_n (lv' := [(3, .int x3), (0, .ref (q 1)), (1, .int a1), (2, .int a2)]) hx hb dX5_leanOn_17 rfl hl (by decide) rfl (fun ls hl => ?_)
  refine lv_aload_n hx hb dX5_leanOn_18 rfl (lv_at hl 1 rfl) ?_
  refine gC_1_0 C hJ fl_RX5_12 dX5_leanOn_19 ?_
  refine gC_7_2 C hJ fl_RX5_67 dX5_leanOn_22 ?_
  refine lv_iload_n hx hb dX5_leanOn_25 rfl (lv_at hl 3 rfl) ?_
  obtain ⟨h4, hf⟩ := gi_some hf
  refine aC_34 C hJ h4 dX5_leanOn_26 ?_
  refine lv_if_le (tgt := 34) hx hb dX5_leanOn_27 (by decide) (fun c5 => ?_) (fun c5 => ?_)
  · have hf := ite_t hf c5
    refine lv_iload_n hx hb dX5_leanOn_34 rfl (lv_at hl 0 rfl) ?_
    refine lv_ineg hx hb dX5_leanOn_35 ?_
    exact ret_I hret hJ hf rfl dX5_leanOn_36
  · have hf := ite_f hf c5
    refine lv_iload_n hx hb dX5_leanOn_30 rfl (lv_at hl 0 rfl) ?_
    refine lv_goto (tgt := 36) hx hb dX5_leanOn_31 (by decide) ?_
    exact ret_I hret hJ hf rfl dX5_leanOn_36
set_option maxHeartbeats 4000000 in
set_option maxRecDepth 100000 in
theorem cC_P_marginOf {l : Launch} {D : va_G} {cA cB : ClassId} {q : Nat → Nat} {x : Nat → Nat} {N : Nat} {σ σ' : St} {r : Int32} {a1 : Int32} {a2 : Int32} (hF : Fr (wC q cA cB) (aC q) (eC q x)) (hf : fC_P_marginOf N σ a1 a2 = some (σ', r)) : MI l yX5_marginOf cX5_marginOf 9 .int 5 D (tyC cA cB) (wC q cA cB) (aC q) (eC q x) [.ref (q 1), .int a1, .int a2] σ σ' r := by
  refine MI_of (by decide) hF (Nat.le_of_ble_eq_true rfl) ?_
  intro p e s m args below meth c Q C hret hJ ls hl
  obtain ⟨hx, hb, hml, hown, hts, hK, hE, -⟩ := id C
  have hsb : ∀ z, (aC q) z → (aC q) z := fun _ h => h
  have j93 : ∀ (σ : St) (a1 : Int32) (a6 : Int32) (H : Heap) (locs : List Loc) (ls : Array Slot), fC_P_marginOf_j93 N  σ a1 a6 = some (σ', r) → J D (wC q cA cB) (aC q) s σ H locs → lv_has ls 9 [(1, .int a1), (6, .int a6)] → W p l e (rmH 5) s m args below meth c H locs 0 0 Q (F0 m 93 ls []) := by
    intro σ a1 a6 H locs ls hf hJ hl
    unfold fC_P_marginOf_j93 at hf
    refine lv_iload_n hx hb dX5_marginOf_93 rfl (lv_at hl 0 rfl) ?_
    refine lv_iconst (v := 4) hx hb dX5_marginOf_94 (by decide) ?_
    refine lv_icmp_ne (tgt := 106) hx hb dX5_marginOf_95 (by decide) (fun c1 => ?_) (fun c1 => ?_)
    · have hf := ite_f hf c1
      refine lv_iload hx hb dX5_marginOf_106 (lv_at hl 1 rfl) ?_
      exact ret_I hret hJ hf rfl dX5_marginOf_108
    · have hf := ite_t hf c1
      refine lv_iload hx hb dX5_marginOf_98 (lv_at hl 1 rfl) ?_
      refine lv_bipush (v := 10) hx hb dX5_marginOf_100 (by decide) ?_
      refine lv_isub hx hb dX5_marginOf_102 ?_
      refine lv_goto (tgt := 108) hx hb dX5_marginOf_103 (by decide) ?_
      exact ret_I hret hJ hf rfl dX5_marginOf_108
  have hl : lv_has ls 9 [(0, .ref (q 1)), (1, .int a1), (2, .int a2)] := hl
  unfold fC_P_marginOf at hf
  refine lv_aload_n hx hb dX5_marginOf_0 rfl (lv_at hl 0 rfl) ?_
  refine gC_1_4 C hJ fl_RX5_42 dX5_marginOf_1 ?_
  refine gC_11_1 C hJ fl_RX5_96 dX5_marginOf_4 ?_
  refine lv_iload_n hx hb dX5_marginOf_7 rfl (lv_at hl 2 rfl) ?_
  obtain ⟨h2, hf⟩ := gi_some hf
  refine aC_47 C hJ h2 dX5_marginOf_8 ?_
  refine lv_topi (fun x3 hx3 => ?_)
  have hf := bnd_at hf hx3
  refine lv_istore_n (lv' := [(3, .int x3), (0, .ref (q 1)), (1, .int a1), (2, .int a2)]) hx hb dX5_marginOf_9 rfl hl (by decide) rfl (fun ls hl => ?_)
  refine lv_aload_n hx hb dX5_marginOf_10 rfl (lv_at hl 1 rfl) ?_
  refine gC_1_4 C hJ fl_RX5_42 dX5_marginOf_11 ?_
  refine gC_11_2 C hJ fl_RX5_102 dX5_marginOf_14 ?_
  refine lv_iload_n hx hb dX5_marginOf_17 rfl (lv_at hl 3 rfl) ?_
  obtain ⟨h4, hf⟩ := gi_some hf
  refine aC_48 C hJ h4 dX5_marginOf_18 ?_
  refine lv_topi (fun x5 hx5 => ?_)
  have hf := bnd_at hf hx5
  refine lv_istore (lv' := [(4, .int x5), (3, .int x3), (0, .ref (q 1)), (1, .int a1), (2, .int a2)]) hx hb dX5_marginOf_19 hl (by decide) rfl (fun ls hl => ?_)
  refine lv_aload_n hx hb dX5_marginOf_21 rfl (lv_at hl 2 rfl) ?_
  refine gC_1_4 C hJ fl_RX5_42 dX5_marginOf_22 ?_
  refine gC_11_3 C hJ fl_RX5_111 dX5_marginOf_25 ?_
  refine lv_iload_n hx hb dX5_marginOf_28 rfl (lv_at hl 4 rfl) ?_
  obtain ⟨h6, hf⟩ := gi_some hf
  refine aC_49 C hJ h6 dX5_marginOf_29 ?_
  refine lv_topi (fun x7 hx7 => ?_)
  have hf := bnd_at hf hx7
  refine lv_istore (lv' := [(5, .int x7), (4, .int x5), (3, .int x3), (0, .ref (q 1)), (1, .int a1), (2, .int a2)]) hx hb dX5_marginOf_30 hl (by decide) rfl (fun ls hl => ?_)
  refine lv_iload_n hx hb dX5_marginOf_32 rfl (lv_at hl 4 rfl) ?_
  refine lv_iconst (v := 2) hx hb dX5_marginOf_33 (by decide) ?_
  obtain ⟨σ8, r9, hg10, hf⟩ := cal_some hf
  refine backI hsb hJ (runN (As := [.int a1, .int (2 : Int32)]) (rest := []) C hJ lkn_yX11_isUnder (hE.1 _ nl_RX5_114) (cC_isUnder hF hg10) rfl rfl (Nat.le_of_ble_eq_true rfl) hl.1 (hR_of (by omega) (by decide)) ⟨Nat.le_refl _, Nat.le_refl _⟩ dX5_marginOf_34) (fun H locs hJ => ?_)
  refine lv_if_ne (tgt := 109) hx hb dX5_marginOf_37 (by decide) (fun c11 => ?_) (fun c11 => ?_)
  · have hf := ite_f hf c11
    refine lv_aload_n hx hb dX5_marginOf_109 rfl (lv_at hl 3 rfl) ?_
    refine gC_1_4 C hJ fl_RX5_42 dX5_marginOf_110 ?_
    refine gC_11_4 C hJ fl_RX5_118 dX5_marginOf_113 ?_
    refine lv_iload_n hx hb dX5_marginOf_116 rfl (lv_at hl 5 rfl) ?_
    obtain ⟨h12, hf⟩ := gi_some hf
    refine aC_50 C hJ h12 dX5_marginOf_117 ?_
    refine lv_topi (fun x13 hx13 => ?_)
    have hf := bnd_at hf hx13
    refine lv_istore (lv' := [(6, .int x13), (5, .int x7), (4, .int x5), (3, .int x3), (0, .ref (q 1)), (1, .int a1), (2, .int a2)]) hx hb dX5_marginOf_118 hl (by decide) rfl (fun ls hl => ?_)
    refine lv_aload_n hx hb dX5_marginOf_120 rfl (lv_at hl 4 rfl) ?_
    refine gC_1_1 C hJ fl_RX5_21 dX5_marginOf_121 ?_
    refine lv_iload hx hb dX5_marginOf_124 (lv_at hl 0 rfl) ?_
    refine lv_iload hx hb dX5_marginOf_126 (lv_at hl 1 rfl) ?_
    obtain ⟨σ14, r15, hg16, hf⟩ := cal_some hf
    refine backI hsb hJ (runV (As := [.int x13, .int x7]) (rest := []) C hJ lk_RX5_121 (cC_A_frameFor hF hg16) recC_8 rfl rfl (Nat.le_of_ble_eq_true rfl) hl.1 (hR_of (by omega) (by decide)) ⟨Nat.le_refl _, Nat.le_refl _⟩ dX5_marginOf_128) (fun H locs hJ => ?_)
    refine lv_istore (lv' := [(7, .int r15), (6, .int x13), (5, .int x7), (4, .int x5), (3, .int x3), (0, .ref (q 1)), (1, .int a1), (2, .int a2)]) hx hb dX5_marginOf_131 hl (by decide) rfl (fun ls hl => ?_)
    refine lv_aload_n hx hb dX5_marginOf_133 rfl (lv_at hl 5 rfl) ?_
    refine gC_1_1 C hJ fl_RX5_21 dX5_marginOf_134 ?_
    refine lv_iload hx hb dX5_marginOf_137 (lv_at hl 1 rfl) ?_
    refine lv_aload_n hx hb dX5_marginOf_139 rfl (lv_at hl 5 rfl) ?_
    refine lv_iload_n hx hb dX5_marginOf_140 rfl (lv_at hl 4 rfl) ?_
    refine lv_iload hx hb dX5_marginOf_141 (lv_at hl 0 rfl) ?_
    obtain ⟨σ17, r18, hg19, hf⟩ := cal_some hf
    refine backI hsb hJ (runV (As := [.int x3, .int r15]) (rest := [.int x13, .ref (q 8)]) C hJ lk_RX5_99 (cC_P_frontOf hF hg19) recC_1 rfl rfl (Nat.le_of_ble_eq_true rfl) hl.1 (hR_of (by omega) (by decide)) ⟨Nat.le_refl _, Nat.le_refl _⟩ dX5_marginOf_143) (fun H locs hJ => ?_)
    obtain ⟨σ20, r21, hg22, hf⟩ := cal_some hf
    refine backI hsb hJ (runV (As := [.int x13, .int r18]) (rest := []) C hJ lk_RX5_124 (cC_A_seenAt hF hg22) recC_8 rfl rfl (Nat.le_of_ble_eq_true rfl) hl.1 (hR_of (by omega) (by decide)) ⟨Nat.le_refl _, Nat.le_refl _⟩ dX5_marginOf_146) (fun H locs hJ => ?_)
    refine lv_aload_n hx hb dX5_marginOf_149 rfl (lv_at hl 5 rfl) ?_
    refine gC_1_1 C hJ fl_RX5_21 dX5_marginOf_150 ?_
    refine lv_iload hx hb dX5_marginOf_153 (lv_at hl 1 rfl) ?_
    refine lv_aload_n hx hb dX5_marginOf_155 rfl (lv_at hl 5 rfl) ?_
    refine lv_iload hx hb dX5_marginOf_156 (lv_at hl 3 rfl) ?_
    refine lv_iload hx hb dX5_marginOf_158 (lv_at hl 0 rfl) ?_
    obtain ⟨σ23, r24, hg25, hf⟩ := cal_some hf
    refine backI hsb hJ (runV (As := [.int x5, .int r15]) (rest := [.int x13, .ref (q 8), .int r21]) C hJ lk_RX5_99 (cC_P_frontOf hF hg25) recC_1 rfl rfl (Nat.le_of_ble_eq_true rfl) hl.1 (hR_of (by omega) (by decide)) ⟨Nat.le_refl _, Nat.le_refl _⟩ dX5_marginOf_160) (fun H locs hJ => ?_)
    obtain ⟨σ26, r27, hg28, hf⟩ := cal_some hf
    refine backI hsb hJ (runV (As := [.int x13, .int r24]) (rest := [.int r21]) C hJ lk_RX5_124 (cC_A_seenAt hF hg28) recC_8 rfl rfl (Nat.le_of_ble_eq_true rfl) hl.1 (hR_of (by omega) (by decide)) ⟨Nat.le_refl _, Nat.le_refl _⟩ dX5_marginOf_163) (fun H locs hJ => ?_)
    refine lv_isub hx hb dX5_marginOf_166 ?_
    refine lv_topi (fun x29 hx29 => ?_)
    have hf := bnd_at hf hx29
    refine lv_istore (lv' := [(8, .int x29), (7, .int r15), (6, .int x13), (5, .int x7), (4, .int x5), (3, .int x3), (0, .ref (q 1)), (1, .int a1), (2, .int a2)]) hx hb dX5_marginOf_167 hl (by decide) rfl (fun ls hl => ?_)
    refine lv_iload_n hx hb dX5_marginOf_169 rfl (lv_at hl 7 rfl) ?_
    refine lv_iconst (v := 5) hx hb dX5_marginOf_170 (by decide) ?_
    refine lv_icmp_ne (tgt := 179) hx hb dX5_marginOf_171 (by decide) (fun c30 => ?_) (fun c30 => ?_)
    · have hf := ite_f hf c30
      refine lv_iload hx hb dX5_marginOf_179 (lv_at hl 0 rfl) ?_
      refine lv_aload_n hx hb dX5_marginOf_181 rfl (lv_at hl 6 rfl) ?_
      refine lv_iload_n hx hb dX5_marginOf_182 rfl (lv_at hl 8 rfl) ?_
      refine lv_iload_n hx hb dX5_marginOf_183 rfl (lv_at hl 5 rfl) ?_
      obtain ⟨σ31, r32, hg33, hf⟩ := cal_some hf
      refine backI hsb hJ (runV (As := [.int a2, .int x3]) (rest := [.int x29]) C hJ lk_RX5_127 (cC_P_leanOn hF hg33) recC_1 rfl rfl (Nat.le_of_ble_eq_true rfl) hl.1 (hR_of (by omega) (by decide)) ⟨Nat.le_refl _, Nat.le_refl _⟩ dX5_marginOf_184) (fun H locs hJ => ?_)
      refine lv_iadd hx hb dX5_marginOf_187 ?_
      refine lv_aload_n hx hb dX5_marginOf_188 rfl (lv_at hl 6 rfl) ?_
      refine lv_iload_n hx hb dX5_marginOf_189 rfl (lv_at hl 8 rfl) ?_
      refine lv_iload hx hb dX5_marginOf_190 (lv_at hl 4 rfl) ?_
      obtain ⟨σ34, r35, hg36, hf⟩ := cal_some hf
      refine backI hsb hJ (runV (As := [.int a2, .int x5]) (rest := [.int (x29 + r32)]) C hJ lk_RX5_127 (cC_P_leanOn hF hg36) recC_1 rfl rfl (Nat.le_of_ble_eq_true rfl) hl.1 (hR_of (by omega) (by decide)) ⟨Nat.le_refl _, Nat.le_refl _⟩ dX5_marginOf_192) (fun H locs hJ => ?_)
      refine lv_isub hx hb dX5_marginOf_195 ?_
      exact ret_I hret hJ hf rfl dX5_marginOf_196
    · have hf := ite_t hf c30
      refine lv_iload hx hb dX5_marginOf_174 (lv_at hl 0 rfl) ?_
      refine lv_iconst (v := 2) hx hb dX5_marginOf_176 (by decide) ?_
      refine lv_isub hx hb dX5_marginOf_177 ?_
      exact ret_I hret hJ hf rfl dX5_marginOf_178
  · have hf := ite_t hf c11
    refine lv_aload_n hx hb dX5_marginOf_40 rfl (lv_at hl 3 rfl) ?_
    refine lv_iload_n hx hb dX5_marginOf_41 rfl (lv_at hl 2 rfl) ?_
    refine lv_iload hx hb dX5_marginOf_42 (lv_at hl 0 rfl) ?_
    obtain ⟨σ37, r38, hg39, hf⟩ := cal_some hf
    refine backI hsb hJ (runV (As := [.int x3, .int x7]) (rest := []) C hJ lk_RX5_99 (cC_P_frontOf hF hg39) recC_1 rfl rfl (Nat.le_of_ble_eq_true rfl) hl.1 (hR_of (by omega) (by decide)) ⟨Nat.le_refl _, Nat.le_refl _⟩ dX5_marginOf_44) (fun H locs hJ => ?_)
    refine lv_aload_n hx hb dX5_marginOf_47 rfl (lv_at hl 3 rfl) ?_
    refine lv_iload hx hb dX5_marginOf_48 (lv_at hl 1 rfl) ?_
    refine lv_iload hx hb dX5_marginOf_50 (lv_at hl 0 rfl) ?_
    obtain ⟨σ40, r41, hg42, hf⟩ := cal_some hf
    refine backI hsb hJ (runV (As := [.int x5, .int x7]) (rest := [.int r38]) C hJ lk_RX5_99 (cC_P_frontOf hF hg42) recC_1 rfl rfl (Nat.le_of_ble_eq_true rfl) hl.1 (hR_of (by omega) (by decide)) ⟨Nat.le_refl _, Nat.le_refl _⟩ dX5_marginOf_52) (fun H locs hJ => ?_)
    refine lv_isub hx hb dX5_marginOf_55 ?_
    refine lv_topi (fun x43 hx43 => ?_)
    have hf := bnd_at hf hx43
    refine lv_istore (lv' := [(6, .int x43), (5, .int x7), (4, .int x5), (3, .int x3), (0, .ref (q 1)), (1, .int a1), (2, .int a2)]) hx hb dX5_marginOf_56 hl (by decide) rfl (fun ls hl => ?_)
    refine lv_iload_n hx hb dX5_marginOf_58 rfl (lv_at hl 5 rfl) ?_
    refine lv_iconst (v := 1) hx hb dX5_marginOf_59 (by decide) ?_
    obtain ⟨σ44, r45, hg46, hf⟩ := cal_some hf
    refine backI hsb hJ (runN (As := [.int a1, .int (1 : Int32)]) (rest := []) C hJ lkn_yX11_isUnder (hE.1 _ nl_RX5_114) (cC_isUnder hF hg46) rfl rfl (Nat.le_of_ble_eq_true rfl) hl.1 (hR_of (by omega) (by decide)) ⟨Nat.le_refl _, Nat.le_refl _⟩ dX5_marginOf_60) (fun H locs hJ => ?_)
    refine lv_if_eq (tgt := 93) hx hb dX5_marginOf_63 (by decide) (fun c47 => ?_) (fun c47 => ?_)
    · have hf := ite_t hf c47
      exact j93 σ44 a1 x43 _ _ _ hf hJ (lv_sub hl [5, 0] rfl)
    · have hf := ite_f hf c47
      refine lv_iload hx hb dX5_marginOf_66 (lv_at hl 0 rfl) ?_
      refine lv_iconst (v := 2) hx hb dX5_marginOf_68 (by decide) ?_
      refine lv_aload_n hx hb dX5_marginOf_69 rfl (lv_at hl 4 rfl) ?_
      refine gC_1_0 C hJ fl_RX5_12 dX5_marginOf_70 ?_
      refine gC_7_2 C hJ fl_RX5_67 dX5_marginOf_73 ?_
      refine lv_iload_n hx hb dX5_marginOf_76 rfl (lv_at hl 3 rfl) ?_
      obtain ⟨h48, hf⟩ := gi_some hf
      refine aC_34 C hJ h48 dX5_marginOf_77 ?_
      refine lv_aload_n hx hb dX5_marginOf_78 rfl (lv_at hl 4 rfl) ?_
      refine gC_1_0 C hJ fl_RX5_12 dX5_marginOf_79 ?_
      refine gC_7_2 C hJ fl_RX5_67 dX5_marginOf_82 ?_
      refine lv_iload hx hb dX5_marginOf_85 (lv_at hl 2 rfl) ?_
      obtain ⟨h49, hf⟩ := gi_some hf
      refine aC_34 C hJ h49 dX5_marginOf_87 ?_
      refine lv_isub hx hb dX5_marginOf_88 ?_
      refine lv_imul hx hb dX5_marginOf_89 ?_
      refine lv_iadd hx hb dX5_marginOf_90 ?_
      refine lv_topi (fun x50 hx50 => ?_)
      have hf := bnd_at hf hx50
      refine lv_istore (lv' := [(6, .int x50), (5, .int x7), (4, .int x5), (3, .int x3), (0, .ref (q 1)), (1, .int a1), (2, .int a2)]) hx hb dX5_marginOf_91 hl (by decide) rfl (fun ls hl => ?_)
      exact j93 σ44 a1 x50 _ _ _ hf hJ (lv_sub hl [5, 0] rfl)
set_option maxHeartbeats 4000000 in
set_option maxRecDepth 100000 in
theorem cC_P_ruledOn {l : Launch} {D : va_G} {cA cB : ClassId} {q : Nat → Nat} {x : Nat → Nat} {N : Nat} {σ σ' : St} {r : Int32} {a1 : Int32} {a2 : Int32} {a3 : Int32} (hF : Fr (wC q cA cB) (aC q) (eC q x)) (hf : fC_P_ruledOn N σ a1 a2 a3 = some (σ', r)) : MI l yX5_ruledOn cX5_ruledOn 4 .int 4 D (tyC cA cB) (wC q cA cB) (aC q) (eC q x) [.ref (q 1), .int a1, .int a2, .int a3] σ σ' r := by
  refine MI_of (by decide) hF (Nat.le_of_ble_eq_true rfl) ?_
  intro p e s m args below meth c Q C hret hJ ls hl
  obtain ⟨hx, hb, hml, hown, hts, hK, hE, -⟩ := id C
  have hsb : ∀ z, (aC q) z → (aC q) z := fun _ h => h
  have hl : lv_has ls 4 [(0, .ref (q 1)), (1, .int a1), (2, .int a2), (3, .int a3)] := hl
  unfold fC_P_ruledOn at hf
  refine lv_aload_n hx hb dX5_ruledOn_0 rfl (lv_at hl 0 rfl) ?_
  refine lv_iload_n hx hb dX5_ruledOn_1 rfl (lv_at hl 1 rfl) ?_
  refine lv_aload_n hx hb dX5_ruledOn_2 rfl (lv_at hl 0 rfl) ?_
  refine lv_iload_n hx hb dX5_ruledOn_3 rfl (lv_at hl 1 rfl) ?_
  refine lv_iload_n hx hb dX5_ruledOn_4 rfl (lv_at hl 2 rfl) ?_
  obtain ⟨σ1, r2, hg3, hf⟩ := cal_some hf
  refine backI hsb hJ (runV (As := [.int a1, .int a2]) (rest := [.int a1, .ref (q 1)]) C hJ lk_RX5_82 (cC_P_leadOf hF hg3) recC_1 rfl rfl (Nat.le_of_ble_eq_true rfl) hl.1 (hR_of (by omega) (by decide)) ⟨Nat.le_refl _, Nat.le_refl _⟩ dX5_ruledOn_5) (fun H locs hJ => ?_)
  obtain ⟨σ4, r5, hg6, hf⟩ := cal_some hf
  refine backI hsb hJ (runN (As := [.int r2]) (rest := [.int a1, .ref (q 1)]) C hJ lkn_yX11_footIfNone (hE.1 _ nl_RX5_88) (cC_footIfNone hF hg6) rfl rfl (Nat.le_of_ble_eq_true rfl) hl.1 (hR_of (by omega) (by decide)) ⟨Nat.le_refl _, Nat.le_refl _⟩ dX5_ruledOn_8) (fun H locs hJ => ?_)
  refine lv_iload_n hx hb dX5_ruledOn_11 rfl (lv_at hl 2 rfl) ?_
  refine lv_iload_n hx hb dX5_ruledOn_12 rfl (lv_at hl 3 rfl) ?_
  obtain ⟨σ7, r8, hg9, hf⟩ := cal_some hf
  refine backI hsb hJ (runV (As := [.int a1, .int r5, .int a2, .int a3]) (rest := []) C hJ lk_RX5_92 (cC_P_worthOf hF hg9) recC_1 rfl rfl (Nat.le_of_ble_eq_true rfl) hl.1 (hR_of (by omega) (by decide)) ⟨Nat.le_refl _, Nat.le_refl _⟩ dX5_ruledOn_13) (fun H locs hJ => ?_)
  exact ret_I hret hJ hf rfl dX5_ruledOn_16
set_option maxHeartbeats 4000000 in
set_option maxRecDepth 100000 in
theorem cC_P_bandOf {l : Launch} {D : va_G} {cA cB : ClassId} {q : Nat → Nat} {x : Nat → Nat} {N : Nat} {σ σ' : St} {r : Int32} {a1 : Int32} {a2 : Int32} (hF : Fr (wC q cA cB) (aC q) (eC q x)) (hf : fC_P_bandOf N σ a1 a2 = some (σ', r)) : MI l yX5_bandOf cX5_bandOf 4 .int 5 D (tyC cA cB) (wC q cA cB) (aC q) (eC q x) [.ref (q 1), .int a1, .int a2] σ σ' r := by
  refine MI_of (by decide) hF (Nat.le_of_ble_eq_true rfl) ?_
  intro p e s m args below meth c Q C hret hJ ls hl
  obtain ⟨hx, hb, hml, hown, hts, hK, hE, -⟩ := id C
  have hsb : ∀ z, (aC q) z → (aC q) z := fun _ h => h
  have hl : lv_has ls 4 [(0, .ref (q 1)), (1, .int a1), (2, .int a2)] := hl
  unfold fC_P_bandOf at hf
  refine lv_iload_n hx hb dX5_bandOf_0 rfl (lv_at hl 1 rfl) ?_
  by_cases c1 : a1 = (2 : Int32)
  · have hf := ite_t hf c1
    refine lv_tableIn (off := 31) (tgt := 32) hx hb dX5_bandOf_1 (by rw [c1]; decide) (by rw [c1]; decide) (by rw [c1]; rfl) (by decide) ?_
    refine lv_iconst (v := 1) hx hb dX5_bandOf_32 (by decide) ?_
    exact ret_I hret hJ hf rfl dX5_bandOf_33
  have hf := ite_f hf c1
  by_cases c2 : a1 = (3 : Int32)
  · have hf := ite_t hf c2
    refine lv_tableIn (off := 33) (tgt := 34) hx hb dX5_bandOf_1 (by rw [c2]; decide) (by rw [c2]; decide) (by rw [c2]; rfl) (by decide) ?_
    refine lv_aload_n hx hb dX5_bandOf_34 rfl (lv_at hl 0 rfl) ?_
    refine lv_aload_n hx hb dX5_bandOf_35 rfl (lv_at hl 0 rfl) ?_
    refine gC_1_4 C hJ fl_RX5_42 dX5_bandOf_36 ?_
    refine gC_11_1 C hJ fl_RX5_96 dX5_bandOf_39 ?_
    refine lv_iload_n hx hb dX5_bandOf_42 rfl (lv_at hl 2 rfl) ?_
    obtain ⟨h3, hf⟩ := gi_some hf
    refine aC_47 C hJ h3 dX5_bandOf_43 ?_
    refine lv_aload_n hx hb dX5_bandOf_44 rfl (lv_at hl 0 rfl) ?_
    refine gC_1_4 C hJ fl_RX5_42 dX5_bandOf_45 ?_
    refine gC_11_3 C hJ fl_RX5_111 dX5_bandOf_48 ?_
    refine lv_iload_n hx hb dX5_bandOf_51 rfl (lv_at hl 2 rfl) ?_
    obtain ⟨h4, hf⟩ := gi_some hf
    refine aC_49 C hJ h4 dX5_bandOf_52 ?_
    refine lv_iconst (v := 1) hx hb dX5_bandOf_53 (by decide) ?_
    obtain ⟨σ5, r6, hg7, hf⟩ := cal_some hf
    refine backI hsb hJ (runV (As := [.int (σ.2.1 47 a2.toNatClampNeg), .int (σ.2.1 49 a2.toNatClampNeg), .int (1 : Int32)]) (rest := []) C hJ lk_RX5_130 (cC_P_ruledOn hF hg7) recC_1 rfl rfl (Nat.le_of_ble_eq_true rfl) hl.1 (hR_of (by omega) (by decide)) ⟨Nat.le_refl _, Nat.le_refl _⟩ dX5_bandOf_54) (fun H locs hJ => ?_)
    refine lv_istore_n (lv' := [(3, .int r6), (0, .ref (q 1)), (1, .int a1), (2, .int a2)]) hx hb dX5_bandOf_57 rfl hl (by decide) rfl (fun ls hl => ?_)
    refine lv_iconst (v := 1) hx hb dX5_bandOf_58 (by decide) ?_
    refine lv_iconst (v := 0) hx hb dX5_bandOf_59 (by decide) ?_
    refine lv_sipush (v := 999) hx hb dX5_bandOf_60 (by decide) ?_
    refine lv_iload_n hx hb dX5_bandOf_63 rfl (lv_at hl 0 rfl) ?_
    refine va_mmin hx hb (hml.trans hl.1.symm) hown (hts _ ml_RX5_133) (hts _ wt_yJ9_min_7cf53) (hts _ wi_RJ9) (hts _ wc_yJ9_min_7cf53) (Nat.le_of_ble_eq_true rfl) (Nat.le_of_ble_eq_true rfl) (Nat.zero_le _) (Nat.zero_le _) dX5_bandOf_64 ?_
    refine va_mmax hx hb (hml.trans hl.1.symm) hown (hts _ ml_RX5_138) (hts _ wt_yJ9_max_7cf53) (hts _ wi_RJ9) (hts _ wc_yJ9_max_7cf53) (Nat.le_of_ble_eq_true rfl) (Nat.le_of_ble_eq_true rfl) (Nat.zero_le _) (Nat.zero_le _) dX5_bandOf_67 ?_
    refine lv_iadd hx hb dX5_bandOf_70 ?_
    exact ret_I hret hJ hf rfl dX5_bandOf_71
  have hf := ite_f hf c2
  by_cases c8 : a1 = (4 : Int32)
  · have hf := ite_t hf c8
    refine lv_tableIn (off := 71) (tgt := 72) hx hb dX5_bandOf_1 (by rw [c8]; decide) (by rw [c8]; decide) (by rw [c8]; rfl) (by decide) ?_
    refine lv_iconst (v := 3) hx hb dX5_bandOf_72 (by decide) ?_
    exact ret_I hret hJ hf rfl dX5_bandOf_73
  have hf := ite_f hf c8
  by_cases c9 : a1 = (5 : Int32)
  · have hf := ite_t hf c9
    refine lv_tableIn (off := 31) (tgt := 32) hx hb dX5_bandOf_1 (by rw [c9]; decide) (by rw [c9]; decide) (by rw [c9]; rfl) (by decide) ?_
    refine lv_iconst (v := 1) hx hb dX5_bandOf_32 (by decide) ?_
    exact ret_I hret hJ hf rfl dX5_bandOf_33
  have hf := ite_f hf c9
  refine lv_tableOut (tgt := 74) hx hb dX5_bandOf_1 (by have ec1 : a1.toInt ≠ 2 := fun h => c1 (Int32.toInt_inj.mp (h.trans (by decide))); have ec2 : a1.toInt ≠ 3 := fun h => c2 (Int32.toInt_inj.mp (h.trans (by decide))); have ec8 : a1.toInt ≠ 4 := fun h => c8 (Int32.toInt_inj.mp (h.trans (by decide))); have ec9 : a1.toInt ≠ 5 := fun h => c9 (Int32.toInt_inj.mp (h.trans (by decide))); omega) (by decide) ?_
  refine lv_iconst (v := 0) hx hb dX5_bandOf_74 (by decide) ?_
  exact ret_I hret hJ hf rfl dX5_bandOf_75
set_option maxHeartbeats 4000000 in
set_option maxRecDepth 100000 in
theorem cC_P_isOffside {l : Launch} {D : va_G} {cA cB : ClassId} {q : Nat → Nat} {x : Nat → Nat} {N : Nat} {σ σ' : St} {r : Int32} {a1 : Int32} {a2 : Int32} (hF : Fr (wC q cA cB) (aC q) (eC q x)) (hf : fC_P_isOffside N σ a1 a2 = some (σ', r)) : MI l yX5_isOffside cX5_isOffside 4 .boolean 6 D (tyC cA cB) (wC q cA cB) (aC q) (eC q x) [.ref (q 1), .int a1, .int a2] σ σ' r := by
  refine MI_of (by decide) hF (Nat.le_of_ble_eq_true rfl) ?_
  intro p e s m args below meth c Q C hret hJ ls hl
  obtain ⟨hx, hb, hml, hown, hts, hK, hE, -⟩ := id C
  have hsb : ∀ z, (aC q) z → (aC q) z := fun _ h => h
  have j20 : ∀ (σ : St) (a2 : Int32) (t0 : Int32) (H : Heap) (locs : List Loc) (ls : Array Slot), fC_P_isOffside_j20 N  σ a2 t0 = some (σ', r) → J D (wC q cA cB) (aC q) s σ H locs → lv_has ls 4 [(0, .ref (q 1)), (2, .int a2)] → W p l e (rmH 6) s m args below meth c H locs 0 0 Q (F0 m 20 ls [.int t0]) := by
    intro σ a2 t0 H locs ls hf hJ hl
    unfold fC_P_isOffside_j20 at hf
    refine lv_istore_n (lv' := [(3, .int t0), (0, .ref (q 1)), (2, .int a2)]) hx hb dX5_isOffside_20 rfl hl (by decide) rfl (fun ls hl => ?_)
    refine lv_iload_n hx hb dX5_isOffside_21 rfl (lv_at hl 0 rfl) ?_
    refine lv_if_eq (tgt := 55) hx hb dX5_isOffside_22 (by decide) (fun c1 => ?_) (fun c1 => ?_)
    · have hf := ite_t hf c1
      refine lv_iconst (v := 0) hx hb dX5_isOffside_55 (by decide) ?_
      exact ret_I hret hJ hf (nar_z (by decide)) dX5_isOffside_56
    · have hf := ite_f hf c1
      refine lv_aload_n hx hb dX5_isOffside_25 rfl (lv_at hl 1 rfl) ?_
      refine lv_aload_n hx hb dX5_isOffside_26 rfl (lv_at hl 1 rfl) ?_
      refine gC_1_4 C hJ fl_RX5_42 dX5_isOffside_27 ?_
      refine gC_11_1 C hJ fl_RX5_96 dX5_isOffside_30 ?_
      refine lv_iload_n hx hb dX5_isOffside_33 rfl (lv_at hl 2 rfl) ?_
      obtain ⟨h2, hf⟩ := gi_some hf
      refine aC_47 C hJ h2 dX5_isOffside_34 ?_
      refine lv_aload_n hx hb dX5_isOffside_35 rfl (lv_at hl 1 rfl) ?_
      refine gC_1_4 C hJ fl_RX5_42 dX5_isOffside_36 ?_
      refine gC_11_3 C hJ fl_RX5_111 dX5_isOffside_39 ?_
      refine lv_iload_n hx hb dX5_isOffside_42 rfl (lv_at hl 2 rfl) ?_
      obtain ⟨h3, hf⟩ := gi_some hf
      refine aC_49 C hJ h3 dX5_isOffside_43 ?_
      refine lv_iconst (v := 2) hx hb dX5_isOffside_44 (by decide) ?_
      obtain ⟨σ4, r5, hg6, hf⟩ := cal_some hf
      refine backI hsb hJ (runV (As := [.int (σ.2.1 47 a2.toNatClampNeg), .int (σ.2.1 49 a2.toNatClampNeg), .int (2 : Int32)]) (rest := []) C hJ lk_RX5_130 (cC_P_ruledOn hF hg6) recC_1 rfl rfl (Nat.le_of_ble_eq_true rfl) hl.1 (hR_of (by omega) (by decide)) ⟨Nat.le_refl _, Nat.le_refl _⟩ dX5_isOffside_45) (fun H locs hJ => ?_)
      refine lv_if_eq (tgt := 55) hx hb dX5_isOffside_48 (by decide) (fun c7 => ?_) (fun c7 => ?_)
      · have hf := ite_t hf c7
        refine lv_iconst (v := 0) hx hb dX5_isOffside_55 (by decide) ?_
        exact ret_I hret hJ hf (nar_z (by decide)) dX5_isOffside_56
      · have hf := ite_f hf c7
        refine lv_iconst (v := 1) hx hb dX5_isOffside_51 (by decide) ?_
        refine lv_goto (tgt := 56) hx hb dX5_isOffside_52 (by decide) ?_
        exact ret_I hret hJ hf (nar_z (by decide)) dX5_isOffside_56
  have hl : lv_has ls 4 [(0, .ref (q 1)), (1, .int a1), (2, .int a2)] := hl
  unfold fC_P_isOffside at hf
  refine lv_aload_n hx hb dX5_isOffside_0 rfl (lv_at hl 0 rfl) ?_
  refine lv_iload_n hx hb dX5_isOffside_1 rfl (lv_at hl 1 rfl) ?_
  refine lv_iload_n hx hb dX5_isOffside_2 rfl (lv_at hl 2 rfl) ?_
  obtain ⟨σ8, r9, hg10, hf⟩ := cal_some hf
  refine backI hsb hJ (runV (As := [.int a1, .int a2]) (rest := []) C hJ lk_RX5_141 (cC_P_marginOf hF hg10) recC_1 rfl rfl (Nat.le_of_ble_eq_true rfl) hl.1 (hR_of (by omega) (by decide)) ⟨Nat.le_refl _, Nat.le_refl _⟩ dX5_isOffside_3) (fun H locs hJ => ?_)
  refine lv_aload_n hx hb dX5_isOffside_6 rfl (lv_at hl 0 rfl) ?_
  refine lv_iload_n hx hb dX5_isOffside_7 rfl (lv_at hl 1 rfl) ?_
  refine lv_iload_n hx hb dX5_isOffside_8 rfl (lv_at hl 2 rfl) ?_
  obtain ⟨σ11, r12, hg13, hf⟩ := cal_some hf
  refine backI hsb hJ (runV (As := [.int a1, .int a2]) (rest := [.int r9]) C hJ lk_RX5_144 (cC_P_bandOf hF hg13) recC_1 rfl rfl (Nat.le_of_ble_eq_true rfl) hl.1 (hR_of (by omega) (by decide)) ⟨Nat.le_refl _, Nat.le_refl _⟩ dX5_isOffside_9) (fun H locs hJ => ?_)
  refine lv_icmp_le (tgt := 19) hx hb dX5_isOffside_12 (by decide) (fun c14 => ?_) (fun c14 => ?_)
  · have hf := ite_t hf c14
    refine lv_iconst (v := 0) hx hb dX5_isOffside_19 (by decide) ?_
    exact j20 σ11 a2 (0 : Int32) _ _ _ hf hJ (lv_sub hl [0, 2] rfl)
  · have hf := ite_f hf c14
    refine lv_iconst (v := 1) hx hb dX5_isOffside_15 (by decide) ?_
    refine lv_goto (tgt := 20) hx hb dX5_isOffside_16 (by decide) ?_
    exact j20 σ11 a2 (1 : Int32) _ _ _ hf hJ (lv_sub hl [0, 2] rfl)
set_option maxHeartbeats 4000000 in
set_option maxRecDepth 100000 in
theorem cC_P_spreadOf {l : Launch} {D : va_G} {cA cB : ClassId} {q : Nat → Nat} {x : Nat → Nat} {N : Nat} {σ σ' : St} {r : Int32} {a1 : Int32} (hF : Fr (wC q cA cB) (aC q) (eC q x)) (hf : fC_P_spreadOf N σ a1 = some (σ', r)) : MI l yX5_spreadOf cX5_spreadOf 3 .int 3 D (tyC cA cB) (wC q cA cB) (aC q) (eC q x) [.ref (q 1), .int a1] σ σ' r := by
  refine MI_of (by decide) hF (Nat.le_of_ble_eq_true rfl) ?_
  intro p e s m args below meth c Q C hret hJ ls hl
  obtain ⟨hx, hb, hml, hown, hts, hK, hE, -⟩ := id C
  have hsb : ∀ z, (aC q) z → (aC q) z := fun _ h => h
  have hl : lv_has ls 3 [(0, .ref (q 1)), (1, .int a1)] := hl
  unfold fC_P_spreadOf at hf
  refine lv_aload_n hx hb dX5_spreadOf_0 rfl (lv_at hl 0 rfl) ?_
  refine gC_1_4 C hJ fl_RX5_42 dX5_spreadOf_1 ?_
  refine gC_11_0 C hJ fl_RX5_150 dX5_spreadOf_4 ?_
  refine lv_iload_n hx hb dX5_spreadOf_7 rfl (lv_at hl 1 rfl) ?_
  obtain ⟨h1, hf⟩ := gi_some hf
  refine aC_46 C hJ h1 dX5_spreadOf_8 ?_
  refine lv_topi (fun x2 hx2 => ?_)
  have hf := bnd_at hf hx2
  refine lv_istore_n (lv' := [(2, .int x2), (0, .ref (q 1)), (1, .int a1)]) hx hb dX5_spreadOf_9 rfl hl (by decide) rfl (fun ls hl => ?_)
  refine lv_iload_n hx hb dX5_spreadOf_10 rfl (lv_at hl 0 rfl) ?_
  refine lv_iconst (v := 2) hx hb dX5_spreadOf_11 (by decide) ?_
  obtain ⟨σ3, r4, hg5, hf⟩ := cal_some hf
  refine backI hsb hJ (runN (As := [.int x2, .int (2 : Int32)]) (rest := []) C hJ lkn_yX11_isUnder (hE.1 _ nl_RX5_114) (cC_isUnder hF hg5) rfl rfl (Nat.le_of_ble_eq_true rfl) hl.1 (hR_of (by omega) (by decide)) ⟨Nat.le_refl _, Nat.le_refl _⟩ dX5_spreadOf_12) (fun H locs hJ => ?_)
  refine lv_if_eq (tgt := 43) hx hb dX5_spreadOf_15 (by decide) (fun c6 => ?_) (fun c6 => ?_)
  · have hf := ite_t hf c6
    refine lv_iconst (v := 0) hx hb dX5_spreadOf_43 (by decide) ?_
    exact ret_I hret hJ hf rfl dX5_spreadOf_44
  · have hf := ite_f hf c6
    refine lv_iload_n hx hb dX5_spreadOf_18 rfl (lv_at hl 0 rfl) ?_
    refine lv_iconst (v := 5) hx hb dX5_spreadOf_19 (by decide) ?_
    refine lv_icmp_eq (tgt := 43) hx hb dX5_spreadOf_20 (by decide) (fun c7 => ?_) (fun c7 => ?_)
    · have hf := ite_t hf c7
      refine lv_iconst (v := 0) hx hb dX5_spreadOf_43 (by decide) ?_
      exact ret_I hret hJ hf rfl dX5_spreadOf_44
    · have hf := ite_f hf c7
      refine lv_aload_n hx hb dX5_spreadOf_23 rfl (lv_at hl 1 rfl) ?_
      refine gC_1_2 C hJ fl_RX5_28 dX5_spreadOf_24 ?_
      refine gC_9_1 C hJ fl_RX5_162 dX5_spreadOf_27 ?_
      refine lv_aload_n hx hb dX5_spreadOf_30 rfl (lv_at hl 1 rfl) ?_
      refine gC_1_4 C hJ fl_RX5_42 dX5_spreadOf_31 ?_
      refine gC_11_5 C hJ fl_RX5_108 dX5_spreadOf_34 ?_
      refine lv_iload_n hx hb dX5_spreadOf_37 rfl (lv_at hl 2 rfl) ?_
      obtain ⟨h8, hf⟩ := gi_some hf
      refine aC_51 C hJ h8 dX5_spreadOf_38 ?_
      obtain ⟨h9, hf⟩ := gi_some hf
      refine aC_40 C hJ h9 dX5_spreadOf_39 ?_
      refine lv_goto (tgt := 44) hx hb dX5_spreadOf_40 (by decide) ?_
      exact ret_I hret hJ hf rfl dX5_spreadOf_44
set_option maxHeartbeats 4000000 in
set_option maxRecDepth 100000 in
theorem cC_P_waysOf {l : Launch} {D : va_G} {cA cB : ClassId} {q : Nat → Nat} {x : Nat → Nat} {N : Nat} {σ σ' : St} {r : Int32} {a1 : Int32} (hF : Fr (wC q cA cB) (aC q) (eC q x)) (hf : fC_P_waysOf N σ a1 = some (σ', r)) : MI l yX5_waysOf cX5_waysOf 8 .int 6 D (tyC cA cB) (wC q cA cB) (aC q) (eC q x) [.ref (q 1), .int a1] σ σ' r := by
  refine MI_of (by decide) hF (Nat.le_of_ble_eq_true rfl) ?_
  intro p e s m args below meth c Q C hret hJ ls hl
  obtain ⟨hx, hb, hml, hown, hts, hK, hE, -⟩ := id C
  have hsb : ∀ z, (aC q) z → (aC q) z := fun _ h => h
  have l39 : ∀ (n : Nat) (σ : St) (a3 : Int32) (a4 : Int32) (a5 : Int32) (a6 : Int32) (H : Heap) (locs : List Loc) (ls : Array Slot), fC_P_waysOf_l39 N  n σ a3 a4 a5 a6 = some (σ', r) → J D (wC q cA cB) (aC q) s σ H locs → lv_has ls 8 [(3, .int a3), (4, .int a4), (5, .int a5), (6, .int a6)] → W p l e (rmH 6) s m args below meth c H locs 0 0 Q (F0 m 39 ls []) := by
    intro n39
    induction n39 with
    | zero => intro σ a3 a4 a5 a6 H locs ls hf; rw [fC_P_waysOf_l39] at hf; cases hf
    | succ n39 ih39 =>
      have j84 : ∀ (σ : St) (a3 : Int32) (a4 : Int32) (a5 : Int32) (a6 : Int32) (H : Heap) (locs : List Loc) (ls : Array Slot), fC_P_waysOf_j84 N (fC_P_waysOf_l39 N  n39) σ a3 a4 a5 a6 = some (σ', r) → J D (wC q cA cB) (aC q) s σ H locs → lv_has ls 8 [(3, .int a3), (4, .int a4), (5, .int a5), (6, .int a6)] → W p l e (rmH 6) s m args below meth c H locs 0 0 Q (F0 m 84 ls []) := by
        intro σ a3 a4 a5 a6 H locs ls hf hJ hl
        unfold fC_P_waysOf_j84 at hf
        obtain ⟨x1, hx1⟩ : ∃ z : Int32, z = a6 + (1 : Int32) := ⟨_, rfl⟩
        have hf := bnd_at hf hx1
        refine lv_iinc (v := x1) (lv' := [(6, .int x1), (3, .int a3), (4, .int a4), (5, .int a5)]) hx hb dX5_waysOf_84 hl (k := 3) rfl (by rw [hx1]; rfl) (by decide) rfl (fun ls hl => ?_)
        refine lv_goto (tgt := 39) hx hb dX5_waysOf_87 (by decide) ?_
        exact ih39 σ a3 a4 a5 x1 _ _ _ hf hJ (lv_sub hl [1, 2, 3, 0] rfl)
      have l51 : ∀ (n : Nat) (σ : St) (a3 : Int32) (a4 : Int32) (a5 : Int32) (a6 : Int32) (a7 : Int32) (H : Heap) (locs : List Loc) (ls : Array Slot), fC_P_waysOf_l51 N (fC_P_waysOf_l39 N  n39) n σ a3 a4 a5 a6 a7 = some (σ', r) → J D (wC q cA cB) (aC q) s σ H locs → lv_has ls 8 [(3, .int a3), (4, .int a4), (5, .int a5), (6, .int a6), (7, .int a7)] → W p l e (rmH 6) s m args below meth c H locs 0 0 Q (F0 m 51 ls []) := by
        intro n51
        induction n51 with
        | zero => intro σ a3 a4 a5 a6 a7 H locs ls hf; rw [fC_P_waysOf_l51] at hf; cases hf
        | succ n51 ih51 =>
          have j75 : ∀ (σ : St) (a3 : Int32) (a4 : Int32) (a6 : Int32) (a7 : Int32) (t0 : Int32) (t1 : Int32) (H : Heap) (locs : List Loc) (ls : Array Slot), fC_P_waysOf_j75 N (fC_P_waysOf_l39 N  n39) (fC_P_waysOf_l51 N (fC_P_waysOf_l39 N  n39) n51) σ a3 a4 a6 a7 t0 t1 = some (σ', r) → J D (wC q cA cB) (aC q) s σ H locs → lv_has ls 8 [(3, .int a3), (4, .int a4), (6, .int a6), (7, .int a7)] → W p l e (rmH 6) s m args below meth c H locs 0 0 Q (F0 m 75 ls [.int t1, .int t0]) := by
            intro σ a3 a4 a6 a7 t0 t1 H locs ls hf hJ hl
            unfold fC_P_waysOf_j75 at hf
            refine lv_iadd hx hb dX5_waysOf_75 ?_
            refine lv_topi (fun x2 hx2 => ?_)
            have hf := bnd_at hf hx2
            refine lv_istore (lv' := [(5, .int x2), (3, .int a3), (4, .int a4), (6, .int a6), (7, .int a7)]) hx hb dX5_waysOf_76 hl (by decide) rfl (fun ls hl => ?_)
            obtain ⟨x3, hx3⟩ : ∃ z : Int32, z = a7 + (1 : Int32) := ⟨_, rfl⟩
            have hf := bnd_at hf hx3
            refine lv_iinc (v := x3) (lv' := [(7, .int x3), (5, .int x2), (3, .int a3), (4, .int a4), (6, .int a6)]) hx hb dX5_waysOf_78 hl (k := 4) rfl (by rw [hx3]; rfl) (by decide) rfl (fun ls hl => ?_)
            refine lv_goto (tgt := 51) hx hb dX5_waysOf_81 (by decide) ?_
            exact ih51 σ a3 a4 x2 a6 x3 _ _ _ hf hJ (lv_sub hl [2, 3, 1, 4, 0] rfl)
          intro σ a3 a4 a5 a6 a7 H locs ls hf hJ hl
          rw [fC_P_waysOf_l51] at hf
          refine lv_iload hx hb dX5_waysOf_51 (lv_at hl 4 rfl) ?_
          refine lv_iload hx hb dX5_waysOf_53 (lv_at hl 1 rfl) ?_
          refine lv_icmp_gt (tgt := 84) hx hb dX5_waysOf_55 (by decide) (fun c4 => ?_) (fun c4 => ?_)
          · have hf := ite_t hf c4
            exact j84 σ a3 a4 a5 a6 _ _ _ hf hJ (lv_sub hl [0, 1, 2, 3] rfl)
          · have hf := ite_f hf c4
            refine lv_iload hx hb dX5_waysOf_58 (lv_at hl 2 rfl) ?_
            refine lv_iload_n hx hb dX5_waysOf_60 rfl (lv_at hl 0 rfl) ?_
            refine lv_iload hx hb dX5_waysOf_61 (lv_at hl 3 rfl) ?_
            refine lv_iadd hx hb dX5_waysOf_63 ?_
            refine lv_iload hx hb dX5_waysOf_64 (lv_at hl 4 rfl) ?_
            refine lv_isub hx hb dX5_waysOf_66 ?_
            refine lv_if_le (tgt := 74) hx hb dX5_waysOf_67 (by decide) (fun c5 => ?_) (fun c5 => ?_)
            · have hf := ite_t hf c5
              refine lv_iconst (v := 0) hx hb dX5_waysOf_74 (by decide) ?_
              exact j75 σ a3 a4 a6 a7 a5 (0 : Int32) _ _ _ hf hJ (lv_sub hl [0, 1, 3, 4] rfl)
            · have hf := ite_f hf c5
              refine lv_iconst (v := 1) hx hb dX5_waysOf_70 (by decide) ?_
              refine lv_goto (tgt := 75) hx hb dX5_waysOf_71 (by decide) ?_
              exact j75 σ a3 a4 a6 a7 a5 (1 : Int32) _ _ _ hf hJ (lv_sub hl [0, 1, 3, 4] rfl)
      intro σ a3 a4 a5 a6 H locs ls hf hJ hl
      rw [fC_P_waysOf_l39] at hf
      refine lv_iload hx hb dX5_waysOf_39 (lv_at hl 3 rfl) ?_
      refine lv_iload hx hb dX5_waysOf_41 (lv_at hl 1 rfl) ?_
      refine lv_icmp_gt (tgt := 90) hx hb dX5_waysOf_43 (by decide) (fun c6 => ?_) (fun c6 => ?_)
      · have hf := ite_t hf c6
        refine lv_iload hx hb dX5_waysOf_90 (lv_at hl 2 rfl) ?_
        exact ret_I hret hJ hf rfl dX5_waysOf_92
      · have hf := ite_f hf c6
        refine lv_iload hx hb dX5_waysOf_46 (lv_at hl 1 rfl) ?_
        refine lv_ineg hx hb dX5_waysOf_48 ?_
        refine lv_topi (fun x7 hx7 => ?_)
        have hf := bnd_at hf hx7
        refine lv_istore (lv' := [(7, .int x7), (3, .int a3), (4, .int a4), (5, .int a5), (6, .int a6)]) hx hb dX5_waysOf_49 hl (by decide) rfl (fun ls hl => ?_)
        exact l51 N σ a3 a4 a5 a6 x7 _ _ _ hf hJ (lv_sub hl [1, 2, 3, 4, 0] rfl)
  have hl : lv_has ls 8 [(0, .ref (q 1)), (1, .int a1)] := hl
  unfold fC_P_waysOf at hf
  refine lv_aload_n hx hb dX5_waysOf_0 rfl (lv_at hl 0 rfl) ?_
  refine gC_1_4 C hJ fl_RX5_42 dX5_waysOf_1 ?_
  refine gC_11_0 C hJ fl_RX5_150 dX5_waysOf_4 ?_
  refine lv_iload_n hx hb dX5_waysOf_7 rfl (lv_at hl 1 rfl) ?_
  obtain ⟨h8, hf⟩ := gi_some hf
  refine aC_46 C hJ h8 dX5_waysOf_8 ?_
  refine lv_topi (fun x9 hx9 => ?_)
  have hf := bnd_at hf hx9
  refine lv_istore_n (lv' := [(2, .int x9), (0, .ref (q 1)), (1, .int a1)]) hx hb dX5_waysOf_9 rfl hl (by decide) rfl (fun ls hl => ?_)
  refine lv_aload_n hx hb dX5_waysOf_10 rfl (lv_at hl 1 rfl) ?_
  refine lv_iload_n hx hb dX5_waysOf_11 rfl (lv_at hl 0 rfl) ?_
  refine lv_iload_n hx hb dX5_waysOf_12 rfl (lv_at hl 2 rfl) ?_
  obtain ⟨σ10, r11, hg12, hf⟩ := cal_some hf
  refine backI hsb hJ (runV (As := [.int x9, .int a1]) (rest := []) C hJ lk_RX5_141 (cC_P_marginOf hF hg12) recC_1 rfl rfl (Nat.le_of_ble_eq_true rfl) hl.1 (hR_of (by omega) (by decide)) ⟨Nat.le_refl _, Nat.le_refl _⟩ dX5_waysOf_13) (fun H locs hJ => ?_)
  refine lv_aload_n hx hb dX5_waysOf_16 rfl (lv_at hl 1 rfl) ?_
  refine lv_iload_n hx hb dX5_waysOf_17 rfl (lv_at hl 0 rfl) ?_
  refine lv_iload_n hx hb dX5_waysOf_18 rfl (lv_at hl 2 rfl) ?_
  obtain ⟨σ13, r14, hg15, hf⟩ := cal_some hf
  refine backI hsb hJ (runV (As := [.int x9, .int a1]) (rest := [.int r11]) C hJ lk_RX5_144 (cC_P_bandOf hF hg15) recC_1 rfl rfl (Nat.le_of_ble_eq_true rfl) hl.1 (hR_of (by omega) (by decide)) ⟨Nat.le_refl _, Nat.le_refl _⟩ dX5_waysOf_19) (fun H locs hJ => ?_)
  refine lv_isub hx hb dX5_waysOf_22 ?_
  refine lv_topi (fun x16 hx16 => ?_)
  have hf := bnd_at hf hx16
  refine lv_istore_n (lv' := [(3, .int x16), (2, .int x9), (0, .ref (q 1)), (1, .int a1)]) hx hb dX5_waysOf_23 rfl hl (by decide) rfl (fun ls hl => ?_)
  refine lv_aload_n hx hb dX5_waysOf_24 rfl (lv_at hl 2 rfl) ?_
  refine lv_iload_n hx hb dX5_waysOf_25 rfl (lv_at hl 3 rfl) ?_
  obtain ⟨σ17, r18, hg19, hf⟩ := cal_some hf
  refine backI hsb hJ (runV (As := [.int a1]) (rest := []) C hJ lk_RX5_165 (cC_P_spreadOf hF hg19) recC_1 rfl rfl (Nat.le_of_ble_eq_true rfl) hl.1 (hR_of (by omega) (by decide)) ⟨Nat.le_refl _, Nat.le_refl _⟩ dX5_waysOf_26) (fun H locs hJ => ?_)
  refine lv_istore (lv' := [(4, .int r18), (3, .int x16), (2, .int x9), (0, .ref (q 1)), (1, .int a1)]) hx hb dX5_waysOf_29 hl (by decide) rfl (fun ls hl => ?_)
  refine lv_iconst (v := 0) hx hb dX5_waysOf_31 (by decide) ?_
  refine lv_istore (lv' := [(5, .int (0 : Int32)), (4, .int r18), (3, .int x16), (2, .int x9), (0, .ref (q 1)), (1, .int a1)]) hx hb dX5_waysOf_32 hl (by decide) rfl (fun ls hl => ?_)
  refine lv_iload hx hb dX5_waysOf_34 (lv_at hl 1 rfl) ?_
  refine lv_ineg hx hb dX5_waysOf_36 ?_
  refine lv_topi (fun x20 hx20 => ?_)
  have hf := bnd_at hf hx20
  refine lv_istore (lv' := [(6, .int x20), (5, .int (0 : Int32)), (4, .int r18), (3, .int x16), (2, .int x9), (0, .ref (q 1)), (1, .int a1)]) hx hb dX5_waysOf_37 hl (by decide) rfl (fun ls hl => ?_)
  exact l39 N σ17 x16 r18 (0 : Int32) x20 _ _ _ hf hJ (lv_sub hl [3, 2, 1, 0] rfl)
set_option maxHeartbeats 4000000 in
set_option maxRecDepth 100000 in
theorem cC_P_pairsOf {l : Launch} {D : va_G} {cA cB : ClassId} {q : Nat → Nat} {x : Nat → Nat} {N : Nat} {σ σ' : St} {r : Int32} {a1 : Int32} (hF : Fr (wC q cA cB) (aC q) (eC q x)) (hf : fC_P_pairsOf N σ a1 = some (σ', r)) : MI l yX5_pairsOf cX5_pairsOf 3 .int 4 D (tyC cA cB) (wC q cA cB) (aC q) (eC q x) [.ref (q 1), .int a1] σ σ' r := by
  refine MI_of (by decide) hF (Nat.le_of_ble_eq_true rfl) ?_
  intro p e s m args below meth c Q C hret hJ ls hl
  obtain ⟨hx, hb, hml, hown, hts, hK, hE, -⟩ := id C
  have hsb : ∀ z, (aC q) z → (aC q) z := fun _ h => h
  have hl : lv_has ls 3 [(0, .ref (q 1)), (1, .int a1)] := hl
  unfold fC_P_pairsOf at hf
  refine lv_iconst (v := 2) hx hb dX5_pairsOf_0 (by decide) ?_
  refine lv_aload_n hx hb dX5_pairsOf_1 rfl (lv_at hl 0 rfl) ?_
  refine lv_iload_n hx hb dX5_pairsOf_2 rfl (lv_at hl 1 rfl) ?_
  obtain ⟨σ1, r2, hg3, hf⟩ := cal_some hf
  refine backI hsb hJ (runV (As := [.int a1]) (rest := [.int (2 : Int32)]) C hJ lk_RX5_165 (cC_P_spreadOf hF hg3) recC_1 rfl rfl (Nat.le_of_ble_eq_true rfl) hl.1 (hR_of (by omega) (by decide)) ⟨Nat.le_refl _, Nat.le_refl _⟩ dX5_pairsOf_3) (fun H locs hJ => ?_)
  refine lv_imul hx hb dX5_pairsOf_6 ?_
  refine lv_iconst (v := 1) hx hb dX5_pairsOf_7 (by decide) ?_
  refine lv_iadd hx hb dX5_pairsOf_8 ?_
  refine lv_topi (fun x4 hx4 => ?_)
  have hf := bnd_at hf hx4
  refine lv_istore_n (lv' := [(2, .int x4), (0, .ref (q 1)), (1, .int a1)]) hx hb dX5_pairsOf_9 rfl hl (by decide) rfl (fun ls hl => ?_)
  refine lv_iload_n hx hb dX5_pairsOf_10 rfl (lv_at hl 0 rfl) ?_
  refine lv_iload_n hx hb dX5_pairsOf_11 rfl (lv_at hl 0 rfl) ?_
  refine lv_imul hx hb dX5_pairsOf_12 ?_
  exact ret_I hret hJ hf rfl dX5_pairsOf_13
set_option maxHeartbeats 4000000 in
set_option maxRecDepth 100000 in
theorem cC_P_trueMargin {l : Launch} {D : va_G} {cA cB : ClassId} {q : Nat → Nat} {x : Nat → Nat} {N : Nat} {σ σ' : St} {r : Int32} {a1 : Int32} {a2 : Int32} (hF : Fr (wC q cA cB) (aC q) (eC q x)) (hf : fC_P_trueMargin N σ a1 a2 = some (σ', r)) : MI l yX5_trueMargin cX5_trueMargin 3 .int 5 D (tyC cA cB) (wC q cA cB) (aC q) (eC q x) [.ref (q 1), .int a1, .int a2] σ σ' r := by
  refine MI_of (by decide) hF (Nat.le_of_ble_eq_true rfl) ?_
  intro p e s m args below meth c Q C hret hJ ls hl
  obtain ⟨hx, hb, hml, hown, hts, hK, hE, -⟩ := id C
  have hsb : ∀ z, (aC q) z → (aC q) z := fun _ h => h
  have hl : lv_has ls 3 [(0, .ref (q 1)), (1, .int a1), (2, .int a2)] := hl
  unfold fC_P_trueMargin at hf
  refine lv_aload_n hx hb dX5_trueMargin_0 rfl (lv_at hl 0 rfl) ?_
  refine lv_aload_n hx hb dX5_trueMargin_1 rfl (lv_at hl 0 rfl) ?_
  refine gC_1_4 C hJ fl_RX5_42 dX5_trueMargin_2 ?_
  refine gC_11_1 C hJ fl_RX5_96 dX5_trueMargin_5 ?_
  refine lv_iload_n hx hb dX5_trueMargin_8 rfl (lv_at hl 1 rfl) ?_
  obtain ⟨h1, hf⟩ := gi_some hf
  refine aC_47 C hJ h1 dX5_trueMargin_9 ?_
  refine lv_iload_n hx hb dX5_trueMargin_10 rfl (lv_at hl 2 rfl) ?_
  obtain ⟨σ2, r3, hg4, hf⟩ := cal_some hf
  refine backI hsb hJ (runV (As := [.int (σ.2.1 47 a1.toNatClampNeg), .int a2]) (rest := []) C hJ lk_RX5_99 (cC_P_frontOf hF hg4) recC_1 rfl rfl (Nat.le_of_ble_eq_true rfl) hl.1 (hR_of (by omega) (by decide)) ⟨Nat.le_refl _, Nat.le_refl _⟩ dX5_trueMargin_11) (fun H locs hJ => ?_)
  refine lv_aload_n hx hb dX5_trueMargin_14 rfl (lv_at hl 0 rfl) ?_
  refine lv_aload_n hx hb dX5_trueMargin_15 rfl (lv_at hl 0 rfl) ?_
  refine gC_1_4 C hJ fl_RX5_42 dX5_trueMargin_16 ?_
  refine gC_11_2 C hJ fl_RX5_102 dX5_trueMargin_19 ?_
  refine lv_iload_n hx hb dX5_trueMargin_22 rfl (lv_at hl 1 rfl) ?_
  obtain ⟨h5, hf⟩ := gi_some hf
  refine aC_48 C hJ h5 dX5_trueMargin_23 ?_
  refine lv_iload_n hx hb dX5_trueMargin_24 rfl (lv_at hl 2 rfl) ?_
  obtain ⟨σ6, r7, hg8, hf⟩ := cal_some hf
  refine backI hsb hJ (runV (As := [.int (σ2.2.1 48 a1.toNatClampNeg), .int a2]) (rest := [.int r3]) C hJ lk_RX5_99 (cC_P_frontOf hF hg8) recC_1 rfl rfl (Nat.le_of_ble_eq_true rfl) hl.1 (hR_of (by omega) (by decide)) ⟨Nat.le_refl _, Nat.le_refl _⟩ dX5_trueMargin_25) (fun H locs hJ => ?_)
  refine lv_isub hx hb dX5_trueMargin_28 ?_
  exact ret_I hret hJ hf rfl dX5_trueMargin_29
set_option maxHeartbeats 4000000 in
set_option maxRecDepth 100000 in
theorem cC_P_frameErrorOf {l : Launch} {D : va_G} {cA cB : ClassId} {q : Nat → Nat} {x : Nat → Nat} {N : Nat} {σ σ' : St} {r : Int32} {a1 : Int32} (hF : Fr (wC q cA cB) (aC q) (eC q x)) (hf : fC_P_frameErrorOf N σ a1 = some (σ', r)) : MI l yX5_frameErrorOf cX5_frameErrorOf 4 .int 6 D (tyC cA cB) (wC q cA cB) (aC q) (eC q x) [.ref (q 1), .int a1] σ σ' r := by
  refine MI_of (by decide) hF (Nat.le_of_ble_eq_true rfl) ?_
  intro p e s m args below meth c Q C hret hJ ls hl
  obtain ⟨hx, hb, hml, hown, hts, hK, hE, -⟩ := id C
  have hsb : ∀ z, (aC q) z → (aC q) z := fun _ h => h
  have hl : lv_has ls 4 [(0, .ref (q 1)), (1, .int a1)] := hl
  unfold fC_P_frameErrorOf at hf
  refine lv_aload_n hx hb dX5_frameErrorOf_0 rfl (lv_at hl 0 rfl) ?_
  refine gC_1_4 C hJ fl_RX5_42 dX5_frameErrorOf_1 ?_
  refine gC_11_3 C hJ fl_RX5_111 dX5_frameErrorOf_4 ?_
  refine lv_iload_n hx hb dX5_frameErrorOf_7 rfl (lv_at hl 1 rfl) ?_
  obtain ⟨h1, hf⟩ := gi_some hf
  refine aC_49 C hJ h1 dX5_frameErrorOf_8 ?_
  refine lv_topi (fun x2 hx2 => ?_)
  have hf := bnd_at hf hx2
  refine lv_istore_n (lv' := [(2, .int x2), (0, .ref (q 1)), (1, .int a1)]) hx hb dX5_frameErrorOf_9 rfl hl (by decide) rfl (fun ls hl => ?_)
  refine lv_aload_n hx hb dX5_frameErrorOf_10 rfl (lv_at hl 1 rfl) ?_
  refine gC_1_1 C hJ fl_RX5_21 dX5_frameErrorOf_11 ?_
  refine lv_aload_n hx hb dX5_frameErrorOf_14 rfl (lv_at hl 1 rfl) ?_
  refine gC_1_4 C hJ fl_RX5_42 dX5_frameErrorOf_15 ?_
  refine gC_11_4 C hJ fl_RX5_118 dX5_frameErrorOf_18 ?_
  refine lv_iload_n hx hb dX5_frameErrorOf_21 rfl (lv_at hl 2 rfl) ?_
  obtain ⟨h3, hf⟩ := gi_some hf
  refine aC_50 C hJ h3 dX5_frameErrorOf_22 ?_
  refine lv_iload_n hx hb dX5_frameErrorOf_23 rfl (lv_at hl 0 rfl) ?_
  obtain ⟨σ4, r5, hg6, hf⟩ := cal_some hf
  refine backI hsb hJ (runV (As := [.int (σ.2.1 50 a1.toNatClampNeg), .int x2]) (rest := []) C hJ lk_RX5_121 (cC_A_frameFor hF hg6) recC_8 rfl rfl (Nat.le_of_ble_eq_true rfl) hl.1 (hR_of (by omega) (by decide)) ⟨Nat.le_refl _, Nat.le_refl _⟩ dX5_frameErrorOf_24) (fun H locs hJ => ?_)
  refine lv_istore_n (lv' := [(3, .int r5), (2, .int x2), (0, .ref (q 1)), (1, .int a1)]) hx hb dX5_frameErrorOf_27 rfl hl (by decide) rfl (fun ls hl => ?_)
  refine lv_aload_n hx hb dX5_frameErrorOf_28 rfl (lv_at hl 2 rfl) ?_
  refine lv_iload_n hx hb dX5_frameErrorOf_29 rfl (lv_at hl 3 rfl) ?_
  refine lv_iload_n hx hb dX5_frameErrorOf_30 rfl (lv_at hl 0 rfl) ?_
  obtain ⟨σ7, r8, hg9, hf⟩ := cal_some hf
  refine backI hsb hJ (runV (As := [.int a1, .int r5]) (rest := []) C hJ lk_RX5_168 (cC_P_trueMargin hF hg9) recC_1 rfl rfl (Nat.le_of_ble_eq_true rfl) hl.1 (hR_of (by omega) (by decide)) ⟨Nat.le_refl _, Nat.le_refl _⟩ dX5_frameErrorOf_31) (fun H locs hJ => ?_)
  refine lv_aload_n hx hb dX5_frameErrorOf_34 rfl (lv_at hl 2 rfl) ?_
  refine lv_iload_n hx hb dX5_frameErrorOf_35 rfl (lv_at hl 3 rfl) ?_
  refine lv_iload_n hx hb dX5_frameErrorOf_36 rfl (lv_at hl 1 rfl) ?_
  obtain ⟨σ10, r11, hg12, hf⟩ := cal_some hf
  refine backI hsb hJ (runV (As := [.int a1, .int x2]) (rest := [.int r8]) C hJ lk_RX5_168 (cC_P_trueMargin hF hg12) recC_1 rfl rfl (Nat.le_of_ble_eq_true rfl) hl.1 (hR_of (by omega) (by decide)) ⟨Nat.le_refl _, Nat.le_refl _⟩ dX5_frameErrorOf_37) (fun H locs hJ => ?_)
  refine lv_isub hx hb dX5_frameErrorOf_40 ?_
  exact ret_I hret hJ hf rfl dX5_frameErrorOf_41
set_option maxHeartbeats 4000000 in
set_option maxRecDepth 100000 in
theorem cC_T_mindsWidth {l : Launch} {D : va_G} {cA cB : ClassId} {q : Nat → Nat} {x : Nat → Nat} {N : Nat} {σ σ' : St} {r : Int32} {a1 : Int32} (hF : Fr (wC q cA cB) (aC q) (eC q x)) (hf : fC_T_mindsWidth N σ a1 = some (σ', r)) : MI l yX10_mindsWidth cX10_mindsWidth 4 .boolean 1 D (tyC cA cB) (wC q cA cB) (aC q) (eC q x) [.ref (q 10), .int a1] σ σ' r := by
  refine MI_of (by decide) hF (Nat.le_of_ble_eq_true rfl) ?_
  intro p e s m args below meth c Q C hret hJ ls hl
  obtain ⟨hx, hb, hml, hown, hts, hK, hE, -⟩ := id C
  have hsb : ∀ z, (aC q) z → (aC q) z := fun _ h => h
  have l16 : ∀ (n : Nat) (σ : St) (a2 : Int32) (a3 : Int32) (H : Heap) (locs : List Loc) (ls : Array Slot), fC_T_mindsWidth_l16 N  n σ a2 a3 = some (σ', r) → J D (wC q cA cB) (aC q) s σ H locs → lv_has ls 4 [(0, .ref (q 10)), (2, .int a2), (3, .int a3)] → W p l e (rmH 1) s m args below meth c H locs 0 0 Q (F0 m 16 ls []) := by
    intro n16
    induction n16 with
    | zero => intro σ a2 a3 H locs ls hf; rw [fC_T_mindsWidth_l16] at hf; cases hf
    | succ n16 ih16 =>
      intro σ a2 a3 H locs ls hf hJ hl
      rw [fC_T_mindsWidth_l16] at hf
      refine lv_iload_n hx hb dX10_mindsWidth_16 rfl (lv_at hl 2 rfl) ?_
      refine lv_aload_n hx hb dX10_mindsWidth_17 rfl (lv_at hl 0 rfl) ?_
      refine gC_10_2 C hJ fl_RX10_18 dX10_mindsWidth_18 ?_
      refine lv_iload_n hx hb dX10_mindsWidth_21 rfl (lv_at hl 1 rfl) ?_
      obtain ⟨h1, hf⟩ := gi_some hf
      refine aC_43 C hJ h1 dX10_mindsWidth_22 ?_
      refine lv_icmp_ge (tgt := 45) hx hb dX10_mindsWidth_23 (by decide) (fun c2 => ?_) (fun c2 => ?_)
      · have hf := ite_t hf c2
        refine lv_iconst (v := 0) hx hb dX10_mindsWidth_45 (by decide) ?_
        exact ret_I hret hJ hf (nar_z (by decide)) dX10_mindsWidth_46
      · have hf := ite_f hf c2
        refine lv_aload_n hx hb dX10_mindsWidth_26 rfl (lv_at hl 0 rfl) ?_
        refine gC_10_0 C hJ fl_RX10_9 dX10_mindsWidth_27 ?_
        refine lv_iload_n hx hb dX10_mindsWidth_30 rfl (lv_at hl 2 rfl) ?_
        obtain ⟨h3, hf⟩ := gi_some hf
        refine aC_41 C hJ h3 dX10_mindsWidth_31 ?_
        refine lv_bipush (v := -6) hx hb dX10_mindsWidth_32 (by decide) ?_
        refine lv_icmp_ne (tgt := 39) hx hb dX10_mindsWidth_34 (by decide) (fun c4 => ?_) (fun c4 => ?_)
        · have hf := ite_f hf c4
          obtain ⟨x5, hx5⟩ : ∃ z : Int32, z = a3 + (1 : Int32) := ⟨_, rfl⟩
          have hf := bnd_at hf hx5
          refine lv_iinc (v := x5) (lv' := [(3, .int x5), (0, .ref (q 10)), (2, .int a2)]) hx hb dX10_mindsWidth_39 hl (k := 2) rfl (by rw [hx5]; rfl) (by decide) rfl (fun ls hl => ?_)
          refine lv_goto (tgt := 16) hx hb dX10_mindsWidth_42 (by decide) ?_
          exact ih16 σ a2 x5 _ _ _ hf hJ (lv_sub hl [1, 2, 0] rfl)
        · have hf := ite_t hf c4
          refine lv_iconst (v := 1) hx hb dX10_mindsWidth_37 (by decide) ?_
          exact ret_I hret hJ hf (nar_z (by decide)) dX10_mindsWidth_38
  have hl : lv_has ls 4 [(0, .ref (q 10)), (1, .int a1)] := hl
  unfold fC_T_mindsWidth at hf
  refine lv_aload_n hx hb dX10_mindsWidth_0 rfl (lv_at hl 0 rfl) ?_
  refine gC_10_6 C hJ fl_RX10_35 dX10_mindsWidth_1 ?_
  refine lv_iconst (v := 3) hx hb dX10_mindsWidth_4 (by decide) ?_
  refine lv_imul hx hb dX10_mindsWidth_5 ?_
  refine lv_iload_n hx hb dX10_mindsWidth_6 rfl (lv_at hl 1 rfl) ?_
  refine lv_iadd hx hb dX10_mindsWidth_7 ?_
  refine lv_topi (fun x6 hx6 => ?_)
  have hf := bnd_at hf hx6
  refine lv_istore_n (lv' := [(2, .int x6), (0, .ref (q 10)), (1, .int a1)]) hx hb dX10_mindsWidth_8 rfl hl (by decide) rfl (fun ls hl => ?_)
  refine lv_aload_n hx hb dX10_mindsWidth_9 rfl (lv_at hl 1 rfl) ?_
  refine gC_10_1 C hJ fl_RX10_15 dX10_mindsWidth_10 ?_
  refine lv_iload_n hx hb dX10_mindsWidth_13 rfl (lv_at hl 0 rfl) ?_
  obtain ⟨h7, hf⟩ := gi_some hf
  refine aC_42 C hJ h7 dX10_mindsWidth_14 ?_
  refine lv_topi (fun x8 hx8 => ?_)
  have hf := bnd_at hf hx8
  refine lv_istore_n (lv' := [(3, .int x8), (2, .int x6), (0, .ref (q 10)), (1, .int a1)]) hx hb dX10_mindsWidth_15 rfl hl (by decide) rfl (fun ls hl => ?_)
  exact l16 N σ x6 x8 _ _ _ hf hJ (lv_sub hl [2, 1, 0] rfl)
set_option maxHeartbeats 4000000 in
set_option maxRecDepth 100000 in
theorem cC_P_turnOf {l : Launch} {D : va_G} {cA cB : ClassId} {q : Nat → Nat} {x : Nat → Nat} {N : Nat} {σ σ' : St} {r : Int32} {a1 : Int32} (hF : Fr (wC q cA cB) (aC q) (eC q x)) (hf : fC_P_turnOf N σ a1 = some (σ', r)) : MI l yX5_turnOf cX5_turnOf 8 .int 6 D (tyC cA cB) (wC q cA cB) (aC q) (eC q x) [.ref (q 1), .int a1] σ σ' r := by
  refine MI_of (by decide) hF (Nat.le_of_ble_eq_true rfl) ?_
  intro p e s m args below meth c Q C hret hJ ls hl
  obtain ⟨hx, hb, hml, hown, hts, hK, hE, -⟩ := id C
  have hsb : ∀ z, (aC q) z → (aC q) z := fun _ h => h
  have l66 : ∀ (n : Nat) (σ : St) (a1 : Int32) (a2 : Int32) (a3 : Int32) (a5 : Int32) (a6 : Int32) (a7 : Int32) (H : Heap) (locs : List Loc) (ls : Array Slot), fC_P_turnOf_l66 N  n σ a1 a2 a3 a5 a6 a7 = some (σ', r) → J D (wC q cA cB) (aC q) s σ H locs → lv_has ls 8 [(0, .ref (q 1)), (1, .int a1), (2, .int a2), (3, .int a3), (5, .int a5), (6, .int a6), (7, .int a7)] → W p l e (rmH 6) s m args below meth c H locs 0 0 Q (F0 m 66 ls []) := by
    intro n66
    induction n66 with
    | zero => intro σ a1 a2 a3 a5 a6 a7 H locs ls hf; rw [fC_P_turnOf_l66] at hf; cases hf
    | succ n66 ih66 =>
      have j96 : ∀ (σ : St) (a1 : Int32) (a2 : Int32) (a3 : Int32) (a5 : Int32) (a6 : Int32) (a7 : Int32) (H : Heap) (locs : List Loc) (ls : Array Slot), fC_P_turnOf_j96 N (fC_P_turnOf_l66 N  n66) σ a1 a2 a3 a5 a6 a7 = some (σ', r) → J D (wC q cA cB) (aC q) s σ H locs → lv_has ls 8 [(0, .ref (q 1)), (1, .int a1), (2, .int a2), (3, .int a3), (5, .int a5), (6, .int a6), (7, .int a7)] → W p l e (rmH 6) s m args below meth c H locs 0 0 Q (F0 m 96 ls []) := by
        intro σ a1 a2 a3 a5 a6 a7 H locs ls hf hJ hl
        unfold fC_P_turnOf_j96 at hf
        refine lv_iload hx hb dX5_turnOf_96 (lv_at hl 5 rfl) ?_
        refine lv_aload_n hx hb dX5_turnOf_98 rfl (lv_at hl 0 rfl) ?_
        refine lv_iload_n hx hb dX5_turnOf_99 rfl (lv_at hl 2 rfl) ?_
        refine lv_iload_n hx hb dX5_turnOf_100 rfl (lv_at hl 1 rfl) ?_
        obtain ⟨σ1, r2, hg3, hf⟩ := cal_some hf
        refine backI hsb hJ (runV (As := [.int a2, .int a1]) (rest := [.int a6]) C hJ lk_RX5_144 (cC_P_bandOf hF hg3) recC_1 rfl rfl (Nat.le_of_ble_eq_true rfl) hl.1 (hR_of (by omega) (by decide)) ⟨Nat.le_refl _, Nat.le_refl _⟩ dX5_turnOf_101) (fun H locs hJ => ?_)
        refine lv_icmp_gt (tgt := 110) hx hb dX5_turnOf_104 (by decide) (fun c4 => ?_) (fun c4 => ?_)
        · have hf := ite_t hf c4
          obtain ⟨x5, hx5⟩ : ∃ z : Int32, z = a7 + (1 : Int32) := ⟨_, rfl⟩
          have hf := bnd_at hf hx5
          refine lv_iinc (v := x5) (lv' := [(7, .int x5), (0, .ref (q 1)), (1, .int a1), (2, .int a2), (3, .int a3), (5, .int a5), (6, .int a6)]) hx hb dX5_turnOf_110 hl (k := 6) rfl (by rw [hx5]; rfl) (by decide) rfl (fun ls hl => ?_)
          refine lv_goto (tgt := 66) hx hb dX5_turnOf_113 (by decide) ?_
          exact ih66 σ1 a1 a2 a3 a5 a6 x5 _ _ _ hf hJ (lv_sub hl [1, 2, 3, 4, 5, 6, 0] rfl)
        · have hf := ite_f hf c4
          refine lv_iload hx hb dX5_turnOf_107 (lv_at hl 6 rfl) ?_
          exact ret_I hret hJ hf rfl dX5_turnOf_109
      have j88 : ∀ (σ : St) (a1 : Int32) (a2 : Int32) (a3 : Int32) (a5 : Int32) (a7 : Int32) (H : Heap) (locs : List Loc) (ls : Array Slot), fC_P_turnOf_j88 N (fC_P_turnOf_l66 N  n66) σ a1 a2 a3 a5 a7 = some (σ', r) → J D (wC q cA cB) (aC q) s σ H locs → lv_has ls 8 [(0, .ref (q 1)), (1, .int a1), (2, .int a2), (3, .int a3), (5, .int a5), (7, .int a7)] → W p l e (rmH 6) s m args below meth c H locs 0 0 Q (F0 m 88 ls []) := by
        intro σ a1 a2 a3 a5 a7 H locs ls hf hJ hl
        unfold fC_P_turnOf_j88 at hf
        refine lv_aload_n hx hb dX5_turnOf_88 rfl (lv_at hl 0 rfl) ?_
        refine lv_iload_n hx hb dX5_turnOf_89 rfl (lv_at hl 2 rfl) ?_
        refine lv_iload_n hx hb dX5_turnOf_90 rfl (lv_at hl 1 rfl) ?_
        obtain ⟨σ6, r7, hg8, hf⟩ := cal_some hf
        refine backI hsb hJ (runV (As := [.int a2, .int a1]) (rest := []) C hJ lk_RX5_141 (cC_P_marginOf hF hg8) recC_1 rfl rfl (Nat.le_of_ble_eq_true rfl) hl.1 (hR_of (by omega) (by decide)) ⟨Nat.le_refl _, Nat.le_refl _⟩ dX5_turnOf_91) (fun H locs hJ => ?_)
        refine lv_istore (lv' := [(6, .int r7), (0, .ref (q 1)), (1, .int a1), (2, .int a2), (3, .int a3), (5, .int a5), (7, .int a7)]) hx hb dX5_turnOf_94 hl (by decide) rfl (fun ls hl => ?_)
        exact j96 σ6 a1 a2 a3 a5 r7 a7 _ _ _ hf hJ (lv_sub hl [1, 2, 3, 4, 5, 0, 6] rfl)
      intro σ a1 a2 a3 a5 a6 a7 H locs ls hf hJ hl
      rw [fC_P_turnOf_l66] at hf
      refine lv_iload hx hb dX5_turnOf_66 (lv_at hl 6 rfl) ?_
      refine lv_iload hx hb dX5_turnOf_68 (lv_at hl 4 rfl) ?_
      refine lv_icmp_gt (tgt := 116) hx hb dX5_turnOf_70 (by decide) (fun c9 => ?_) (fun c9 => ?_)
      · have hf := ite_t hf c9
        refine lv_iconst (v := -1) hx hb dX5_turnOf_116 (by decide) ?_
        exact ret_I hret hJ hf rfl dX5_turnOf_117
      · have hf := ite_f hf c9
        refine lv_aload_n hx hb dX5_turnOf_73 rfl (lv_at hl 0 rfl) ?_
        refine lv_iload hx hb dX5_turnOf_74 (lv_at hl 6 rfl) ?_
        obtain ⟨σ10, r11, hg12, hf⟩ := cal_some hf
        refine backV hsb hJ (runV (As := [.int a7]) (rest := []) C hJ lk_RX5_175 (cC_P_lookAs hF hg12) recC_1 rfl rfl (Nat.le_of_ble_eq_true rfl) hl.1 (hR_of (by omega) (by decide)) ⟨Nat.le_refl _, Nat.le_refl _⟩ dX5_turnOf_76) (fun H locs hJ => ?_)
        refine lv_iload hx hb dX5_turnOf_79 (lv_at hl 6 rfl) ?_
        refine lv_if_eq (tgt := 88) hx hb dX5_turnOf_81 (by decide) (fun c13 => ?_) (fun c13 => ?_)
        · have hf := ite_t hf c13
          exact j88 σ10 a1 a2 a3 a5 a7 _ _ _ hf hJ (lv_sub hl [0, 1, 2, 3, 4, 6] rfl)
        · have hf := ite_f hf c13
          refine lv_iload_n hx hb dX5_turnOf_84 rfl (lv_at hl 3 rfl) ?_
          refine lv_if_eq (tgt := 96) hx hb dX5_turnOf_85 (by decide) (fun c14 => ?_) (fun c14 => ?_)
          · have hf := ite_t hf c14
            exact j96 σ10 a1 a2 a3 a5 a6 a7 _ _ _ hf hJ (lv_sub hl [0, 1, 2, 3, 4, 5, 6] rfl)
          · have hf := ite_f hf c14
            exact j88 σ10 a1 a2 a3 a5 a7 _ _ _ hf hJ (lv_sub hl [0, 1, 2, 3, 4, 6] rfl)
  have j58 : ∀ (σ : St) (a1 : Int32) (a2 : Int32) (a3 : Int32) (t0 : Int32) (H : Heap) (locs : List Loc) (ls : Array Slot), fC_P_turnOf_j58 N  σ a1 a2 a3 t0 = some (σ', r) → J D (wC q cA cB) (aC q) s σ H locs → lv_has ls 8 [(0, .ref (q 1)), (1, .int a1), (2, .int a2), (3, .int a3)] → W p l e (rmH 6) s m args below meth c H locs 0 0 Q (F0 m 58 ls [.int t0]) := by
    intro σ a1 a2 a3 t0 H locs ls hf hJ hl
    unfold fC_P_turnOf_j58 at hf
    refine lv_istore (lv' := [(5, .int t0), (0, .ref (q 1)), (1, .int a1), (2, .int a2), (3, .int a3)]) hx hb dX5_turnOf_58 hl (by decide) rfl (fun ls hl => ?_)
    refine lv_iconst (v := 0) hx hb dX5_turnOf_60 (by decide) ?_
    refine lv_istore (lv' := [(6, .int (0 : Int32)), (5, .int t0), (0, .ref (q 1)), (1, .int a1), (2, .int a2), (3, .int a3)]) hx hb dX5_turnOf_61 hl (by decide) rfl (fun ls hl => ?_)
    refine lv_iconst (v := 0) hx hb dX5_turnOf_63 (by decide) ?_
    refine lv_istore (lv' := [(7, .int (0 : Int32)), (6, .int (0 : Int32)), (5, .int t0), (0, .ref (q 1)), (1, .int a1), (2, .int a2), (3, .int a3)]) hx hb dX5_turnOf_64 hl (by decide) rfl (fun ls hl => ?_)
    exact l66 N σ a1 a2 a3 t0 (0 : Int32) (0 : Int32) _ _ _ hf hJ (lv_sub hl [3, 4, 5, 6, 2, 1, 0] rfl)
  have j51 : ∀ (σ : St) (a1 : Int32) (a2 : Int32) (a3 : Int32) (H : Heap) (locs : List Loc) (ls : Array Slot), fC_P_turnOf_j51 N  σ a1 a2 a3 = some (σ', r) → J D (wC q cA cB) (aC q) s σ H locs → lv_has ls 8 [(0, .ref (q 1)), (1, .int a1), (2, .int a2), (3, .int a3)] → W p l e (rmH 6) s m args below meth c H locs 0 0 Q (F0 m 51 ls []) := by
    intro σ a1 a2 a3 H locs ls hf hJ hl
    unfold fC_P_turnOf_j51 at hf
    refine lv_sipush (v := 999) hx hb dX5_turnOf_51 (by decide) ?_
    refine lv_goto (tgt := 58) hx hb dX5_turnOf_54 (by decide) ?_
    exact j58 σ a1 a2 a3 (999 : Int32) _ _ _ hf hJ (lv_sub hl [0, 1, 2, 3] rfl)
  have j40 : ∀ (σ : St) (a1 : Int32) (a2 : Int32) (a3 : Int32) (t0 : Int32) (H : Heap) (locs : List Loc) (ls : Array Slot), fC_P_turnOf_j40 N  σ a1 a2 a3 t0 = some (σ', r) → J D (wC q cA cB) (aC q) s σ H locs → lv_has ls 8 [(0, .ref (q 1)), (1, .int a1), (2, .int a2), (3, .int a3)] → W p l e (rmH 6) s m args below meth c H locs 0 0 Q (F0 m 40 ls [.int t0]) := by
    intro σ a1 a2 a3 t0 H locs ls hf hJ hl
    unfold fC_P_turnOf_j40 at hf
    refine lv_istore (lv' := [(4, .int t0), (0, .ref (q 1)), (1, .int a1), (2, .int a2), (3, .int a3)]) hx hb dX5_turnOf_40 hl (by decide) rfl (fun ls hl => ?_)
    refine lv_iload_n hx hb dX5_turnOf_42 rfl (lv_at hl 4 rfl) ?_
    refine lv_if_ne (tgt := 51) hx hb dX5_turnOf_43 (by decide) (fun c15 => ?_) (fun c15 => ?_)
    · have hf := ite_f hf c15
      exact j51 σ a1 a2 a3 _ _ _ hf hJ (lv_sub hl [1, 2, 3, 4] rfl)
    · have hf := ite_t hf c15
      refine lv_iload hx hb dX5_turnOf_46 (lv_at hl 0 rfl) ?_
      refine lv_if_eq (tgt := 57) hx hb dX5_turnOf_48 (by decide) (fun c16 => ?_) (fun c16 => ?_)
      · have hf := ite_t hf c16
        refine lv_iconst (v := 0) hx hb dX5_turnOf_57 (by decide) ?_
        exact j58 σ a1 a2 a3 (0 : Int32) _ _ _ hf hJ (lv_sub hl [1, 2, 3, 4] rfl)
      · have hf := ite_f hf c16
        exact j51 σ a1 a2 a3 _ _ _ hf hJ (lv_sub hl [1, 2, 3, 4] rfl)
  have j39 : ∀ (σ : St) (a1 : Int32) (a2 : Int32) (a3 : Int32) (H : Heap) (locs : List Loc) (ls : Array Slot), fC_P_turnOf_j39 N  σ a1 a2 a3 = some (σ', r) → J D (wC q cA cB) (aC q) s σ H locs → lv_has ls 8 [(0, .ref (q 1)), (1, .int a1), (2, .int a2), (3, .int a3)] → W p l e (rmH 6) s m args below meth c H locs 0 0 Q (F0 m 39 ls []) := by
    intro σ a1 a2 a3 H locs ls hf hJ hl
    unfold fC_P_turnOf_j39 at hf
    refine lv_iconst (v := 0) hx hb dX5_turnOf_39 (by decide) ?_
    exact j40 σ a1 a2 a3 (0 : Int32) _ _ _ hf hJ (lv_sub hl [0, 1, 2, 3] rfl)
  have hl : lv_has ls 8 [(0, .ref (q 1)), (1, .int a1)] := hl
  unfold fC_P_turnOf at hf
  refine lv_aload_n hx hb dX5_turnOf_0 rfl (lv_at hl 0 rfl) ?_
  refine gC_1_4 C hJ fl_RX5_42 dX5_turnOf_1 ?_
  refine gC_11_0 C hJ fl_RX5_150 dX5_turnOf_4 ?_
  refine lv_iload_n hx hb dX5_turnOf_7 rfl (lv_at hl 1 rfl) ?_
  obtain ⟨h17, hf⟩ := gi_some hf
  refine aC_46 C hJ h17 dX5_turnOf_8 ?_
  refine lv_topi (fun x18 hx18 => ?_)
  have hf := bnd_at hf hx18
  refine lv_istore_n (lv' := [(2, .int x18), (0, .ref (q 1)), (1, .int a1)]) hx hb dX5_turnOf_9 rfl hl (by decide) rfl (fun ls hl => ?_)
  refine lv_aload_n hx hb dX5_turnOf_10 rfl (lv_at hl 1 rfl) ?_
  refine gC_1_3 C hJ fl_RX5_35 dX5_turnOf_11 ?_
  refine lv_iconst (v := 0) hx hb dX5_turnOf_14 (by decide) ?_
  obtain ⟨σ19, r20, hg21, hf⟩ := cal_some hf
  refine backI hsb hJ (runV (As := [.int (0 : Int32)]) (rest := []) C hJ lk_RX5_171 (cC_T_mindsWidth hF hg21) recC_10 rfl rfl (Nat.le_of_ble_eq_true rfl) hl.1 (hR_of (by omega) (by decide)) ⟨Nat.le_refl _, Nat.le_refl _⟩ dX5_turnOf_15) (fun H locs hJ => ?_)
  refine lv_istore_n (lv' := [(3, .int r20), (2, .int x18), (0, .ref (q 1)), (1, .int a1)]) hx hb dX5_turnOf_18 rfl hl (by decide) rfl (fun ls hl => ?_)
  refine lv_iload_n hx hb dX5_turnOf_19 rfl (lv_at hl 1 rfl) ?_
  refine lv_iconst (v := 3) hx hb dX5_turnOf_20 (by decide) ?_
  refine lv_icmp_ne (tgt := 39) hx hb dX5_turnOf_21 (by decide) (fun c22 => ?_) (fun c22 => ?_)
  · have hf := ite_f hf c22
    exact j39 σ19 a1 x18 r20 _ _ _ hf hJ (lv_sub hl [2, 3, 1, 0] rfl)
  · have hf := ite_t hf c22
    refine lv_aload_n hx hb dX5_turnOf_24 rfl (lv_at hl 2 rfl) ?_
    refine gC_1_3 C hJ fl_RX5_35 dX5_turnOf_25 ?_
    refine lv_iconst (v := 1) hx hb dX5_turnOf_28 (by decide) ?_
    obtain ⟨σ23, r24, hg25, hf⟩ := cal_some hf
    refine backI hsb hJ (runV (As := [.int (1 : Int32)]) (rest := []) C hJ lk_RX5_171 (cC_T_mindsWidth hF hg25) recC_10 rfl rfl (Nat.le_of_ble_eq_true rfl) hl.1 (hR_of (by omega) (by decide)) ⟨Nat.le_refl _, Nat.le_refl _⟩ dX5_turnOf_29) (fun H locs hJ => ?_)
    refine lv_if_eq (tgt := 39) hx hb dX5_turnOf_32 (by decide) (fun c26 => ?_) (fun c26 => ?_)
    · have hf := ite_t hf c26
      exact j39 σ23 a1 x18 r20 _ _ _ hf hJ (lv_sub hl [2, 3, 1, 0] rfl)
    · have hf := ite_f hf c26
      refine lv_iconst (v := 1) hx hb dX5_turnOf_35 (by decide) ?_
      refine lv_goto (tgt := 40) hx hb dX5_turnOf_36 (by decide) ?_
      exact j40 σ23 a1 x18 r20 (1 : Int32) _ _ _ hf hJ (lv_sub hl [2, 3, 1, 0] rfl)
