set_option maxHeartbeats 4000000 in
set_option maxRecDepth 100000 in
theorem cM_isAbove {l : Launch} {D : va_G} {cA cB : ClassId} {q : Nat → Nat} {A : Nat → Prop} {E : State → Prop} {N : Nat} {σ σ' : St} {r : Int32} {a1 : Int32} {a2 : Int32} (hF : Fr (wM q cA cB) A E) (hf : fM_isAbove N σ a1 a2 = some (σ', r)) : MI l yX12_isAbove cX12_isAbove 5 .boolean 1 D (tyM cA cB) (wM q cA cB) A E [.ref (q 0), .int a1, .int a2] σ σ' r := by
  refine MI_of (by decide) hF (Nat.le_of_ble_eq_true rfl) ?_
  intro p e s m args below meth c Q C hret hJ ls hl
  obtain ⟨hx, hb, hml, hown, hts, hK, hE, -⟩ := id C
  have hsb : ∀ z, A z → A z := fun _ h => h
  have hl : lv_has ls 5 [(0, .ref (q 0)), (1, .int a1), (2, .int a2)] := hl
  unfold fM_isAbove at hf
  refine lv_aload_n hx hb dX12_isAbove_0 rfl (lv_at hl 0 rfl) ?_
  refine gM_0_48 C hJ fl_RX12_83 dX12_isAbove_1 ?_
  refine lv_iload_n hx hb dX12_isAbove_4 rfl (lv_at hl 1 rfl) ?_
  obtain ⟨h1, hf⟩ := gi_some hf
  refine aM_24 C hJ h1 dX12_isAbove_5 ?_
  refine lv_aload_n hx hb dX12_isAbove_6 rfl (lv_at hl 0 rfl) ?_
  refine gM_0_48 C hJ fl_RX12_83 dX12_isAbove_7 ?_
  refine lv_iload_n hx hb dX12_isAbove_10 rfl (lv_at hl 2 rfl) ?_
  obtain ⟨h2, hf⟩ := gi_some hf
  refine aM_24 C hJ h2 dX12_isAbove_11 ?_
  refine lv_icmp_eq (tgt := 36) hx hb dX12_isAbove_12 (by decide) (fun c3 => ?_) (fun c3 => ?_)
  · have hf := ite_t hf c3
    refine lv_aload_n hx hb dX12_isAbove_36 rfl (lv_at hl 0 rfl) ?_
    refine gM_0_49 C hJ fl_RX12_86 dX12_isAbove_37 ?_
    refine lv_iload_n hx hb dX12_isAbove_40 rfl (lv_at hl 1 rfl) ?_
    obtain ⟨h4, hf⟩ := gi_some hf
    refine aM_25 C hJ h4 dX12_isAbove_41 ?_
    refine lv_aload_n hx hb dX12_isAbove_42 rfl (lv_at hl 0 rfl) ?_
    refine gM_0_50 C hJ fl_RX12_89 dX12_isAbove_43 ?_
    refine lv_iload_n hx hb dX12_isAbove_46 rfl (lv_at hl 1 rfl) ?_
    obtain ⟨h5, hf⟩ := gi_some hf
    refine aM_26 C hJ h5 dX12_isAbove_47 ?_
    refine lv_isub hx hb dX12_isAbove_48 ?_
    refine lv_topi (fun x6 hx6 => ?_)
    have hf := bnd_at hf hx6
    refine lv_istore_n (lv' := [(3, .int x6), (0, .ref (q 0)), (1, .int a1), (2, .int a2)]) hx hb dX12_isAbove_49 rfl hl (by decide) rfl (fun ls hl => ?_)
    refine lv_aload_n hx hb dX12_isAbove_50 rfl (lv_at hl 1 rfl) ?_
    refine gM_0_49 C hJ fl_RX12_86 dX12_isAbove_51 ?_
    refine lv_iload_n hx hb dX12_isAbove_54 rfl (lv_at hl 3 rfl) ?_
    obtain ⟨h7, hf⟩ := gi_some hf
    refine aM_25 C hJ h7 dX12_isAbove_55 ?_
    refine lv_aload_n hx hb dX12_isAbove_56 rfl (lv_at hl 1 rfl) ?_
    refine gM_0_50 C hJ fl_RX12_89 dX12_isAbove_57 ?_
    refine lv_iload_n hx hb dX12_isAbove_60 rfl (lv_at hl 3 rfl) ?_
    obtain ⟨h8, hf⟩ := gi_some hf
    refine aM_26 C hJ h8 dX12_isAbove_61 ?_
    refine lv_isub hx hb dX12_isAbove_62 ?_
    refine lv_topi (fun x9 hx9 => ?_)
    have hf := bnd_at hf hx9
    refine lv_istore (lv' := [(4, .int x9), (3, .int x6), (0, .ref (q 0)), (1, .int a1), (2, .int a2)]) hx hb dX12_isAbove_63 hl (by decide) rfl (fun ls hl => ?_)
    refine lv_iload_n hx hb dX12_isAbove_65 rfl (lv_at hl 1 rfl) ?_
    refine lv_iload hx hb dX12_isAbove_66 (lv_at hl 0 rfl) ?_
    refine lv_icmp_eq (tgt := 85) hx hb dX12_isAbove_68 (by decide) (fun c10 => ?_) (fun c10 => ?_)
    · have hf := ite_t hf c10
      refine lv_aload_n hx hb dX12_isAbove_85 rfl (lv_at hl 2 rfl) ?_
      refine gM_0_49 C hJ fl_RX12_86 dX12_isAbove_86 ?_
      refine lv_iload_n hx hb dX12_isAbove_89 rfl (lv_at hl 3 rfl) ?_
      obtain ⟨h11, hf⟩ := gi_some hf
      refine aM_25 C hJ h11 dX12_isAbove_90 ?_
      refine lv_aload_n hx hb dX12_isAbove_91 rfl (lv_at hl 2 rfl) ?_
      refine gM_0_49 C hJ fl_RX12_86 dX12_isAbove_92 ?_
      refine lv_iload_n hx hb dX12_isAbove_95 rfl (lv_at hl 4 rfl) ?_
      obtain ⟨h12, hf⟩ := gi_some hf
      refine aM_25 C hJ h12 dX12_isAbove_96 ?_
      refine lv_icmp_le (tgt := 104) hx hb dX12_isAbove_97 (by decide) (fun c13 => ?_) (fun c13 => ?_)
      · have hf := ite_t hf c13
        refine lv_iconst (v := 0) hx hb dX12_isAbove_104 (by decide) ?_
        exact ret_I hret hJ hf (nar_z (by decide)) dX12_isAbove_105
      · have hf := ite_f hf c13
        refine lv_iconst (v := 1) hx hb dX12_isAbove_100 (by decide) ?_
        refine lv_goto (tgt := 105) hx hb dX12_isAbove_101 (by decide) ?_
        exact ret_I hret hJ hf (nar_z (by decide)) dX12_isAbove_105
    · have hf := ite_f hf c10
      refine lv_iload_n hx hb dX12_isAbove_71 rfl (lv_at hl 1 rfl) ?_
      refine lv_iload hx hb dX12_isAbove_72 (lv_at hl 0 rfl) ?_
      refine lv_icmp_le (tgt := 81) hx hb dX12_isAbove_74 (by decide) (fun c14 => ?_) (fun c14 => ?_)
      · have hf := ite_t hf c14
        refine lv_iconst (v := 0) hx hb dX12_isAbove_81 (by decide) ?_
        refine lv_goto (tgt := 105) hx hb dX12_isAbove_82 (by decide) ?_
        exact ret_I hret hJ hf (nar_z (by decide)) dX12_isAbove_105
      · have hf := ite_f hf c14
        refine lv_iconst (v := 1) hx hb dX12_isAbove_77 (by decide) ?_
        refine lv_goto (tgt := 105) hx hb dX12_isAbove_78 (by decide) ?_
        exact ret_I hret hJ hf (nar_z (by decide)) dX12_isAbove_105
  · have hf := ite_f hf c3
    refine lv_aload_n hx hb dX12_isAbove_15 rfl (lv_at hl 0 rfl) ?_
    refine gM_0_48 C hJ fl_RX12_83 dX12_isAbove_16 ?_
    refine lv_iload_n hx hb dX12_isAbove_19 rfl (lv_at hl 1 rfl) ?_
    obtain ⟨h15, hf⟩ := gi_some hf
    refine aM_24 C hJ h15 dX12_isAbove_20 ?_
    refine lv_aload_n hx hb dX12_isAbove_21 rfl (lv_at hl 0 rfl) ?_
    refine gM_0_48 C hJ fl_RX12_83 dX12_isAbove_22 ?_
    refine lv_iload_n hx hb dX12_isAbove_25 rfl (lv_at hl 2 rfl) ?_
    obtain ⟨h16, hf⟩ := gi_some hf
    refine aM_24 C hJ h16 dX12_isAbove_26 ?_
    refine lv_icmp_le (tgt := 34) hx hb dX12_isAbove_27 (by decide) (fun c17 => ?_) (fun c17 => ?_)
    · have hf := ite_t hf c17
      refine lv_iconst (v := 0) hx hb dX12_isAbove_34 (by decide) ?_
      exact ret_I hret hJ hf (nar_z (by decide)) dX12_isAbove_35
    · have hf := ite_f hf c17
      refine lv_iconst (v := 1) hx hb dX12_isAbove_30 (by decide) ?_
      refine lv_goto (tgt := 35) hx hb dX12_isAbove_31 (by decide) ?_
      exact ret_I hret hJ hf (nar_z (by decide)) dX12_isAbove_35
set_option maxHeartbeats 4000000 in
set_option maxRecDepth 100000 in
theorem cM_rankOf {l : Launch} {D : va_G} {cA cB : ClassId} {q : Nat → Nat} {A : Nat → Prop} {E : State → Prop} {N : Nat} {σ σ' : St} {r : Int32} {a1 : Int32} (hF : Fr (wM q cA cB) A E) (hf : fM_rankOf N σ a1 = some (σ', r)) : MI l yX12_rankOf cX12_rankOf 4 .int 2 D (tyM cA cB) (wM q cA cB) A E [.ref (q 0), .int a1] σ σ' r := by
  refine MI_of (by decide) hF (Nat.le_of_ble_eq_true rfl) ?_
  intro p e s m args below meth c Q C hret hJ ls hl
  obtain ⟨hx, hb, hml, hown, hts, hK, hE, -⟩ := id C
  have hsb : ∀ z, A z → A z := fun _ h => h
  have l4 : ∀ (n : Nat) (σ : St) (a1 : Int32) (a2 : Int32) (a3 : Int32) (H : Heap) (locs : List Loc) (ls : Array Slot), fM_rankOf_l4 N  n σ a1 a2 a3 = some (σ', r) → J D (wM q cA cB) A s σ H locs → lv_has ls 4 [(0, .ref (q 0)), (1, .int a1), (2, .int a2), (3, .int a3)] → W p l e (rmH 2) s m args below meth c H locs 0 0 Q (F0 m 4 ls []) := by
    intro n4
    induction n4 with
    | zero => intro σ a1 a2 a3 H locs ls hf; rw [fM_rankOf_l4] at hf; cases hf
    | succ n4 ih4 =>
      have j24 : ∀ (σ : St) (a1 : Int32) (a3 : Int32) (t0 : Int32) (t1 : Int32) (H : Heap) (locs : List Loc) (ls : Array Slot), fM_rankOf_j24 N (fM_rankOf_l4 N  n4) σ a1 a3 t0 t1 = some (σ', r) → J D (wM q cA cB) A s σ H locs → lv_has ls 4 [(0, .ref (q 0)), (1, .int a1), (3, .int a3)] → W p l e (rmH 2) s m args below meth c H locs 0 0 Q (F0 m 24 ls [.int t1, .int t0]) := by
        intro σ a1 a3 t0 t1 H locs ls hf hJ hl
        unfold fM_rankOf_j24 at hf
        refine lv_iadd hx hb dX12_rankOf_24 ?_
        refine lv_topi (fun x1 hx1 => ?_)
        have hf := bnd_at hf hx1
        refine lv_istore_n (lv' := [(2, .int x1), (0, .ref (q 0)), (1, .int a1), (3, .int a3)]) hx hb dX12_rankOf_25 rfl hl (by decide) rfl (fun ls hl => ?_)
        obtain ⟨x2, hx2⟩ : ∃ z : Int32, z = a3 + (1 : Int32) := ⟨_, rfl⟩
        have hf := bnd_at hf hx2
        refine lv_iinc (v := x2) (lv' := [(3, .int x2), (2, .int x1), (0, .ref (q 0)), (1, .int a1)]) hx hb dX12_rankOf_26 hl (k := 3) rfl (by rw [hx2]; rfl) (by decide) rfl (fun ls hl => ?_)
        refine lv_goto (tgt := 4) hx hb dX12_rankOf_29 (by decide) ?_
        exact ih4 σ a1 x1 x2 _ _ _ hf hJ (lv_sub hl [2, 3, 1, 0] rfl)
      intro σ a1 a2 a3 H locs ls hf hJ hl
      rw [fM_rankOf_l4] at hf
      refine lv_iload_n hx hb dX12_rankOf_4 rfl (lv_at hl 3 rfl) ?_
      refine lv_iconst (v := 4) hx hb dX12_rankOf_5 (by decide) ?_
      refine lv_icmp_ge (tgt := 32) hx hb dX12_rankOf_6 (by decide) (fun c3 => ?_) (fun c3 => ?_)
      · have hf := ite_t hf c3
        refine lv_iload_n hx hb dX12_rankOf_32 rfl (lv_at hl 2 rfl) ?_
        exact ret_I hret hJ hf rfl dX12_rankOf_33
      · have hf := ite_f hf c3
        refine lv_iload_n hx hb dX12_rankOf_9 rfl (lv_at hl 2 rfl) ?_
        refine lv_aload_n hx hb dX12_rankOf_10 rfl (lv_at hl 0 rfl) ?_
        refine lv_iload_n hx hb dX12_rankOf_11 rfl (lv_at hl 3 rfl) ?_
        refine lv_iload_n hx hb dX12_rankOf_12 rfl (lv_at hl 1 rfl) ?_
        obtain ⟨σ4, r5, hg6, hf⟩ := cal_some hf
        refine backI hsb hJ (runV (As := [.int a3, .int a1]) (rest := [.int a2]) C hJ lk_RX12_424 (cM_isAbove hF hg6) recM_0 rfl rfl (Nat.le_of_ble_eq_true rfl) hl.1 (hR_of (by omega) (by decide)) ⟨Nat.le_refl _, Nat.le_refl _⟩ dX12_rankOf_13) (fun H locs hJ => ?_)
        refine lv_if_eq (tgt := 23) hx hb dX12_rankOf_16 (by decide) (fun c7 => ?_) (fun c7 => ?_)
        · have hf := ite_t hf c7
          refine lv_iconst (v := 0) hx hb dX12_rankOf_23 (by decide) ?_
          exact j24 σ4 a1 a3 a2 (0 : Int32) _ _ _ hf hJ (lv_sub hl [0, 1, 3] rfl)
        · have hf := ite_f hf c7
          refine lv_iconst (v := 1) hx hb dX12_rankOf_19 (by decide) ?_
          refine lv_goto (tgt := 24) hx hb dX12_rankOf_20 (by decide) ?_
          exact j24 σ4 a1 a3 a2 (1 : Int32) _ _ _ hf hJ (lv_sub hl [0, 1, 3] rfl)
  have hl : lv_has ls 4 [(0, .ref (q 0)), (1, .int a1)] := hl
  unfold fM_rankOf at hf
  refine lv_iconst (v := 0) hx hb dX12_rankOf_0 (by decide) ?_
  refine lv_istore_n (lv' := [(2, .int (0 : Int32)), (0, .ref (q 0)), (1, .int a1)]) hx hb dX12_rankOf_1 rfl hl (by decide) rfl (fun ls hl => ?_)
  refine lv_iconst (v := 0) hx hb dX12_rankOf_2 (by decide) ?_
  refine lv_istore_n (lv' := [(3, .int (0 : Int32)), (2, .int (0 : Int32)), (0, .ref (q 0)), (1, .int a1)]) hx hb dX12_rankOf_3 rfl hl (by decide) rfl (fun ls hl => ?_)
  exact l4 N σ a1 (0 : Int32) (0 : Int32) _ _ _ hf hJ (lv_sub hl [2, 3, 1, 0] rfl)
set_option maxHeartbeats 4000000 in
set_option maxRecDepth 100000 in
theorem cM_table {l : Launch} {D : va_G} {cA cB : ClassId} {q : Nat → Nat} {A : Nat → Prop} {E : State → Prop} {N : Nat} {σ σ' : St} {r : Int32} {a1 : Int32} {a2 : Int32} {a3 : Int32} (hF : Fr (wM q cA cB) A E) (hf : fM_table N σ a1 a2 a3 = some (σ', r)) : MI l yX12_table cX12_table 4 .int 59 D (tyM cA cB) (wM q cA cB) A E [.ref (q 0), .int a1, .int a2, .int a3] σ σ' r := by
  refine MI_of (by decide) hF (Nat.le_of_ble_eq_true rfl) ?_
  intro p e s m args below meth c Q C hret hJ ls hl
  obtain ⟨hx, hb, hml, hown, hts, hK, hE, -⟩ := id C
  have hsb : ∀ z, A z → A z := fun _ h => h
  have hl : lv_has ls 4 [(0, .ref (q 0)), (1, .int a1), (2, .int a2), (3, .int a3)] := hl
  unfold fM_table at hf
  refine lv_iload_n hx hb dX12_table_0 rfl (lv_at hl 1 rfl) ?_
  obtain ⟨σ1, r2, hg3, hf⟩ := cal_some hf
  refine backI hsb hJ (runS (As := [.int a1]) (rest := []) C hJ lk_RX12_313 (cM_isWidth hF hg3) rfl rfl (Nat.le_of_ble_eq_true rfl) hl.1 (hR_of (by omega) (by decide)) ⟨Nat.le_refl _, Nat.le_refl _⟩ dX12_table_1) (fun H locs hJ => ?_)
  refine lv_if_eq (tgt := 31) hx hb dX12_table_4 (by decide) (fun c4 => ?_) (fun c4 => ?_)
  · have hf := ite_t hf c4
    refine lv_bipush (v := -2) hx hb dX12_table_31 (by decide) ?_
    exact ret_I hret hJ hf rfl dX12_table_33
  · have hf := ite_f hf c4
    refine lv_iload_n hx hb dX12_table_7 rfl (lv_at hl 2 rfl) ?_
    refine lv_i2l (v := a2.toInt64) hx hb dX12_table_8 rfl ?_
    refine lv_lconst (v := 0) hx hb dX12_table_9 (by decide) ?_
    refine lv_ldc2 (v := 3) hx hb hown (hts _ kl_RX12_146) dX12_table_10 ?_
    obtain ⟨σ5, r6, hg7, hf⟩ := cal_some hf
    refine backI hsb hJ (runS (As := [.long a2.toInt64, .long (0 : Int64), .long (3 : Int64)]) (rest := []) C hJ lk_RX12_138 (cM_in hF hg7) rfl rfl (Nat.le_of_ble_eq_true rfl) hl.1 (hR_of (by omega) (by decide)) ⟨Nat.le_refl _, Nat.le_refl _⟩ dX12_table_13) (fun H locs hJ => ?_)
    refine lv_if_eq (tgt := 31) hx hb dX12_table_16 (by decide) (fun c8 => ?_) (fun c8 => ?_)
    · have hf := ite_t hf c8
      refine lv_bipush (v := -2) hx hb dX12_table_31 (by decide) ?_
      exact ret_I hret hJ hf rfl dX12_table_33
    · have hf := ite_f hf c8
      refine lv_iload_n hx hb dX12_table_19 rfl (lv_at hl 3 rfl) ?_
      refine lv_i2l (v := a3.toInt64) hx hb dX12_table_20 rfl ?_
      refine lv_lconst (v := 0) hx hb dX12_table_21 (by decide) ?_
      refine lv_ldc2 (v := 3) hx hb hown (hts _ kl_RX12_146) dX12_table_22 ?_
      obtain ⟨σ9, r10, hg11, hf⟩ := cal_some hf
      refine backI hsb hJ (runS (As := [.long a3.toInt64, .long (0 : Int64), .long (3 : Int64)]) (rest := []) C hJ lk_RX12_138 (cM_in hF hg11) rfl rfl (Nat.le_of_ble_eq_true rfl) hl.1 (hR_of (by omega) (by decide)) ⟨Nat.le_refl _, Nat.le_refl _⟩ dX12_table_25) (fun H locs hJ => ?_)
      refine lv_if_ne (tgt := 34) hx hb dX12_table_28 (by decide) (fun c12 => ?_) (fun c12 => ?_)
      · have hf := ite_f hf c12
        refine lv_aload_n hx hb dX12_table_34 rfl (lv_at hl 0 rfl) ?_
        refine lv_iload_n hx hb dX12_table_35 rfl (lv_at hl 1 rfl) ?_
        obtain ⟨σ13, r14, hg15, hf⟩ := cal_some hf
        refine backV hsb hJ (runV (As := [.int a1]) (rest := []) C hJ lk_RX12_427 (cM_tables hF hg15) recM_0 rfl rfl (Nat.le_of_ble_eq_true rfl) hl.1 (hR_of (by omega) (by decide)) ⟨Nat.le_refl _, Nat.le_refl _⟩ dX12_table_36) (fun H locs hJ => ?_)
        refine lv_iload_n hx hb dX12_table_39 rfl (lv_at hl 3 rfl) ?_
        refine lv_if_ne (tgt := 52) hx hb dX12_table_40 (by decide) (fun c16 => ?_) (fun c16 => ?_)
        · have hf := ite_f hf c16
          refine lv_iload_n hx hb dX12_table_52 rfl (lv_at hl 3 rfl) ?_
          refine lv_iconst (v := 1) hx hb dX12_table_53 (by decide) ?_
          refine lv_icmp_ne (tgt := 66) hx hb dX12_table_54 (by decide) (fun c17 => ?_) (fun c17 => ?_)
          · have hf := ite_f hf c17
            refine lv_iload_n hx hb dX12_table_66 rfl (lv_at hl 3 rfl) ?_
            refine lv_iconst (v := 2) hx hb dX12_table_67 (by decide) ?_
            refine lv_icmp_ne (tgt := 80) hx hb dX12_table_68 (by decide) (fun c18 => ?_) (fun c18 => ?_)
            · have hf := ite_f hf c18
              refine lv_aload_n hx hb dX12_table_80 rfl (lv_at hl 0 rfl) ?_
              refine lv_iload_n hx hb dX12_table_81 rfl (lv_at hl 2 rfl) ?_
              obtain ⟨σ19, r20, hg21, hf⟩ := cal_some hf
              refine backI hsb hJ (runV (As := [.int a2]) (rest := []) C hJ lk_RX12_431 (cM_rankOf hF hg21) recM_0 rfl rfl (Nat.le_of_ble_eq_true rfl) hl.1 (hR_of (by omega) (by decide)) ⟨Nat.le_refl _, Nat.le_refl _⟩ dX12_table_82) (fun H locs hJ => ?_)
              exact ret_I hret hJ hf rfl dX12_table_85
            · have hf := ite_t hf c18
              refine lv_aload_n hx hb dX12_table_71 rfl (lv_at hl 0 rfl) ?_
              refine gM_0_50 C hJ fl_RX12_89 dX12_table_72 ?_
              refine lv_iload_n hx hb dX12_table_75 rfl (lv_at hl 2 rfl) ?_
              obtain ⟨h22, hf⟩ := gi_some hf
              refine aM_26 C hJ h22 dX12_table_76 ?_
              refine lv_goto (tgt := 85) hx hb dX12_table_77 (by decide) ?_
              exact ret_I hret hJ hf rfl dX12_table_85
          · have hf := ite_t hf c17
            refine lv_aload_n hx hb dX12_table_57 rfl (lv_at hl 0 rfl) ?_
            refine gM_0_49 C hJ fl_RX12_86 dX12_table_58 ?_
            refine lv_iload_n hx hb dX12_table_61 rfl (lv_at hl 2 rfl) ?_
            obtain ⟨h23, hf⟩ := gi_some hf
            refine aM_25 C hJ h23 dX12_table_62 ?_
            refine lv_goto (tgt := 85) hx hb dX12_table_63 (by decide) ?_
            exact ret_I hret hJ hf rfl dX12_table_85
        · have hf := ite_t hf c16
          refine lv_aload_n hx hb dX12_table_43 rfl (lv_at hl 0 rfl) ?_
          refine gM_0_48 C hJ fl_RX12_83 dX12_table_44 ?_
          refine lv_iload_n hx hb dX12_table_47 rfl (lv_at hl 2 rfl) ?_
          obtain ⟨h24, hf⟩ := gi_some hf
          refine aM_24 C hJ h24 dX12_table_48 ?_
          refine lv_goto (tgt := 85) hx hb dX12_table_49 (by decide) ?_
          exact ret_I hret hJ hf rfl dX12_table_85
      · have hf := ite_t hf c12
        refine lv_bipush (v := -2) hx hb dX12_table_31 (by decide) ?_
        exact ret_I hret hJ hf rfl dX12_table_33
set_option maxHeartbeats 4000000 in
set_option maxRecDepth 100000 in
theorem cM_ranks {l : Launch} {D : va_G} {cA cB : ClassId} {q : Nat → Nat} {A : Nat → Prop} {E : State → Prop} {N : Nat} {σ σ' : St} {r : Int32} {a1 : Int32} (hF : Fr (wM q cA cB) A E) (hf : fM_ranks N σ a1 = some (σ', r)) : MI l yX12_ranks cX12_ranks 4 .int 59 D (tyM cA cB) (wM q cA cB) A E [.ref (q 0), .int a1] σ σ' r := by
  refine MI_of (by decide) hF (Nat.le_of_ble_eq_true rfl) ?_
  intro p e s m args below meth c Q C hret hJ ls hl
  obtain ⟨hx, hb, hml, hown, hts, hK, hE, -⟩ := id C
  have hsb : ∀ z, A z → A z := fun _ h => h
  have l9 : ∀ (n : Nat) (σ : St) (a2 : Int32) (a3 : Int32) (H : Heap) (locs : List Loc) (ls : Array Slot), fM_ranks_l9 N  n σ a2 a3 = some (σ', r) → J D (wM q cA cB) A s σ H locs → lv_has ls 4 [(0, .ref (q 0)), (2, .int a2), (3, .int a3)] → W p l e (rmH 59) s m args below meth c H locs 0 0 Q (F0 m 9 ls []) := by
    intro n9
    induction n9 with
    | zero => intro σ a2 a3 H locs ls hf; rw [fM_ranks_l9] at hf; cases hf
    | succ n9 ih9 =>
      intro σ a2 a3 H locs ls hf hJ hl
      rw [fM_ranks_l9] at hf
      refine lv_iload_n hx hb dX12_ranks_9 rfl (lv_at hl 2 rfl) ?_
      refine lv_iconst (v := 4) hx hb dX12_ranks_10 (by decide) ?_
      refine lv_icmp_ge (tgt := 31) hx hb dX12_ranks_11 (by decide) (fun c1 => ?_) (fun c1 => ?_)
      · have hf := ite_t hf c1
        refine lv_iload_n hx hb dX12_ranks_31 rfl (lv_at hl 1 rfl) ?_
        exact ret_I hret hJ hf rfl dX12_ranks_32
      · have hf := ite_f hf c1
        refine lv_bipush (v := 10) hx hb dX12_ranks_14 (by decide) ?_
        refine lv_iload_n hx hb dX12_ranks_16 rfl (lv_at hl 1 rfl) ?_
        refine lv_imul hx hb dX12_ranks_17 ?_
        refine lv_aload_n hx hb dX12_ranks_18 rfl (lv_at hl 0 rfl) ?_
        refine lv_iload_n hx hb dX12_ranks_19 rfl (lv_at hl 2 rfl) ?_
        obtain ⟨σ2, r3, hg4, hf⟩ := cal_some hf
        refine backI hsb hJ (runV (As := [.int a3]) (rest := [.int ((10 : Int32) * a2)]) C hJ lk_RX12_431 (cM_rankOf hF hg4) recM_0 rfl rfl (Nat.le_of_ble_eq_true rfl) hl.1 (hR_of (by omega) (by decide)) ⟨Nat.le_refl _, Nat.le_refl _⟩ dX12_ranks_20) (fun H locs hJ => ?_)
        refine lv_iadd hx hb dX12_ranks_23 ?_
        refine lv_topi (fun x5 hx5 => ?_)
        have hf := bnd_at hf hx5
        refine lv_istore_n (lv' := [(2, .int x5), (0, .ref (q 0)), (3, .int a3)]) hx hb dX12_ranks_24 rfl hl (by decide) rfl (fun ls hl => ?_)
        obtain ⟨x6, hx6⟩ : ∃ z : Int32, z = a3 + (1 : Int32) := ⟨_, rfl⟩
        have hf := bnd_at hf hx6
        refine lv_iinc (v := x6) (lv' := [(3, .int x6), (2, .int x5), (0, .ref (q 0))]) hx hb dX12_ranks_25 hl (k := 2) rfl (by rw [hx6]; rfl) (by decide) rfl (fun ls hl => ?_)
        refine lv_goto (tgt := 9) hx hb dX12_ranks_28 (by decide) ?_
        exact ih9 σ2 x5 x6 _ _ _ hf hJ (lv_sub hl [2, 1, 0] rfl)
  have hl : lv_has ls 4 [(0, .ref (q 0)), (1, .int a1)] := hl
  unfold fM_ranks at hf
  refine lv_aload_n hx hb dX12_ranks_0 rfl (lv_at hl 0 rfl) ?_
  refine lv_iload_n hx hb dX12_ranks_1 rfl (lv_at hl 1 rfl) ?_
  obtain ⟨σ7, r8, hg9, hf⟩ := cal_some hf
  refine backV hsb hJ (runV (As := [.int a1]) (rest := []) C hJ lk_RX12_427 (cM_tables hF hg9) recM_0 rfl rfl (Nat.le_of_ble_eq_true rfl) hl.1 (hR_of (by omega) (by decide)) ⟨Nat.le_refl _, Nat.le_refl _⟩ dX12_ranks_2) (fun H locs hJ => ?_)
  refine lv_iconst (v := 0) hx hb dX12_ranks_5 (by decide) ?_
  refine lv_istore_n (lv' := [(2, .int (0 : Int32)), (0, .ref (q 0)), (1, .int a1)]) hx hb dX12_ranks_6 rfl hl (by decide) rfl (fun ls hl => ?_)
  refine lv_iconst (v := 0) hx hb dX12_ranks_7 (by decide) ?_
  refine lv_istore_n (lv' := [(3, .int (0 : Int32)), (2, .int (0 : Int32)), (0, .ref (q 0)), (1, .int a1)]) hx hb dX12_ranks_8 rfl hl (by decide) rfl (fun ls hl => ?_)
  exact l9 N σ7 (0 : Int32) (0 : Int32) _ _ _ hf hJ (lv_sub hl [2, 1, 0] rfl)
set_option maxHeartbeats 4000000 in
set_option maxRecDepth 100000 in
theorem cM_season {l : Launch} {D : va_G} {cA cB : ClassId} {q : Nat → Nat} {A : Nat → Prop} {E : State → Prop} {N : Nat} {σ σ' : St} {r : Int32} {a1 : Int32} (hF : Fr (wM q cA cB) A E) (hf : fM_season N σ a1 = some (σ', r)) : MI l yX12_season cX12_season 7 .int 60 D (tyM cA cB) (wM q cA cB) A E [.ref (q 0), .int a1] σ σ' r := by
  refine MI_of (by decide) hF (Nat.le_of_ble_eq_true rfl) ?_
  intro p e s m args below meth c Q C hret hJ ls hl
  obtain ⟨hx, hb, hml, hown, hts, hK, hE, -⟩ := id C
  have hsb : ∀ z, A z → A z := fun _ h => h
  have l42 : ∀ (n : Nat) (σ : St) (a1 : Int32) (a3 : Int32) (a4 : Int32) (a5 : Int32) (H : Heap) (locs : List Loc) (ls : Array Slot), fM_season_l42 N  n σ a1 a3 a4 a5 = some (σ', r) → J D (wM q cA cB) A s σ H locs → lv_has ls 7 [(0, .ref (q 0)), (1, .int a1), (3, .int a3), (4, .int a4), (5, .int a5)] → W p l e (rmH 60) s m args below meth c H locs 0 0 Q (F0 m 42 ls []) := by
    intro n42
    induction n42 with
    | zero => intro σ a1 a3 a4 a5 H locs ls hf; rw [fM_season_l42] at hf; cases hf
    | succ n42 ih42 =>
      have j84 : ∀ (σ : St) (a1 : Int32) (a5 : Int32) (a6 : Int32) (t0 : Int32) (t1 : Int32) (H : Heap) (locs : List Loc) (ls : Array Slot), fM_season_j84 N (fM_season_l42 N  n42) σ a1 a5 a6 t0 t1 = some (σ', r) → J D (wM q cA cB) A s σ H locs → lv_has ls 7 [(0, .ref (q 0)), (1, .int a1), (5, .int a5), (6, .int a6)] → W p l e (rmH 60) s m args below meth c H locs 0 0 Q (F0 m 84 ls [.int t1, .int t0]) := by
        intro σ a1 a5 a6 t0 t1 H locs ls hf hJ hl
        unfold fM_season_j84 at hf
        refine lv_iadd hx hb dX12_season_84 ?_
        refine lv_topi (fun x1 hx1 => ?_)
        have hf := bnd_at hf hx1
        refine lv_istore_n (lv' := [(3, .int x1), (0, .ref (q 0)), (1, .int a1), (5, .int a5), (6, .int a6)]) hx hb dX12_season_85 rfl hl (by decide) rfl (fun ls hl => ?_)
        refine lv_iload hx hb dX12_season_86 (lv_at hl 4 rfl) ?_
        refine lv_istore (lv' := [(4, .int a6), (3, .int x1), (0, .ref (q 0)), (1, .int a1), (5, .int a5), (6, .int a6)]) hx hb dX12_season_88 hl (by decide) rfl (fun ls hl => ?_)
        obtain ⟨x2, hx2⟩ : ∃ z : Int32, z = a5 + (1 : Int32) := ⟨_, rfl⟩
        have hf := bnd_at hf hx2
        refine lv_iinc (v := x2) (lv' := [(5, .int x2), (4, .int a6), (3, .int x1), (0, .ref (q 0)), (1, .int a1), (6, .int a6)]) hx hb dX12_season_90 hl (k := 4) rfl (by rw [hx2]; rfl) (by decide) rfl (fun ls hl => ?_)
        refine lv_goto (tgt := 42) hx hb dX12_season_93 (by decide) ?_
        exact ih42 σ a1 x1 a6 x2 _ _ _ hf hJ (lv_sub hl [3, 4, 2, 1, 0] rfl)
      intro σ a1 a3 a4 a5 H locs ls hf hJ hl
      rw [fM_season_l42] at hf
      refine lv_iload hx hb dX12_season_42 (lv_at hl 4 rfl) ?_
      refine lv_aload_n hx hb dX12_season_44 rfl (lv_at hl 0 rfl) ?_
      refine gM_0_61 C hJ fl_RX12_108 dX12_season_45 ?_
      refine lv_iload_n hx hb dX12_season_48 rfl (lv_at hl 1 rfl) ?_
      obtain ⟨h3, hf⟩ := gi_some hf
      refine aM_32 C hJ h3 dX12_season_49 ?_
      refine lv_icmp_ge (tgt := 96) hx hb dX12_season_50 (by decide) (fun c4 => ?_) (fun c4 => ?_)
      · have hf := ite_t hf c4
        refine lv_iload_n hx hb dX12_season_96 rfl (lv_at hl 2 rfl) ?_
        exact ret_I hret hJ hf rfl dX12_season_97
      · have hf := ite_f hf c4
        refine lv_aload_n hx hb dX12_season_53 rfl (lv_at hl 0 rfl) ?_
        refine lv_aload_n hx hb dX12_season_54 rfl (lv_at hl 0 rfl) ?_
        refine gM_0_62 C hJ fl_RX12_111 dX12_season_55 ?_
        refine lv_bipush (v := 40) hx hb dX12_season_58 (by decide) ?_
        refine lv_iload_n hx hb dX12_season_60 rfl (lv_at hl 1 rfl) ?_
        refine lv_imul hx hb dX12_season_61 ?_
        refine lv_iload hx hb dX12_season_62 (lv_at hl 4 rfl) ?_
        refine lv_iadd hx hb dX12_season_64 ?_
        obtain ⟨h5, hf⟩ := gi_some hf
        refine aM_33 C hJ h5 dX12_season_65 ?_
        obtain ⟨σ6, r7, hg8, hf⟩ := cal_some hf
        refine backI hsb hJ (runV (As := [.int (σ.2.1 33 (((40 : Int32) * a1) + a5).toNatClampNeg)]) (rest := []) C hJ lk_RX12_434 (cM_ranks hF hg8) recM_0 rfl rfl (Nat.le_of_ble_eq_true rfl) hl.1 (hR_of (by omega) (by decide)) ⟨Nat.le_refl _, Nat.le_refl _⟩ dX12_season_66) (fun H locs hJ => ?_)
        refine lv_istore (lv' := [(6, .int r7), (0, .ref (q 0)), (1, .int a1), (3, .int a3), (4, .int a4), (5, .int a5)]) hx hb dX12_season_69 hl (by decide) rfl (fun ls hl => ?_)
        refine lv_iload_n hx hb dX12_season_71 rfl (lv_at hl 3 rfl) ?_
        refine lv_iload hx hb dX12_season_72 (lv_at hl 0 rfl) ?_
        refine lv_iload hx hb dX12_season_74 (lv_at hl 4 rfl) ?_
        refine lv_icmp_ne (tgt := 83) hx hb dX12_season_76 (by decide) (fun c9 => ?_) (fun c9 => ?_)
        · have hf := ite_f hf c9
          refine lv_iconst (v := 1) hx hb dX12_season_83 (by decide) ?_
          exact j84 σ6 a1 a5 r7 a3 (1 : Int32) _ _ _ hf hJ (lv_sub hl [1, 2, 5, 0] rfl)
        · have hf := ite_t hf c9
          refine lv_iconst (v := 0) hx hb dX12_season_79 (by decide) ?_
          refine lv_goto (tgt := 84) hx hb dX12_season_80 (by decide) ?_
          exact j84 σ6 a1 a5 r7 a3 (0 : Int32) _ _ _ hf hJ (lv_sub hl [1, 2, 5, 0] rfl)
  have hl : lv_has ls 7 [(0, .ref (q 0)), (1, .int a1)] := hl
  unfold fM_season at hf
  refine lv_iload_n hx hb dX12_season_0 rfl (lv_at hl 1 rfl) ?_
  obtain ⟨σ10, r11, hg12, hf⟩ := cal_some hf
  refine backI hsb hJ (runS (As := [.int a1]) (rest := []) C hJ lk_RX12_407 (cM_isSheet hF hg12) rfl rfl (Nat.le_of_ble_eq_true rfl) hl.1 (hR_of (by omega) (by decide)) ⟨Nat.le_refl _, Nat.le_refl _⟩ dX12_season_1) (fun H locs hJ => ?_)
  refine lv_if_ne (tgt := 10) hx hb dX12_season_4 (by decide) (fun c13 => ?_) (fun c13 => ?_)
  · have hf := ite_f hf c13
    refine lv_aload_n hx hb dX12_season_10 rfl (lv_at hl 0 rfl) ?_
    refine lv_iload_n hx hb dX12_season_11 rfl (lv_at hl 1 rfl) ?_
    obtain ⟨σ14, r15, hg16, hf⟩ := cal_some hf
    refine backI hsb hJ (runV (As := [.int a1]) (rest := []) C hJ lk_RX12_410 (cM_widths hF hg16) recM_0 rfl rfl (Nat.le_of_ble_eq_true rfl) hl.1 (hR_of (by omega) (by decide)) ⟨Nat.le_refl _, Nat.le_refl _⟩ dX12_season_12) (fun H locs hJ => ?_)
    refine lv_istore_n (lv' := [(2, .int r15), (0, .ref (q 0)), (1, .int a1)]) hx hb dX12_season_15 rfl hl (by decide) rfl (fun ls hl => ?_)
    refine lv_iload_n hx hb dX12_season_16 rfl (lv_at hl 0 rfl) ?_
    refine lv_if_eq (tgt := 22) hx hb dX12_season_17 (by decide) (fun c17 => ?_) (fun c17 => ?_)
    · have hf := ite_t hf c17
      refine lv_iconst (v := 0) hx hb dX12_season_22 (by decide) ?_
      refine lv_istore_n (lv' := [(3, .int (0 : Int32)), (2, .int r15), (0, .ref (q 0)), (1, .int a1)]) hx hb dX12_season_23 rfl hl (by decide) rfl (fun ls hl => ?_)
      refine lv_aload_n hx hb dX12_season_24 rfl (lv_at hl 2 rfl) ?_
      refine lv_aload_n hx hb dX12_season_25 rfl (lv_at hl 2 rfl) ?_
      refine gM_0_62 C hJ fl_RX12_111 dX12_season_26 ?_
      refine lv_bipush (v := 40) hx hb dX12_season_29 (by decide) ?_
      refine lv_iload_n hx hb dX12_season_31 rfl (lv_at hl 3 rfl) ?_
      refine lv_imul hx hb dX12_season_32 ?_
      obtain ⟨h18, hf⟩ := gi_some hf
      refine aM_33 C hJ h18 dX12_season_33 ?_
      obtain ⟨σ19, r20, hg21, hf⟩ := cal_some hf
      refine backI hsb hJ (runV (As := [.int (σ14.2.1 33 ((40 : Int32) * a1).toNatClampNeg)]) (rest := []) C hJ lk_RX12_434 (cM_ranks hF hg21) recM_0 rfl rfl (Nat.le_of_ble_eq_true rfl) hl.1 (hR_of (by omega) (by decide)) ⟨Nat.le_refl _, Nat.le_refl _⟩ dX12_season_34) (fun H locs hJ => ?_)
      refine lv_istore (lv' := [(4, .int r20), (3, .int (0 : Int32)), (2, .int r15), (0, .ref (q 0)), (1, .int a1)]) hx hb dX12_season_37 hl (by decide) rfl (fun ls hl => ?_)
      refine lv_iconst (v := 1) hx hb dX12_season_39 (by decide) ?_
      refine lv_istore (lv' := [(5, .int (1 : Int32)), (4, .int r20), (3, .int (0 : Int32)), (2, .int r15), (0, .ref (q 0)), (1, .int a1)]) hx hb dX12_season_40 hl (by decide) rfl (fun ls hl => ?_)
      exact l42 N σ19 a1 (0 : Int32) r20 (1 : Int32) _ _ _ hf hJ (lv_sub hl [4, 5, 2, 1, 0] rfl)
    · have hf := ite_f hf c17
      refine lv_iload_n hx hb dX12_season_20 rfl (lv_at hl 0 rfl) ?_
      exact ret_I hret hJ hf rfl dX12_season_21
  · have hf := ite_t hf c13
    refine lv_bipush (v := -2) hx hb dX12_season_7 (by decide) ?_
    exact ret_I hret hJ hf rfl dX12_season_9
set_option maxHeartbeats 4000000 in
set_option maxRecDepth 100000 in
theorem cM_stand {l : Launch} {D : va_G} {cA cB : ClassId} {q : Nat → Nat} {A : Nat → Prop} {E : State → Prop} {N : Nat} {σ σ' : St} {r : Int32} {a1 : Int32} {a2 : Int32} {a3 : Int32} (hF : Fr (wM q cA cB) A E) (hf : fM_stand N σ a1 a2 a3 = some (σ', r)) : MI l yX12_stand cX12_stand 7 .int 58 D (tyM cA cB) (wM q cA cB) A E [.ref (q 0), .int a1, .int a2, .int a3] σ σ' r := by
  refine MI_of (by decide) hF (Nat.le_of_ble_eq_true rfl) ?_
  intro p e s m args below meth c Q C hret hJ ls hl
  obtain ⟨hx, hb, hml, hown, hts, hK, hE, -⟩ := id C
  have hsb : ∀ z, A z → A z := fun _ h => h
  have j124 : ∀ (σ : St) (a4 : Int32) (a5 : Int32) (H : Heap) (locs : List Loc) (ls : Array Slot), fM_stand_j124 N  σ a4 a5 = some (σ', r) → J D (wM q cA cB) A s σ H locs → lv_has ls 7 [(0, .ref (q 0)), (4, .int a4), (5, .int a5)] → W p l e (rmH 58) s m args below meth c H locs 0 0 Q (F0 m 124 ls []) := by
    intro σ a4 a5 H locs ls hf hJ hl
    unfold fM_stand_j124 at hf
    refine lv_aload_n hx hb dX12_stand_124 rfl (lv_at hl 0 rfl) ?_
    refine lv_iload hx hb dX12_stand_125 (lv_at hl 2 rfl) ?_
    obtain ⟨σ1, r2, hg3, hf⟩ := cal_some hf
    refine backI hsb hJ (runV (As := [.int a5]) (rest := []) C hJ lk_RX12_404 (cM_offsides hF hg3) recM_0 rfl rfl (Nat.le_of_ble_eq_true rfl) hl.1 (hR_of (by omega) (by decide)) ⟨Nat.le_refl _, Nat.le_refl _⟩ dX12_stand_127) (fun H locs hJ => ?_)
    refine lv_istore (lv' := [(6, .int r2), (0, .ref (q 0)), (4, .int a4), (5, .int a5)]) hx hb dX12_stand_130 hl (by decide) rfl (fun ls hl => ?_)
    refine lv_aload_n hx hb dX12_stand_132 rfl (lv_at hl 1 rfl) ?_
    refine lv_iconst (v := 0) hx hb dX12_stand_133 (by decide) ?_
    refine pM_0_26 C hJ fl_RX12_316 dX12_stand_134 (fun σ4 H locs hs hJ => ?_)
    have hf := bnd_at hf hs
    refine lv_aload_n hx hb dX12_stand_137 rfl (lv_at hl 1 rfl) ?_
    refine lv_iload hx hb dX12_stand_138 (lv_at hl 2 rfl) ?_
    refine pM_0_12 C hJ fl_RX12_247 dX12_stand_140 (fun σ5 H locs hs hJ => ?_)
    have hf := bnd_at hf hs
    refine lv_iload hx hb dX12_stand_143 (lv_at hl 0 rfl) ?_
    exact ret_I hret hJ hf rfl dX12_stand_145
  have l70 : ∀ (n : Nat) (σ : St) (a1 : Int32) (a3 : Int32) (a4 : Int32) (a5 : Int32) (a6 : Int32) (H : Heap) (locs : List Loc) (ls : Array Slot), fM_stand_l70 N  n σ a1 a3 a4 a5 a6 = some (σ', r) → J D (wM q cA cB) A s σ H locs → lv_has ls 7 [(0, .ref (q 0)), (1, .int a1), (3, .int a3), (4, .int a4), (5, .int a5), (6, .int a6)] → W p l e (rmH 58) s m args below meth c H locs 0 0 Q (F0 m 70 ls []) := by
    intro n70
    induction n70 with
    | zero => intro σ a1 a3 a4 a5 a6 H locs ls hf; rw [fM_stand_l70] at hf; cases hf
    | succ n70 ih70 =>
      have j115 : ∀ (σ : St) (a1 : Int32) (a3 : Int32) (a4 : Int32) (a6 : Int32) (t0 : Int32) (t1 : Int32) (H : Heap) (locs : List Loc) (ls : Array Slot), fM_stand_j115 N (fM_stand_l70 N  n70) σ a1 a3 a4 a6 t0 t1 = some (σ', r) → J D (wM q cA cB) A s σ H locs → lv_has ls 7 [(0, .ref (q 0)), (1, .int a1), (3, .int a3), (4, .int a4), (6, .int a6)] → W p l e (rmH 58) s m args below meth c H locs 0 0 Q (F0 m 115 ls [.int t1, .int t0]) := by
        intro σ a1 a3 a4 a6 t0 t1 H locs ls hf hJ hl
        unfold fM_stand_j115 at hf
        refine lv_ior hx hb dX12_stand_115 ?_
        refine lv_topi (fun x6 hx6 => ?_)
        have hf := bnd_at hf hx6
        refine lv_istore (lv' := [(5, .int x6), (0, .ref (q 0)), (1, .int a1), (3, .int a3), (4, .int a4), (6, .int a6)]) hx hb dX12_stand_116 hl (by decide) rfl (fun ls hl => ?_)
        obtain ⟨x7, hx7⟩ : ∃ z : Int32, z = a6 + (1 : Int32) := ⟨_, rfl⟩
        have hf := bnd_at hf hx7
        refine lv_iinc (v := x7) (lv' := [(6, .int x7), (5, .int x6), (0, .ref (q 0)), (1, .int a1), (3, .int a3), (4, .int a4)]) hx hb dX12_stand_118 hl (k := 5) rfl (by rw [hx7]; rfl) (by decide) rfl (fun ls hl => ?_)
        refine lv_goto (tgt := 70) hx hb dX12_stand_121 (by decide) ?_
        exact ih70 σ a1 a3 a4 x6 x7 _ _ _ hf hJ (lv_sub hl [2, 3, 4, 5, 1, 0] rfl)
      have j114 : ∀ (σ : St) (a1 : Int32) (a3 : Int32) (a4 : Int32) (a6 : Int32) (t0 : Int32) (H : Heap) (locs : List Loc) (ls : Array Slot), fM_stand_j114 N (fM_stand_l70 N  n70) σ a1 a3 a4 a6 t0 = some (σ', r) → J D (wM q cA cB) A s σ H locs → lv_has ls 7 [(0, .ref (q 0)), (1, .int a1), (3, .int a3), (4, .int a4), (6, .int a6)] → W p l e (rmH 58) s m args below meth c H locs 0 0 Q (F0 m 114 ls [.int t0]) := by
        intro σ a1 a3 a4 a6 t0 H locs ls hf hJ hl
        unfold fM_stand_j114 at hf
        refine lv_iconst (v := 0) hx hb dX12_stand_114 (by decide) ?_
        exact j115 σ a1 a3 a4 a6 t0 (0 : Int32) _ _ _ hf hJ (lv_sub hl [0, 1, 2, 3, 4] rfl)
      intro σ a1 a3 a4 a5 a6 H locs ls hf hJ hl
      rw [fM_stand_l70] at hf
      refine lv_iload hx hb dX12_stand_70 (lv_at hl 5 rfl) ?_
      refine lv_aload_n hx hb dX12_stand_72 rfl (lv_at hl 0 rfl) ?_
      refine gM_0_41 C hJ fl_RX12_363 dX12_stand_73 ?_
      refine lv_icmp_ge (tgt := 124) hx hb dX12_stand_76 (by decide) (fun c8 => ?_) (fun c8 => ?_)
      · have hf := ite_t hf c8
        exact j124 σ a4 a5 _ _ _ hf hJ (lv_sub hl [0, 3, 4] rfl)
      · have hf := ite_f hf c8
        refine lv_iload hx hb dX12_stand_79 (lv_at hl 4 rfl) ?_
        refine lv_iload_n hx hb dX12_stand_81 rfl (lv_at hl 2 rfl) ?_
        refine lv_iload hx hb dX12_stand_82 (lv_at hl 5 rfl) ?_
        refine lv_ishr hx hb dX12_stand_84 ?_
        refine lv_iconst (v := 1) hx hb dX12_stand_85 (by decide) ?_
        refine lv_iand hx hb dX12_stand_86 ?_
        refine lv_iconst (v := 1) hx hb dX12_stand_87 (by decide) ?_
        refine lv_icmp_ne (tgt := 114) hx hb dX12_stand_88 (by decide) (fun c9 => ?_) (fun c9 => ?_)
        · have hf := ite_f hf c9
          exact j114 σ a1 a3 a4 a6 a5 _ _ _ hf hJ (lv_sub hl [0, 1, 2, 3, 5] rfl)
        · have hf := ite_t hf c9
          refine lv_aload_n hx hb dX12_stand_91 rfl (lv_at hl 0 rfl) ?_
          refine gM_0_7 C hJ fl_RX12_23 dX12_stand_92 ?_
          refine lv_aload_n hx hb dX12_stand_95 rfl (lv_at hl 0 rfl) ?_
          refine gM_0_36 C hJ fl_RX12_53 dX12_stand_96 ?_
          refine lv_iload hx hb dX12_stand_99 (lv_at hl 5 rfl) ?_
          obtain ⟨h10, hf⟩ := gi_some hf
          refine aM_14 C hJ h10 dX12_stand_101 ?_
          obtain ⟨h11, hf⟩ := gi_some hf
          refine aM_4 C hJ h11 dX12_stand_102 ?_
          refine lv_iload_n hx hb dX12_stand_103 rfl (lv_at hl 1 rfl) ?_
          refine lv_icmp_ne (tgt := 114) hx hb dX12_stand_104 (by decide) (fun c12 => ?_) (fun c12 => ?_)
          · have hf := ite_f hf c12
            exact j114 σ a1 a3 a4 a6 a5 _ _ _ hf hJ (lv_sub hl [0, 1, 2, 3, 5] rfl)
          · have hf := ite_t hf c12
            refine lv_iconst (v := 1) hx hb dX12_stand_107 (by decide) ?_
            refine lv_iload hx hb dX12_stand_108 (lv_at hl 5 rfl) ?_
            refine lv_ishl hx hb dX12_stand_110 ?_
            refine lv_goto (tgt := 115) hx hb dX12_stand_111 (by decide) ?_
            exact j115 σ a1 a3 a4 a6 a5 ((1 : Int32) <<< (a6 &&& 31)) _ _ _ hf hJ (lv_sub hl [0, 1, 2, 3, 5] rfl)
  have hl : lv_has ls 7 [(0, .ref (q 0)), (1, .int a1), (2, .int a2), (3, .int a3)] := hl
  unfold fM_stand at hf
  refine lv_iload_n hx hb dX12_stand_0 rfl (lv_at hl 1 rfl) ?_
  refine lv_i2l (v := a1.toInt64) hx hb dX12_stand_1 rfl ?_
  refine lv_lconst (v := 0) hx hb dX12_stand_2 (by decide) ?_
  refine lv_ldc2 (v := 3) hx hb hown (hts _ kl_RX12_146) dX12_stand_3 ?_
  obtain ⟨σ13, r14, hg15, hf⟩ := cal_some hf
  refine backI hsb hJ (runS (As := [.long a1.toInt64, .long (0 : Int64), .long (3 : Int64)]) (rest := []) C hJ lk_RX12_138 (cM_in hF hg15) rfl rfl (Nat.le_of_ble_eq_true rfl) hl.1 (hR_of (by omega) (by decide)) ⟨Nat.le_refl _, Nat.le_refl _⟩ dX12_stand_6) (fun H locs hJ => ?_)
  refine lv_if_eq (tgt := 33) hx hb dX12_stand_9 (by decide) (fun c16 => ?_) (fun c16 => ?_)
  · have hf := ite_t hf c16
    refine lv_bipush (v := -2) hx hb dX12_stand_33 (by decide) ?_
    exact ret_I hret hJ hf rfl dX12_stand_35
  · have hf := ite_f hf c16
    refine lv_iload_n hx hb dX12_stand_12 rfl (lv_at hl 2 rfl) ?_
    obtain ⟨σ17, r18, hg19, hf⟩ := cal_some hf
    refine backI hsb hJ (runS (As := [.int a2]) (rest := []) C hJ lk_RX12_313 (cM_isWidth hF hg19) rfl rfl (Nat.le_of_ble_eq_true rfl) hl.1 (hR_of (by omega) (by decide)) ⟨Nat.le_refl _, Nat.le_refl _⟩ dX12_stand_13) (fun H locs hJ => ?_)
    refine lv_if_eq (tgt := 33) hx hb dX12_stand_16 (by decide) (fun c20 => ?_) (fun c20 => ?_)
    · have hf := ite_t hf c20
      refine lv_bipush (v := -2) hx hb dX12_stand_33 (by decide) ?_
      exact ret_I hret hJ hf rfl dX12_stand_35
    · have hf := ite_f hf c20
      refine lv_iload_n hx hb dX12_stand_19 rfl (lv_at hl 3 rfl) ?_
      refine lv_i2l (v := a3.toInt64) hx hb dX12_stand_20 rfl ?_
      refine lv_lconst (v := 0) hx hb dX12_stand_21 (by decide) ?_
      refine lv_aload_n hx hb dX12_stand_22 rfl (lv_at hl 0 rfl) ?_
      obtain ⟨σ21, r22, hg23, hf⟩ := cal_some hf
      refine backI hsb hJ (runV (As := []) (rest := [.long (0 : Int64), .long a3.toInt64]) C hJ lk_RX12_401 (cM_all hF hg23) recM_0 rfl rfl (Nat.le_of_ble_eq_true rfl) hl.1 (hR_of (by omega) (by decide)) ⟨Nat.le_refl _, Nat.le_refl _⟩ dX12_stand_23) (fun H locs hJ => ?_)
      refine lv_i2l (v := r22.toInt64) hx hb dX12_stand_26 rfl ?_
      obtain ⟨σ24, r25, hg26, hf⟩ := cal_some hf
      refine backI hsb hJ (runS (As := [.long a3.toInt64, .long (0 : Int64), .long r22.toInt64]) (rest := []) C hJ lk_RX12_138 (cM_in hF hg26) rfl rfl (Nat.le_of_ble_eq_true rfl) hl.1 (hR_of (by omega) (by decide)) ⟨Nat.le_refl _, Nat.le_refl _⟩ dX12_stand_27) (fun H locs hJ => ?_)
      refine lv_if_ne (tgt := 36) hx hb dX12_stand_30 (by decide) (fun c27 => ?_) (fun c27 => ?_)
      · have hf := ite_f hf c27
        refine lv_aload_n hx hb dX12_stand_36 rfl (lv_at hl 0 rfl) ?_
        refine gM_0_12 C hJ fl_RX12_247 dX12_stand_37 ?_
        refine lv_topi (fun x28 hx28 => ?_)
        have hf := bnd_at hf hx28
        refine lv_istore (lv' := [(4, .int x28), (0, .ref (q 0)), (1, .int a1), (2, .int a2), (3, .int a3)]) hx hb dX12_stand_40 hl (by decide) rfl (fun ls hl => ?_)
        refine lv_aload_n hx hb dX12_stand_42 rfl (lv_at hl 1 rfl) ?_
        refine lv_iload_n hx hb dX12_stand_43 rfl (lv_at hl 2 rfl) ?_
        refine pM_0_25 C hJ fl_RX12_319 dX12_stand_44 (fun σ29 H locs hs hJ => ?_)
        have hf := bnd_at hf hs
        refine lv_aload_n hx hb dX12_stand_47 rfl (lv_at hl 1 rfl) ?_
        refine lv_iload_n hx hb dX12_stand_48 rfl (lv_at hl 3 rfl) ?_
        refine lv_aload_n hx hb dX12_stand_49 rfl (lv_at hl 1 rfl) ?_
        refine gM_0_12 C hJ fl_RX12_247 dX12_stand_50 ?_
        refine lv_isub hx hb dX12_stand_53 ?_
        refine lv_iconst (v := 2) hx hb dX12_stand_54 (by decide) ?_
        refine lv_idiv hx hb dX12_stand_55 (by decide) ?_
        refine pM_0_26 C hJ fl_RX12_316 dX12_stand_56 (fun σ30 H locs hs hJ => ?_)
        have hf := bnd_at hf hs
        refine lv_aload_n hx hb dX12_stand_59 rfl (lv_at hl 1 rfl) ?_
        refine lv_iload_n hx hb dX12_stand_60 rfl (lv_at hl 3 rfl) ?_
        refine pM_0_12 C hJ fl_RX12_247 dX12_stand_61 (fun σ31 H locs hs hJ => ?_)
        have hf := bnd_at hf hs
        refine lv_iconst (v := 0) hx hb dX12_stand_64 (by decide) ?_
        refine lv_istore (lv' := [(5, .int (0 : Int32)), (4, .int x28), (0, .ref (q 0)), (1, .int a1), (2, .int a2), (3, .int a3)]) hx hb dX12_stand_65 hl (by decide) rfl (fun ls hl => ?_)
        refine lv_iconst (v := 0) hx hb dX12_stand_67 (by decide) ?_
        refine lv_istore (lv' := [(6, .int (0 : Int32)), (5, .int (0 : Int32)), (4, .int x28), (0, .ref (q 0)), (1, .int a1), (2, .int a2), (3, .int a3)]) hx hb dX12_stand_68 hl (by decide) rfl (fun ls hl => ?_)
        exact l70 N σ31 a1 a3 x28 (0 : Int32) (0 : Int32) _ _ _ hf hJ (lv_sub hl [3, 4, 6, 2, 1, 0] rfl)
      · have hf := ite_t hf c27
        refine lv_bipush (v := -2) hx hb dX12_stand_33 (by decide) ?_
        exact ret_I hret hJ hf rfl dX12_stand_35
set_option maxHeartbeats 4000000 in
set_option maxRecDepth 100000 in
theorem cM_shown {l : Launch} {D : va_G} {cA cB : ClassId} {q : Nat → Nat} {A : Nat → Prop} {E : State → Prop} {N : Nat} {σ σ' : St} {r : Int32} {a1 : Int32} {a2 : Int32} (hF : Fr (wM q cA cB) A E) (hf : fM_shown N σ a1 a2 = some (σ', r)) : MI l yX12_shown cX12_shown 3 .int 2 D (tyM cA cB) (wM q cA cB) A E [.ref (q 0), .int a1, .int a2] σ σ' r := by
  refine MI_of (by decide) hF (Nat.le_of_ble_eq_true rfl) ?_
  intro p e s m args below meth c Q C hret hJ ls hl
  obtain ⟨hx, hb, hml, hown, hts, hK, hE, -⟩ := id C
  have hsb : ∀ z, A z → A z := fun _ h => h
  have hl : lv_has ls 3 [(0, .ref (q 0)), (1, .int a1), (2, .int a2)] := hl
  unfold fM_shown at hf
  refine lv_iload_n hx hb dX12_shown_0 rfl (lv_at hl 1 rfl) ?_
  refine lv_i2l (v := a1.toInt64) hx hb dX12_shown_1 rfl ?_
  refine lv_lconst (v := 0) hx hb dX12_shown_2 (by decide) ?_
  refine lv_ldc2 (v := 63) hx hb hown (hts _ kl_RX12_437) dX12_shown_3 ?_
  obtain ⟨σ1, r2, hg3, hf⟩ := cal_some hf
  refine backI hsb hJ (runS (As := [.long a1.toInt64, .long (0 : Int64), .long (63 : Int64)]) (rest := []) C hJ lk_RX12_138 (cM_in hF hg3) rfl rfl (Nat.le_of_ble_eq_true rfl) hl.1 (hR_of (by omega) (by decide)) ⟨Nat.le_refl _, Nat.le_refl _⟩ dX12_shown_6) (fun H locs hJ => ?_)
  refine lv_if_eq (tgt := 24) hx hb dX12_shown_9 (by decide) (fun c4 => ?_) (fun c4 => ?_)
  · have hf := ite_t hf c4
    refine lv_bipush (v := -2) hx hb dX12_shown_24 (by decide) ?_
    exact ret_I hret hJ hf rfl dX12_shown_26
  · have hf := ite_f hf c4
    refine lv_iload_n hx hb dX12_shown_12 rfl (lv_at hl 2 rfl) ?_
    refine lv_i2l (v := a2.toInt64) hx hb dX12_shown_13 rfl ?_
    refine lv_lconst (v := 0) hx hb dX12_shown_14 (by decide) ?_
    refine lv_ldc2 (v := 3) hx hb hown (hts _ kl_RX12_146) dX12_shown_15 ?_
    obtain ⟨σ5, r6, hg7, hf⟩ := cal_some hf
    refine backI hsb hJ (runS (As := [.long a2.toInt64, .long (0 : Int64), .long (3 : Int64)]) (rest := []) C hJ lk_RX12_138 (cM_in hF hg7) rfl rfl (Nat.le_of_ble_eq_true rfl) hl.1 (hR_of (by omega) (by decide)) ⟨Nat.le_refl _, Nat.le_refl _⟩ dX12_shown_18) (fun H locs hJ => ?_)
    refine lv_if_ne (tgt := 27) hx hb dX12_shown_21 (by decide) (fun c8 => ?_) (fun c8 => ?_)
    · have hf := ite_f hf c8
      refine lv_aload_n hx hb dX12_shown_27 rfl (lv_at hl 0 rfl) ?_
      refine gM_0_53 C hJ fl_RX12_439 dX12_shown_28 ?_
      refine lv_bipush (v := 40) hx hb dX12_shown_31 (by decide) ?_
      refine lv_icmp_ne (tgt := 39) hx hb dX12_shown_33 (by decide) (fun c9 => ?_) (fun c9 => ?_)
      · have hf := ite_f hf c9
        refine lv_aload_n hx hb dX12_shown_39 rfl (lv_at hl 0 rfl) ?_
        refine gM_0_51 C hJ fl_RX12_92 dX12_shown_40 ?_
        refine lv_aload_n hx hb dX12_shown_43 rfl (lv_at hl 0 rfl) ?_
        refine gM_0_53 C hJ fl_RX12_439 dX12_shown_44 ?_
        refine lv_iload_n hx hb dX12_shown_47 rfl (lv_at hl 1 rfl) ?_
        obtain ⟨h10, hf⟩ := gi_some hf
        refine sM_27 C hJ h10 dX12_shown_48 (fun σ11 H locs hs hJ => ?_)
        have hf := bnd_at hf hs
        refine lv_aload_n hx hb dX12_shown_49 rfl (lv_at hl 0 rfl) ?_
        refine gM_0_52 C hJ fl_RX12_95 dX12_shown_50 ?_
        refine lv_aload_n hx hb dX12_shown_53 rfl (lv_at hl 0 rfl) ?_
        refine gM_0_53 C hJ fl_RX12_439 dX12_shown_54 ?_
        refine lv_iload_n hx hb dX12_shown_57 rfl (lv_at hl 2 rfl) ?_
        obtain ⟨h12, hf⟩ := gi_some hf
        refine sM_28 C hJ h12 dX12_shown_58 (fun σ13 H locs hs hJ => ?_)
        have hf := bnd_at hf hs
        refine lv_aload_n hx hb dX12_shown_59 rfl (lv_at hl 0 rfl) ?_
        refine lv_dup hx hb dX12_shown_60 rfl ?_
        refine gM_0_53 C hJ fl_RX12_439 dX12_shown_61 ?_
        refine lv_iconst (v := 1) hx hb dX12_shown_64 (by decide) ?_
        refine lv_iadd hx hb dX12_shown_65 ?_
        refine pM_0_53 C hJ fl_RX12_439 dX12_shown_66 (fun σ14 H locs hs hJ => ?_)
        have hf := bnd_at hf hs
        refine lv_aload_n hx hb dX12_shown_69 rfl (lv_at hl 0 rfl) ?_
        refine gM_0_53 C hJ fl_RX12_439 dX12_shown_70 ?_
        refine lv_iconst (v := 1) hx hb dX12_shown_73 (by decide) ?_
        refine lv_isub hx hb dX12_shown_74 ?_
        exact ret_I hret hJ hf rfl dX12_shown_75
      · have hf := ite_t hf c9
        refine lv_bipush (v := -4) hx hb dX12_shown_36 (by decide) ?_
        exact ret_I hret hJ hf rfl dX12_shown_38
    · have hf := ite_t hf c8
      refine lv_bipush (v := -2) hx hb dX12_shown_24 (by decide) ?_
      exact ret_I hret hJ hf rfl dX12_shown_26
set_option maxHeartbeats 4000000 in
set_option maxRecDepth 100000 in
theorem cM_bitsOf {l : Launch} {D : va_G} {cA cB : ClassId} {q : Nat → Nat} {A : Nat → Prop} {E : State → Prop} {N : Nat} {σ σ' : St} {r : Int32} {a0 : Int32} (hF : Fr (wM q cA cB) A E) (hf : fM_bitsOf N σ a0 = some (σ', r)) : MI l yX12_bitsOf cX12_bitsOf 3 .int 1 D (tyM cA cB) (wM q cA cB) A E [.int a0] σ σ' r := by
  refine MI_of (by decide) hF (Nat.le_of_ble_eq_true rfl) ?_
  intro p e s m args below meth c Q C hret hJ ls hl
  obtain ⟨hx, hb, hml, hown, hts, hK, hE, -⟩ := id C
  have hsb : ∀ z, A z → A z := fun _ h => h
  have l4 : ∀ (n : Nat) (σ : St) (a1 : Int32) (a2 : Int32) (H : Heap) (locs : List Loc) (ls : Array Slot), fM_bitsOf_l4 N  n σ a1 a2 = some (σ', r) → J D (wM q cA cB) A s σ H locs → lv_has ls 3 [(1, .int a1), (2, .int a2)] → W p l e (rmH 1) s m args below meth c H locs 0 0 Q (F0 m 4 ls []) := by
    intro n4
    induction n4 with
    | zero => intro σ a1 a2 H locs ls hf; rw [fM_bitsOf_l4] at hf; cases hf
    | succ n4 ih4 =>
      intro σ a1 a2 H locs ls hf hJ hl
      rw [fM_bitsOf_l4] at hf
      refine lv_iload_n hx hb dX12_bitsOf_4 rfl (lv_at hl 1 rfl) ?_
      refine lv_if_eq (tgt := 20) hx hb dX12_bitsOf_5 (by decide) (fun c1 => ?_) (fun c1 => ?_)
      · have hf := ite_t hf c1
        refine lv_iload_n hx hb dX12_bitsOf_20 rfl (lv_at hl 0 rfl) ?_
        exact ret_I hret hJ hf rfl dX12_bitsOf_21
      · have hf := ite_f hf c1
        obtain ⟨x2, hx2⟩ : ∃ z : Int32, z = a1 + (1 : Int32) := ⟨_, rfl⟩
        have hf := bnd_at hf hx2
        refine lv_iinc (v := x2) (lv' := [(1, .int x2), (2, .int a2)]) hx hb dX12_bitsOf_8 hl (k := 0) rfl (by rw [hx2]; rfl) (by decide) rfl (fun ls hl => ?_)
        refine lv_iload_n hx hb dX12_bitsOf_11 rfl (lv_at hl 1 rfl) ?_
        refine lv_iload_n hx hb dX12_bitsOf_12 rfl (lv_at hl 1 rfl) ?_
        refine lv_iconst (v := 1) hx hb dX12_bitsOf_13 (by decide) ?_
        refine lv_isub hx hb dX12_bitsOf_14 ?_
        refine lv_iand hx hb dX12_bitsOf_15 ?_
        refine lv_topi (fun x3 hx3 => ?_)
        have hf := bnd_at hf hx3
        refine lv_istore_n (lv' := [(2, .int x3), (1, .int x2)]) hx hb dX12_bitsOf_16 rfl hl (by decide) rfl (fun ls hl => ?_)
        refine lv_goto (tgt := 4) hx hb dX12_bitsOf_17 (by decide) ?_
        exact ih4 σ x2 x3 _ _ _ hf hJ (lv_sub hl [1, 0] rfl)
  have hl : lv_has ls 3 [(0, .int a0)] := hl
  unfold fM_bitsOf at hf
  refine lv_iconst (v := 0) hx hb dX12_bitsOf_0 (by decide) ?_
  refine lv_istore_n (lv' := [(1, .int (0 : Int32)), (0, .int a0)]) hx hb dX12_bitsOf_1 rfl hl (by decide) rfl (fun ls hl => ?_)
  refine lv_iload_n hx hb dX12_bitsOf_2 rfl (lv_at hl 1 rfl) ?_
  refine lv_istore_n (lv' := [(2, .int a0), (1, .int (0 : Int32)), (0, .int a0)]) hx hb dX12_bitsOf_3 rfl hl (by decide) rfl (fun ls hl => ?_)
  exact l4 N σ (0 : Int32) a0 _ _ _ hf hJ (lv_sub hl [1, 0] rfl)
set_option maxHeartbeats 4000000 in
set_option maxRecDepth 100000 in
theorem cM_split {l : Launch} {D : va_G} {cA cB : ClassId} {q : Nat → Nat} {A : Nat → Prop} {E : State → Prop} {N : Nat} {σ σ' : St} {r : Int32} (hF : Fr (wM q cA cB) A E) (hf : fM_split N σ  = some (σ', r)) : MI l yX12_split cX12_split 6 .int 2 D (tyM cA cB) (wM q cA cB) A E [.ref (q 0)] σ σ' r := by
  refine MI_of (by decide) hF (Nat.le_of_ble_eq_true rfl) ?_
  intro p e s m args below meth c Q C hret hJ ls hl
  obtain ⟨hx, hb, hml, hown, hts, hK, hE, -⟩ := id C
  have hsb : ∀ z, A z → A z := fun _ h => h
  have l4 : ∀ (n : Nat) (σ : St) (a1 : Int32) (a2 : Int32) (H : Heap) (locs : List Loc) (ls : Array Slot), fM_split_l4 N  n σ a1 a2 = some (σ', r) → J D (wM q cA cB) A s σ H locs → lv_has ls 6 [(0, .ref (q 0)), (1, .int a1), (2, .int a2)] → W p l e (rmH 2) s m args below meth c H locs 0 0 Q (F0 m 4 ls []) := by
    intro n4
    induction n4 with
    | zero => intro σ a1 a2 H locs ls hf; rw [fM_split_l4] at hf; cases hf
    | succ n4 ih4 =>
      have j124 : ∀ (σ : St) (a1 : Int32) (a2 : Int32) (H : Heap) (locs : List Loc) (ls : Array Slot), fM_split_j124 N (fM_split_l4 N  n4) σ a1 a2 = some (σ', r) → J D (wM q cA cB) A s σ H locs → lv_has ls 6 [(0, .ref (q 0)), (1, .int a1), (2, .int a2)] → W p l e (rmH 2) s m args below meth c H locs 0 0 Q (F0 m 124 ls []) := by
        intro σ a1 a2 H locs ls hf hJ hl
        unfold fM_split_j124 at hf
        obtain ⟨x1, hx1⟩ : ∃ z : Int32, z = a2 + (1 : Int32) := ⟨_, rfl⟩
        have hf := bnd_at hf hx1
        refine lv_iinc (v := x1) (lv' := [(2, .int x1), (0, .ref (q 0)), (1, .int a1)]) hx hb dX12_split_124 hl (k := 2) rfl (by rw [hx1]; rfl) (by decide) rfl (fun ls hl => ?_)
        refine lv_goto (tgt := 4) hx hb dX12_split_127 (by decide) ?_
        exact ih4 σ a1 x1 _ _ _ hf hJ (lv_sub hl [1, 2, 0] rfl)
      have j118 : ∀ (σ : St) (a1 : Int32) (a2 : Int32) (a3 : Int32) (H : Heap) (locs : List Loc) (ls : Array Slot), fM_split_j118 N (fM_split_l4 N  n4) σ a1 a2 a3 = some (σ', r) → J D (wM q cA cB) A s σ H locs → lv_has ls 6 [(0, .ref (q 0)), (1, .int a1), (2, .int a2), (3, .int a3)] → W p l e (rmH 2) s m args below meth c H locs 0 0 Q (F0 m 118 ls []) := by
        intro σ a1 a2 a3 H locs ls hf hJ hl
        unfold fM_split_j118 at hf
        refine lv_iload_n hx hb dX12_split_118 rfl (lv_at hl 3 rfl) ?_
        refine lv_if_eq (tgt := 124) hx hb dX12_split_119 (by decide) (fun c2 => ?_) (fun c2 => ?_)
        · have hf := ite_t hf c2
          exact j124 σ a1 a2 _ _ _ hf hJ (lv_sub hl [0, 1, 2] rfl)
        · have hf := ite_f hf c2
          refine lv_iload_n hx hb dX12_split_122 rfl (lv_at hl 2 rfl) ?_
          refine lv_istore_n (lv' := [(1, .int a2), (0, .ref (q 0)), (2, .int a2), (3, .int a3)]) hx hb dX12_split_123 rfl hl (by decide) rfl (fun ls hl => ?_)
          exact j124 σ a2 a2 _ _ _ hf hJ (lv_sub hl [1, 0, 2] rfl)
      have l35 : ∀ (n : Nat) (σ : St) (a1 : Int32) (a2 : Int32) (a3 : Int32) (a4 : Int32) (H : Heap) (locs : List Loc) (ls : Array Slot), fM_split_l35 N (fM_split_l4 N  n4) n σ a1 a2 a3 a4 = some (σ', r) → J D (wM q cA cB) A s σ H locs → lv_has ls 6 [(0, .ref (q 0)), (1, .int a1), (2, .int a2), (3, .int a3), (4, .int a4)] → W p l e (rmH 2) s m args below meth c H locs 0 0 Q (F0 m 35 ls []) := by
        intro n35
        induction n35 with
        | zero => intro σ a1 a2 a3 a4 H locs ls hf; rw [fM_split_l35] at hf; cases hf
        | succ n35 ih35 =>
          have j112 : ∀ (σ : St) (a1 : Int32) (a2 : Int32) (a3 : Int32) (a4 : Int32) (H : Heap) (locs : List Loc) (ls : Array Slot), fM_split_j112 N (fM_split_l4 N  n4) (fM_split_l35 N (fM_split_l4 N  n4) n35) σ a1 a2 a3 a4 = some (σ', r) → J D (wM q cA cB) A s σ H locs → lv_has ls 6 [(0, .ref (q 0)), (1, .int a1), (2, .int a2), (3, .int a3), (4, .int a4)] → W p l e (rmH 2) s m args below meth c H locs 0 0 Q (F0 m 112 ls []) := by
            intro σ a1 a2 a3 a4 H locs ls hf hJ hl
            unfold fM_split_j112 at hf
            obtain ⟨x3, hx3⟩ : ∃ z : Int32, z = a4 + (1 : Int32) := ⟨_, rfl⟩
            have hf := bnd_at hf hx3
            refine lv_iinc (v := x3) (lv' := [(4, .int x3), (0, .ref (q 0)), (1, .int a1), (2, .int a2), (3, .int a3)]) hx hb dX12_split_112 hl (k := 4) rfl (by rw [hx3]; rfl) (by decide) rfl (fun ls hl => ?_)
            refine lv_goto (tgt := 35) hx hb dX12_split_115 (by decide) ?_
            exact ih35 σ a1 a2 a3 x3 _ _ _ hf hJ (lv_sub hl [1, 2, 3, 4, 0] rfl)
          have l51 : ∀ (n : Nat) (σ : St) (a1 : Int32) (a2 : Int32) (a3 : Int32) (a4 : Int32) (a5 : Int32) (H : Heap) (locs : List Loc) (ls : Array Slot), fM_split_l51 N (fM_split_l4 N  n4) (fM_split_l35 N (fM_split_l4 N  n4) n35) n σ a1 a2 a3 a4 a5 = some (σ', r) → J D (wM q cA cB) A s σ H locs → lv_has ls 6 [(0, .ref (q 0)), (1, .int a1), (2, .int a2), (3, .int a3), (4, .int a4), (5, .int a5)] → W p l e (rmH 2) s m args below meth c H locs 0 0 Q (F0 m 51 ls []) := by
            intro n51
            induction n51 with
            | zero => intro σ a1 a2 a3 a4 a5 H locs ls hf; rw [fM_split_l51] at hf; cases hf
            | succ n51 ih51 =>
              have j105 : ∀ (σ : St) (a1 : Int32) (a2 : Int32) (a4 : Int32) (a5 : Int32) (t0 : Int32) (H : Heap) (locs : List Loc) (ls : Array Slot), fM_split_j105 N (fM_split_l4 N  n4) (fM_split_l35 N (fM_split_l4 N  n4) n35) (fM_split_l51 N (fM_split_l4 N  n4) (fM_split_l35 N (fM_split_l4 N  n4) n35) n51) σ a1 a2 a4 a5 t0 = some (σ', r) → J D (wM q cA cB) A s σ H locs → lv_has ls 6 [(0, .ref (q 0)), (1, .int a1), (2, .int a2), (4, .int a4), (5, .int a5)] → W p l e (rmH 2) s m args below meth c H locs 0 0 Q (F0 m 105 ls [.int t0]) := by
                intro σ a1 a2 a4 a5 t0 H locs ls hf hJ hl
                unfold fM_split_j105 at hf
                refine lv_istore_n (lv' := [(3, .int t0), (0, .ref (q 0)), (1, .int a1), (2, .int a2), (4, .int a4), (5, .int a5)]) hx hb dX12_split_105 rfl hl (by decide) rfl (fun ls hl => ?_)
                obtain ⟨x4, hx4⟩ : ∃ z : Int32, z = a5 + (1 : Int32) := ⟨_, rfl⟩
                have hf := bnd_at hf hx4
                refine lv_iinc (v := x4) (lv' := [(5, .int x4), (3, .int t0), (0, .ref (q 0)), (1, .int a1), (2, .int a2), (4, .int a4)]) hx hb dX12_split_106 hl (k := 5) rfl (by rw [hx4]; rfl) (by decide) rfl (fun ls hl => ?_)
                refine lv_goto (tgt := 51) hx hb dX12_split_109 (by decide) ?_
                exact ih51 σ a1 a2 t0 a4 x4 _ _ _ hf hJ (lv_sub hl [2, 3, 4, 1, 5, 0] rfl)
              have j100 : ∀ (σ : St) (a1 : Int32) (a2 : Int32) (a4 : Int32) (a5 : Int32) (H : Heap) (locs : List Loc) (ls : Array Slot), fM_split_j100 N (fM_split_l4 N  n4) (fM_split_l35 N (fM_split_l4 N  n4) n35) (fM_split_l51 N (fM_split_l4 N  n4) (fM_split_l35 N (fM_split_l4 N  n4) n35) n51) σ a1 a2 a4 a5 = some (σ', r) → J D (wM q cA cB) A s σ H locs → lv_has ls 6 [(0, .ref (q 0)), (1, .int a1), (2, .int a2), (4, .int a4), (5, .int a5)] → W p l e (rmH 2) s m args below meth c H locs 0 0 Q (F0 m 100 ls []) := by
                intro σ a1 a2 a4 a5 H locs ls hf hJ hl
                unfold fM_split_j100 at hf
                refine lv_iconst (v := 1) hx hb dX12_split_100 (by decide) ?_
                refine lv_goto (tgt := 105) hx hb dX12_split_101 (by decide) ?_
                exact j105 σ a1 a2 a4 a5 (1 : Int32) _ _ _ hf hJ (lv_sub hl [0, 1, 2, 3, 4] rfl)
              intro σ a1 a2 a3 a4 a5 H locs ls hf hJ hl
              rw [fM_split_l51] at hf
              refine lv_iload hx hb dX12_split_51 (lv_at hl 5 rfl) ?_
              refine lv_iload hx hb dX12_split_53 (lv_at hl 4 rfl) ?_
              refine lv_icmp_ge (tgt := 112) hx hb dX12_split_55 (by decide) (fun c5 => ?_) (fun c5 => ?_)
              · have hf := ite_t hf c5
                exact j112 σ a1 a2 a3 a4 _ _ _ hf hJ (lv_sub hl [0, 1, 2, 3, 4] rfl)
              · have hf := ite_f hf c5
                refine lv_iload_n hx hb dX12_split_58 rfl (lv_at hl 3 rfl) ?_
                refine lv_if_eq (tgt := 112) hx hb dX12_split_59 (by decide) (fun c6 => ?_) (fun c6 => ?_)
                · have hf := ite_t hf c6
                  exact j112 σ a1 a2 a3 a4 _ _ _ hf hJ (lv_sub hl [0, 1, 2, 3, 4] rfl)
                · have hf := ite_f hf c6
                  refine lv_aload_n hx hb dX12_split_62 rfl (lv_at hl 0 rfl) ?_
                  refine gM_0_51 C hJ fl_RX12_92 dX12_split_63 ?_
                  refine lv_iload hx hb dX12_split_66 (lv_at hl 4 rfl) ?_
                  obtain ⟨h7, hf⟩ := gi_some hf
                  refine aM_27 C hJ h7 dX12_split_68 ?_
                  refine lv_iload_n hx hb dX12_split_69 rfl (lv_at hl 2 rfl) ?_
                  refine lv_iand hx hb dX12_split_70 ?_
                  refine lv_aload_n hx hb dX12_split_71 rfl (lv_at hl 0 rfl) ?_
                  refine gM_0_51 C hJ fl_RX12_92 dX12_split_72 ?_
                  refine lv_iload hx hb dX12_split_75 (lv_at hl 5 rfl) ?_
                  obtain ⟨h8, hf⟩ := gi_some hf
                  refine aM_27 C hJ h8 dX12_split_77 ?_
                  refine lv_iload_n hx hb dX12_split_78 rfl (lv_at hl 2 rfl) ?_
                  refine lv_iand hx hb dX12_split_79 ?_
                  refine lv_icmp_ne (tgt := 100) hx hb dX12_split_80 (by decide) (fun c9 => ?_) (fun c9 => ?_)
                  · have hf := ite_f hf c9
                    exact j100 σ a1 a2 a4 a5 _ _ _ hf hJ (lv_sub hl [0, 1, 2, 4, 5] rfl)
                  · have hf := ite_t hf c9
                    refine lv_aload_n hx hb dX12_split_83 rfl (lv_at hl 0 rfl) ?_
                    refine gM_0_52 C hJ fl_RX12_95 dX12_split_84 ?_
                    refine lv_iload hx hb dX12_split_87 (lv_at hl 4 rfl) ?_
                    obtain ⟨h10, hf⟩ := gi_some hf
                    refine aM_28 C hJ h10 dX12_split_89 ?_
                    refine lv_aload_n hx hb dX12_split_90 rfl (lv_at hl 0 rfl) ?_
                    refine gM_0_52 C hJ fl_RX12_95 dX12_split_91 ?_
                    refine lv_iload hx hb dX12_split_94 (lv_at hl 5 rfl) ?_
                    obtain ⟨h11, hf⟩ := gi_some hf
                    refine aM_28 C hJ h11 dX12_split_96 ?_
                    refine lv_icmp_ne (tgt := 104) hx hb dX12_split_97 (by decide) (fun c12 => ?_) (fun c12 => ?_)
                    · have hf := ite_f hf c12
                      refine lv_iconst (v := 0) hx hb dX12_split_104 (by decide) ?_
                      exact j105 σ a1 a2 a4 a5 (0 : Int32) _ _ _ hf hJ (lv_sub hl [0, 1, 2, 4, 5] rfl)
                    · have hf := ite_t hf c12
                      exact j100 σ a1 a2 a4 a5 _ _ _ hf hJ (lv_sub hl [0, 1, 2, 4, 5] rfl)
          intro σ a1 a2 a3 a4 H locs ls hf hJ hl
          rw [fM_split_l35] at hf
          refine lv_iload hx hb dX12_split_35 (lv_at hl 4 rfl) ?_
          refine lv_aload_n hx hb dX12_split_37 rfl (lv_at hl 0 rfl) ?_
          refine gM_0_53 C hJ fl_RX12_439 dX12_split_38 ?_
          refine lv_icmp_ge (tgt := 118) hx hb dX12_split_41 (by decide) (fun c13 => ?_) (fun c13 => ?_)
          · have hf := ite_t hf c13
            exact j118 σ a1 a2 a3 _ _ _ hf hJ (lv_sub hl [0, 1, 2, 3] rfl)
          · have hf := ite_f hf c13
            refine lv_iload_n hx hb dX12_split_44 rfl (lv_at hl 3 rfl) ?_
            refine lv_if_eq (tgt := 118) hx hb dX12_split_45 (by decide) (fun c14 => ?_) (fun c14 => ?_)
            · have hf := ite_t hf c14
              exact j118 σ a1 a2 a3 _ _ _ hf hJ (lv_sub hl [0, 1, 2, 3] rfl)
            · have hf := ite_f hf c14
              refine lv_iconst (v := 0) hx hb dX12_split_48 (by decide) ?_
              refine lv_istore (lv' := [(5, .int (0 : Int32)), (0, .ref (q 0)), (1, .int a1), (2, .int a2), (3, .int a3), (4, .int a4)]) hx hb dX12_split_49 hl (by decide) rfl (fun ls hl => ?_)
              exact l51 N σ a1 a2 a3 a4 (0 : Int32) _ _ _ hf hJ (lv_sub hl [1, 2, 3, 4, 5, 0] rfl)
      have j31 : ∀ (σ : St) (a1 : Int32) (a2 : Int32) (t0 : Int32) (H : Heap) (locs : List Loc) (ls : Array Slot), fM_split_j31 N (fM_split_l4 N  n4) σ a1 a2 t0 = some (σ', r) → J D (wM q cA cB) A s σ H locs → lv_has ls 6 [(0, .ref (q 0)), (1, .int a1), (2, .int a2)] → W p l e (rmH 2) s m args below meth c H locs 0 0 Q (F0 m 31 ls [.int t0]) := by
        intro σ a1 a2 t0 H locs ls hf hJ hl
        unfold fM_split_j31 at hf
        refine lv_istore_n (lv' := [(3, .int t0), (0, .ref (q 0)), (1, .int a1), (2, .int a2)]) hx hb dX12_split_31 rfl hl (by decide) rfl (fun ls hl => ?_)
        refine lv_iconst (v := 0) hx hb dX12_split_32 (by decide) ?_
        refine lv_istore (lv' := [(4, .int (0 : Int32)), (3, .int t0), (0, .ref (q 0)), (1, .int a1), (2, .int a2)]) hx hb dX12_split_33 hl (by decide) rfl (fun ls hl => ?_)
        exact l35 N σ a1 a2 t0 (0 : Int32) _ _ _ hf hJ (lv_sub hl [2, 3, 4, 1, 0] rfl)
      have j26 : ∀ (σ : St) (a1 : Int32) (a2 : Int32) (H : Heap) (locs : List Loc) (ls : Array Slot), fM_split_j26 N (fM_split_l4 N  n4) σ a1 a2 = some (σ', r) → J D (wM q cA cB) A s σ H locs → lv_has ls 6 [(0, .ref (q 0)), (1, .int a1), (2, .int a2)] → W p l e (rmH 2) s m args below meth c H locs 0 0 Q (F0 m 26 ls []) := by
        intro σ a1 a2 H locs ls hf hJ hl
        unfold fM_split_j26 at hf
        refine lv_iconst (v := 1) hx hb dX12_split_26 (by decide) ?_
        refine lv_goto (tgt := 31) hx hb dX12_split_27 (by decide) ?_
        exact j31 σ a1 a2 (1 : Int32) _ _ _ hf hJ (lv_sub hl [0, 1, 2] rfl)
      intro σ a1 a2 H locs ls hf hJ hl
      rw [fM_split_l4] at hf
      refine lv_iload_n hx hb dX12_split_4 rfl (lv_at hl 2 rfl) ?_
      refine lv_bipush (v := 64) hx hb dX12_split_5 (by decide) ?_
      refine lv_icmp_ge (tgt := 130) hx hb dX12_split_7 (by decide) (fun c15 => ?_) (fun c15 => ?_)
      · have hf := ite_t hf c15
        refine lv_iload_n hx hb dX12_split_130 rfl (lv_at hl 1 rfl) ?_
        exact ret_I hret hJ hf rfl dX12_split_131
      · have hf := ite_f hf c15
        refine lv_iload_n hx hb dX12_split_10 rfl (lv_at hl 1 rfl) ?_
        refine lv_iconst (v := -1) hx hb dX12_split_11 (by decide) ?_
        refine lv_icmp_eq (tgt := 26) hx hb dX12_split_12 (by decide) (fun c16 => ?_) (fun c16 => ?_)
        · have hf := ite_t hf c16
          exact j26 σ a1 a2 _ _ _ hf hJ (lv_sub hl [0, 1, 2] rfl)
        · have hf := ite_f hf c16
          refine lv_iload_n hx hb dX12_split_15 rfl (lv_at hl 2 rfl) ?_
          obtain ⟨σ17, r18, hg19, hf⟩ := cal_some hf
          refine backI hsb hJ (runS (As := [.int a2]) (rest := []) C hJ lk_RX12_442 (cM_bitsOf hF hg19) rfl rfl (Nat.le_of_ble_eq_true rfl) hl.1 (hR_of (by omega) (by decide)) ⟨Nat.le_refl _, Nat.le_refl _⟩ dX12_split_16) (fun H locs hJ => ?_)
          refine lv_iload_n hx hb dX12_split_19 rfl (lv_at hl 1 rfl) ?_
          obtain ⟨σ20, r21, hg22, hf⟩ := cal_some hf
          refine backI hsb hJ (runS (As := [.int a1]) (rest := [.int r18]) C hJ lk_RX12_442 (cM_bitsOf hF hg22) rfl rfl (Nat.le_of_ble_eq_true rfl) hl.1 (hR_of (by omega) (by decide)) ⟨Nat.le_refl _, Nat.le_refl _⟩ dX12_split_20) (fun H locs hJ => ?_)
          refine lv_icmp_ge (tgt := 30) hx hb dX12_split_23 (by decide) (fun c23 => ?_) (fun c23 => ?_)
          · have hf := ite_t hf c23
            refine lv_iconst (v := 0) hx hb dX12_split_30 (by decide) ?_
            exact j31 σ20 a1 a2 (0 : Int32) _ _ _ hf hJ (lv_sub hl [0, 1, 2] rfl)
          · have hf := ite_f hf c23
            exact j26 σ20 a1 a2 _ _ _ hf hJ (lv_sub hl [0, 1, 2] rfl)
  have hl : lv_has ls 6 [(0, .ref (q 0))] := hl
  unfold fM_split at hf
  refine lv_iconst (v := -1) hx hb dX12_split_0 (by decide) ?_
  refine lv_istore_n (lv' := [(1, .int (-1 : Int32)), (0, .ref (q 0))]) hx hb dX12_split_1 rfl hl (by decide) rfl (fun ls hl => ?_)
  refine lv_iconst (v := 0) hx hb dX12_split_2 (by decide) ?_
  refine lv_istore_n (lv' := [(2, .int (0 : Int32)), (1, .int (-1 : Int32)), (0, .ref (q 0))]) hx hb dX12_split_3 rfl hl (by decide) rfl (fun ls hl => ?_)
  exact l4 N σ (-1 : Int32) (0 : Int32) _ _ _ hf hJ (lv_sub hl [2, 1, 0] rfl)
set_option maxHeartbeats 4000000 in
set_option maxRecDepth 100000 in
theorem cM_image {l : Launch} {D : va_G} {cA cB : ClassId} {q : Nat → Nat} {A : Nat → Prop} {E : State → Prop} {N : Nat} {σ σ' : St} {r : Int32} (hF : Fr (wM q cA cB) A E) (hf : fM_image N σ  = some (σ', r)) : MI l yX12_image cX12_image 3 .int 1 D (tyM cA cB) (wM q cA cB) A E [.ref (q 0)] σ σ' r := by
  refine MI_of (by decide) hF (Nat.le_of_ble_eq_true rfl) ?_
  intro p e s m args below meth c Q C hret hJ ls hl
  obtain ⟨hx, hb, hml, hown, hts, hK, hE, -⟩ := id C
  have hsb : ∀ z, A z → A z := fun _ h => h
  have l31 : ∀ (n : Nat) (σ : St) (a1 : Int32) (H : Heap) (locs : List Loc) (ls : Array Slot), fM_image_l31 N  n σ a1 = some (σ', r) → J D (wM q cA cB) A s σ H locs → lv_has ls 3 [(0, .ref (q 0)), (1, .int a1)] → W p l e (rmH 1) s m args below meth c H locs 0 0 Q (F0 m 31 ls []) := by
    intro n31
    induction n31 with
    | zero => intro σ a1 H locs ls hf; rw [fM_image_l31] at hf; cases hf
    | succ n31 ih31 =>
      have j107 : ∀ (σ : St) (a1 : Int32) (H : Heap) (locs : List Loc) (ls : Array Slot), fM_image_j107 N (fM_image_l31 N  n31) σ a1 = some (σ', r) → J D (wM q cA cB) A s σ H locs → lv_has ls 3 [(0, .ref (q 0)), (1, .int a1)] → W p l e (rmH 1) s m args below meth c H locs 0 0 Q (F0 m 107 ls []) := by
        intro σ a1 H locs ls hf hJ hl
        unfold fM_image_j107 at hf
        obtain ⟨x1, hx1⟩ : ∃ z : Int32, z = a1 + (1 : Int32) := ⟨_, rfl⟩
        have hf := bnd_at hf hx1
        refine lv_iinc (v := x1) (lv' := [(1, .int x1), (0, .ref (q 0))]) hx hb dX12_image_107 hl (k := 1) rfl (by rw [hx1]; rfl) (by decide) rfl (fun ls hl => ?_)
        refine lv_goto (tgt := 31) hx hb dX12_image_110 (by decide) ?_
        exact ih31 σ x1 _ _ _ hf hJ (lv_sub hl [1, 0] rfl)
      have l73 : ∀ (n : Nat) (σ : St) (a1 : Int32) (a2 : Int32) (H : Heap) (locs : List Loc) (ls : Array Slot), fM_image_l73 N (fM_image_l31 N  n31) n σ a1 a2 = some (σ', r) → J D (wM q cA cB) A s σ H locs → lv_has ls 3 [(0, .ref (q 0)), (1, .int a1), (2, .int a2)] → W p l e (rmH 1) s m args below meth c H locs 0 0 Q (F0 m 73 ls []) := by
        intro n73
        induction n73 with
        | zero => intro σ a1 a2 H locs ls hf; rw [fM_image_l73] at hf; cases hf
        | succ n73 ih73 =>
          intro σ a1 a2 H locs ls hf hJ hl
          rw [fM_image_l73] at hf
          refine lv_iload_n hx hb dX12_image_73 rfl (lv_at hl 2 rfl) ?_
          refine lv_iconst (v := 4) hx hb dX12_image_74 (by decide) ?_
          refine lv_icmp_ge (tgt := 107) hx hb dX12_image_75 (by decide) (fun c2 => ?_) (fun c2 => ?_)
          · have hf := ite_t hf c2
            exact j107 σ a1 _ _ _ hf hJ (lv_sub hl [0, 1] rfl)
          · have hf := ite_f hf c2
            refine lv_aload_n hx hb dX12_image_78 rfl (lv_at hl 0 rfl) ?_
            refine gM_0_54 C hJ fl_RX12_98 dX12_image_79 ?_
            refine lv_bipush (v := 6) hx hb dX12_image_82 (by decide) ?_
            refine lv_iload_n hx hb dX12_image_84 rfl (lv_at hl 1 rfl) ?_
            refine lv_imul hx hb dX12_image_85 ?_
            refine lv_iconst (v := 2) hx hb dX12_image_86 (by decide) ?_
            refine lv_iadd hx hb dX12_image_87 ?_
            refine lv_iload_n hx hb dX12_image_88 rfl (lv_at hl 2 rfl) ?_
            refine lv_iadd hx hb dX12_image_89 ?_
            refine lv_aload_n hx hb dX12_image_90 rfl (lv_at hl 0 rfl) ?_
            refine gM_0_10 C hJ fl_RX12_32 dX12_image_91 ?_
            refine lv_iconst (v := 4) hx hb dX12_image_94 (by decide) ?_
            refine lv_iload_n hx hb dX12_image_95 rfl (lv_at hl 1 rfl) ?_
            refine lv_imul hx hb dX12_image_96 ?_
            refine lv_iload_n hx hb dX12_image_97 rfl (lv_at hl 2 rfl) ?_
            refine lv_iadd hx hb dX12_image_98 ?_
            obtain ⟨h3, hf⟩ := gi_some hf
            refine aM_7 C hJ h3 dX12_image_99 ?_
            obtain ⟨h4, hf⟩ := gi_some hf
            refine sM_29 C hJ h4 dX12_image_100 (fun σ5 H locs hs hJ => ?_)
            have hf := bnd_at hf hs
            obtain ⟨x6, hx6⟩ : ∃ z : Int32, z = a2 + (1 : Int32) := ⟨_, rfl⟩
            have hf := bnd_at hf hx6
            refine lv_iinc (v := x6) (lv' := [(2, .int x6), (0, .ref (q 0)), (1, .int a1)]) hx hb dX12_image_101 hl (k := 2) rfl (by rw [hx6]; rfl) (by decide) rfl (fun ls hl => ?_)
            refine lv_goto (tgt := 73) hx hb dX12_image_104 (by decide) ?_
            exact ih73 σ5 a1 x6 _ _ _ hf hJ (lv_sub hl [1, 2, 0] rfl)
      intro σ a1 H locs ls hf hJ hl
      rw [fM_image_l31] at hf
      refine lv_iload_n hx hb dX12_image_31 rfl (lv_at hl 1 rfl) ?_
      refine lv_aload_n hx hb dX12_image_32 rfl (lv_at hl 0 rfl) ?_
      refine gM_0_11 C hJ fl_RX12_135 dX12_image_33 ?_
      refine lv_icmp_ge (tgt := 113) hx hb dX12_image_36 (by decide) (fun c7 => ?_) (fun c7 => ?_)
      · have hf := ite_t hf c7
        refine lv_aload_n hx hb dX12_image_113 rfl (lv_at hl 0 rfl) ?_
        refine gM_0_12 C hJ fl_RX12_247 dX12_image_114 ?_
        exact ret_I hret hJ hf rfl dX12_image_117
      · have hf := ite_f hf c7
        refine lv_aload_n hx hb dX12_image_39 rfl (lv_at hl 0 rfl) ?_
        refine gM_0_54 C hJ fl_RX12_98 dX12_image_40 ?_
        refine lv_bipush (v := 6) hx hb dX12_image_43 (by decide) ?_
        refine lv_iload_n hx hb dX12_image_45 rfl (lv_at hl 1 rfl) ?_
        refine lv_imul hx hb dX12_image_46 ?_
        refine lv_aload_n hx hb dX12_image_47 rfl (lv_at hl 0 rfl) ?_
        refine gM_0_8 C hJ fl_RX12_26 dX12_image_48 ?_
        refine lv_iload_n hx hb dX12_image_51 rfl (lv_at hl 1 rfl) ?_
        obtain ⟨h8, hf⟩ := gi_some hf
        refine aM_5 C hJ h8 dX12_image_52 ?_
        obtain ⟨h9, hf⟩ := gi_some hf
        refine sM_29 C hJ h9 dX12_image_53 (fun σ10 H locs hs hJ => ?_)
        have hf := bnd_at hf hs
        refine lv_aload_n hx hb dX12_image_54 rfl (lv_at hl 0 rfl) ?_
        refine gM_0_54 C hJ fl_RX12_98 dX12_image_55 ?_
        refine lv_bipush (v := 6) hx hb dX12_image_58 (by decide) ?_
        refine lv_iload_n hx hb dX12_image_60 rfl (lv_at hl 1 rfl) ?_
        refine lv_imul hx hb dX12_image_61 ?_
        refine lv_iconst (v := 1) hx hb dX12_image_62 (by decide) ?_
        refine lv_iadd hx hb dX12_image_63 ?_
        refine lv_aload_n hx hb dX12_image_64 rfl (lv_at hl 0 rfl) ?_
        refine gM_0_9 C hJ fl_RX12_29 dX12_image_65 ?_
        refine lv_iload_n hx hb dX12_image_68 rfl (lv_at hl 1 rfl) ?_
        obtain ⟨h11, hf⟩ := gi_some hf
        refine aM_6 C hJ h11 dX12_image_69 ?_
        obtain ⟨h12, hf⟩ := gi_some hf
        refine sM_29 C hJ h12 dX12_image_70 (fun σ13 H locs hs hJ => ?_)
        have hf := bnd_at hf hs
        refine lv_iconst (v := 0) hx hb dX12_image_71 (by decide) ?_
        refine lv_istore_n (lv' := [(2, .int (0 : Int32)), (0, .ref (q 0)), (1, .int a1)]) hx hb dX12_image_72 rfl hl (by decide) rfl (fun ls hl => ?_)
        exact l73 N σ13 a1 (0 : Int32) _ _ _ hf hJ (lv_sub hl [1, 2, 0] rfl)
  have hl : lv_has ls 3 [(0, .ref (q 0))] := hl
  unfold fM_image at hf
  refine lv_aload_n hx hb dX12_image_0 rfl (lv_at hl 0 rfl) ?_
  refine lv_iconst (v := 1) hx hb dX12_image_1 (by decide) ?_
  refine pM_0_55 C hJ (by decide) fl_RX12_445 dX12_image_2 (fun σ14 H locs hs hJ => ?_)
  have hf := bnd_at hf hs
  refine lv_aload_n hx hb dX12_image_5 rfl (lv_at hl 0 rfl) ?_
  refine lv_aload_n hx hb dX12_image_6 rfl (lv_at hl 0 rfl) ?_
  refine gM_0_11 C hJ fl_RX12_135 dX12_image_7 ?_
  refine pM_0_56 C hJ fl_RX12_448 dX12_image_10 (fun σ15 H locs hs hJ => ?_)
  have hf := bnd_at hf hs
  refine lv_aload_n hx hb dX12_image_13 rfl (lv_at hl 0 rfl) ?_
  refine lv_aload_n hx hb dX12_image_14 rfl (lv_at hl 0 rfl) ?_
  refine gM_0_12 C hJ fl_RX12_247 dX12_image_15 ?_
  refine pM_0_57 C hJ fl_RX12_451 dX12_image_18 (fun σ16 H locs hs hJ => ?_)
  have hf := bnd_at hf hs
  refine lv_aload_n hx hb dX12_image_21 rfl (lv_at hl 0 rfl) ?_
  refine lv_aload_n hx hb dX12_image_22 rfl (lv_at hl 0 rfl) ?_
  refine gM_0_4 C hJ fl_RX12_303 dX12_image_23 ?_
  refine pM_0_58 C hJ fl_RX12_454 dX12_image_26 (fun σ17 H locs hs hJ => ?_)
  have hf := bnd_at hf hs
  refine lv_iconst (v := 0) hx hb dX12_image_29 (by decide) ?_
  refine lv_istore_n (lv' := [(1, .int (0 : Int32)), (0, .ref (q 0))]) hx hb dX12_image_30 rfl hl (by decide) rfl (fun ls hl => ?_)
  exact l31 N σ17 (0 : Int32) _ _ _ hf hJ (lv_sub hl [1, 0] rfl)
