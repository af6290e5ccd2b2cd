set_option maxHeartbeats 4000000 in
set_option maxRecDepth 100000 in
theorem cM_back {l : Launch} {D : va_G} {cA cB : ClassId} {q : Nat → Nat} {A : Nat → Prop} {E : State → Prop} {N : Nat} {σ σ' : St} {r : Int32} (hF : Fr (wM q cA cB) A E) (hf : fM_back N σ  = some (σ', r)) : MI l yX12_back cX12_back 3 .int 1 D (tyM cA cB) (wM q cA cB) A E [.ref (q 0)] σ σ' r := by
  refine MI_of (by decide) hF (Nat.le_of_ble_eq_true rfl) ?_
  intro p e s m args below meth c Q C hret hJ ls hl
  obtain ⟨hx, hb, hml, hown, hts, hK, hE, -⟩ := id C
  have hsb : ∀ z, A z → A z := fun _ h => h
  have l28 : ∀ (n : Nat) (σ : St) (a1 : Int32) (H : Heap) (locs : List Loc) (ls : Array Slot), fM_back_l28 N  n σ a1 = some (σ', r) → J D (wM q cA cB) A s σ H locs → lv_has ls 3 [(0, .ref (q 0)), (1, .int a1)] → W p l e (rmH 1) s m args below meth c H locs 0 0 Q (F0 m 28 ls []) := by
    intro n28
    induction n28 with
    | zero => intro σ a1 H locs ls hf; rw [fM_back_l28] at hf; cases hf
    | succ n28 ih28 =>
      have j104 : ∀ (σ : St) (a1 : Int32) (H : Heap) (locs : List Loc) (ls : Array Slot), fM_back_j104 N (fM_back_l28 N  n28) σ a1 = some (σ', r) → J D (wM q cA cB) A s σ H locs → lv_has ls 3 [(0, .ref (q 0)), (1, .int a1)] → W p l e (rmH 1) s m args below meth c H locs 0 0 Q (F0 m 104 ls []) := by
        intro σ a1 H locs ls hf hJ hl
        unfold fM_back_j104 at hf
        obtain ⟨x1, hx1⟩ : ∃ z : Int32, z = a1 + (1 : Int32) := ⟨_, rfl⟩
        have hf := bnd_at hf hx1
        refine lv_iinc (v := x1) (lv' := [(1, .int x1), (0, .ref (q 0))]) hx hb dX12_back_104 hl (k := 1) rfl (by rw [hx1]; rfl) (by decide) rfl (fun ls hl => ?_)
        refine lv_goto (tgt := 28) hx hb dX12_back_107 (by decide) ?_
        exact ih28 σ x1 _ _ _ hf hJ (lv_sub hl [1, 0] rfl)
      have l70 : ∀ (n : Nat) (σ : St) (a1 : Int32) (a2 : Int32) (H : Heap) (locs : List Loc) (ls : Array Slot), fM_back_l70 N (fM_back_l28 N  n28) n σ a1 a2 = some (σ', r) → J D (wM q cA cB) A s σ H locs → lv_has ls 3 [(0, .ref (q 0)), (1, .int a1), (2, .int a2)] → W p l e (rmH 1) s m args below meth c H locs 0 0 Q (F0 m 70 ls []) := by
        intro n70
        induction n70 with
        | zero => intro σ a1 a2 H locs ls hf; rw [fM_back_l70] at hf; cases hf
        | succ n70 ih70 =>
          intro σ a1 a2 H locs ls hf hJ hl
          rw [fM_back_l70] at hf
          refine lv_iload_n hx hb dX12_back_70 rfl (lv_at hl 2 rfl) ?_
          refine lv_iconst (v := 4) hx hb dX12_back_71 (by decide) ?_
          refine lv_icmp_ge (tgt := 104) hx hb dX12_back_72 (by decide) (fun c2 => ?_) (fun c2 => ?_)
          · have hf := ite_t hf c2
            exact j104 σ a1 _ _ _ hf hJ (lv_sub hl [0, 1] rfl)
          · have hf := ite_f hf c2
            refine lv_aload_n hx hb dX12_back_75 rfl (lv_at hl 0 rfl) ?_
            refine gM_0_10 C hJ fl_RX12_32 dX12_back_76 ?_
            refine lv_iconst (v := 4) hx hb dX12_back_79 (by decide) ?_
            refine lv_iload_n hx hb dX12_back_80 rfl (lv_at hl 1 rfl) ?_
            refine lv_imul hx hb dX12_back_81 ?_
            refine lv_iload_n hx hb dX12_back_82 rfl (lv_at hl 2 rfl) ?_
            refine lv_iadd hx hb dX12_back_83 ?_
            refine lv_aload_n hx hb dX12_back_84 rfl (lv_at hl 0 rfl) ?_
            refine gM_0_54 C hJ fl_RX12_98 dX12_back_85 ?_
            refine lv_bipush (v := 6) hx hb dX12_back_88 (by decide) ?_
            refine lv_iload_n hx hb dX12_back_90 rfl (lv_at hl 1 rfl) ?_
            refine lv_imul hx hb dX12_back_91 ?_
            refine lv_iconst (v := 2) hx hb dX12_back_92 (by decide) ?_
            refine lv_iadd hx hb dX12_back_93 ?_
            refine lv_iload_n hx hb dX12_back_94 rfl (lv_at hl 2 rfl) ?_
            refine lv_iadd hx hb dX12_back_95 ?_
            obtain ⟨h3, hf⟩ := gi_some hf
            refine aM_29 C hJ h3 dX12_back_96 ?_
            obtain ⟨h4, hf⟩ := gi_some hf
            refine sM_7 C hJ h4 dX12_back_97 (fun σ5 H locs hs hJ => ?_)
            have hf := bnd_at hf hs
            obtain ⟨x6, hx6⟩ : ∃ z : Int32, z = a2 + (1 : Int32) := ⟨_, rfl⟩
            have hf := bnd_at hf hx6
            refine lv_iinc (v := x6) (lv' := [(2, .int x6), (0, .ref (q 0)), (1, .int a1)]) hx hb dX12_back_98 hl (k := 2) rfl (by rw [hx6]; rfl) (by decide) rfl (fun ls hl => ?_)
            refine lv_goto (tgt := 70) hx hb dX12_back_101 (by decide) ?_
            exact ih70 σ5 a1 x6 _ _ _ hf hJ (lv_sub hl [1, 2, 0] rfl)
      intro σ a1 H locs ls hf hJ hl
      rw [fM_back_l28] at hf
      refine lv_iload_n hx hb dX12_back_28 rfl (lv_at hl 1 rfl) ?_
      refine lv_aload_n hx hb dX12_back_29 rfl (lv_at hl 0 rfl) ?_
      refine gM_0_56 C hJ fl_RX12_448 dX12_back_30 ?_
      refine lv_icmp_ge (tgt := 110) hx hb dX12_back_33 (by decide) (fun c7 => ?_) (fun c7 => ?_)
      · have hf := ite_t hf c7
        refine lv_aload_n hx hb dX12_back_110 rfl (lv_at hl 0 rfl) ?_
        refine gM_0_12 C hJ fl_RX12_247 dX12_back_111 ?_
        exact ret_I hret hJ hf rfl dX12_back_114
      · have hf := ite_f hf c7
        refine lv_aload_n hx hb dX12_back_36 rfl (lv_at hl 0 rfl) ?_
        refine gM_0_8 C hJ fl_RX12_26 dX12_back_37 ?_
        refine lv_iload_n hx hb dX12_back_40 rfl (lv_at hl 1 rfl) ?_
        refine lv_aload_n hx hb dX12_back_41 rfl (lv_at hl 0 rfl) ?_
        refine gM_0_54 C hJ fl_RX12_98 dX12_back_42 ?_
        refine lv_bipush (v := 6) hx hb dX12_back_45 (by decide) ?_
        refine lv_iload_n hx hb dX12_back_47 rfl (lv_at hl 1 rfl) ?_
        refine lv_imul hx hb dX12_back_48 ?_
        obtain ⟨h8, hf⟩ := gi_some hf
        refine aM_29 C hJ h8 dX12_back_49 ?_
        obtain ⟨h9, hf⟩ := gi_some hf
        refine sM_5 C hJ h9 dX12_back_50 (fun σ10 H locs hs hJ => ?_)
        have hf := bnd_at hf hs
        refine lv_aload_n hx hb dX12_back_51 rfl (lv_at hl 0 rfl) ?_
        refine gM_0_9 C hJ fl_RX12_29 dX12_back_52 ?_
        refine lv_iload_n hx hb dX12_back_55 rfl (lv_at hl 1 rfl) ?_
        refine lv_aload_n hx hb dX12_back_56 rfl (lv_at hl 0 rfl) ?_
        refine gM_0_54 C hJ fl_RX12_98 dX12_back_57 ?_
        refine lv_bipush (v := 6) hx hb dX12_back_60 (by decide) ?_
        refine lv_iload_n hx hb dX12_back_62 rfl (lv_at hl 1 rfl) ?_
        refine lv_imul hx hb dX12_back_63 ?_
        refine lv_iconst (v := 1) hx hb dX12_back_64 (by decide) ?_
        refine lv_iadd hx hb dX12_back_65 ?_
        obtain ⟨h11, hf⟩ := gi_some hf
        refine aM_29 C hJ h11 dX12_back_66 ?_
        obtain ⟨h12, hf⟩ := gi_some hf
        refine sM_6 C hJ h12 dX12_back_67 (fun σ13 H locs hs hJ => ?_)
        have hf := bnd_at hf hs
        refine lv_iconst (v := 0) hx hb dX12_back_68 (by decide) ?_
        refine lv_istore_n (lv' := [(2, .int (0 : Int32)), (0, .ref (q 0)), (1, .int a1)]) hx hb dX12_back_69 rfl hl (by decide) rfl (fun ls hl => ?_)
        exact l70 N σ13 a1 (0 : Int32) _ _ _ hf hJ (lv_sub hl [1, 2, 0] rfl)
  have hl : lv_has ls 3 [(0, .ref (q 0))] := hl
  unfold fM_back at hf
  refine lv_aload_n hx hb dX12_back_0 rfl (lv_at hl 0 rfl) ?_
  refine gM_0_55 C hJ fl_RX12_445 dX12_back_1 ?_
  refine lv_if_ne (tgt := 10) hx hb dX12_back_4 (by decide) (fun c14 => ?_) (fun c14 => ?_)
  · have hf := ite_f hf c14
    refine lv_aload_n hx hb dX12_back_10 rfl (lv_at hl 0 rfl) ?_
    refine lv_aload_n hx hb dX12_back_11 rfl (lv_at hl 0 rfl) ?_
    refine gM_0_57 C hJ fl_RX12_451 dX12_back_12 ?_
    refine pM_0_12 C hJ fl_RX12_247 dX12_back_15 (fun σ15 H locs hs hJ => ?_)
    have hf := bnd_at hf hs
    refine lv_aload_n hx hb dX12_back_18 rfl (lv_at hl 0 rfl) ?_
    refine lv_aload_n hx hb dX12_back_19 rfl (lv_at hl 0 rfl) ?_
    refine gM_0_58 C hJ fl_RX12_454 dX12_back_20 ?_
    refine pM_0_4 C hJ fl_RX12_303 dX12_back_23 (fun σ16 H locs hs hJ => ?_)
    have hf := bnd_at hf hs
    refine lv_iconst (v := 0) hx hb dX12_back_26 (by decide) ?_
    refine lv_istore_n (lv' := [(1, .int (0 : Int32)), (0, .ref (q 0))]) hx hb dX12_back_27 rfl hl (by decide) rfl (fun ls hl => ?_)
    exact l28 N σ16 (0 : Int32) _ _ _ hf hJ (lv_sub hl [1, 0] rfl)
  · have hf := ite_t hf c14
    refine lv_bipush (v := -3) hx hb dX12_back_7 (by decide) ?_
    exact ret_I hret hJ hf rfl dX12_back_9
set_option maxHeartbeats 4000000 in
set_option maxRecDepth 100000 in
theorem cM_count {l : Launch} {D : va_G} {cA cB : ClassId} {q : Nat → Nat} {A : Nat → Prop} {E : State → Prop} {N : Nat} {σ σ' : St} {r : Int32} {a1 : Int32} (hF : Fr (wM q cA cB) A E) (hf : fM_count N σ a1 = some (σ', r)) : MI l yX12_count cX12_count 2 .int 1 D (tyM cA cB) (wM q cA cB) A E [.ref (q 0), .int a1] σ σ' r := by
  refine MI_of (by decide) hF (Nat.le_of_ble_eq_true rfl) ?_
  intro p e s m args below meth c Q C hret hJ ls hl
  obtain ⟨hx, hb, hml, hown, hts, hK, hE, -⟩ := id C
  have hsb : ∀ z, A z → A z := fun _ h => h
  have hl : lv_has ls 2 [(0, .ref (q 0)), (1, .int a1)] := hl
  unfold fM_count at hf
  refine lv_iload_n hx hb dX12_count_0 rfl (lv_at hl 1 rfl) ?_
  by_cases c1 : a1 = (0 : Int32)
  · have hf := ite_t hf c1
    refine lv_tableIn (off := 55) (tgt := 56) hx hb dX12_count_1 (by rw [c1]; decide) (by rw [c1]; decide) (by rw [c1]; rfl) (by decide) ?_
    refine lv_aload_n hx hb dX12_count_56 rfl (lv_at hl 0 rfl) ?_
    refine gM_0_11 C hJ fl_RX12_135 dX12_count_57 ?_
    exact ret_I hret hJ hf rfl dX12_count_60
  have hf := ite_f hf c1
  by_cases c2 : a1 = (1 : Int32)
  · have hf := ite_t hf c2
    refine lv_tableIn (off := 60) (tgt := 61) hx hb dX12_count_1 (by rw [c2]; decide) (by rw [c2]; decide) (by rw [c2]; rfl) (by decide) ?_
    refine lv_aload_n hx hb dX12_count_61 rfl (lv_at hl 0 rfl) ?_
    refine gM_0_31 C hJ fl_RX12_343 dX12_count_62 ?_
    exact ret_I hret hJ hf rfl dX12_count_65
  have hf := ite_f hf c2
  by_cases c3 : a1 = (2 : Int32)
  · have hf := ite_t hf c3
    refine lv_tableIn (off := 65) (tgt := 66) hx hb dX12_count_1 (by rw [c3]; decide) (by rw [c3]; decide) (by rw [c3]; rfl) (by decide) ?_
    refine lv_aload_n hx hb dX12_count_66 rfl (lv_at hl 0 rfl) ?_
    refine gM_0_34 C hJ fl_RX12_358 dX12_count_67 ?_
    exact ret_I hret hJ hf rfl dX12_count_70
  have hf := ite_f hf c3
  by_cases c4 : a1 = (3 : Int32)
  · have hf := ite_t hf c4
    refine lv_tableIn (off := 70) (tgt := 71) hx hb dX12_count_1 (by rw [c4]; decide) (by rw [c4]; decide) (by rw [c4]; rfl) (by decide) ?_
    refine lv_aload_n hx hb dX12_count_71 rfl (lv_at hl 0 rfl) ?_
    refine gM_0_41 C hJ fl_RX12_363 dX12_count_72 ?_
    exact ret_I hret hJ hf rfl dX12_count_75
  have hf := ite_f hf c4
  by_cases c5 : a1 = (4 : Int32)
  · have hf := ite_t hf c5
    refine lv_tableIn (off := 75) (tgt := 76) hx hb dX12_count_1 (by rw [c5]; decide) (by rw [c5]; decide) (by rw [c5]; rfl) (by decide) ?_
    refine lv_aload_n hx hb dX12_count_76 rfl (lv_at hl 0 rfl) ?_
    refine gM_0_47 C hJ fl_RX12_417 dX12_count_77 ?_
    exact ret_I hret hJ hf rfl dX12_count_80
  have hf := ite_f hf c5
  by_cases c6 : a1 = (5 : Int32)
  · have hf := ite_t hf c6
    refine lv_tableIn (off := 80) (tgt := 81) hx hb dX12_count_1 (by rw [c6]; decide) (by rw [c6]; decide) (by rw [c6]; rfl) (by decide) ?_
    refine lv_aload_n hx hb dX12_count_81 rfl (lv_at hl 0 rfl) ?_
    refine gM_0_53 C hJ fl_RX12_439 dX12_count_82 ?_
    exact ret_I hret hJ hf rfl dX12_count_85
  have hf := ite_f hf c6
  by_cases c7 : a1 = (6 : Int32)
  · have hf := ite_t hf c7
    refine lv_tableIn (off := 85) (tgt := 86) hx hb dX12_count_1 (by rw [c7]; decide) (by rw [c7]; decide) (by rw [c7]; rfl) (by decide) ?_
    refine lv_aload_n hx hb dX12_count_86 rfl (lv_at hl 0 rfl) ?_
    refine gM_0_3 C hJ fl_RX12_130 dX12_count_87 ?_
    exact ret_I hret hJ hf rfl dX12_count_90
  have hf := ite_f hf c7
  by_cases c8 : a1 = (7 : Int32)
  · have hf := ite_t hf c8
    refine lv_tableIn (off := 90) (tgt := 91) hx hb dX12_count_1 (by rw [c8]; decide) (by rw [c8]; decide) (by rw [c8]; rfl) (by decide) ?_
    refine lv_aload_n hx hb dX12_count_91 rfl (lv_at hl 0 rfl) ?_
    refine gM_0_6 C hJ fl_RX12_164 dX12_count_92 ?_
    exact ret_I hret hJ hf rfl dX12_count_95
  have hf := ite_f hf c8
  by_cases c9 : a1 = (8 : Int32)
  · have hf := ite_t hf c9
    refine lv_tableIn (off := 95) (tgt := 96) hx hb dX12_count_1 (by rw [c9]; decide) (by rw [c9]; decide) (by rw [c9]; rfl) (by decide) ?_
    refine lv_aload_n hx hb dX12_count_96 rfl (lv_at hl 0 rfl) ?_
    refine gM_0_4 C hJ fl_RX12_303 dX12_count_97 ?_
    exact ret_I hret hJ hf rfl dX12_count_100
  have hf := ite_f hf c9
  by_cases c10 : a1 = (9 : Int32)
  · have hf := ite_t hf c10
    refine lv_tableIn (off := 100) (tgt := 101) hx hb dX12_count_1 (by rw [c10]; decide) (by rw [c10]; decide) (by rw [c10]; rfl) (by decide) ?_
    refine lv_aload_n hx hb dX12_count_101 rfl (lv_at hl 0 rfl) ?_
    refine gM_0_12 C hJ fl_RX12_247 dX12_count_102 ?_
    exact ret_I hret hJ hf rfl dX12_count_105
  have hf := ite_f hf c10
  refine lv_tableOut (tgt := 106) hx hb dX12_count_1 (by have ec1 : a1.toInt ≠ 0 := fun h => c1 (Int32.toInt_inj.mp (h.trans (by decide))); have ec2 : a1.toInt ≠ 1 := fun h => c2 (Int32.toInt_inj.mp (h.trans (by decide))); have ec3 : a1.toInt ≠ 2 := fun h => c3 (Int32.toInt_inj.mp (h.trans (by decide))); have ec4 : a1.toInt ≠ 3 := fun h => c4 (Int32.toInt_inj.mp (h.trans (by decide))); have ec5 : a1.toInt ≠ 4 := fun h => c5 (Int32.toInt_inj.mp (h.trans (by decide))); have ec6 : a1.toInt ≠ 5 := fun h => c6 (Int32.toInt_inj.mp (h.trans (by decide))); have ec7 : a1.toInt ≠ 6 := fun h => c7 (Int32.toInt_inj.mp (h.trans (by decide))); have ec8 : a1.toInt ≠ 7 := fun h => c8 (Int32.toInt_inj.mp (h.trans (by decide))); have ec9 : a1.toInt ≠ 8 := fun h => c9 (Int32.toInt_inj.mp (h.trans (by decide))); have ec10 : a1.toInt ≠ 9 := fun h => c10 (Int32.toInt_inj.mp (h.trans (by decide))); omega) (by decide) ?_
  refine lv_bipush (v := -2) hx hb dX12_count_106 (by decide) ?_
  exact ret_I hret hJ hf rfl dX12_count_108
set_option maxHeartbeats 4000000 in
set_option maxRecDepth 100000 in
theorem cM_sheet {l : Launch} {D : va_G} {cA cB : ClassId} {q : Nat → Nat} {A : Nat → Prop} {E : State → Prop} {N : Nat} {σ σ' : St} {r : Int32} {a1 : Int32} {a2 : Int32} {a3 : Int32} (hF : Fr (wM q cA cB) A E) (hf : fM_sheet N σ a1 a2 a3 = some (σ', r)) : MI l yX12_sheet cX12_sheet 5 .int 3 D (tyM cA cB) (wM q cA cB) A E [.ref (q 0), .int a1, .int a2, .int a3] σ σ' r := by
  refine MI_of (by decide) hF (Nat.le_of_ble_eq_true rfl) ?_
  intro p e s m args below meth c Q C hret hJ ls hl
  obtain ⟨hx, hb, hml, hown, hts, hK, hE, -⟩ := id C
  have hsb : ∀ z, A z → A z := fun _ h => h
  have l77 : ∀ (n : Nat) (σ : St) (a1 : Int32) (a2 : Int32) (a3 : Int32) (a4 : Int32) (H : Heap) (locs : List Loc) (ls : Array Slot), fM_sheet_l77 N  n σ a1 a2 a3 a4 = some (σ', r) → J D (wM q cA cB) A s σ H locs → lv_has ls 5 [(0, .ref (q 0)), (1, .int a1), (2, .int a2), (3, .int a3), (4, .int a4)] → W p l e (rmH 3) s m args below meth c H locs 0 0 Q (F0 m 77 ls []) := by
    intro n77
    induction n77 with
    | zero => intro σ a1 a2 a3 a4 H locs ls hf; rw [fM_sheet_l77] at hf; cases hf
    | succ n77 ih77 =>
      intro σ a1 a2 a3 a4 H locs ls hf hJ hl
      rw [fM_sheet_l77] at hf
      refine lv_iload hx hb dX12_sheet_77 (lv_at hl 4 rfl) ?_
      refine lv_iload_n hx hb dX12_sheet_79 rfl (lv_at hl 3 rfl) ?_
      refine lv_icmp_ge (tgt := 106) hx hb dX12_sheet_80 (by decide) (fun c1 => ?_) (fun c1 => ?_)
      · have hf := ite_t hf c1
        refine lv_iconst (v := 1) hx hb dX12_sheet_106 (by decide) ?_
        exact ret_I hret hJ hf rfl dX12_sheet_107
      · have hf := ite_f hf c1
        refine lv_iload_n hx hb dX12_sheet_83 rfl (lv_at hl 2 rfl) ?_
        refine lv_if_lt (tgt := 106) hx hb dX12_sheet_84 (by decide) (fun c2 => ?_) (fun c2 => ?_)
        · have hf := ite_t hf c2
          refine lv_iconst (v := 1) hx hb dX12_sheet_106 (by decide) ?_
          exact ret_I hret hJ hf rfl dX12_sheet_107
        · have hf := ite_f hf c2
          refine lv_aload_n hx hb dX12_sheet_87 rfl (lv_at hl 0 rfl) ?_
          refine gM_0_62 C hJ fl_RX12_111 dX12_sheet_88 ?_
          refine lv_bipush (v := 40) hx hb dX12_sheet_91 (by decide) ?_
          refine lv_iload_n hx hb dX12_sheet_93 rfl (lv_at hl 1 rfl) ?_
          refine lv_imul hx hb dX12_sheet_94 ?_
          refine lv_iload hx hb dX12_sheet_95 (lv_at hl 4 rfl) ?_
          refine lv_iadd hx hb dX12_sheet_97 ?_
          refine lv_iconst (v := 0) hx hb dX12_sheet_98 (by decide) ?_
          obtain ⟨h3, hf⟩ := gi_some hf
          refine sM_33 C hJ h3 dX12_sheet_99 (fun σ4 H locs hs hJ => ?_)
          have hf := bnd_at hf hs
          obtain ⟨x5, hx5⟩ : ∃ z : Int32, z = a4 + (1 : Int32) := ⟨_, rfl⟩
          have hf := bnd_at hf hx5
          refine lv_iinc (v := x5) (lv' := [(4, .int x5), (0, .ref (q 0)), (1, .int a1), (2, .int a2), (3, .int a3)]) hx hb dX12_sheet_100 hl (k := 4) rfl (by rw [hx5]; rfl) (by decide) rfl (fun ls hl => ?_)
          refine lv_goto (tgt := 77) hx hb dX12_sheet_103 (by decide) ?_
          exact ih77 σ4 a1 a2 a3 x5 _ _ _ hf hJ (lv_sub hl [1, 2, 3, 4, 0] rfl)
  have j59 : ∀ (σ : St) (a1 : Int32) (a2 : Int32) (a3 : Int32) (t1 : Int32) (t2 : Int32) (H : Heap) (locs : List Loc) (ls : Array Slot), fM_sheet_j59 N  σ a1 a2 a3 t1 t2 = some (σ', r) → J D (wM q cA cB) A s σ H locs → lv_has ls 5 [(0, .ref (q 0)), (1, .int a1), (2, .int a2), (3, .int a3)] → W p l e (rmH 3) s m args below meth c H locs 0 0 Q (F0 m 59 ls [.int t2, .int t1, .ref (q 30)]) := by
    intro σ a1 a2 a3 t1 t2 H locs ls hf hJ hl
    unfold fM_sheet_j59 at hf
    obtain ⟨h6, hf⟩ := gi_some hf
    refine sM_30 C hJ h6 dX12_sheet_59 (fun σ7 H locs hs hJ => ?_)
    have hf := bnd_at hf hs
    refine lv_aload_n hx hb dX12_sheet_60 rfl (lv_at hl 0 rfl) ?_
    refine gM_0_60 C hJ fl_RX12_105 dX12_sheet_61 ?_
    refine lv_iload_n hx hb dX12_sheet_64 rfl (lv_at hl 1 rfl) ?_
    refine lv_iload_n hx hb dX12_sheet_65 rfl (lv_at hl 2 rfl) ?_
    obtain ⟨h8, hf⟩ := gi_some hf
    refine sM_31 C hJ h8 dX12_sheet_66 (fun σ9 H locs hs hJ => ?_)
    have hf := bnd_at hf hs
    refine lv_aload_n hx hb dX12_sheet_67 rfl (lv_at hl 0 rfl) ?_
    refine gM_0_61 C hJ fl_RX12_108 dX12_sheet_68 ?_
    refine lv_iload_n hx hb dX12_sheet_71 rfl (lv_at hl 1 rfl) ?_
    refine lv_iload_n hx hb dX12_sheet_72 rfl (lv_at hl 3 rfl) ?_
    obtain ⟨h10, hf⟩ := gi_some hf
    refine sM_32 C hJ h10 dX12_sheet_73 (fun σ11 H locs hs hJ => ?_)
    have hf := bnd_at hf hs
    refine lv_iconst (v := 0) hx hb dX12_sheet_74 (by decide) ?_
    refine lv_istore (lv' := [(4, .int (0 : Int32)), (0, .ref (q 0)), (1, .int a1), (2, .int a2), (3, .int a3)]) hx hb dX12_sheet_75 hl (by decide) rfl (fun ls hl => ?_)
    exact l77 N σ11 a1 a2 a3 (0 : Int32) _ _ _ hf hJ (lv_sub hl [1, 2, 3, 4, 0] rfl)
  have j45 : ∀ (σ : St) (a1 : Int32) (a2 : Int32) (a3 : Int32) (H : Heap) (locs : List Loc) (ls : Array Slot), fM_sheet_j45 N  σ a1 a2 a3 = some (σ', r) → J D (wM q cA cB) A s σ H locs → lv_has ls 5 [(0, .ref (q 0)), (1, .int a1), (2, .int a2), (3, .int a3)] → W p l e (rmH 3) s m args below meth c H locs 0 0 Q (F0 m 45 ls []) := by
    intro σ a1 a2 a3 H locs ls hf hJ hl
    unfold fM_sheet_j45 at hf
    refine lv_aload_n hx hb dX12_sheet_45 rfl (lv_at hl 0 rfl) ?_
    refine gM_0_59 C hJ fl_RX12_101 dX12_sheet_46 ?_
    refine lv_iload_n hx hb dX12_sheet_49 rfl (lv_at hl 1 rfl) ?_
    refine lv_iload_n hx hb dX12_sheet_50 rfl (lv_at hl 2 rfl) ?_
    refine lv_if_lt (tgt := 58) hx hb dX12_sheet_51 (by decide) (fun c12 => ?_) (fun c12 => ?_)
    · have hf := ite_t hf c12
      refine lv_iconst (v := 0) hx hb dX12_sheet_58 (by decide) ?_
      exact j59 σ a1 a2 a3 a1 (0 : Int32) _ _ _ hf hJ (lv_sub hl [0, 1, 2, 3] rfl)
    · have hf := ite_f hf c12
      refine lv_iconst (v := 1) hx hb dX12_sheet_54 (by decide) ?_
      refine lv_goto (tgt := 59) hx hb dX12_sheet_55 (by decide) ?_
      exact j59 σ a1 a2 a3 a1 (1 : Int32) _ _ _ hf hJ (lv_sub hl [0, 1, 2, 3] rfl)
  have j34 : ∀ (σ : St) (a1 : Int32) (a2 : Int32) (a3 : Int32) (H : Heap) (locs : List Loc) (ls : Array Slot), fM_sheet_j34 N  σ a1 a2 a3 = some (σ', r) → J D (wM q cA cB) A s σ H locs → lv_has ls 5 [(0, .ref (q 0)), (1, .int a1), (2, .int a2), (3, .int a3)] → W p l e (rmH 3) s m args below meth c H locs 0 0 Q (F0 m 34 ls []) := by
    intro σ a1 a2 a3 H locs ls hf hJ hl
    unfold fM_sheet_j34 at hf
    refine lv_iload_n hx hb dX12_sheet_34 rfl (lv_at hl 2 rfl) ?_
    refine lv_if_lt (tgt := 45) hx hb dX12_sheet_35 (by decide) (fun c13 => ?_) (fun c13 => ?_)
    · have hf := ite_t hf c13
      exact j45 σ a1 a2 a3 _ _ _ hf hJ (lv_sub hl [0, 1, 2, 3] rfl)
    · have hf := ite_f hf c13
      refine lv_iload_n hx hb dX12_sheet_38 rfl (lv_at hl 3 rfl) ?_
      refine lv_if_ge (tgt := 45) hx hb dX12_sheet_39 (by decide) (fun c14 => ?_) (fun c14 => ?_)
      · have hf := ite_t hf c14
        exact j45 σ a1 a2 a3 _ _ _ hf hJ (lv_sub hl [0, 1, 2, 3] rfl)
      · have hf := ite_f hf c14
        refine lv_bipush (v := -14) hx hb dX12_sheet_42 (by decide) ?_
        exact ret_I hret hJ hf rfl dX12_sheet_44
  have hl : lv_has ls 5 [(0, .ref (q 0)), (1, .int a1), (2, .int a2), (3, .int a3)] := hl
  unfold fM_sheet at hf
  refine lv_iload_n hx hb dX12_sheet_0 rfl (lv_at hl 1 rfl) ?_
  obtain ⟨σ15, r16, hg17, hf⟩ := cal_some hf
  refine backI hsb hJ (runS (As := [.int a1]) (rest := []) C hJ lk_RX12_407 (cM_isSheet hF hg17) rfl rfl (Nat.le_of_ble_eq_true rfl) hl.1 (hR_of (by omega) (by decide)) ⟨Nat.le_refl _, Nat.le_refl _⟩ dX12_sheet_1) (fun H locs hJ => ?_)
  refine lv_if_eq (tgt := 31) hx hb dX12_sheet_4 (by decide) (fun c18 => ?_) (fun c18 => ?_)
  · have hf := ite_t hf c18
    refine lv_bipush (v := -2) hx hb dX12_sheet_31 (by decide) ?_
    exact ret_I hret hJ hf rfl dX12_sheet_33
  · have hf := ite_f hf c18
    refine lv_iload_n hx hb dX12_sheet_7 rfl (lv_at hl 2 rfl) ?_
    refine lv_i2l (v := a2.toInt64) hx hb dX12_sheet_8 rfl ?_
    refine lv_ldc2 (v := -1) hx hb hown (hts _ kl_RX12_198) dX12_sheet_9 ?_
    refine lv_ldc2 (v := 2) hx hb hown (hts _ kl_RX12_309) dX12_sheet_12 ?_
    obtain ⟨σ19, r20, hg21, hf⟩ := cal_some hf
    refine backI hsb hJ (runS (As := [.long a2.toInt64, .long (-1 : Int64), .long (2 : Int64)]) (rest := []) C hJ lk_RX12_138 (cM_in hF hg21) rfl rfl (Nat.le_of_ble_eq_true rfl) hl.1 (hR_of (by omega) (by decide)) ⟨Nat.le_refl _, Nat.le_refl _⟩ dX12_sheet_15) (fun H locs hJ => ?_)
    refine lv_if_eq (tgt := 31) hx hb dX12_sheet_18 (by decide) (fun c22 => ?_) (fun c22 => ?_)
    · have hf := ite_t hf c22
      refine lv_bipush (v := -2) hx hb dX12_sheet_31 (by decide) ?_
      exact ret_I hret hJ hf rfl dX12_sheet_33
    · have hf := ite_f hf c22
      refine lv_iload_n hx hb dX12_sheet_21 rfl (lv_at hl 2 rfl) ?_
      refine lv_if_lt (tgt := 34) hx hb dX12_sheet_22 (by decide) (fun c23 => ?_) (fun c23 => ?_)
      · have hf := ite_t hf c23
        exact j34 σ19 a1 a2 a3 _ _ _ hf hJ (lv_sub hl [0, 1, 2, 3] rfl)
      · have hf := ite_f hf c23
        refine lv_iload_n hx hb dX12_sheet_25 rfl (lv_at hl 3 rfl) ?_
        refine lv_bipush (v := 40) hx hb dX12_sheet_26 (by decide) ?_
        refine lv_icmp_le (tgt := 34) hx hb dX12_sheet_28 (by decide) (fun c24 => ?_) (fun c24 => ?_)
        · have hf := ite_t hf c24
          exact j34 σ19 a1 a2 a3 _ _ _ hf hJ (lv_sub hl [0, 1, 2, 3] rfl)
        · have hf := ite_f hf c24
          refine lv_bipush (v := -2) hx hb dX12_sheet_31 (by decide) ?_
          exact ret_I hret hJ hf rfl dX12_sheet_33
set_option maxHeartbeats 4000000 in
set_option maxRecDepth 100000 in
theorem cM_cell {l : Launch} {D : va_G} {cA cB : ClassId} {q : Nat → Nat} {A : Nat → Prop} {E : State → Prop} {N : Nat} {σ σ' : St} {r : Int32} {a1 : Int32} {a2 : Int32} {a3 : Int32} (hF : Fr (wM q cA cB) A E) (hf : fM_cell N σ a1 a2 a3 = some (σ', r)) : MI l yX12_cell cX12_cell 4 .int 3 D (tyM cA cB) (wM q cA cB) A E [.ref (q 0), .int a1, .int a2, .int a3] σ σ' r := by
  refine MI_of (by decide) hF (Nat.le_of_ble_eq_true rfl) ?_
  intro p e s m args below meth c Q C hret hJ ls hl
  obtain ⟨hx, hb, hml, hown, hts, hK, hE, -⟩ := id C
  have hsb : ∀ z, A z → A z := fun _ h => h
  have j83 : ∀ (σ : St) (t1 : Int32) (t2 : Int32) (H : Heap) (locs : List Loc) (ls : Array Slot), fM_cell_j83 N  σ t1 t2 = some (σ', r) → J D (wM q cA cB) A s σ H locs → lv_has ls 4 [] → W p l e (rmH 3) s m args below meth c H locs 0 0 Q (F0 m 83 ls [.int t2, .int t1, .ref (q 33)]) := by
    intro σ t1 t2 H locs ls hf hJ hl
    unfold fM_cell_j83 at hf
    obtain ⟨h1, hf⟩ := gi_some hf
    refine sM_33 C hJ h1 dX12_cell_83 (fun σ2 H locs hs hJ => ?_)
    have hf := bnd_at hf hs
    refine lv_iconst (v := 1) hx hb dX12_cell_84 (by decide) ?_
    exact ret_I hret hJ hf rfl dX12_cell_85
  have hl : lv_has ls 4 [(0, .ref (q 0)), (1, .int a1), (2, .int a2), (3, .int a3)] := hl
  unfold fM_cell at hf
  refine lv_iload_n hx hb dX12_cell_0 rfl (lv_at hl 1 rfl) ?_
  obtain ⟨σ3, r4, hg5, hf⟩ := cal_some hf
  refine backI hsb hJ (runS (As := [.int a1]) (rest := []) C hJ lk_RX12_407 (cM_isSheet hF hg5) rfl rfl (Nat.le_of_ble_eq_true rfl) hl.1 (hR_of (by omega) (by decide)) ⟨Nat.le_refl _, Nat.le_refl _⟩ dX12_cell_1) (fun H locs hJ => ?_)
  refine lv_if_ne (tgt := 10) hx hb dX12_cell_4 (by decide) (fun c6 => ?_) (fun c6 => ?_)
  · have hf := ite_f hf c6
    refine lv_aload_n hx hb dX12_cell_10 rfl (lv_at hl 0 rfl) ?_
    refine gM_0_59 C hJ fl_RX12_101 dX12_cell_11 ?_
    refine lv_iload_n hx hb dX12_cell_14 rfl (lv_at hl 1 rfl) ?_
    obtain ⟨h7, hf⟩ := gi_some hf
    refine aM_30 C hJ h7 dX12_cell_15 ?_
    refine lv_if_ne (tgt := 22) hx hb dX12_cell_16 (by decide) (fun c8 => ?_) (fun c8 => ?_)
    · have hf := ite_f hf c8
      refine lv_iload_n hx hb dX12_cell_22 rfl (lv_at hl 2 rfl) ?_
      refine lv_i2l (v := a2.toInt64) hx hb dX12_cell_23 rfl ?_
      refine lv_lconst (v := 0) hx hb dX12_cell_24 (by decide) ?_
      refine lv_aload_n hx hb dX12_cell_25 rfl (lv_at hl 0 rfl) ?_
      refine gM_0_61 C hJ fl_RX12_108 dX12_cell_26 ?_
      refine lv_iload_n hx hb dX12_cell_29 rfl (lv_at hl 1 rfl) ?_
      obtain ⟨h9, hf⟩ := gi_some hf
      refine aM_32 C hJ h9 dX12_cell_30 ?_
      refine lv_iconst (v := 1) hx hb dX12_cell_31 (by decide) ?_
      refine lv_isub hx hb dX12_cell_32 ?_
      refine lv_i2l (v := ((σ3.2.1 32 a1.toNatClampNeg) - (1 : Int32)).toInt64) hx hb dX12_cell_33 rfl ?_
      obtain ⟨σ10, r11, hg12, hf⟩ := cal_some hf
      refine backI hsb hJ (runS (As := [.long a2.toInt64, .long (0 : Int64), .long (((σ3.2.1 32 a1.toNatClampNeg) - (1 : Int32)).toInt64)]) (rest := []) C hJ lk_RX12_138 (cM_in hF hg12) rfl rfl (Nat.le_of_ble_eq_true rfl) hl.1 (hR_of (by omega) (by decide)) ⟨Nat.le_refl _, Nat.le_refl _⟩ dX12_cell_34) (fun H locs hJ => ?_)
      refine lv_if_ne (tgt := 43) hx hb dX12_cell_37 (by decide) (fun c13 => ?_) (fun c13 => ?_)
      · have hf := ite_f hf c13
        refine lv_aload_n hx hb dX12_cell_43 rfl (lv_at hl 0 rfl) ?_
        refine gM_0_62 C hJ fl_RX12_111 dX12_cell_44 ?_
        refine lv_bipush (v := 40) hx hb dX12_cell_47 (by decide) ?_
        refine lv_iload_n hx hb dX12_cell_49 rfl (lv_at hl 1 rfl) ?_
        refine lv_imul hx hb dX12_cell_50 ?_
        refine lv_iload_n hx hb dX12_cell_51 rfl (lv_at hl 2 rfl) ?_
        refine lv_iadd hx hb dX12_cell_52 ?_
        refine lv_aload_n hx hb dX12_cell_53 rfl (lv_at hl 0 rfl) ?_
        refine gM_0_60 C hJ fl_RX12_105 dX12_cell_54 ?_
        refine lv_iload_n hx hb dX12_cell_57 rfl (lv_at hl 1 rfl) ?_
        obtain ⟨h14, hf⟩ := gi_some hf
        refine aM_31 C hJ h14 dX12_cell_58 ?_
        refine lv_if_ne (tgt := 67) hx hb dX12_cell_59 (by decide) (fun c15 => ?_) (fun c15 => ?_)
        · have hf := ite_f hf c15
          refine lv_aload_n hx hb dX12_cell_67 rfl (lv_at hl 0 rfl) ?_
          refine gM_0_60 C hJ fl_RX12_105 dX12_cell_68 ?_
          refine lv_iload_n hx hb dX12_cell_71 rfl (lv_at hl 1 rfl) ?_
          obtain ⟨h16, hf⟩ := gi_some hf
          refine aM_31 C hJ h16 dX12_cell_72 ?_
          refine lv_iconst (v := 1) hx hb dX12_cell_73 (by decide) ?_
          refine lv_icmp_ne (tgt := 82) hx hb dX12_cell_74 (by decide) (fun c17 => ?_) (fun c17 => ?_)
          · have hf := ite_f hf c17
            refine lv_iload_n hx hb dX12_cell_82 rfl (lv_at hl 3 rfl) ?_
            exact j83 σ10 (((40 : Int32) * a1) + a2) a3 _ _ _ hf hJ (lv_sub hl [] rfl)
          · have hf := ite_t hf c17
            refine lv_iload_n hx hb dX12_cell_77 rfl (lv_at hl 3 rfl) ?_
            refine lv_i2s (v := a3.toInt16.toInt32) hx hb dX12_cell_78 rfl ?_
            refine lv_goto (tgt := 83) hx hb dX12_cell_79 (by decide) ?_
            exact j83 σ10 (((40 : Int32) * a1) + a2) a3.toInt16.toInt32 _ _ _ hf hJ (lv_sub hl [] rfl)
        · have hf := ite_t hf c15
          refine lv_iload_n hx hb dX12_cell_62 rfl (lv_at hl 3 rfl) ?_
          refine lv_i2b (v := a3.toInt8.toInt32) hx hb dX12_cell_63 rfl ?_
          refine lv_goto (tgt := 83) hx hb dX12_cell_64 (by decide) ?_
          exact j83 σ10 (((40 : Int32) * a1) + a2) a3.toInt8.toInt32 _ _ _ hf hJ (lv_sub hl [] rfl)
      · have hf := ite_t hf c13
        refine lv_bipush (v := -12) hx hb dX12_cell_40 (by decide) ?_
        exact ret_I hret hJ hf rfl dX12_cell_42
    · have hf := ite_t hf c8
      refine lv_bipush (v := -11) hx hb dX12_cell_19 (by decide) ?_
      exact ret_I hret hJ hf rfl dX12_cell_21
  · have hf := ite_t hf c6
    refine lv_bipush (v := -2) hx hb dX12_cell_7 (by decide) ?_
    exact ret_I hret hJ hf rfl dX12_cell_9
set_option maxHeartbeats 4000000 in
set_option maxRecDepth 100000 in
theorem cM_copy {l : Launch} {D : va_G} {cA cB : ClassId} {q : Nat → Nat} {A : Nat → Prop} {E : State → Prop} {N : Nat} {σ σ' : St} {r : Int32} {a1 : Int32} {a2 : Int32} {a3 : Int32} {a4 : Int32} {a5 : Int32} (hF : Fr (wM q cA cB) A E) (hf : fM_copy N σ a1 a2 a3 a4 a5 = some (σ', r)) : MI l yX12_copy cX12_copy 9 .int 3 D (tyM cA cB) (wM q cA cB) A E [.ref (q 0), .int a1, .int a2, .int a3, .int a4, .int a5] σ σ' r := by
  refine MI_of (by decide) hF (Nat.le_of_ble_eq_true rfl) ?_
  intro p e s m args below meth c Q C hret hJ ls hl
  obtain ⟨hx, hb, hml, hown, hts, hK, hE, -⟩ := id C
  have hsb : ∀ z, A z → A z := fun _ h => h
  have l121 : ∀ (n : Nat) (σ : St) (a1 : Int32) (a2 : Int32) (a3 : Int32) (a4 : Int32) (a5 : Int32) (a6 : Int32) (a7 : Int32) (H : Heap) (locs : List Loc) (ls : Array Slot), fM_copy_l121 N  n σ a1 a2 a3 a4 a5 a6 a7 = some (σ', r) → J D (wM q cA cB) A s σ H locs → lv_has ls 9 [(0, .ref (q 0)), (1, .int a1), (2, .int a2), (3, .int a3), (4, .int a4), (5, .int a5), (6, .int a6), (7, .int a7)] → W p l e (rmH 3) s m args below meth c H locs 0 0 Q (F0 m 121 ls []) := by
    intro n121
    induction n121 with
    | zero => intro σ a1 a2 a3 a4 a5 a6 a7 H locs ls hf; rw [fM_copy_l121] at hf; cases hf
    | succ n121 ih121 =>
      have j145 : ∀ (σ : St) (a1 : Int32) (a2 : Int32) (a3 : Int32) (a4 : Int32) (a5 : Int32) (a6 : Int32) (a7 : Int32) (t0 : Int32) (H : Heap) (locs : List Loc) (ls : Array Slot), fM_copy_j145 N (fM_copy_l121 N  n121) σ a1 a2 a3 a4 a5 a6 a7 t0 = some (σ', r) → J D (wM q cA cB) A s σ H locs → lv_has ls 9 [(0, .ref (q 0)), (1, .int a1), (2, .int a2), (3, .int a3), (4, .int a4), (5, .int a5), (6, .int a6), (7, .int a7)] → W p l e (rmH 3) s m args below meth c H locs 0 0 Q (F0 m 145 ls [.int t0]) := by
        intro σ a1 a2 a3 a4 a5 a6 a7 t0 H locs ls hf hJ hl
        unfold fM_copy_j145 at hf
        refine lv_istore (lv' := [(8, .int t0), (0, .ref (q 0)), (1, .int a1), (2, .int a2), (3, .int a3), (4, .int a4), (5, .int a5), (6, .int a6), (7, .int a7)]) hx hb dX12_copy_145 hl (by decide) rfl (fun ls hl => ?_)
        refine lv_aload_n hx hb dX12_copy_147 rfl (lv_at hl 1 rfl) ?_
        refine gM_0_62 C hJ fl_RX12_111 dX12_copy_148 ?_
        refine lv_bipush (v := 40) hx hb dX12_copy_151 (by decide) ?_
        refine lv_iload_n hx hb dX12_copy_153 rfl (lv_at hl 4 rfl) ?_
        refine lv_imul hx hb dX12_copy_154 ?_
        refine lv_iload hx hb dX12_copy_155 (lv_at hl 5 rfl) ?_
        refine lv_iadd hx hb dX12_copy_157 ?_
        refine lv_iload hx hb dX12_copy_158 (lv_at hl 0 rfl) ?_
        refine lv_iadd hx hb dX12_copy_160 ?_
        refine lv_aload_n hx hb dX12_copy_161 rfl (lv_at hl 1 rfl) ?_
        refine gM_0_62 C hJ fl_RX12_111 dX12_copy_162 ?_
        refine lv_bipush (v := 40) hx hb dX12_copy_165 (by decide) ?_
        refine lv_iload_n hx hb dX12_copy_167 rfl (lv_at hl 2 rfl) ?_
        refine lv_imul hx hb dX12_copy_168 ?_
        refine lv_iload_n hx hb dX12_copy_169 rfl (lv_at hl 3 rfl) ?_
        refine lv_iadd hx hb dX12_copy_170 ?_
        refine lv_iload hx hb dX12_copy_171 (lv_at hl 0 rfl) ?_
        refine lv_iadd hx hb dX12_copy_173 ?_
        obtain ⟨h1, hf⟩ := gi_some hf
        refine aM_33 C hJ h1 dX12_copy_174 ?_
        obtain ⟨h2, hf⟩ := gi_some hf
        refine sM_33 C hJ h2 dX12_copy_175 (fun σ3 H locs hs hJ => ?_)
        have hf := bnd_at hf hs
        obtain ⟨x4, hx4⟩ : ∃ z : Int32, z = a7 + (1 : Int32) := ⟨_, rfl⟩
        have hf := bnd_at hf hx4
        refine lv_iinc (v := x4) (lv' := [(7, .int x4), (8, .int t0), (0, .ref (q 0)), (1, .int a1), (2, .int a2), (3, .int a3), (4, .int a4), (5, .int a5), (6, .int a6)]) hx hb dX12_copy_176 hl (k := 8) rfl (by rw [hx4]; rfl) (by decide) rfl (fun ls hl => ?_)
        refine lv_goto (tgt := 121) hx hb dX12_copy_179 (by decide) ?_
        exact ih121 σ3 a1 a2 a3 a4 a5 a6 x4 _ _ _ hf hJ (lv_sub hl [2, 3, 4, 5, 6, 7, 8, 0] rfl)
      intro σ a1 a2 a3 a4 a5 a6 a7 H locs ls hf hJ hl
      rw [fM_copy_l121] at hf
      refine lv_iload hx hb dX12_copy_121 (lv_at hl 7 rfl) ?_
      refine lv_iload hx hb dX12_copy_123 (lv_at hl 5 rfl) ?_
      refine lv_icmp_ge (tgt := 182) hx hb dX12_copy_125 (by decide) (fun c5 => ?_) (fun c5 => ?_)
      · have hf := ite_t hf c5
        refine lv_iload hx hb dX12_copy_182 (lv_at hl 5 rfl) ?_
        exact ret_I hret hJ hf rfl dX12_copy_184
      · have hf := ite_f hf c5
        refine lv_iload hx hb dX12_copy_128 (lv_at hl 6 rfl) ?_
        refine lv_if_eq (tgt := 143) hx hb dX12_copy_130 (by decide) (fun c6 => ?_) (fun c6 => ?_)
        · have hf := ite_t hf c6
          refine lv_iload hx hb dX12_copy_143 (lv_at hl 7 rfl) ?_
          exact j145 σ a1 a2 a3 a4 a5 a6 a7 a7 _ _ _ hf hJ (lv_sub hl [0, 1, 2, 3, 4, 5, 6, 7] rfl)
        · have hf := ite_f hf c6
          refine lv_iload hx hb dX12_copy_133 (lv_at hl 5 rfl) ?_
          refine lv_iconst (v := 1) hx hb dX12_copy_135 (by decide) ?_
          refine lv_isub hx hb dX12_copy_136 ?_
          refine lv_iload hx hb dX12_copy_137 (lv_at hl 7 rfl) ?_
          refine lv_isub hx hb dX12_copy_139 ?_
          refine lv_goto (tgt := 145) hx hb dX12_copy_140 (by decide) ?_
          exact j145 σ a1 a2 a3 a4 a5 a6 a7 ((a5 - (1 : Int32)) - a7) _ _ _ hf hJ (lv_sub hl [0, 1, 2, 3, 4, 5, 6, 7] rfl)
  have j116 : ∀ (σ : St) (a1 : Int32) (a2 : Int32) (a3 : Int32) (a4 : Int32) (a5 : Int32) (t0 : Int32) (H : Heap) (locs : List Loc) (ls : Array Slot), fM_copy_j116 N  σ a1 a2 a3 a4 a5 t0 = some (σ', r) → J D (wM q cA cB) A s σ H locs → lv_has ls 9 [(0, .ref (q 0)), (1, .int a1), (2, .int a2), (3, .int a3), (4, .int a4), (5, .int a5)] → W p l e (rmH 3) s m args below meth c H locs 0 0 Q (F0 m 116 ls [.int t0]) := by
    intro σ a1 a2 a3 a4 a5 t0 H locs ls hf hJ hl
    unfold fM_copy_j116 at hf
    refine lv_istore (lv' := [(6, .int t0), (0, .ref (q 0)), (1, .int a1), (2, .int a2), (3, .int a3), (4, .int a4), (5, .int a5)]) hx hb dX12_copy_116 hl (by decide) rfl (fun ls hl => ?_)
    refine lv_iconst (v := 0) hx hb dX12_copy_118 (by decide) ?_
    refine lv_istore (lv' := [(7, .int (0 : Int32)), (6, .int t0), (0, .ref (q 0)), (1, .int a1), (2, .int a2), (3, .int a3), (4, .int a4), (5, .int a5)]) hx hb dX12_copy_119 hl (by decide) rfl (fun ls hl => ?_)
    exact l121 N σ a1 a2 a3 a4 a5 t0 (0 : Int32) _ _ _ hf hJ (lv_sub hl [2, 3, 4, 5, 6, 7, 1, 0] rfl)
  have j115 : ∀ (σ : St) (a1 : Int32) (a2 : Int32) (a3 : Int32) (a4 : Int32) (a5 : Int32) (H : Heap) (locs : List Loc) (ls : Array Slot), fM_copy_j115 N  σ a1 a2 a3 a4 a5 = some (σ', r) → J D (wM q cA cB) A s σ H locs → lv_has ls 9 [(0, .ref (q 0)), (1, .int a1), (2, .int a2), (3, .int a3), (4, .int a4), (5, .int a5)] → W p l e (rmH 3) s m args below meth c H locs 0 0 Q (F0 m 115 ls []) := by
    intro σ a1 a2 a3 a4 a5 H locs ls hf hJ hl
    unfold fM_copy_j115 at hf
    refine lv_iconst (v := 0) hx hb dX12_copy_115 (by decide) ?_
    exact j116 σ a1 a2 a3 a4 a5 (0 : Int32) _ _ _ hf hJ (lv_sub hl [0, 1, 2, 3, 4, 5] rfl)
  have hl : lv_has ls 9 [(0, .ref (q 0)), (1, .int a1), (2, .int a2), (3, .int a3), (4, .int a4), (5, .int a5)] := hl
  unfold fM_copy at hf
  refine lv_iload_n hx hb dX12_copy_0 rfl (lv_at hl 1 rfl) ?_
  obtain ⟨σ7, r8, hg9, hf⟩ := cal_some hf
  refine backI hsb hJ (runS (As := [.int a1]) (rest := []) C hJ lk_RX12_407 (cM_isSheet hF hg9) rfl rfl (Nat.le_of_ble_eq_true rfl) hl.1 (hR_of (by omega) (by decide)) ⟨Nat.le_refl _, Nat.le_refl _⟩ dX12_copy_1) (fun H locs hJ => ?_)
  refine lv_if_eq (tgt := 14) hx hb dX12_copy_4 (by decide) (fun c10 => ?_) (fun c10 => ?_)
  · have hf := ite_t hf c10
    refine lv_bipush (v := -2) hx hb dX12_copy_14 (by decide) ?_
    exact ret_I hret hJ hf rfl dX12_copy_16
  · have hf := ite_f hf c10
    refine lv_iload_n hx hb dX12_copy_7 rfl (lv_at hl 3 rfl) ?_
    obtain ⟨σ11, r12, hg13, hf⟩ := cal_some hf
    refine backI hsb hJ (runS (As := [.int a3]) (rest := []) C hJ lk_RX12_407 (cM_isSheet hF hg13) rfl rfl (Nat.le_of_ble_eq_true rfl) hl.1 (hR_of (by omega) (by decide)) ⟨Nat.le_refl _, Nat.le_refl _⟩ dX12_copy_8) (fun H locs hJ => ?_)
    refine lv_if_ne (tgt := 17) hx hb dX12_copy_11 (by decide) (fun c14 => ?_) (fun c14 => ?_)
    · have hf := ite_f hf c14
      refine lv_aload_n hx hb dX12_copy_17 rfl (lv_at hl 0 rfl) ?_
      refine gM_0_59 C hJ fl_RX12_101 dX12_copy_18 ?_
      refine lv_iload_n hx hb dX12_copy_21 rfl (lv_at hl 1 rfl) ?_
      obtain ⟨h15, hf⟩ := gi_some hf
      refine aM_30 C hJ h15 dX12_copy_22 ?_
      refine lv_if_eq (tgt := 35) hx hb dX12_copy_23 (by decide) (fun c16 => ?_) (fun c16 => ?_)
      · have hf := ite_t hf c16
        refine lv_bipush (v := -11) hx hb dX12_copy_35 (by decide) ?_
        exact ret_I hret hJ hf rfl dX12_copy_37
      · have hf := ite_f hf c16
        refine lv_aload_n hx hb dX12_copy_26 rfl (lv_at hl 0 rfl) ?_
        refine gM_0_59 C hJ fl_RX12_101 dX12_copy_27 ?_
        refine lv_iload_n hx hb dX12_copy_30 rfl (lv_at hl 3 rfl) ?_
        obtain ⟨h17, hf⟩ := gi_some hf
        refine aM_30 C hJ h17 dX12_copy_31 ?_
        refine lv_if_ne (tgt := 38) hx hb dX12_copy_32 (by decide) (fun c18 => ?_) (fun c18 => ?_)
        · have hf := ite_f hf c18
          refine lv_aload_n hx hb dX12_copy_38 rfl (lv_at hl 0 rfl) ?_
          refine gM_0_60 C hJ fl_RX12_105 dX12_copy_39 ?_
          refine lv_iload_n hx hb dX12_copy_42 rfl (lv_at hl 1 rfl) ?_
          obtain ⟨h19, hf⟩ := gi_some hf
          refine aM_31 C hJ h19 dX12_copy_43 ?_
          refine lv_aload_n hx hb dX12_copy_44 rfl (lv_at hl 0 rfl) ?_
          refine gM_0_60 C hJ fl_RX12_105 dX12_copy_45 ?_
          refine lv_iload_n hx hb dX12_copy_48 rfl (lv_at hl 3 rfl) ?_
          obtain ⟨h20, hf⟩ := gi_some hf
          refine aM_31 C hJ h20 dX12_copy_49 ?_
          refine lv_icmp_eq (tgt := 56) hx hb dX12_copy_50 (by decide) (fun c21 => ?_) (fun c21 => ?_)
          · have hf := ite_t hf c21
            refine lv_iload hx hb dX12_copy_56 (lv_at hl 5 rfl) ?_
            refine lv_if_lt (tgt := 97) hx hb dX12_copy_58 (by decide) (fun c22 => ?_) (fun c22 => ?_)
            · have hf := ite_t hf c22
              refine lv_bipush (v := -12) hx hb dX12_copy_97 (by decide) ?_
              exact ret_I hret hJ hf rfl dX12_copy_99
            · have hf := ite_f hf c22
              refine lv_iload_n hx hb dX12_copy_61 rfl (lv_at hl 2 rfl) ?_
              refine lv_if_lt (tgt := 97) hx hb dX12_copy_62 (by decide) (fun c23 => ?_) (fun c23 => ?_)
              · have hf := ite_t hf c23
                refine lv_bipush (v := -12) hx hb dX12_copy_97 (by decide) ?_
                exact ret_I hret hJ hf rfl dX12_copy_99
              · have hf := ite_f hf c23
                refine lv_iload hx hb dX12_copy_65 (lv_at hl 4 rfl) ?_
                refine lv_if_lt (tgt := 97) hx hb dX12_copy_67 (by decide) (fun c24 => ?_) (fun c24 => ?_)
                · have hf := ite_t hf c24
                  refine lv_bipush (v := -12) hx hb dX12_copy_97 (by decide) ?_
                  exact ret_I hret hJ hf rfl dX12_copy_99
                · have hf := ite_f hf c24
                  refine lv_iload_n hx hb dX12_copy_70 rfl (lv_at hl 2 rfl) ?_
                  refine lv_aload_n hx hb dX12_copy_71 rfl (lv_at hl 0 rfl) ?_
                  refine gM_0_61 C hJ fl_RX12_108 dX12_copy_72 ?_
                  refine lv_iload_n hx hb dX12_copy_75 rfl (lv_at hl 1 rfl) ?_
                  obtain ⟨h25, hf⟩ := gi_some hf
                  refine aM_32 C hJ h25 dX12_copy_76 ?_
                  refine lv_iload hx hb dX12_copy_77 (lv_at hl 5 rfl) ?_
                  refine lv_isub hx hb dX12_copy_79 ?_
                  refine lv_icmp_gt (tgt := 97) hx hb dX12_copy_80 (by decide) (fun c26 => ?_) (fun c26 => ?_)
                  · have hf := ite_t hf c26
                    refine lv_bipush (v := -12) hx hb dX12_copy_97 (by decide) ?_
                    exact ret_I hret hJ hf rfl dX12_copy_99
                  · have hf := ite_f hf c26
                    refine lv_iload hx hb dX12_copy_83 (lv_at hl 4 rfl) ?_
                    refine lv_aload_n hx hb dX12_copy_85 rfl (lv_at hl 0 rfl) ?_
                    refine gM_0_61 C hJ fl_RX12_108 dX12_copy_86 ?_
                    refine lv_iload_n hx hb dX12_copy_89 rfl (lv_at hl 3 rfl) ?_
                    obtain ⟨h27, hf⟩ := gi_some hf
                    refine aM_32 C hJ h27 dX12_copy_90 ?_
                    refine lv_iload hx hb dX12_copy_91 (lv_at hl 5 rfl) ?_
                    refine lv_isub hx hb dX12_copy_93 ?_
                    refine lv_icmp_le (tgt := 100) hx hb dX12_copy_94 (by decide) (fun c28 => ?_) (fun c28 => ?_)
                    · have hf := ite_t hf c28
                      refine lv_iload_n hx hb dX12_copy_100 rfl (lv_at hl 1 rfl) ?_
                      refine lv_iload_n hx hb dX12_copy_101 rfl (lv_at hl 3 rfl) ?_
                      refine lv_icmp_ne (tgt := 115) hx hb dX12_copy_102 (by decide) (fun c29 => ?_) (fun c29 => ?_)
                      · have hf := ite_f hf c29
                        exact j115 σ11 a1 a2 a3 a4 a5 _ _ _ hf hJ (lv_sub hl [0, 1, 2, 3, 4, 5] rfl)
                      · have hf := ite_t hf c29
                        refine lv_iload_n hx hb dX12_copy_105 rfl (lv_at hl 2 rfl) ?_
                        refine lv_iload hx hb dX12_copy_106 (lv_at hl 4 rfl) ?_
                        refine lv_icmp_ge (tgt := 115) hx hb dX12_copy_108 (by decide) (fun c30 => ?_) (fun c30 => ?_)
                        · have hf := ite_t hf c30
                          exact j115 σ11 a1 a2 a3 a4 a5 _ _ _ hf hJ (lv_sub hl [0, 1, 2, 3, 4, 5] rfl)
                        · have hf := ite_f hf c30
                          refine lv_iconst (v := 1) hx hb dX12_copy_111 (by decide) ?_
                          refine lv_goto (tgt := 116) hx hb dX12_copy_112 (by decide) ?_
                          exact j116 σ11 a1 a2 a3 a4 a5 (1 : Int32) _ _ _ hf hJ (lv_sub hl [0, 1, 2, 3, 4, 5] rfl)
                    · have hf := ite_f hf c28
                      refine lv_bipush (v := -12) hx hb dX12_copy_97 (by decide) ?_
                      exact ret_I hret hJ hf rfl dX12_copy_99
          · have hf := ite_f hf c21
            refine lv_bipush (v := -13) hx hb dX12_copy_53 (by decide) ?_
            exact ret_I hret hJ hf rfl dX12_copy_55
        · have hf := ite_t hf c18
          refine lv_bipush (v := -11) hx hb dX12_copy_35 (by decide) ?_
          exact ret_I hret hJ hf rfl dX12_copy_37
    · have hf := ite_t hf c14
      refine lv_bipush (v := -2) hx hb dX12_copy_14 (by decide) ?_
      exact ret_I hret hJ hf rfl dX12_copy_16
set_option maxHeartbeats 4000000 in
set_option maxRecDepth 100000 in
theorem cM_men {l : Launch} {D : va_G} {cA cB : ClassId} {q : Nat → Nat} {A : Nat → Prop} {E : State → Prop} {N : Nat} {σ σ' : St} {r : Int32} {a1 : Int32} {a2 : Int32} {a3 : Int32} {a4 : Int32} (hF : Fr (wM q cA cB) A E) (hf : fM_men N σ a1 a2 a3 a4 = some (σ', r)) : MI l yX12_men cX12_men 8 .int 3 D (tyM cA cB) (wM q cA cB) A E [.ref (q 0), .int a1, .int a2, .int a3, .int a4] σ σ' r := by
  refine MI_of (by decide) hF (Nat.le_of_ble_eq_true rfl) ?_
  intro p e s m args below meth c Q C hret hJ ls hl
  obtain ⟨hx, hb, hml, hown, hts, hK, hE, -⟩ := id C
  have hsb : ∀ z, A z → A z := fun _ h => h
  have l75 : ∀ (n : Nat) (σ : St) (a1 : Int32) (a3 : Int32) (a4 : Int32) (a5 : Int32) (a6 : Int32) (H : Heap) (locs : List Loc) (ls : Array Slot), fM_men_l75 N  n σ a1 a3 a4 a5 a6 = some (σ', r) → J D (wM q cA cB) A s σ H locs → lv_has ls 8 [(0, .ref (q 0)), (1, .int a1), (3, .int a3), (4, .int a4), (5, .int a5), (6, .int a6)] → W p l e (rmH 3) s m args below meth c H locs 0 0 Q (F0 m 75 ls []) := by
    intro n75
    induction n75 with
    | zero => intro σ a1 a3 a4 a5 a6 H locs ls hf; rw [fM_men_l75] at hf; cases hf
    | succ n75 ih75 =>
      have j158 : ∀ (σ : St) (a1 : Int32) (a3 : Int32) (a4 : Int32) (a6 : Int32) (t0 : Int32) (t1 : Int32) (H : Heap) (locs : List Loc) (ls : Array Slot), fM_men_j158 N (fM_men_l75 N  n75) σ a1 a3 a4 a6 t0 t1 = some (σ', r) → J D (wM q cA cB) A s σ H locs → lv_has ls 8 [(0, .ref (q 0)), (1, .int a1), (3, .int a3), (4, .int a4), (6, .int a6)] → W p l e (rmH 3) s m args below meth c H locs 0 0 Q (F0 m 158 ls [.int t1, .int t0]) := by
        intro σ a1 a3 a4 a6 t0 t1 H locs ls hf hJ hl
        unfold fM_men_j158 at hf
        refine lv_iadd hx hb dX12_men_158 ?_
        refine lv_topi (fun x1 hx1 => ?_)
        have hf := bnd_at hf hx1
        refine lv_istore (lv' := [(5, .int x1), (0, .ref (q 0)), (1, .int a1), (3, .int a3), (4, .int a4), (6, .int a6)]) hx hb dX12_men_159 hl (by decide) rfl (fun ls hl => ?_)
        obtain ⟨x2, hx2⟩ : ∃ z : Int32, z = a6 + (1 : Int32) := ⟨_, rfl⟩
        have hf := bnd_at hf hx2
        refine lv_iinc (v := x2) (lv' := [(6, .int x2), (5, .int x1), (0, .ref (q 0)), (1, .int a1), (3, .int a3), (4, .int a4)]) hx hb dX12_men_161 hl (k := 5) rfl (by rw [hx2]; rfl) (by decide) rfl (fun ls hl => ?_)
        refine lv_goto (tgt := 75) hx hb dX12_men_164 (by decide) ?_
        exact ih75 σ a1 a3 a4 x1 x2 _ _ _ hf hJ (lv_sub hl [2, 3, 4, 5, 1, 0] rfl)
      intro σ a1 a3 a4 a5 a6 H locs ls hf hJ hl
      rw [fM_men_l75] at hf
      refine lv_iload hx hb dX12_men_75 (lv_at hl 5 rfl) ?_
      refine lv_iload hx hb dX12_men_77 (lv_at hl 3 rfl) ?_
      refine lv_icmp_ge (tgt := 167) hx hb dX12_men_79 (by decide) (fun c3 => ?_) (fun c3 => ?_)
      · have hf := ite_t hf c3
        refine lv_iload hx hb dX12_men_167 (lv_at hl 4 rfl) ?_
        exact ret_I hret hJ hf rfl dX12_men_169
      · have hf := ite_f hf c3
        refine lv_iload_n hx hb dX12_men_82 rfl (lv_at hl 2 rfl) ?_
        refine lv_if_lt (tgt := 103) hx hb dX12_men_83 (by decide) (fun c4 => ?_) (fun c4 => ?_)
        · have hf := ite_t hf c4
          refine lv_bipush (v := -12) hx hb dX12_men_103 (by decide) ?_
          exact ret_I hret hJ hf rfl dX12_men_105
        · have hf := ite_f hf c4
          refine lv_iload_n hx hb dX12_men_86 rfl (lv_at hl 2 rfl) ?_
          refine lv_aload_n hx hb dX12_men_87 rfl (lv_at hl 0 rfl) ?_
          refine gM_0_61 C hJ fl_RX12_108 dX12_men_88 ?_
          refine lv_iload_n hx hb dX12_men_91 rfl (lv_at hl 1 rfl) ?_
          obtain ⟨h5, hf⟩ := gi_some hf
          refine aM_32 C hJ h5 dX12_men_92 ?_
          refine lv_iconst (v := 3) hx hb dX12_men_93 (by decide) ?_
          refine lv_iload hx hb dX12_men_94 (lv_at hl 5 rfl) ?_
          refine lv_imul hx hb dX12_men_96 ?_
          refine lv_isub hx hb dX12_men_97 ?_
          refine lv_iconst (v := 3) hx hb dX12_men_98 (by decide) ?_
          refine lv_isub hx hb dX12_men_99 ?_
          refine lv_icmp_le (tgt := 106) hx hb dX12_men_100 (by decide) (fun c6 => ?_) (fun c6 => ?_)
          · have hf := ite_t hf c6
            refine lv_bipush (v := 40) hx hb dX12_men_106 (by decide) ?_
            refine lv_iload_n hx hb dX12_men_108 rfl (lv_at hl 1 rfl) ?_
            refine lv_imul hx hb dX12_men_109 ?_
            refine lv_iload_n hx hb dX12_men_110 rfl (lv_at hl 2 rfl) ?_
            refine lv_iadd hx hb dX12_men_111 ?_
            refine lv_iconst (v := 3) hx hb dX12_men_112 (by decide) ?_
            refine lv_iload hx hb dX12_men_113 (lv_at hl 5 rfl) ?_
            refine lv_imul hx hb dX12_men_115 ?_
            refine lv_iadd hx hb dX12_men_116 ?_
            refine lv_topi (fun x7 hx7 => ?_)
            have hf := bnd_at hf hx7
            refine lv_istore (lv' := [(7, .int x7), (0, .ref (q 0)), (1, .int a1), (3, .int a3), (4, .int a4), (5, .int a5), (6, .int a6)]) hx hb dX12_men_117 hl (by decide) rfl (fun ls hl => ?_)
            refine lv_iload hx hb dX12_men_119 (lv_at hl 5 rfl) ?_
            refine lv_aload_n hx hb dX12_men_121 rfl (lv_at hl 1 rfl) ?_
            refine lv_aload_n hx hb dX12_men_122 rfl (lv_at hl 1 rfl) ?_
            refine gM_0_62 C hJ fl_RX12_111 dX12_men_123 ?_
            refine lv_iload hx hb dX12_men_126 (lv_at hl 0 rfl) ?_
            obtain ⟨h8, hf⟩ := gi_some hf
            refine aM_33 C hJ h8 dX12_men_128 ?_
            refine lv_aload_n hx hb dX12_men_129 rfl (lv_at hl 1 rfl) ?_
            refine gM_0_62 C hJ fl_RX12_111 dX12_men_130 ?_
            refine lv_iload hx hb dX12_men_133 (lv_at hl 0 rfl) ?_
            refine lv_iconst (v := 1) hx hb dX12_men_135 (by decide) ?_
            refine lv_iadd hx hb dX12_men_136 ?_
            obtain ⟨h9, hf⟩ := gi_some hf
            refine aM_33 C hJ h9 dX12_men_137 ?_
            refine lv_aload_n hx hb dX12_men_138 rfl (lv_at hl 1 rfl) ?_
            refine gM_0_62 C hJ fl_RX12_111 dX12_men_139 ?_
            refine lv_iload hx hb dX12_men_142 (lv_at hl 0 rfl) ?_
            refine lv_iconst (v := 2) hx hb dX12_men_144 (by decide) ?_
            refine lv_iadd hx hb dX12_men_145 ?_
            obtain ⟨h10, hf⟩ := gi_some hf
            refine aM_33 C hJ h10 dX12_men_146 ?_
            obtain ⟨σ11, r12, hg13, hf⟩ := cal_some hf
            refine backI hsb hJ (runV (As := [.int (σ.2.1 33 x7.toNatClampNeg), .int (σ.2.1 33 (x7 + (1 : Int32)).toNatClampNeg), .int (σ.2.1 33 (x7 + (2 : Int32)).toNatClampNeg)]) (rest := [.int a5]) C hJ lk_RX12_457 (cM_man hF hg13) recM_0 rfl rfl (Nat.le_of_ble_eq_true rfl) hl.1 (hR_of (by omega) (by decide)) ⟨Nat.le_refl _, Nat.le_refl _⟩ dX12_men_147) (fun H locs hJ => ?_)
            refine lv_if_lt (tgt := 157) hx hb dX12_men_150 (by decide) (fun c14 => ?_) (fun c14 => ?_)
            · have hf := ite_t hf c14
              refine lv_iconst (v := 0) hx hb dX12_men_157 (by decide) ?_
              exact j158 σ11 a1 a3 a4 a6 a5 (0 : Int32) _ _ _ hf hJ (lv_sub hl [1, 2, 3, 4, 6] rfl)
            · have hf := ite_f hf c14
              refine lv_iconst (v := 1) hx hb dX12_men_153 (by decide) ?_
              refine lv_goto (tgt := 158) hx hb dX12_men_154 (by decide) ?_
              exact j158 σ11 a1 a3 a4 a6 a5 (1 : Int32) _ _ _ hf hJ (lv_sub hl [1, 2, 3, 4, 6] rfl)
          · have hf := ite_f hf c6
            refine lv_bipush (v := -12) hx hb dX12_men_103 (by decide) ?_
            exact ret_I hret hJ hf rfl dX12_men_105
  have j57 : ∀ (σ : St) (a1 : Int32) (a3 : Int32) (a4 : Int32) (H : Heap) (locs : List Loc) (ls : Array Slot), fM_men_j57 N  σ a1 a3 a4 = some (σ', r) → J D (wM q cA cB) A s σ H locs → lv_has ls 8 [(0, .ref (q 0)), (1, .int a1), (3, .int a3), (4, .int a4)] → W p l e (rmH 3) s m args below meth c H locs 0 0 Q (F0 m 57 ls []) := by
    intro σ a1 a3 a4 H locs ls hf hJ hl
    unfold fM_men_j57 at hf
    refine lv_aload_n hx hb dX12_men_57 rfl (lv_at hl 0 rfl) ?_
    refine gM_0_59 C hJ fl_RX12_101 dX12_men_58 ?_
    refine lv_iload_n hx hb dX12_men_61 rfl (lv_at hl 1 rfl) ?_
    obtain ⟨h15, hf⟩ := gi_some hf
    refine aM_30 C hJ h15 dX12_men_62 ?_
    refine lv_if_ne (tgt := 69) hx hb dX12_men_63 (by decide) (fun c16 => ?_) (fun c16 => ?_)
    · have hf := ite_f hf c16
      refine lv_iconst (v := 0) hx hb dX12_men_69 (by decide) ?_
      refine lv_istore (lv' := [(5, .int (0 : Int32)), (0, .ref (q 0)), (1, .int a1), (3, .int a3), (4, .int a4)]) hx hb dX12_men_70 hl (by decide) rfl (fun ls hl => ?_)
      refine lv_iconst (v := 0) hx hb dX12_men_72 (by decide) ?_
      refine lv_istore (lv' := [(6, .int (0 : Int32)), (5, .int (0 : Int32)), (0, .ref (q 0)), (1, .int a1), (3, .int a3), (4, .int a4)]) hx hb dX12_men_73 hl (by decide) rfl (fun ls hl => ?_)
      exact l75 N σ a1 a3 a4 (0 : Int32) (0 : Int32) _ _ _ hf hJ (lv_sub hl [2, 3, 4, 5, 1, 0] rfl)
    · have hf := ite_t hf c16
      refine lv_bipush (v := -11) hx hb dX12_men_66 (by decide) ?_
      exact ret_I hret hJ hf rfl dX12_men_68
  have hl : lv_has ls 8 [(0, .ref (q 0)), (1, .int a1), (2, .int a2), (3, .int a3), (4, .int a4)] := hl
  unfold fM_men at hf
  refine lv_iload_n hx hb dX12_men_0 rfl (lv_at hl 1 rfl) ?_
  obtain ⟨σ17, r18, hg19, hf⟩ := cal_some hf
  refine backI hsb hJ (runS (As := [.int a1]) (rest := []) C hJ lk_RX12_407 (cM_isSheet hF hg19) rfl rfl (Nat.le_of_ble_eq_true rfl) hl.1 (hR_of (by omega) (by decide)) ⟨Nat.le_refl _, Nat.le_refl _⟩ dX12_men_1) (fun H locs hJ => ?_)
  refine lv_if_eq (tgt := 32) hx hb dX12_men_4 (by decide) (fun c20 => ?_) (fun c20 => ?_)
  · have hf := ite_t hf c20
    refine lv_bipush (v := -2) hx hb dX12_men_32 (by decide) ?_
    exact ret_I hret hJ hf rfl dX12_men_34
  · have hf := ite_f hf c20
    refine lv_iload_n hx hb dX12_men_7 rfl (lv_at hl 2 rfl) ?_
    refine lv_i2l (v := a2.toInt64) hx hb dX12_men_8 rfl ?_
    refine lv_lconst (v := 0) hx hb dX12_men_9 (by decide) ?_
    refine lv_ldc2 (v := 2) hx hb hown (hts _ kl_RX12_309) dX12_men_10 ?_
    obtain ⟨σ21, r22, hg23, hf⟩ := cal_some hf
    refine backI hsb hJ (runS (As := [.long a2.toInt64, .long (0 : Int64), .long (2 : Int64)]) (rest := []) C hJ lk_RX12_138 (cM_in hF hg23) rfl rfl (Nat.le_of_ble_eq_true rfl) hl.1 (hR_of (by omega) (by decide)) ⟨Nat.le_refl _, Nat.le_refl _⟩ dX12_men_13) (fun H locs hJ => ?_)
    refine lv_if_eq (tgt := 32) hx hb dX12_men_16 (by decide) (fun c24 => ?_) (fun c24 => ?_)
    · have hf := ite_t hf c24
      refine lv_bipush (v := -2) hx hb dX12_men_32 (by decide) ?_
      exact ret_I hret hJ hf rfl dX12_men_34
    · have hf := ite_f hf c24
      refine lv_iload hx hb dX12_men_19 (lv_at hl 4 rfl) ?_
      refine lv_i2l (v := a4.toInt64) hx hb dX12_men_21 rfl ?_
      refine lv_lconst (v := 0) hx hb dX12_men_22 (by decide) ?_
      refine lv_ldc2 (v := 10) hx hb hown (hts _ kl_RX12_204) dX12_men_23 ?_
      obtain ⟨σ25, r26, hg27, hf⟩ := cal_some hf
      refine backI hsb hJ (runS (As := [.long a4.toInt64, .long (0 : Int64), .long (10 : Int64)]) (rest := []) C hJ lk_RX12_138 (cM_in hF hg27) rfl rfl (Nat.le_of_ble_eq_true rfl) hl.1 (hR_of (by omega) (by decide)) ⟨Nat.le_refl _, Nat.le_refl _⟩ dX12_men_26) (fun H locs hJ => ?_)
      refine lv_if_ne (tgt := 35) hx hb dX12_men_29 (by decide) (fun c28 => ?_) (fun c28 => ?_)
      · have hf := ite_f hf c28
        refine lv_aload_n hx hb dX12_men_35 rfl (lv_at hl 0 rfl) ?_
        refine gM_0_59 C hJ fl_RX12_101 dX12_men_36 ?_
        refine lv_iload_n hx hb dX12_men_39 rfl (lv_at hl 1 rfl) ?_
        obtain ⟨h29, hf⟩ := gi_some hf
        refine aM_30 C hJ h29 dX12_men_40 ?_
        refine lv_if_eq (tgt := 57) hx hb dX12_men_41 (by decide) (fun c30 => ?_) (fun c30 => ?_)
        · have hf := ite_t hf c30
          exact j57 σ25 a1 a3 a4 _ _ _ hf hJ (lv_sub hl [0, 1, 3, 4] rfl)
        · have hf := ite_f hf c30
          refine lv_aload_n hx hb dX12_men_44 rfl (lv_at hl 0 rfl) ?_
          refine gM_0_60 C hJ fl_RX12_105 dX12_men_45 ?_
          refine lv_iload_n hx hb dX12_men_48 rfl (lv_at hl 1 rfl) ?_
          obtain ⟨h31, hf⟩ := gi_some hf
          refine aM_31 C hJ h31 dX12_men_49 ?_
          refine lv_iload_n hx hb dX12_men_50 rfl (lv_at hl 2 rfl) ?_
          refine lv_icmp_eq (tgt := 57) hx hb dX12_men_51 (by decide) (fun c32 => ?_) (fun c32 => ?_)
          · have hf := ite_t hf c32
            exact j57 σ25 a1 a3 a4 _ _ _ hf hJ (lv_sub hl [0, 1, 3, 4] rfl)
          · have hf := ite_f hf c32
            refine lv_bipush (v := -13) hx hb dX12_men_54 (by decide) ?_
            exact ret_I hret hJ hf rfl dX12_men_56
      · have hf := ite_t hf c28
        refine lv_bipush (v := -2) hx hb dX12_men_32 (by decide) ?_
        exact ret_I hret hJ hf rfl dX12_men_34
set_option maxHeartbeats 4000000 in
set_option maxRecDepth 100000 in
theorem cM_over {l : Launch} {D : va_G} {cA cB : ClassId} {q : Nat → Nat} {A : Nat → Prop} {E : State → Prop} {N : Nat} {σ σ' : St} {r : Int32} {a0 : Int32} (hF : Fr (wM q cA cB) A E) (hf : fM_over N σ a0 = some (σ', r)) : MI l yX12_over cX12_over 1 .int 1 D (tyM cA cB) (wM q cA cB) A E [.int a0] σ σ' r := by
  refine MI_of (by decide) hF (Nat.le_of_ble_eq_true rfl) ?_
  intro p e s m args below meth c Q C hret hJ ls hl
  obtain ⟨hx, hb, hml, hown, hts, hK, hE, -⟩ := id C
  have hsb : ∀ z, A z → A z := fun _ h => h
  have hl : lv_has ls 1 [(0, .int a0)] := hl
  unfold fM_over at hf
  refine lv_iload_n hx hb dX12_over_0 rfl (lv_at hl 0 rfl) ?_
  refine lv_if_ne (tgt := 8) hx hb dX12_over_1 (by decide) (fun c1 => ?_) (fun c1 => ?_)
  · have hf := ite_f hf c1
    refine lv_iload_n hx hb dX12_over_8 rfl (lv_at hl 0 rfl) ?_
    refine lv_iconst (v := 3) hx hb dX12_over_9 (by decide) ?_
    refine lv_icmp_eq (tgt := 18) hx hb dX12_over_10 (by decide) (fun c2 => ?_) (fun c2 => ?_)
    · have hf := ite_t hf c2
      refine lv_iconst (v := 2) hx hb dX12_over_18 (by decide) ?_
      refine lv_goto (tgt := 32) hx hb dX12_over_19 (by decide) ?_
      exact ret_I hret hJ hf rfl dX12_over_32
    · have hf := ite_f hf c2
      refine lv_iload_n hx hb dX12_over_13 rfl (lv_at hl 0 rfl) ?_
      refine lv_iconst (v := 5) hx hb dX12_over_14 (by decide) ?_
      refine lv_icmp_ne (tgt := 22) hx hb dX12_over_15 (by decide) (fun c3 => ?_) (fun c3 => ?_)
      · have hf := ite_f hf c3
        refine lv_iload_n hx hb dX12_over_22 rfl (lv_at hl 0 rfl) ?_
        refine lv_iconst (v := 4) hx hb dX12_over_23 (by decide) ?_
        refine lv_icmp_ne (tgt := 31) hx hb dX12_over_24 (by decide) (fun c4 => ?_) (fun c4 => ?_)
        · have hf := ite_f hf c4
          refine lv_iconst (v := 0) hx hb dX12_over_31 (by decide) ?_
          exact ret_I hret hJ hf rfl dX12_over_32
        · have hf := ite_t hf c4
          refine lv_iconst (v := 1) hx hb dX12_over_27 (by decide) ?_
          refine lv_goto (tgt := 32) hx hb dX12_over_28 (by decide) ?_
          exact ret_I hret hJ hf rfl dX12_over_32
      · have hf := ite_t hf c3
        refine lv_iconst (v := 2) hx hb dX12_over_18 (by decide) ?_
        refine lv_goto (tgt := 32) hx hb dX12_over_19 (by decide) ?_
        exact ret_I hret hJ hf rfl dX12_over_32
  · have hf := ite_t hf c1
    refine lv_iconst (v := -1) hx hb dX12_over_4 (by decide) ?_
    refine lv_goto (tgt := 32) hx hb dX12_over_5 (by decide) ?_
    exact ret_I hret hJ hf rfl dX12_over_32
set_option maxHeartbeats 4000000 in
set_option maxRecDepth 100000 in
theorem cM_taken {l : Launch} {D : va_G} {cA cB : ClassId} {q : Nat → Nat} {A : Nat → Prop} {E : State → Prop} {N : Nat} {σ σ' : St} {r : Int32} {a1 : Int32} {a2 : Int32} (hF : Fr (wM q cA cB) A E) (hf : fM_taken N σ a1 a2 = some (σ', r)) : MI l yX12_taken cX12_taken 4 .int 3 D (tyM cA cB) (wM q cA cB) A E [.ref (q 0), .int a1, .int a2] σ σ' r := by
  refine MI_of (by decide) hF (Nat.le_of_ble_eq_true rfl) ?_
  intro p e s m args below meth c Q C hret hJ ls hl
  obtain ⟨hx, hb, hml, hown, hts, hK, hE, -⟩ := id C
  have hsb : ∀ z, A z → A z := fun _ h => h
  have j51 : ∀ (σ : St) (a1 : Int32) (a2 : Int32) (a3 : Int32) (H : Heap) (locs : List Loc) (ls : Array Slot), fM_taken_j51 N  σ a1 a2 a3 = some (σ', r) → J D (wM q cA cB) A s σ H locs → lv_has ls 4 [(0, .ref (q 0)), (1, .int a1), (2, .int a2), (3, .int a3)] → W p l e (rmH 3) s m args below meth c H locs 0 0 Q (F0 m 51 ls []) := by
    intro σ a1 a2 a3 H locs ls hf hJ hl
    unfold fM_taken_j51 at hf
    refine lv_iload_n hx hb dX12_taken_51 rfl (lv_at hl 3 rfl) ?_
    refine lv_iload_n hx hb dX12_taken_52 rfl (lv_at hl 2 rfl) ?_
    refine lv_icmp_ne (tgt := 65) hx hb dX12_taken_53 (by decide) (fun c1 => ?_) (fun c1 => ?_)
    · have hf := ite_f hf c1
      refine lv_bipush (v := -13) hx hb dX12_taken_65 (by decide) ?_
      exact ret_I hret hJ hf rfl dX12_taken_67
    · have hf := ite_t hf c1
      refine lv_aload_n hx hb dX12_taken_56 rfl (lv_at hl 0 rfl) ?_
      refine gM_0_38 C hJ fl_RX12_59 dX12_taken_57 ?_
      refine lv_iload_n hx hb dX12_taken_60 rfl (lv_at hl 1 rfl) ?_
      obtain ⟨h2, hf⟩ := gi_some hf
      refine aM_16 C hJ h2 dX12_taken_61 ?_
      refine lv_goto (tgt := 67) hx hb dX12_taken_62 (by decide) ?_
      exact ret_I hret hJ hf rfl dX12_taken_67
  have l33 : ∀ (n : Nat) (σ : St) (a1 : Int32) (a2 : Int32) (a3 : Int32) (H : Heap) (locs : List Loc) (ls : Array Slot), fM_taken_l33 N  n σ a1 a2 a3 = some (σ', r) → J D (wM q cA cB) A s σ H locs → lv_has ls 4 [(0, .ref (q 0)), (1, .int a1), (2, .int a2), (3, .int a3)] → W p l e (rmH 3) s m args below meth c H locs 0 0 Q (F0 m 33 ls []) := by
    intro n33
    induction n33 with
    | zero => intro σ a1 a2 a3 H locs ls hf; rw [fM_taken_l33] at hf; cases hf
    | succ n33 ih33 =>
      intro σ a1 a2 a3 H locs ls hf hJ hl
      rw [fM_taken_l33] at hf
      refine lv_iload_n hx hb dX12_taken_33 rfl (lv_at hl 3 rfl) ?_
      refine lv_iconst (v := -1) hx hb dX12_taken_34 (by decide) ?_
      refine lv_icmp_eq (tgt := 51) hx hb dX12_taken_35 (by decide) (fun c3 => ?_) (fun c3 => ?_)
      · have hf := ite_t hf c3
        exact j51 σ a1 a2 a3 _ _ _ hf hJ (lv_sub hl [0, 1, 2, 3] rfl)
      · have hf := ite_f hf c3
        refine lv_iload_n hx hb dX12_taken_38 rfl (lv_at hl 3 rfl) ?_
        refine lv_iload_n hx hb dX12_taken_39 rfl (lv_at hl 2 rfl) ?_
        refine lv_icmp_eq (tgt := 51) hx hb dX12_taken_40 (by decide) (fun c4 => ?_) (fun c4 => ?_)
        · have hf := ite_t hf c4
          exact j51 σ a1 a2 a3 _ _ _ hf hJ (lv_sub hl [0, 1, 2, 3] rfl)
        · have hf := ite_f hf c4
          refine lv_iload_n hx hb dX12_taken_43 rfl (lv_at hl 3 rfl) ?_
          obtain ⟨σ5, r6, hg7, hf⟩ := cal_some hf
          refine backI hsb hJ (runS (As := [.int a3]) (rest := []) C hJ lk_RX12_460 (cM_over hF hg7) rfl rfl (Nat.le_of_ble_eq_true rfl) hl.1 (hR_of (by omega) (by decide)) ⟨Nat.le_refl _, Nat.le_refl _⟩ dX12_taken_44) (fun H locs hJ => ?_)
          refine lv_istore_n (lv' := [(3, .int r6), (0, .ref (q 0)), (1, .int a1), (2, .int a2)]) hx hb dX12_taken_47 rfl hl (by decide) rfl (fun ls hl => ?_)
          refine lv_goto (tgt := 33) hx hb dX12_taken_48 (by decide) ?_
          exact ih33 σ5 a1 a2 r6 _ _ _ hf hJ (lv_sub hl [1, 2, 3, 0] rfl)
  have hl : lv_has ls 4 [(0, .ref (q 0)), (1, .int a1), (2, .int a2)] := hl
  unfold fM_taken at hf
  refine lv_iload_n hx hb dX12_taken_0 rfl (lv_at hl 2 rfl) ?_
  refine lv_i2l (v := a2.toInt64) hx hb dX12_taken_1 rfl ?_
  refine lv_lconst (v := 0) hx hb dX12_taken_2 (by decide) ?_
  refine lv_ldc2 (v := 5) hx hb hown (hts _ kl_RX12_361) dX12_taken_3 ?_
  obtain ⟨σ8, r9, hg10, hf⟩ := cal_some hf
  refine backI hsb hJ (runS (As := [.long a2.toInt64, .long (0 : Int64), .long (5 : Int64)]) (rest := []) C hJ lk_RX12_138 (cM_in hF hg10) rfl rfl (Nat.le_of_ble_eq_true rfl) hl.1 (hR_of (by omega) (by decide)) ⟨Nat.le_refl _, Nat.le_refl _⟩ dX12_taken_6) (fun H locs hJ => ?_)
  refine lv_if_ne (tgt := 15) hx hb dX12_taken_9 (by decide) (fun c11 => ?_) (fun c11 => ?_)
  · have hf := ite_f hf c11
    refine lv_aload_n hx hb dX12_taken_15 rfl (lv_at hl 0 rfl) ?_
    refine lv_iload_n hx hb dX12_taken_16 rfl (lv_at hl 1 rfl) ?_
    obtain ⟨σ12, r13, hg14, hf⟩ := cal_some hf
    refine backI hsb hJ (runV (As := [.int a1]) (rest := []) C hJ lk_RX12_389 (cM_isCall hF hg14) recM_0 rfl rfl (Nat.le_of_ble_eq_true rfl) hl.1 (hR_of (by omega) (by decide)) ⟨Nat.le_refl _, Nat.le_refl _⟩ dX12_taken_17) (fun H locs hJ => ?_)
    refine lv_if_ne (tgt := 26) hx hb dX12_taken_20 (by decide) (fun c15 => ?_) (fun c15 => ?_)
    · have hf := ite_f hf c15
      refine lv_aload_n hx hb dX12_taken_26 rfl (lv_at hl 0 rfl) ?_
      refine gM_0_35 C hJ fl_RX12_50 dX12_taken_27 ?_
      refine lv_iload_n hx hb dX12_taken_30 rfl (lv_at hl 1 rfl) ?_
      obtain ⟨h16, hf⟩ := gi_some hf
      refine aM_13 C hJ h16 dX12_taken_31 ?_
      refine lv_topi (fun x17 hx17 => ?_)
      have hf := bnd_at hf hx17
      refine lv_istore_n (lv' := [(3, .int x17), (0, .ref (q 0)), (1, .int a1), (2, .int a2)]) hx hb dX12_taken_32 rfl hl (by decide) rfl (fun ls hl => ?_)
      exact l33 N σ12 a1 a2 x17 _ _ _ hf hJ (lv_sub hl [1, 2, 3, 0] rfl)
    · have hf := ite_t hf c15
      refine lv_bipush (v := -11) hx hb dX12_taken_23 (by decide) ?_
      exact ret_I hret hJ hf rfl dX12_taken_25
  · have hf := ite_t hf c11
    refine lv_bipush (v := -2) hx hb dX12_taken_12 (by decide) ?_
    exact ret_I hret hJ hf rfl dX12_taken_14
