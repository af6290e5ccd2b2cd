set_option maxHeartbeats 4000000 in
set_option maxRecDepth 100000 in
theorem cC_B_cut {l : Launch} {D : va_G} {cA cB : ClassId} {q : Nat → Nat} {x : Nat → Nat} {N : Nat} {σ σ' : St} (hF : Fr (wC q cA cB) (aC q) (eC q x)) (hf : fC_B_cut N σ  = some (σ', ())) : MV l yX9_cut cX9_cut 4 7 D (tyC cA cB) (wC q cA cB) (aC q) (eC q x) [.ref (q 12)] σ σ' := by
  refine MV_of (by decide) hF (Nat.le_of_ble_eq_true rfl) ?_
  intro p e s m args below meth c Q C hret hJ ls hl
  obtain ⟨hx, hb, hml, hown, hts, hK, hE, -⟩ := id C
  have hsb : ∀ z, (aC q) z → (aC q) z := fun _ h => h
  have j108 : ∀ (σ : St) (H : Heap) (locs : List Loc) (ls : Array Slot), fC_B_cut_j108 N  σ = some (σ', ()) → J D (wC q cA cB) (aC q) s σ H locs → lv_has ls 4 [(0, .ref (q 12))] → W p l e (rmH 7) s m args below meth c H locs 0 0 Q (F0 m 108 ls []) := by
    intro σ H locs ls hf hJ hl
    unfold fC_B_cut_j108 at hf
    refine lv_aload_n hx hb dX9_cut_108 rfl (lv_at hl 0 rfl) ?_
    refine lv_iconst (v := -1) hx hb dX9_cut_109 (by decide) ?_
    refine lv_iconst (v := 0) hx hb dX9_cut_110 (by decide) ?_
    refine lv_aload_n hx hb dX9_cut_111 rfl (lv_at hl 0 rfl) ?_
    refine gC_12_1 C hJ fl_RX9_24 dX9_cut_112 ?_
    obtain ⟨σ1, r2, hg3, hf⟩ := cal_some hf
    refine backV hsb hJ (runV (As := [.int (-1 : Int32), .int (0 : Int32), .int (σ.1 20)]) (rest := []) C hJ lk_RX9_51 (cC_B_note hF hg3) recC_12 rfl rfl (Nat.le_of_ble_eq_true rfl) hl.1 (hR_of (by omega) (by decide)) ⟨Nat.le_refl _, Nat.le_refl _⟩ dX9_cut_115) (fun H locs hJ => ?_)
    exact ret_V hret hJ hf dX9_cut_118
  have l9 : ∀ (n : Nat) (σ : St) (a1 : Int32) (a2 : Int32) (H : Heap) (locs : List Loc) (ls : Array Slot), fC_B_cut_l9 N  n σ a1 a2 = some (σ', ()) → J D (wC q cA cB) (aC q) s σ H locs → lv_has ls 4 [(0, .ref (q 12)), (1, .int a1), (2, .int a2)] → W p l e (rmH 7) s m args below meth c H locs 0 0 Q (F0 m 9 ls []) := by
    intro n9
    induction n9 with
    | zero => intro σ a1 a2 H locs ls hf; rw [fC_B_cut_l9] at hf; cases hf
    | succ n9 ih9 =>
      have j102 : ∀ (σ : St) (a1 : Int32) (a2 : Int32) (H : Heap) (locs : List Loc) (ls : Array Slot), fC_B_cut_j102 N (fC_B_cut_l9 N  n9) σ a1 a2 = some (σ', ()) → J D (wC q cA cB) (aC q) s σ H locs → lv_has ls 4 [(0, .ref (q 12)), (1, .int a1), (2, .int a2)] → W p l e (rmH 7) s m args below meth c H locs 0 0 Q (F0 m 102 ls []) := by
        intro σ a1 a2 H locs ls hf hJ hl
        unfold fC_B_cut_j102 at hf
        obtain ⟨x4, hx4⟩ : ∃ z : Int32, z = a2 + (1 : Int32) := ⟨_, rfl⟩
        have hf := bnd_at hf hx4
        refine lv_iinc (v := x4) (lv' := [(2, .int x4), (0, .ref (q 12)), (1, .int a1)]) hx hb dX9_cut_102 hl (k := 2) rfl (by rw [hx4]; rfl) (by decide) rfl (fun ls hl => ?_)
        refine lv_goto (tgt := 9) hx hb dX9_cut_105 (by decide) ?_
        exact ih9 σ a1 x4 _ _ _ hf hJ (lv_sub hl [1, 2, 0] rfl)
      have j94 : ∀ (σ : St) (a1 : Int32) (a2 : Int32) (t1 : Int32) (H : Heap) (locs : List Loc) (ls : Array Slot), fC_B_cut_j94 N (fC_B_cut_l9 N  n9) σ a1 a2 t1 = some (σ', ()) → J D (wC q cA cB) (aC q) s σ H locs → lv_has ls 4 [(0, .ref (q 12)), (1, .int a1), (2, .int a2)] → W p l e (rmH 7) s m args below meth c H locs 0 0 Q (F0 m 94 ls [.int t1, .ref (q 12)]) := by
        intro σ a1 a2 t1 H locs ls hf hJ hl
        unfold fC_B_cut_j94 at hf
        refine lv_iconst (v := 0) hx hb dX9_cut_94 (by decide) ?_
        refine lv_iload_n hx hb dX9_cut_95 rfl (lv_at hl 1 rfl) ?_
        obtain ⟨σ5, r6, hg7, hf⟩ := cal_some hf
        refine backV hsb hJ (runV (As := [.int t1, .int (0 : Int32), .int a1]) (rest := []) C hJ lk_RX9_51 (cC_B_note hF hg7) recC_12 rfl rfl (Nat.le_of_ble_eq_true rfl) hl.1 (hR_of (by omega) (by decide)) ⟨Nat.le_refl _, Nat.le_refl _⟩ dX9_cut_96) (fun H locs hJ => ?_)
        obtain ⟨x8, hx8⟩ : ∃ z : Int32, z = a1 + (1 : Int32) := ⟨_, rfl⟩
        have hf := bnd_at hf hx8
        refine lv_iinc (v := x8) (lv' := [(1, .int x8), (0, .ref (q 12)), (2, .int a2)]) hx hb dX9_cut_99 hl (k := 1) rfl (by rw [hx8]; rfl) (by decide) rfl (fun ls hl => ?_)
        exact j102 σ5 x8 a2 _ _ _ hf hJ (lv_sub hl [1, 0, 2] rfl)
      have j42 : ∀ (σ : St) (a1 : Int32) (a2 : Int32) (H : Heap) (locs : List Loc) (ls : Array Slot), fC_B_cut_j42 N (fC_B_cut_l9 N  n9) σ a1 a2 = some (σ', ()) → J D (wC q cA cB) (aC q) s σ H locs → lv_has ls 4 [(0, .ref (q 12)), (1, .int a1), (2, .int a2)] → W p l e (rmH 7) s m args below meth c H locs 0 0 Q (F0 m 42 ls []) := by
        intro σ a1 a2 H locs ls hf hJ hl
        unfold fC_B_cut_j42 at hf
        obtain ⟨x9, hx9⟩ : ∃ z : Int32, z = a1 + (1 : Int32) := ⟨_, rfl⟩
        have hf := bnd_at hf hx9
        refine lv_iinc (v := x9) (lv' := [(1, .int x9), (0, .ref (q 12)), (2, .int a2)]) hx hb dX9_cut_42 hl (k := 1) rfl (by rw [hx9]; rfl) (by decide) rfl (fun ls hl => ?_)
        refine lv_goto (tgt := 102) hx hb dX9_cut_45 (by decide) ?_
        exact j102 σ x9 a2 _ _ _ hf hJ (lv_sub hl [1, 0, 2] rfl)
      intro σ a1 a2 H locs ls hf hJ hl
      rw [fC_B_cut_l9] at hf
      refine lv_iload_n hx hb dX9_cut_9 rfl (lv_at hl 2 rfl) ?_
      refine lv_sipush (v := 160) hx hb dX9_cut_10 (by decide) ?_
      refine lv_icmp_ge (tgt := 108) hx hb dX9_cut_13 (by decide) (fun c10 => ?_) (fun c10 => ?_)
      · have hf := ite_t hf c10
        exact j108 σ  _ _ _ hf hJ (lv_sub hl [0] rfl)
      · have hf := ite_f hf c10
        refine lv_iload_n hx hb dX9_cut_16 rfl (lv_at hl 1 rfl) ?_
        refine lv_aload_n hx hb dX9_cut_17 rfl (lv_at hl 0 rfl) ?_
        refine gC_12_1 C hJ fl_RX9_24 dX9_cut_18 ?_
        refine lv_icmp_ge (tgt := 108) hx hb dX9_cut_21 (by decide) (fun c11 => ?_) (fun c11 => ?_)
        · have hf := ite_t hf c11
          exact j108 σ  _ _ _ hf hJ (lv_sub hl [0] rfl)
        · have hf := ite_f hf c11
          refine lv_aload_n hx hb dX9_cut_24 rfl (lv_at hl 0 rfl) ?_
          refine lv_iload_n hx hb dX9_cut_25 rfl (lv_at hl 1 rfl) ?_
          obtain ⟨σ12, r13, hg14, hf⟩ := cal_some hf
          refine backI hsb hJ (runV (As := [.int a1]) (rest := []) C hJ lk_RX9_31 (cC_B_byteAt hF hg14) recC_12 rfl rfl (Nat.le_of_ble_eq_true rfl) hl.1 (hR_of (by omega) (by decide)) ⟨Nat.le_refl _, Nat.le_refl _⟩ dX9_cut_26) (fun H locs hJ => ?_)
          refine lv_istore_n (lv' := [(3, .int r13), (0, .ref (q 12)), (1, .int a1), (2, .int a2)]) hx hb dX9_cut_29 rfl hl (by decide) rfl (fun ls hl => ?_)
          refine lv_iload_n hx hb dX9_cut_30 rfl (lv_at hl 0 rfl) ?_
          refine lv_bipush (v := 32) hx hb dX9_cut_31 (by decide) ?_
          refine lv_icmp_eq (tgt := 42) hx hb dX9_cut_33 (by decide) (fun c15 => ?_) (fun c15 => ?_)
          · have hf := ite_t hf c15
            exact j42 σ12 a1 a2 _ _ _ hf hJ (lv_sub hl [1, 2, 3] rfl)
          · have hf := ite_f hf c15
            refine lv_iload_n hx hb dX9_cut_36 rfl (lv_at hl 0 rfl) ?_
            refine lv_bipush (v := 10) hx hb dX9_cut_37 (by decide) ?_
            refine lv_icmp_ne (tgt := 48) hx hb dX9_cut_39 (by decide) (fun c16 => ?_) (fun c16 => ?_)
            · have hf := ite_f hf c16
              refine lv_iload_n hx hb dX9_cut_48 rfl (lv_at hl 0 rfl) ?_
              obtain ⟨σ17, r18, hg19, hf⟩ := cal_some hf
              refine backI hsb hJ (runS (As := [.int r13]) (rest := []) C hJ lk_RX9_35 (cC_B_isLetter hF hg19) rfl rfl (Nat.le_of_ble_eq_true rfl) hl.1 (hR_of (by omega) (by decide)) ⟨Nat.le_refl _, Nat.le_refl _⟩ dX9_cut_49) (fun H locs hJ => ?_)
              refine lv_if_eq (tgt := 64) hx hb dX9_cut_52 (by decide) (fun c20 => ?_) (fun c20 => ?_)
              · have hf := ite_t hf c20
                refine lv_iload_n hx hb dX9_cut_64 rfl (lv_at hl 0 rfl) ?_
                obtain ⟨σ21, r22, hg23, hf⟩ := cal_some hf
                refine backI hsb hJ (runS (As := [.int r13]) (rest := []) C hJ lk_RX9_42 (cC_B_isDigit hF hg23) rfl rfl (Nat.le_of_ble_eq_true rfl) hl.1 (hR_of (by omega) (by decide)) ⟨Nat.le_refl _, Nat.le_refl _⟩ dX9_cut_65) (fun H locs hJ => ?_)
                refine lv_if_eq (tgt := 80) hx hb dX9_cut_68 (by decide) (fun c24 => ?_) (fun c24 => ?_)
                · have hf := ite_t hf c24
                  refine lv_aload_n hx hb dX9_cut_80 rfl (lv_at hl 1 rfl) ?_
                  refine lv_iload_n hx hb dX9_cut_81 rfl (lv_at hl 0 rfl) ?_
                  obtain ⟨σ25, r26, hg27, hf⟩ := cal_some hf
                  refine backI hsb hJ (runS (As := [.int r13]) (rest := [.ref (q 12)]) C hJ lk_RX9_48 (cC_B_isSign hF hg27) rfl rfl (Nat.le_of_ble_eq_true rfl) hl.1 (hR_of (by omega) (by decide)) ⟨Nat.le_refl _, Nat.le_refl _⟩ dX9_cut_82) (fun H locs hJ => ?_)
                  refine lv_if_eq (tgt := 92) hx hb dX9_cut_85 (by decide) (fun c28 => ?_) (fun c28 => ?_)
                  · have hf := ite_t hf c28
                    refine lv_bipush (v := -2) hx hb dX9_cut_92 (by decide) ?_
                    exact j94 σ25 a1 a2 (-2 : Int32) _ _ _ hf hJ (lv_sub hl [1, 2, 3] rfl)
                  · have hf := ite_f hf c28
                    refine lv_iload_n hx hb dX9_cut_88 rfl (lv_at hl 0 rfl) ?_
                    refine lv_goto (tgt := 94) hx hb dX9_cut_89 (by decide) ?_
                    exact j94 σ25 a1 a2 r13 _ _ _ hf hJ (lv_sub hl [1, 2, 3] rfl)
                · have hf := ite_f hf c24
                  refine lv_aload_n hx hb dX9_cut_71 rfl (lv_at hl 1 rfl) ?_
                  refine lv_iload_n hx hb dX9_cut_72 rfl (lv_at hl 2 rfl) ?_
                  obtain ⟨σ29, r30, hg31, hf⟩ := cal_some hf
                  refine backI hsb hJ (runV (As := [.int a1]) (rest := []) C hJ lk_RX9_45 (cC_B_cutNumber hF hg31) recC_12 rfl rfl (Nat.le_of_ble_eq_true rfl) hl.1 (hR_of (by omega) (by decide)) ⟨Nat.le_refl _, Nat.le_refl _⟩ dX9_cut_73) (fun H locs hJ => ?_)
                  refine lv_istore_n (lv' := [(1, .int r30), (3, .int r13), (0, .ref (q 12)), (2, .int a2)]) hx hb dX9_cut_76 rfl hl (by decide) rfl (fun ls hl => ?_)
                  refine lv_goto (tgt := 102) hx hb dX9_cut_77 (by decide) ?_
                  exact j102 σ29 r30 a2 _ _ _ hf hJ (lv_sub hl [2, 0, 3] rfl)
              · have hf := ite_f hf c20
                refine lv_aload_n hx hb dX9_cut_55 rfl (lv_at hl 1 rfl) ?_
                refine lv_iload_n hx hb dX9_cut_56 rfl (lv_at hl 2 rfl) ?_
                obtain ⟨σ32, r33, hg34, hf⟩ := cal_some hf
                refine backI hsb hJ (runV (As := [.int a1]) (rest := []) C hJ lk_RX9_39 (cC_B_cutWord hF hg34) recC_12 rfl rfl (Nat.le_of_ble_eq_true rfl) hl.1 (hR_of (by omega) (by decide)) ⟨Nat.le_refl _, Nat.le_refl _⟩ dX9_cut_57) (fun H locs hJ => ?_)
                refine lv_istore_n (lv' := [(1, .int r33), (3, .int r13), (0, .ref (q 12)), (2, .int a2)]) hx hb dX9_cut_60 rfl hl (by decide) rfl (fun ls hl => ?_)
                refine lv_goto (tgt := 102) hx hb dX9_cut_61 (by decide) ?_
                exact j102 σ32 r33 a2 _ _ _ hf hJ (lv_sub hl [2, 0, 3] rfl)
            · have hf := ite_t hf c16
              exact j42 σ12 a1 a2 _ _ _ hf hJ (lv_sub hl [1, 2, 3] rfl)
  have hl : lv_has ls 4 [(0, .ref (q 12))] := hl
  unfold fC_B_cut at hf
  refine lv_aload_n hx hb dX9_cut_0 rfl (lv_at hl 0 rfl) ?_
  refine lv_iconst (v := 0) hx hb dX9_cut_1 (by decide) ?_
  refine pC_12_5 C hJ fl_RX9_28 dX9_cut_2 (fun σ35 H locs hs hJ => ?_)
  have hf := bnd_at hf hs
  refine lv_iconst (v := 0) hx hb dX9_cut_5 (by decide) ?_
  refine lv_istore_n (lv' := [(1, .int (0 : Int32)), (0, .ref (q 12))]) hx hb dX9_cut_6 rfl hl (by decide) rfl (fun ls hl => ?_)
  refine lv_iconst (v := 0) hx hb dX9_cut_7 (by decide) ?_
  refine lv_istore_n (lv' := [(2, .int (0 : Int32)), (1, .int (0 : Int32)), (0, .ref (q 12))]) hx hb dX9_cut_8 rfl hl (by decide) rfl (fun ls hl => ?_)
  exact l9 N σ35 (0 : Int32) (0 : Int32) _ _ _ hf hJ (lv_sub hl [2, 1, 0] rfl)
set_option maxHeartbeats 4000000 in
set_option maxRecDepth 100000 in
theorem cC_R_readKeys {l : Launch} {D : va_G} {cA cB : ClassId} {q : Nat → Nat} {x : Nat → Nat} {N : Nat} {σ σ' : St} {r : Int32} (hF : Fr (wC q cA cB) (aC q) (eC q x)) (hf : fC_R_readKeys N σ  = some (σ', r)) : MI l yX6_readKeys cX6_readKeys 2 .boolean 49 D (tyC cA cB) (wC q cA cB) (aC q) (eC q x) [.ref (q 2)] σ σ' r := by
  refine MI_of (by decide) hF (Nat.le_of_ble_eq_true rfl) ?_
  intro p e s m args below meth c Q C hret hJ ls hl
  obtain ⟨hx, hb, hml, hown, hts, hK, hE, -⟩ := id C
  have hsb : ∀ z, (aC q) z → (aC q) z := fun _ h => h
  have j54 : ∀ (σ : St) (H : Heap) (locs : List Loc) (ls : Array Slot), fC_R_readKeys_j54 N  σ = some (σ', r) → J D (wC q cA cB) (aC q) s σ H locs → lv_has ls 2 [(0, .ref (q 2))] → W p l e (rmH 49) s m args below meth c H locs 0 0 Q (F0 m 54 ls []) := by
    intro σ H locs ls hf hJ hl
    unfold fC_R_readKeys_j54 at hf
    refine lv_aload_n hx hb dX6_readKeys_54 rfl (lv_at hl 0 rfl) ?_
    obtain ⟨σ1, r2, hg3, hf⟩ := cal_some hf
    refine backI hsb hJ (runV (As := []) (rest := []) C hJ lk_RX6_55 (cC_R_kindNow hF hg3) recC_2 rfl rfl (Nat.le_of_ble_eq_true rfl) hl.1 (hR_of (by omega) (by decide)) ⟨Nat.le_refl _, Nat.le_refl _⟩ dX6_readKeys_55) (fun H locs hJ => ?_)
    refine lv_iconst (v := -1) hx hb dX6_readKeys_58 (by decide) ?_
    refine lv_icmp_ne (tgt := 66) hx hb dX6_readKeys_59 (by decide) (fun c4 => ?_) (fun c4 => ?_)
    · have hf := ite_f hf c4
      refine lv_iconst (v := 0) hx hb dX6_readKeys_66 (by decide) ?_
      exact ret_I hret hJ hf (nar_z (by decide)) dX6_readKeys_67
    · have hf := ite_t hf c4
      refine lv_iconst (v := 1) hx hb dX6_readKeys_62 (by decide) ?_
      refine lv_goto (tgt := 67) hx hb dX6_readKeys_63 (by decide) ?_
      exact ret_I hret hJ hf (nar_z (by decide)) dX6_readKeys_67
  have l2 : ∀ (n : Nat) (σ : St) (a1 : Int32) (H : Heap) (locs : List Loc) (ls : Array Slot), fC_R_readKeys_l2 N  n σ a1 = some (σ', r) → J D (wC q cA cB) (aC q) s σ H locs → lv_has ls 2 [(0, .ref (q 2)), (1, .int a1)] → W p l e (rmH 49) s m args below meth c H locs 0 0 Q (F0 m 2 ls []) := by
    intro n2
    induction n2 with
    | zero => intro σ a1 H locs ls hf; rw [fC_R_readKeys_l2] at hf; cases hf
    | succ n2 ih2 =>
      intro σ a1 H locs ls hf hJ hl
      rw [fC_R_readKeys_l2] at hf
      refine lv_iload_n hx hb dX6_readKeys_2 rfl (lv_at hl 1 rfl) ?_
      refine lv_iconst (v := 3) hx hb dX6_readKeys_3 (by decide) ?_
      refine lv_icmp_ge (tgt := 54) hx hb dX6_readKeys_4 (by decide) (fun c5 => ?_) (fun c5 => ?_)
      · have hf := ite_t hf c5
        exact j54 σ  _ _ _ hf hJ (lv_sub hl [0] rfl)
      · have hf := ite_f hf c5
        refine lv_aload_n hx hb dX6_readKeys_7 rfl (lv_at hl 0 rfl) ?_
        refine lv_sipush (v := 262) hx hb dX6_readKeys_8 (by decide) ?_
        refine lv_iload_n hx hb dX6_readKeys_11 rfl (lv_at hl 1 rfl) ?_
        refine lv_iadd hx hb dX6_readKeys_12 ?_
        obtain ⟨σ6, r7, hg8, hf⟩ := cal_some hf
        refine backI hsb hJ (runV (As := [.int ((262 : Int32) + a1)]) (rest := []) C hJ lk_RX6_48 (cC_R_pass hF hg8) recC_2 rfl rfl (Nat.le_of_ble_eq_true rfl) hl.1 (hR_of (by omega) (by decide)) ⟨Nat.le_refl _, Nat.le_refl _⟩ dX6_readKeys_13) (fun H locs hJ => ?_)
        refine lv_if_eq (tgt := 36) hx hb dX6_readKeys_16 (by decide) (fun c9 => ?_) (fun c9 => ?_)
        · have hf := ite_t hf c9
          refine lv_iconst (v := 0) hx hb dX6_readKeys_36 (by decide) ?_
          exact ret_I hret hJ hf (nar_z (by decide)) dX6_readKeys_37
        · have hf := ite_f hf c9
          refine lv_aload_n hx hb dX6_readKeys_19 rfl (lv_at hl 0 rfl) ?_
          refine lv_iconst (v := 0) hx hb dX6_readKeys_20 (by decide) ?_
          obtain ⟨σ10, r11, hg12, hf⟩ := cal_some hf
          refine backI hsb hJ (runV (As := [.int (0 : Int32)]) (rest := []) C hJ lk_RX6_52 (cC_lv_readOr hF hg12) recC_2 rfl rfl (Nat.le_of_ble_eq_true rfl) hl.1 (hR_of (by omega) (by decide)) ⟨Nat.le_refl _, Nat.le_refl _⟩ dX6_readKeys_21) (fun H locs hJ => ?_)
          refine lv_if_eq (tgt := 36) hx hb dX6_readKeys_24 (by decide) (fun c13 => ?_) (fun c13 => ?_)
          · have hf := ite_t hf c13
            refine lv_iconst (v := 0) hx hb dX6_readKeys_36 (by decide) ?_
            exact ret_I hret hJ hf (nar_z (by decide)) dX6_readKeys_37
          · have hf := ite_f hf c13
            refine lv_aload_n hx hb dX6_readKeys_27 rfl (lv_at hl 0 rfl) ?_
            refine lv_bipush (v := 59) hx hb dX6_readKeys_28 (by decide) ?_
            obtain ⟨σ14, r15, hg16, hf⟩ := cal_some hf
            refine backI hsb hJ (runV (As := [.int (59 : Int32)]) (rest := []) C hJ lk_RX6_48 (cC_R_pass hF hg16) recC_2 rfl rfl (Nat.le_of_ble_eq_true rfl) hl.1 (hR_of (by omega) (by decide)) ⟨Nat.le_refl _, Nat.le_refl _⟩ dX6_readKeys_30) (fun H locs hJ => ?_)
            refine lv_if_ne (tgt := 38) hx hb dX6_readKeys_33 (by decide) (fun c17 => ?_) (fun c17 => ?_)
            · have hf := ite_f hf c17
              refine lv_aload_n hx hb dX6_readKeys_38 rfl (lv_at hl 0 rfl) ?_
              refine gC_2_2 C hJ fl_RX6_22 dX6_readKeys_39 ?_
              refine lv_iload_n hx hb dX6_readKeys_42 rfl (lv_at hl 1 rfl) ?_
              refine lv_aload_n hx hb dX6_readKeys_43 rfl (lv_at hl 0 rfl) ?_
              refine gC_2_3 C hJ fl_RX6_32 dX6_readKeys_44 ?_
              obtain ⟨h18, hf⟩ := gi_some hf
              refine sC_14 C hJ h18 dX6_readKeys_47 (fun σ19 H locs hs hJ => ?_)
              have hf := bnd_at hf hs
              obtain ⟨x20, hx20⟩ : ∃ z : Int32, z = a1 + (1 : Int32) := ⟨_, rfl⟩
              have hf := bnd_at hf hx20
              refine lv_iinc (v := x20) (lv' := [(1, .int x20), (0, .ref (q 2))]) hx hb dX6_readKeys_48 hl (k := 1) rfl (by rw [hx20]; rfl) (by decide) rfl (fun ls hl => ?_)
              refine lv_goto (tgt := 2) hx hb dX6_readKeys_51 (by decide) ?_
              exact ih2 σ19 x20 _ _ _ hf hJ (lv_sub hl [1, 0] rfl)
            · have hf := ite_t hf c17
              refine lv_iconst (v := 0) hx hb dX6_readKeys_36 (by decide) ?_
              exact ret_I hret hJ hf (nar_z (by decide)) dX6_readKeys_37
  have hl : lv_has ls 2 [(0, .ref (q 2))] := hl
  unfold fC_R_readKeys at hf
  refine lv_iconst (v := 0) hx hb dX6_readKeys_0 (by decide) ?_
  refine lv_istore_n (lv' := [(1, .int (0 : Int32)), (0, .ref (q 2))]) hx hb dX6_readKeys_1 rfl hl (by decide) rfl (fun ls hl => ?_)
  exact l2 N σ (0 : Int32) _ _ _ hf hJ (lv_sub hl [1, 0] rfl)
set_option maxHeartbeats 4000000 in
set_option maxRecDepth 100000 in
theorem cC_R_readTape {l : Launch} {D : va_G} {cA cB : ClassId} {q : Nat → Nat} {x : Nat → Nat} {N : Nat} {σ σ' : St} {r : Int32} (hF : Fr (wC q cA cB) (aC q) (eC q x)) (hf : fC_R_readTape N σ  = some (σ', r)) : MI l yX6_readTape cX6_readTape 3 .int 50 D (tyC cA cB) (wC q cA cB) (aC q) (eC q x) [.ref (q 2)] σ σ' r := by
  refine MI_of (by decide) hF (Nat.le_of_ble_eq_true rfl) ?_
  intro p e s m args below meth c Q C hret hJ ls hl
  obtain ⟨hx, hb, hml, hown, hts, hK, hE, -⟩ := id C
  have hsb : ∀ z, (aC q) z → (aC q) z := fun _ h => h
  have j56 : ∀ (σ : St) (t0 : Int32) (H : Heap) (locs : List Loc) (ls : Array Slot), fC_R_readTape_j56 N  σ t0 = some (σ', r) → J D (wC q cA cB) (aC q) s σ H locs → lv_has ls 3 [(0, .ref (q 2))] → W p l e (rmH 50) s m args below meth c H locs 0 0 Q (F0 m 56 ls [.int t0]) := by
    intro σ t0 H locs ls hf hJ hl
    unfold fC_R_readTape_j56 at hf
    refine lv_istore_n (lv' := [(2, .int t0), (0, .ref (q 2))]) hx hb dX6_readTape_56 rfl hl (by decide) rfl (fun ls hl => ?_)
    refine lv_aload_n hx hb dX6_readTape_57 rfl (lv_at hl 1 rfl) ?_
    refine gC_2_0 C hJ fl_RX6_12 dX6_readTape_58 ?_
    refine lv_iconst (v := 0) hx hb dX6_readTape_61 (by decide) ?_
    refine pC_12_1 C hJ fl_RX6_45 dX6_readTape_62 (fun σ1 H locs hs hJ => ?_)
    have hf := bnd_at hf hs
    refine lv_iload_n hx hb dX6_readTape_65 rfl (lv_at hl 0 rfl) ?_
    exact ret_I hret hJ hf rfl dX6_readTape_66
  have j40 : ∀ (σ : St) (H : Heap) (locs : List Loc) (ls : Array Slot), fC_R_readTape_j40 N  σ = some (σ', r) → J D (wC q cA cB) (aC q) s σ H locs → lv_has ls 3 [(0, .ref (q 2))] → W p l e (rmH 50) s m args below meth c H locs 0 0 Q (F0 m 40 ls []) := by
    intro σ H locs ls hf hJ hl
    unfold fC_R_readTape_j40 at hf
    refine lv_iconst (v := -1) hx hb dX6_readTape_40 (by decide) ?_
    refine lv_goto (tgt := 56) hx hb dX6_readTape_41 (by decide) ?_
    exact j56 σ (-1 : Int32) _ _ _ hf hJ (lv_sub hl [0] rfl)
  have hl : lv_has ls 3 [(0, .ref (q 2))] := hl
  unfold fC_R_readTape at hf
  refine lv_aload_n hx hb dX6_readTape_0 rfl (lv_at hl 0 rfl) ?_
  refine gC_2_0 C hJ fl_RX6_12 dX6_readTape_1 ?_
  obtain ⟨σ2, r3, hg4, hf⟩ := cal_some hf
  refine backV hsb hJ (runV (As := []) (rest := []) C hJ lk_RX6_25 (cC_B_cut hF hg4) recC_12 rfl rfl (Nat.le_of_ble_eq_true rfl) hl.1 (hR_of (by omega) (by decide)) ⟨Nat.le_refl _, Nat.le_refl _⟩ dX6_readTape_4) (fun H locs hJ => ?_)
  refine lv_aload_n hx hb dX6_readTape_7 rfl (lv_at hl 0 rfl) ?_
  refine lv_iconst (v := 0) hx hb dX6_readTape_8 (by decide) ?_
  refine pC_2_4 C hJ fl_RX6_28 dX6_readTape_9 (fun σ5 H locs hs hJ => ?_)
  have hf := bnd_at hf hs
  refine lv_aload_n hx hb dX6_readTape_12 rfl (lv_at hl 0 rfl) ?_
  refine lv_iconst (v := 0) hx hb dX6_readTape_13 (by decide) ?_
  refine pC_2_3 C hJ fl_RX6_32 dX6_readTape_14 (fun σ6 H locs hs hJ => ?_)
  have hf := bnd_at hf hs
  refine lv_aload_n hx hb dX6_readTape_17 rfl (lv_at hl 0 rfl) ?_
  obtain ⟨σ7, r8, hg9, hf⟩ := cal_some hf
  refine backI hsb hJ (runV (As := []) (rest := []) C hJ lk_RX6_35 (cC_R_readKeys hF hg9) recC_2 rfl rfl (Nat.le_of_ble_eq_true rfl) hl.1 (hR_of (by omega) (by decide)) ⟨Nat.le_refl _, Nat.le_refl _⟩ dX6_readTape_18) (fun H locs hJ => ?_)
  refine lv_istore_n (lv' := [(1, .int r8), (0, .ref (q 2))]) hx hb dX6_readTape_21 rfl hl (by decide) rfl (fun ls hl => ?_)
  refine lv_iload_n hx hb dX6_readTape_22 rfl (lv_at hl 0 rfl) ?_
  refine lv_if_ne (tgt := 40) hx hb dX6_readTape_23 (by decide) (fun c10 => ?_) (fun c10 => ?_)
  · have hf := ite_f hf c10
    exact j40 σ7  _ _ _ hf hJ (lv_sub hl [1] rfl)
  · have hf := ite_t hf c10
    refine lv_aload_n hx hb dX6_readTape_26 rfl (lv_at hl 1 rfl) ?_
    refine gC_2_4 C hJ fl_RX6_28 dX6_readTape_27 ?_
    refine lv_aload_n hx hb dX6_readTape_30 rfl (lv_at hl 1 rfl) ?_
    refine gC_2_0 C hJ fl_RX6_12 dX6_readTape_31 ?_
    refine gC_12_5 C hJ fl_RX6_39 dX6_readTape_34 ?_
    refine lv_icmp_lt (tgt := 44) hx hb dX6_readTape_37 (by decide) (fun c11 => ?_) (fun c11 => ?_)
    · have hf := ite_t hf c11
      refine lv_aload_n hx hb dX6_readTape_44 rfl (lv_at hl 1 rfl) ?_
      refine gC_2_0 C hJ fl_RX6_12 dX6_readTape_45 ?_
      refine gC_12_4 C hJ fl_RX6_42 dX6_readTape_48 ?_
      refine lv_aload_n hx hb dX6_readTape_51 rfl (lv_at hl 1 rfl) ?_
      refine gC_2_4 C hJ fl_RX6_28 dX6_readTape_52 ?_
      obtain ⟨h12, hf⟩ := gi_some hf
      refine aC_56 C hJ h12 dX6_readTape_55 ?_
      exact j56 σ7 (σ7.2.1 56 (σ7.1 10).toNatClampNeg) _ _ _ hf hJ (lv_sub hl [1] rfl)
    · have hf := ite_f hf c11
      exact j40 σ7  _ _ _ hf hJ (lv_sub hl [1] rfl)
set_option maxHeartbeats 4000000 in
set_option maxRecDepth 100000 in
theorem cC_T_keep {l : Launch} {D : va_G} {cA cB : ClassId} {q : Nat → Nat} {x : Nat → Nat} {N : Nat} {σ σ' : St} {r : Int32} (hF : Fr (wC q cA cB) (aC q) (eC q x)) (hf : fC_T_keep N σ  = some (σ', r)) : MI l yX10_keep cX10_keep 5 .int 1 D (tyC cA cB) (wC q cA cB) (aC q) (eC q x) [.ref (q 10), .ref (q 2)] σ σ' r := by
  refine MI_of (by decide) hF (Nat.le_of_ble_eq_true rfl) ?_
  intro p e s m args below meth c Q C hret hJ ls hl
  obtain ⟨hx, hb, hml, hown, hts, hK, hE, -⟩ := id C
  have hsb : ∀ z, (aC q) z → (aC q) z := fun _ h => h
  have j115 : ∀ (σ : St) (H : Heap) (locs : List Loc) (ls : Array Slot), fC_T_keep_j115 N  σ = some (σ', r) → J D (wC q cA cB) (aC q) s σ H locs → lv_has ls 5 [(0, .ref (q 10))] → W p l e (rmH 1) s m args below meth c H locs 0 0 Q (F0 m 115 ls []) := by
    intro σ H locs ls hf hJ hl
    unfold fC_T_keep_j115 at hf
    refine lv_aload_n hx hb dX10_keep_115 rfl (lv_at hl 0 rfl) ?_
    refine lv_dup hx hb dX10_keep_116 rfl ?_
    refine gC_10_5 C hJ fl_RX10_27 dX10_keep_117 ?_
    refine lv_iconst (v := 1) hx hb dX10_keep_120 (by decide) ?_
    refine lv_iadd hx hb dX10_keep_121 ?_
    refine pC_10_5 C hJ fl_RX10_27 dX10_keep_122 (fun σ1 H locs hs hJ => ?_)
    have hf := bnd_at hf hs
    refine lv_aload_n hx hb dX10_keep_125 rfl (lv_at hl 0 rfl) ?_
    refine gC_10_5 C hJ fl_RX10_27 dX10_keep_126 ?_
    refine lv_iconst (v := 1) hx hb dX10_keep_129 (by decide) ?_
    refine lv_isub hx hb dX10_keep_130 ?_
    exact ret_I hret hJ hf rfl dX10_keep_131
  have l55 : ∀ (n : Nat) (σ : St) (a2 : Int32) (a3 : Int32) (a4 : Int32) (H : Heap) (locs : List Loc) (ls : Array Slot), fC_T_keep_l55 N  n σ a2 a3 a4 = some (σ', r) → J D (wC q cA cB) (aC q) s σ H locs → lv_has ls 5 [(0, .ref (q 10)), (1, .ref (q 2)), (2, .int a2), (3, .int a3), (4, .int a4)] → W p l e (rmH 1) s m args below meth c H locs 0 0 Q (F0 m 55 ls []) := by
    intro n55
    induction n55 with
    | zero => intro σ a2 a3 a4 H locs ls hf; rw [fC_T_keep_l55] at hf; cases hf
    | succ n55 ih55 =>
      intro σ a2 a3 a4 H locs ls hf hJ hl
      rw [fC_T_keep_l55] at hf
      refine lv_iload hx hb dX10_keep_55 (lv_at hl 4 rfl) ?_
      refine lv_iconst (v := 3) hx hb dX10_keep_57 (by decide) ?_
      refine lv_icmp_ge (tgt := 115) hx hb dX10_keep_58 (by decide) (fun c2 => ?_) (fun c2 => ?_)
      · have hf := ite_t hf c2
        exact j115 σ  _ _ _ hf hJ (lv_sub hl [0] rfl)
      · have hf := ite_f hf c2
        refine lv_aload_n hx hb dX10_keep_61 rfl (lv_at hl 0 rfl) ?_
        refine gC_10_1 C hJ fl_RX10_15 dX10_keep_62 ?_
        refine lv_aload_n hx hb dX10_keep_65 rfl (lv_at hl 0 rfl) ?_
        refine gC_10_5 C hJ fl_RX10_27 dX10_keep_66 ?_
        refine lv_iconst (v := 3) hx hb dX10_keep_69 (by decide) ?_
        refine lv_imul hx hb dX10_keep_70 ?_
        refine lv_iload hx hb dX10_keep_71 (lv_at hl 4 rfl) ?_
        refine lv_iadd hx hb dX10_keep_73 ?_
        refine lv_iload_n hx hb dX10_keep_74 rfl (lv_at hl 2 rfl) ?_
        refine lv_iload_n hx hb dX10_keep_75 rfl (lv_at hl 3 rfl) ?_
        refine lv_iadd hx hb dX10_keep_76 ?_
        obtain ⟨h3, hf⟩ := gi_some hf
        refine sC_42 C hJ h3 dX10_keep_77 (fun σ4 H locs hs hJ => ?_)
        have hf := bnd_at hf hs
        refine lv_aload_n hx hb dX10_keep_78 rfl (lv_at hl 0 rfl) ?_
        refine gC_10_2 C hJ fl_RX10_18 dX10_keep_79 ?_
        refine lv_aload_n hx hb dX10_keep_82 rfl (lv_at hl 0 rfl) ?_
        refine gC_10_5 C hJ fl_RX10_27 dX10_keep_83 ?_
        refine lv_iconst (v := 3) hx hb dX10_keep_86 (by decide) ?_
        refine lv_imul hx hb dX10_keep_87 ?_
        refine lv_iload hx hb dX10_keep_88 (lv_at hl 4 rfl) ?_
        refine lv_iadd hx hb dX10_keep_90 ?_
        refine lv_iload_n hx hb dX10_keep_91 rfl (lv_at hl 2 rfl) ?_
        refine lv_aload_n hx hb dX10_keep_92 rfl (lv_at hl 1 rfl) ?_
        refine gC_2_2 C hJ fl_RX10_34 dX10_keep_93 ?_
        refine lv_iload hx hb dX10_keep_96 (lv_at hl 4 rfl) ?_
        obtain ⟨h5, hf⟩ := gi_some hf
        refine aC_14 C hJ h5 dX10_keep_98 ?_
        refine lv_iadd hx hb dX10_keep_99 ?_
        obtain ⟨h6, hf⟩ := gi_some hf
        refine sC_43 C hJ h6 dX10_keep_100 (fun σ7 H locs hs hJ => ?_)
        have hf := bnd_at hf hs
        refine lv_aload_n hx hb dX10_keep_101 rfl (lv_at hl 1 rfl) ?_
        refine gC_2_2 C hJ fl_RX10_34 dX10_keep_102 ?_
        refine lv_iload hx hb dX10_keep_105 (lv_at hl 4 rfl) ?_
        obtain ⟨h8, hf⟩ := gi_some hf
        refine aC_14 C hJ h8 dX10_keep_107 ?_
        refine lv_topi (fun x9 hx9 => ?_)
        have hf := bnd_at hf hx9
        refine lv_istore_n (lv' := [(3, .int x9), (0, .ref (q 10)), (1, .ref (q 2)), (2, .int a2), (4, .int a4)]) hx hb dX10_keep_108 rfl hl (by decide) rfl (fun ls hl => ?_)
        obtain ⟨x10, hx10⟩ : ∃ z : Int32, z = a4 + (1 : Int32) := ⟨_, rfl⟩
        have hf := bnd_at hf hx10
        refine lv_iinc (v := x10) (lv' := [(4, .int x10), (3, .int x9), (0, .ref (q 10)), (1, .ref (q 2)), (2, .int a2)]) hx hb dX10_keep_109 hl (k := 4) rfl (by rw [hx10]; rfl) (by decide) rfl (fun ls hl => ?_)
        refine lv_goto (tgt := 55) hx hb dX10_keep_112 (by decide) ?_
        exact ih55 σ7 a2 x9 x10 _ _ _ hf hJ (lv_sub hl [2, 3, 4, 1, 0] rfl)
  have j50 : ∀ (σ : St) (a2 : Int32) (H : Heap) (locs : List Loc) (ls : Array Slot), fC_T_keep_j50 N  σ a2 = some (σ', r) → J D (wC q cA cB) (aC q) s σ H locs → lv_has ls 5 [(0, .ref (q 10)), (1, .ref (q 2)), (2, .int a2)] → W p l e (rmH 1) s m args below meth c H locs 0 0 Q (F0 m 50 ls []) := by
    intro σ a2 H locs ls hf hJ hl
    unfold fC_T_keep_j50 at hf
    refine lv_iconst (v := 0) hx hb dX10_keep_50 (by decide) ?_
    refine lv_istore_n (lv' := [(3, .int (0 : Int32)), (0, .ref (q 10)), (1, .ref (q 2)), (2, .int a2)]) hx hb dX10_keep_51 rfl hl (by decide) rfl (fun ls hl => ?_)
    refine lv_iconst (v := 0) hx hb dX10_keep_52 (by decide) ?_
    refine lv_istore (lv' := [(4, .int (0 : Int32)), (3, .int (0 : Int32)), (0, .ref (q 10)), (1, .ref (q 2)), (2, .int a2)]) hx hb dX10_keep_53 hl (by decide) rfl (fun ls hl => ?_)
    exact l55 N σ a2 (0 : Int32) (0 : Int32) _ _ _ hf hJ (lv_sub hl [2, 3, 4, 1, 0] rfl)
  have l23 : ∀ (n : Nat) (σ : St) (a2 : Int32) (a3 : Int32) (H : Heap) (locs : List Loc) (ls : Array Slot), fC_T_keep_l23 N  n σ a2 a3 = some (σ', r) → J D (wC q cA cB) (aC q) s σ H locs → lv_has ls 5 [(0, .ref (q 10)), (1, .ref (q 2)), (2, .int a2), (3, .int a3)] → W p l e (rmH 1) s m args below meth c H locs 0 0 Q (F0 m 23 ls []) := by
    intro n23
    induction n23 with
    | zero => intro σ a2 a3 H locs ls hf; rw [fC_T_keep_l23] at hf; cases hf
    | succ n23 ih23 =>
      intro σ a2 a3 H locs ls hf hJ hl
      rw [fC_T_keep_l23] at hf
      refine lv_iload_n hx hb dX10_keep_23 rfl (lv_at hl 3 rfl) ?_
      refine lv_sipush (v := 160) hx hb dX10_keep_24 (by decide) ?_
      refine lv_icmp_ge (tgt := 50) hx hb dX10_keep_27 (by decide) (fun c11 => ?_) (fun c11 => ?_)
      · have hf := ite_t hf c11
        exact j50 σ a2 _ _ _ hf hJ (lv_sub hl [0, 1, 2] rfl)
      · have hf := ite_f hf c11
        refine lv_aload_n hx hb dX10_keep_30 rfl (lv_at hl 0 rfl) ?_
        refine gC_10_0 C hJ fl_RX10_9 dX10_keep_31 ?_
        refine lv_iload_n hx hb dX10_keep_34 rfl (lv_at hl 2 rfl) ?_
        refine lv_iload_n hx hb dX10_keep_35 rfl (lv_at hl 3 rfl) ?_
        refine lv_iadd hx hb dX10_keep_36 ?_
        refine lv_aload_n hx hb dX10_keep_37 rfl (lv_at hl 1 rfl) ?_
        refine gC_2_1 C hJ fl_RX10_31 dX10_keep_38 ?_
        refine lv_iload_n hx hb dX10_keep_41 rfl (lv_at hl 3 rfl) ?_
        obtain ⟨h12, hf⟩ := gi_some hf
        refine aC_13 C hJ h12 dX10_keep_42 ?_
        obtain ⟨h13, hf⟩ := gi_some hf
        refine sC_41 C hJ h13 dX10_keep_43 (fun σ14 H locs hs hJ => ?_)
        have hf := bnd_at hf hs
        obtain ⟨x15, hx15⟩ : ∃ z : Int32, z = a3 + (1 : Int32) := ⟨_, rfl⟩
        have hf := bnd_at hf hx15
        refine lv_iinc (v := x15) (lv' := [(3, .int x15), (0, .ref (q 10)), (1, .ref (q 2)), (2, .int a2)]) hx hb dX10_keep_44 hl (k := 3) rfl (by rw [hx15]; rfl) (by decide) rfl (fun ls hl => ?_)
        refine lv_goto (tgt := 23) hx hb dX10_keep_47 (by decide) ?_
        exact ih23 σ14 a2 x15 _ _ _ hf hJ (lv_sub hl [1, 2, 3, 0] rfl)
  have hl : lv_has ls 5 [(0, .ref (q 10)), (1, .ref (q 2))] := hl
  unfold fC_T_keep at hf
  refine lv_aload_n hx hb dX10_keep_0 rfl (lv_at hl 0 rfl) ?_
  refine gC_10_5 C hJ fl_RX10_27 dX10_keep_1 ?_
  refine lv_bipush (v := 6) hx hb dX10_keep_4 (by decide) ?_
  refine lv_icmp_lt (tgt := 12) hx hb dX10_keep_6 (by decide) (fun c16 => ?_) (fun c16 => ?_)
  · have hf := ite_t hf c16
    refine lv_aload_n hx hb dX10_keep_12 rfl (lv_at hl 0 rfl) ?_
    refine gC_10_5 C hJ fl_RX10_27 dX10_keep_13 ?_
    refine lv_sipush (v := 160) hx hb dX10_keep_16 (by decide) ?_
    refine lv_imul hx hb dX10_keep_19 ?_
    refine lv_topi (fun x17 hx17 => ?_)
    have hf := bnd_at hf hx17
    refine lv_istore_n (lv' := [(2, .int x17), (0, .ref (q 10)), (1, .ref (q 2))]) hx hb dX10_keep_20 rfl hl (by decide) rfl (fun ls hl => ?_)
    refine lv_iconst (v := 0) hx hb dX10_keep_21 (by decide) ?_
    refine lv_istore_n (lv' := [(3, .int (0 : Int32)), (2, .int x17), (0, .ref (q 10)), (1, .ref (q 2))]) hx hb dX10_keep_22 rfl hl (by decide) rfl (fun ls hl => ?_)
    exact l23 N σ x17 (0 : Int32) _ _ _ hf hJ (lv_sub hl [2, 3, 1, 0] rfl)
  · have hf := ite_f hf c16
    refine lv_bipush (v := -4) hx hb dX10_keep_9 (by decide) ?_
    exact ret_I hret hJ hf rfl dX10_keep_11
set_option maxHeartbeats 4000000 in
set_option maxRecDepth 100000 in
theorem cC_text {l : Launch} {D : va_G} {cA cB : ClassId} {q : Nat → Nat} {x : Nat → Nat} {N : Nat} {σ σ' : St} {r : Int32} (hF : Fr (wC q cA cB) (aC q) (eC q x)) (hf : fC_text N σ  = some (σ', r)) : MI l yX11_text cX11_text 2 .int 51 D (tyC cA cB) (wC q cA cB) (aC q) (eC q x) [.ref (q 0)] σ σ' r := by
  refine MI_of (by decide) hF (Nat.le_of_ble_eq_true rfl) ?_
  intro p e s m args below meth c Q C hret hJ ls hl
  obtain ⟨hx, hb, hml, hown, hts, hK, hE, -⟩ := id C
  have hsb : ∀ z, (aC q) z → (aC q) z := fun _ h => h
  have hl : lv_has ls 2 [(0, .ref (q 0))] := hl
  unfold fC_text at hf
  refine lv_aload_n hx hb dX11_text_0 rfl (lv_at hl 0 rfl) ?_
  refine gC_0_0 C hJ fl_RX11_12 dX11_text_1 ?_
  refine gC_1_3 C hJ fl_RX11_76 dX11_text_4 ?_
  refine gC_10_5 C hJ fl_RX11_176 dX11_text_7 ?_
  refine lv_bipush (v := 6) hx hb dX11_text_10 (by decide) ?_
  refine lv_icmp_lt (tgt := 18) hx hb dX11_text_12 (by decide) (fun c1 => ?_) (fun c1 => ?_)
  · have hf := ite_t hf c1
    refine lv_aload_n hx hb dX11_text_18 rfl (lv_at hl 0 rfl) ?_
    refine gC_0_1 C hJ fl_RX11_19 dX11_text_19 ?_
    obtain ⟨σ2, r3, hg4, hf⟩ := cal_some hf
    refine backI hsb hJ (runV (As := []) (rest := []) C hJ lk_RX11_73 (cC_R_readTape hF hg4) recC_2 rfl rfl (Nat.le_of_ble_eq_true rfl) hl.1 (hR_of (by omega) (by decide)) ⟨Nat.le_refl _, Nat.le_refl _⟩ dX11_text_22) (fun H locs hJ => ?_)
    refine lv_istore_n (lv' := [(1, .int r3), (0, .ref (q 0))]) hx hb dX11_text_25 rfl hl (by decide) rfl (fun ls hl => ?_)
    refine lv_iload_n hx hb dX11_text_26 rfl (lv_at hl 0 rfl) ?_
    refine lv_iconst (v := -1) hx hb dX11_text_27 (by decide) ?_
    refine lv_icmp_eq (tgt := 36) hx hb dX11_text_28 (by decide) (fun c5 => ?_) (fun c5 => ?_)
    · have hf := ite_t hf c5
      refine lv_aload_n hx hb dX11_text_36 rfl (lv_at hl 1 rfl) ?_
      refine gC_0_0 C hJ fl_RX11_12 dX11_text_37 ?_
      refine gC_1_3 C hJ fl_RX11_76 dX11_text_40 ?_
      refine lv_aload_n hx hb dX11_text_43 rfl (lv_at hl 1 rfl) ?_
      refine gC_0_1 C hJ fl_RX11_19 dX11_text_44 ?_
      obtain ⟨σ6, r7, hg8, hf⟩ := cal_some hf
      refine backI hsb hJ (runV (As := [.ref (q 2)]) (rest := []) C hJ lk_RX11_80 (cC_T_keep hF hg8) recC_10 rfl rfl (Nat.le_of_ble_eq_true rfl) hl.1 (hR_of (by omega) (by decide)) ⟨Nat.le_refl _, Nat.le_refl _⟩ dX11_text_47) (fun H locs hJ => ?_)
      exact ret_I hret hJ hf rfl dX11_text_50
    · have hf := ite_f hf c5
      refine lv_bipush (v := -100) hx hb dX11_text_31 (by decide) ?_
      refine lv_iload_n hx hb dX11_text_33 rfl (lv_at hl 0 rfl) ?_
      refine lv_isub hx hb dX11_text_34 ?_
      exact ret_I hret hJ hf rfl dX11_text_35
  · have hf := ite_f hf c1
    refine lv_bipush (v := -4) hx hb dX11_text_15 (by decide) ?_
    exact ret_I hret hJ hf rfl dX11_text_17
set_option maxHeartbeats 4000000 in
set_option maxRecDepth 100000 in
theorem cC_T_has {l : Launch} {D : va_G} {cA cB : ClassId} {q : Nat → Nat} {x : Nat → Nat} {N : Nat} {σ σ' : St} {r : Int32} {a1 : Int32} (hF : Fr (wC q cA cB) (aC q) (eC q x)) (hf : fC_T_has N σ a1 = some (σ', r)) : MI l yX10_has cX10_has 2 .boolean 1 D (tyC cA cB) (wC q cA cB) (aC q) (eC q x) [.ref (q 10), .int a1] σ σ' r := by
  refine MI_of (by decide) hF (Nat.le_of_ble_eq_true rfl) ?_
  intro p e s m args below meth c Q C hret hJ ls hl
  obtain ⟨hx, hb, hml, hown, hts, hK, hE, -⟩ := id C
  have hsb : ∀ z, (aC q) z → (aC q) z := fun _ h => h
  have hl : lv_has ls 2 [(0, .ref (q 10)), (1, .int a1)] := hl
  unfold fC_T_has at hf
  refine lv_iload_n hx hb dX10_has_0 rfl (lv_at hl 1 rfl) ?_
  refine lv_if_lt (tgt := 16) hx hb dX10_has_1 (by decide) (fun c1 => ?_) (fun c1 => ?_)
  · have hf := ite_t hf c1
    refine lv_iconst (v := 0) hx hb dX10_has_16 (by decide) ?_
    exact ret_I hret hJ hf (nar_z (by decide)) dX10_has_17
  · have hf := ite_f hf c1
    refine lv_iload_n hx hb dX10_has_4 rfl (lv_at hl 1 rfl) ?_
    refine lv_aload_n hx hb dX10_has_5 rfl (lv_at hl 0 rfl) ?_
    refine gC_10_5 C hJ fl_RX10_27 dX10_has_6 ?_
    refine lv_icmp_ge (tgt := 16) hx hb dX10_has_9 (by decide) (fun c2 => ?_) (fun c2 => ?_)
    · have hf := ite_t hf c2
      refine lv_iconst (v := 0) hx hb dX10_has_16 (by decide) ?_
      exact ret_I hret hJ hf (nar_z (by decide)) dX10_has_17
    · have hf := ite_f hf c2
      refine lv_iconst (v := 1) hx hb dX10_has_12 (by decide) ?_
      refine lv_goto (tgt := 17) hx hb dX10_has_13 (by decide) ?_
      exact ret_I hret hJ hf (nar_z (by decide)) dX10_has_17
set_option maxHeartbeats 4000000 in
set_option maxRecDepth 100000 in
theorem cC_force {l : Launch} {D : va_G} {cA cB : ClassId} {q : Nat → Nat} {x : Nat → Nat} {N : Nat} {σ σ' : St} {r : Int32} {a1 : Int32} (hF : Fr (wC q cA cB) (aC q) (eC q x)) (hf : fC_force N σ a1 = some (σ', r)) : MI l yX11_force cX11_force 3 .int 2 D (tyC cA cB) (wC q cA cB) (aC q) (eC q x) [.ref (q 0), .int a1] σ σ' r := by
  refine MI_of (by decide) hF (Nat.le_of_ble_eq_true rfl) ?_
  intro p e s m args below meth c Q C hret hJ ls hl
  obtain ⟨hx, hb, hml, hown, hts, hK, hE, -⟩ := id C
  have hsb : ∀ z, (aC q) z → (aC q) z := fun _ h => h
  have hl : lv_has ls 3 [(0, .ref (q 0)), (1, .int a1)] := hl
  unfold fC_force at hf
  refine lv_aload_n hx hb dX11_force_0 rfl (lv_at hl 0 rfl) ?_
  refine gC_0_0 C hJ fl_RX11_12 dX11_force_1 ?_
  refine gC_1_3 C hJ fl_RX11_76 dX11_force_4 ?_
  refine lv_iload_n hx hb dX11_force_7 rfl (lv_at hl 1 rfl) ?_
  obtain ⟨σ1, r2, hg3, hf⟩ := cal_some hf
  refine backI hsb hJ (runV (As := [.int a1]) (rest := []) C hJ lk_RX11_177 (cC_T_has hF hg3) recC_10 rfl rfl (Nat.le_of_ble_eq_true rfl) hl.1 (hR_of (by omega) (by decide)) ⟨Nat.le_refl _, Nat.le_refl _⟩ dX11_force_8) (fun H locs hJ => ?_)
  refine lv_if_ne (tgt := 17) hx hb dX11_force_11 (by decide) (fun c4 => ?_) (fun c4 => ?_)
  · have hf := ite_f hf c4
    refine lv_aload_n hx hb dX11_force_17 rfl (lv_at hl 0 rfl) ?_
    refine gC_0_0 C hJ fl_RX11_12 dX11_force_18 ?_
    refine gC_1_3 C hJ fl_RX11_76 dX11_force_21 ?_
    refine gC_10_6 C hJ fl_RX11_178 dX11_force_24 ?_
    refine lv_topi (fun x5 hx5 => ?_)
    have hf := bnd_at hf hx5
    refine lv_istore_n (lv' := [(2, .int x5), (0, .ref (q 0)), (1, .int a1)]) hx hb dX11_force_27 rfl hl (by decide) rfl (fun ls hl => ?_)
    refine lv_aload_n hx hb dX11_force_28 rfl (lv_at hl 1 rfl) ?_
    refine gC_0_0 C hJ fl_RX11_12 dX11_force_29 ?_
    refine gC_1_3 C hJ fl_RX11_76 dX11_force_32 ?_
    refine lv_iload_n hx hb dX11_force_35 rfl (lv_at hl 2 rfl) ?_
    refine pC_10_6 C hJ fl_RX11_178 dX11_force_36 (fun σ6 H locs hs hJ => ?_)
    have hf := bnd_at hf hs
    refine lv_iload_n hx hb dX11_force_39 rfl (lv_at hl 0 rfl) ?_
    exact ret_I hret hJ hf rfl dX11_force_40
  · have hf := ite_t hf c4
    refine lv_bipush (v := -2) hx hb dX11_force_14 (by decide) ?_
    exact ret_I hret hJ hf rfl dX11_force_16
set_option maxHeartbeats 4000000 in
set_option maxRecDepth 100000 in
theorem cC_P_worthOf {l : Launch} {D : va_G} {cA cB : ClassId} {q : Nat → Nat} {x : Nat → Nat} {N : Nat} {σ σ' : St} {r : Int32} {a1 : Int32} {a2 : Int32} {a3 : Int32} {a4 : Int32} (hF : Fr (wC q cA cB) (aC q) (eC q x)) (hf : fC_P_worthOf N σ a1 a2 a3 a4 = some (σ', r)) : MI l yX5_worthOf cX5_worthOf 5 .int 3 D (tyC cA cB) (wC q cA cB) (aC q) (eC q x) [.ref (q 1), .int a1, .int a2, .int a3, .int a4] σ σ' r := by
  refine MI_of (by decide) hF (Nat.le_of_ble_eq_true rfl) ?_
  intro p e s m args below meth c Q C hret hJ ls hl
  obtain ⟨hx, hb, hml, hown, hts, hK, hE, -⟩ := id C
  have hsb : ∀ z, (aC q) z → (aC q) z := fun _ h => h
  have hl : lv_has ls 5 [(0, .ref (q 1)), (1, .int a1), (2, .int a2), (3, .int a3), (4, .int a4)] := hl
  unfold fC_P_worthOf at hf
  refine lv_aload_n hx hb dX5_worthOf_0 rfl (lv_at hl 0 rfl) ?_
  refine gC_1_3 C hJ fl_RX5_35 dX5_worthOf_1 ?_
  refine lv_aload_n hx hb dX5_worthOf_4 rfl (lv_at hl 0 rfl) ?_
  refine gC_1_0 C hJ fl_RX5_12 dX5_worthOf_5 ?_
  refine gC_7_2 C hJ fl_RX5_67 dX5_worthOf_8 ?_
  refine lv_iload_n hx hb dX5_worthOf_11 rfl (lv_at hl 1 rfl) ?_
  obtain ⟨h1, hf⟩ := gi_some hf
  refine aC_34 C hJ h1 dX5_worthOf_12 ?_
  refine lv_aload_n hx hb dX5_worthOf_13 rfl (lv_at hl 0 rfl) ?_
  refine gC_1_0 C hJ fl_RX5_12 dX5_worthOf_14 ?_
  refine gC_7_0 C hJ fl_RX5_60 dX5_worthOf_17 ?_
  refine lv_iload_n hx hb dX5_worthOf_20 rfl (lv_at hl 1 rfl) ?_
  obtain ⟨h2, hf⟩ := gi_some hf
  refine aC_32 C hJ h2 dX5_worthOf_21 ?_
  refine lv_iload_n hx hb dX5_worthOf_22 rfl (lv_at hl 3 rfl) ?_
  refine lv_aload_n hx hb dX5_worthOf_23 rfl (lv_at hl 0 rfl) ?_
  refine gC_1_5 C hJ fl_RX5_54 dX5_worthOf_24 ?_
  obtain ⟨σ3, r4, hg5, hf⟩ := cal_some hf
  refine backV hsb hJ (runV (As := [.int (σ.2.1 34 a1.toNatClampNeg), .int (σ.2.1 32 a1.toNatClampNeg), .int a3, .int (σ.1 4)]) (rest := []) C hJ lk_RX5_70 (cC_T_regard hF hg5) recC_10 rfl rfl (Nat.le_of_ble_eq_true rfl) hl.1 (hR_of (by omega) (by decide)) ⟨Nat.le_refl _, Nat.le_refl _⟩ dX5_worthOf_27) (fun H locs hJ => ?_)
  refine lv_aload_n hx hb dX5_worthOf_30 rfl (lv_at hl 0 rfl) ?_
  refine gC_1_3 C hJ fl_RX5_35 dX5_worthOf_31 ?_
  refine lv_iload hx hb dX5_worthOf_34 (lv_at hl 4 rfl) ?_
  refine lv_iload_n hx hb dX5_worthOf_36 rfl (lv_at hl 2 rfl) ?_
  refine lv_aload_n hx hb dX5_worthOf_37 rfl (lv_at hl 0 rfl) ?_
  refine gC_1_0 C hJ fl_RX5_12 dX5_worthOf_38 ?_
  refine lv_iload_n hx hb dX5_worthOf_41 rfl (lv_at hl 1 rfl) ?_
  refine lv_iload_n hx hb dX5_worthOf_42 rfl (lv_at hl 2 rfl) ?_
  obtain ⟨σ6, r7, hg8, hf⟩ := cal_some hf
  refine backI hsb hJ (runV (As := [.int a1, .int a2]) (rest := [.int a2, .int a4, .ref (q 10)]) C hJ lk_RX5_74 (cC_S_offOf hF hg8) recC_7 rfl rfl (Nat.le_of_ble_eq_true rfl) hl.1 (hR_of (by omega) (by decide)) ⟨Nat.le_refl _, Nat.le_refl _⟩ dX5_worthOf_43) (fun H locs hJ => ?_)
  obtain ⟨σ9, r10, hg11, hf⟩ := cal_some hf
  refine backI hsb hJ (runV (As := [.int a4, .int a2, .int r7]) (rest := []) C hJ lk_RX5_78 (cC_T_worth hF hg11) recC_10 rfl rfl (Nat.le_of_ble_eq_true rfl) hl.1 (hR_of (by omega) (by decide)) ⟨Nat.le_refl _, Nat.le_refl _⟩ dX5_worthOf_46) (fun H locs hJ => ?_)
  exact ret_I hret hJ hf rfl dX5_worthOf_49
set_option maxHeartbeats 4000000 in
set_option maxRecDepth 100000 in
theorem cC_says {l : Launch} {D : va_G} {cA cB : ClassId} {q : Nat → Nat} {x : Nat → Nat} {N : Nat} {σ σ' : St} {r : Int64} {a1 : Int32} {a2 : Int32} {a3 : Int32} {a4 : Int32} (hF : Fr (wC q cA cB) (aC q) (eC q x)) (hf : fC_says N σ a1 a2 a3 a4 = some (σ', r)) : ML l yX11_says cX11_says 5 .long 4 D (tyC cA cB) (wC q cA cB) (aC q) (eC q x) [.ref (q 0), .int a1, .int a2, .int a3, .int a4] σ σ' r := by
  refine ML_of (by decide) hF (Nat.le_of_ble_eq_true rfl) ?_
  intro p e s m args below meth c Q C hret hJ ls hl
  obtain ⟨hx, hb, hml, hown, hts, hK, hE, -⟩ := id C
  have hsb : ∀ z, (aC q) z → (aC q) z := fun _ h => h
  have hl : lv_has ls 5 [(0, .ref (q 0)), (1, .int a1), (2, .int a2), (3, .int a3), (4, .int a4)] := hl
  unfold fC_says at hf
  refine lv_aload_n hx hb dX11_says_0 rfl (lv_at hl 0 rfl) ?_
  refine gC_0_0 C hJ fl_RX11_12 dX11_says_1 ?_
  refine gC_1_0 C hJ fl_RX11_86 dX11_says_4 ?_
  refine lv_iload_n hx hb dX11_says_7 rfl (lv_at hl 1 rfl) ?_
  obtain ⟨σ1, r2, hg3, hf⟩ := cal_some hf
  refine backI hsb hJ (runV (As := [.int a1]) (rest := []) C hJ lk_RX11_93 (cC_S_has hF hg3) recC_7 rfl rfl (Nat.le_of_ble_eq_true rfl) hl.1 (hR_of (by omega) (by decide)) ⟨Nat.le_refl _, Nat.le_refl _⟩ dX11_says_8) (fun H locs hJ => ?_)
  refine lv_if_eq (tgt := 38) hx hb dX11_says_11 (by decide) (fun c4 => ?_) (fun c4 => ?_)
  · have hf := ite_t hf c4
    refine lv_ldc2 (v := -4611686018427387904) hx hb hown (hts _ kl_RX11_127) dX11_says_38 ?_
    exact ret_L hret hJ hf dX11_says_41
  · have hf := ite_f hf c4
    refine lv_iload_n hx hb dX11_says_14 rfl (lv_at hl 2 rfl) ?_
    obtain ⟨σ5, r6, hg7, hf⟩ := cal_some hf
    refine backI hsb hJ (runS (As := [.int a2]) (rest := []) C hJ lk_RX11_97 (cC_isPart hF hg7) rfl rfl (Nat.le_of_ble_eq_true rfl) hl.1 (hR_of (by omega) (by decide)) ⟨Nat.le_refl _, Nat.le_refl _⟩ dX11_says_15) (fun H locs hJ => ?_)
    refine lv_if_eq (tgt := 38) hx hb dX11_says_18 (by decide) (fun c8 => ?_) (fun c8 => ?_)
    · have hf := ite_t hf c8
      refine lv_ldc2 (v := -4611686018427387904) hx hb hown (hts _ kl_RX11_127) dX11_says_38 ?_
      exact ret_L hret hJ hf dX11_says_41
    · have hf := ite_f hf c8
      refine lv_iload_n hx hb dX11_says_21 rfl (lv_at hl 3 rfl) ?_
      obtain ⟨σ9, r10, hg11, hf⟩ := cal_some hf
      refine backI hsb hJ (runS (As := [.int a3]) (rest := []) C hJ lk_RX11_124 (cC_isTick hF hg11) rfl rfl (Nat.le_of_ble_eq_true rfl) hl.1 (hR_of (by omega) (by decide)) ⟨Nat.le_refl _, Nat.le_refl _⟩ dX11_says_22) (fun H locs hJ => ?_)
      refine lv_if_eq (tgt := 38) hx hb dX11_says_25 (by decide) (fun c12 => ?_) (fun c12 => ?_)
      · have hf := ite_t hf c12
        refine lv_ldc2 (v := -4611686018427387904) hx hb hown (hts _ kl_RX11_127) dX11_says_38 ?_
        exact ret_L hret hJ hf dX11_says_41
      · have hf := ite_f hf c12
        refine lv_iload hx hb dX11_says_28 (lv_at hl 4 rfl) ?_
        refine lv_iconst (v := 0) hx hb dX11_says_30 (by decide) ?_
        refine lv_iconst (v := 2) hx hb dX11_says_31 (by decide) ?_
        obtain ⟨σ13, r14, hg15, hf⟩ := cal_some hf
        refine backI hsb hJ (runS (As := [.int a4, .int (0 : Int32), .int (2 : Int32)]) (rest := []) C hJ lk_RX11_100 (cC_isWithin hF hg15) rfl rfl (Nat.le_of_ble_eq_true rfl) hl.1 (hR_of (by omega) (by decide)) ⟨Nat.le_refl _, Nat.le_refl _⟩ dX11_says_32) (fun H locs hJ => ?_)
        refine lv_if_ne (tgt := 42) hx hb dX11_says_35 (by decide) (fun c16 => ?_) (fun c16 => ?_)
        · have hf := ite_f hf c16
          refine lv_aload_n hx hb dX11_says_42 rfl (lv_at hl 0 rfl) ?_
          refine gC_0_0 C hJ fl_RX11_12 dX11_says_43 ?_
          refine lv_aload_n hx hb dX11_says_46 rfl (lv_at hl 0 rfl) ?_
          refine gC_0_9 C hJ fl_RX11_129 dX11_says_47 ?_
          obtain ⟨σ17, r18, hg19, hf⟩ := cal_some hf
          refine backV hsb hJ (runV (As := [.int (σ13.1 3)]) (rest := []) C hJ lk_RX11_133 (cC_P_lookAs hF hg19) recC_1 rfl rfl (Nat.le_of_ble_eq_true rfl) hl.1 (hR_of (by omega) (by decide)) ⟨Nat.le_refl _, Nat.le_refl _⟩ dX11_says_50) (fun H locs hJ => ?_)
          refine lv_aload_n hx hb dX11_says_53 rfl (lv_at hl 0 rfl) ?_
          refine gC_0_0 C hJ fl_RX11_12 dX11_says_54 ?_
          refine lv_iload_n hx hb dX11_says_57 rfl (lv_at hl 1 rfl) ?_
          refine lv_iload_n hx hb dX11_says_58 rfl (lv_at hl 2 rfl) ?_
          refine lv_iload_n hx hb dX11_says_59 rfl (lv_at hl 3 rfl) ?_
          refine lv_iload hx hb dX11_says_60 (lv_at hl 4 rfl) ?_
          obtain ⟨σ20, r21, hg22, hf⟩ := cal_some hf
          refine backI hsb hJ (runV (As := [.int a1, .int a2, .int a3, .int a4]) (rest := []) C hJ lk_RX11_181 (cC_P_worthOf hF hg22) recC_1 rfl rfl (Nat.le_of_ble_eq_true rfl) hl.1 (hR_of (by omega) (by decide)) ⟨Nat.le_refl _, Nat.le_refl _⟩ dX11_says_62) (fun H locs hJ => ?_)
          refine lv_i2l (v := r21.toInt64) hx hb dX11_says_65 rfl ?_
          exact ret_L hret hJ hf dX11_says_66
        · have hf := ite_t hf c16
          refine lv_ldc2 (v := -4611686018427387904) hx hb hown (hts _ kl_RX11_127) dX11_says_38 ?_
          exact ret_L hret hJ hf dX11_says_41
set_option maxHeartbeats 4000000 in
set_option maxRecDepth 100000 in
theorem cC_isWidth {l : Launch} {D : va_G} {cA cB : ClassId} {q : Nat → Nat} {x : Nat → Nat} {N : Nat} {σ σ' : St} {r : Int32} {a0 : Int32} (hF : Fr (wC q cA cB) (aC q) (eC q x)) (hf : fC_isWidth N σ a0 = some (σ', r)) : MI l yX11_isWidth cX11_isWidth 1 .boolean 2 D (tyC cA cB) (wC q cA cB) (aC q) (eC q x) [.int a0] σ σ' r := by
  refine MI_of (by decide) hF (Nat.le_of_ble_eq_true rfl) ?_
  intro p e s m args below meth c Q C hret hJ ls hl
  obtain ⟨hx, hb, hml, hown, hts, hK, hE, -⟩ := id C
  have hsb : ∀ z, (aC q) z → (aC q) z := fun _ h => h
  have hl : lv_has ls 1 [(0, .int a0)] := hl
  unfold fC_isWidth at hf
  refine lv_iload_n hx hb dX11_isWidth_0 rfl (lv_at hl 0 rfl) ?_
  refine lv_iconst (v := 0) hx hb dX11_isWidth_1 (by decide) ?_
  refine lv_sipush (v := 999) hx hb dX11_isWidth_2 (by decide) ?_
  obtain ⟨σ1, r2, hg3, hf⟩ := cal_some hf
  refine backI hsb hJ (runS (As := [.int a0, .int (0 : Int32), .int (999 : Int32)]) (rest := []) C hJ lk_RX11_100 (cC_isWithin hF hg3) rfl rfl (Nat.le_of_ble_eq_true rfl) hl.1 (hR_of (by omega) (by decide)) ⟨Nat.le_refl _, Nat.le_refl _⟩ dX11_isWidth_5) (fun H locs hJ => ?_)
  obtain ⟨h4, hf⟩ := gd_some hf
  exact ret_I hret hJ hf (nar_z h4) dX11_isWidth_8
set_option maxHeartbeats 4000000 in
set_option maxRecDepth 100000 in
theorem cC_width {l : Launch} {D : va_G} {cA cB : ClassId} {q : Nat → Nat} {x : Nat → Nat} {N : Nat} {σ σ' : St} {r : Int32} {a1 : Int32} (hF : Fr (wC q cA cB) (aC q) (eC q x)) (hf : fC_width N σ a1 = some (σ', r)) : MI l yX11_width cX11_width 3 .int 3 D (tyC cA cB) (wC q cA cB) (aC q) (eC q x) [.ref (q 0), .int a1] σ σ' r := by
  refine MI_of (by decide) hF (Nat.le_of_ble_eq_true rfl) ?_
  intro p e s m args below meth c Q C hret hJ ls hl
  obtain ⟨hx, hb, hml, hown, hts, hK, hE, -⟩ := id C
  have hsb : ∀ z, (aC q) z → (aC q) z := fun _ h => h
  have hl : lv_has ls 3 [(0, .ref (q 0)), (1, .int a1)] := hl
  unfold fC_width at hf
  refine lv_iload_n hx hb dX11_width_0 rfl (lv_at hl 1 rfl) ?_
  obtain ⟨σ1, r2, hg3, hf⟩ := cal_some hf
  refine backI hsb hJ (runS (As := [.int a1]) (rest := []) C hJ lk_RX11_185 (cC_isWidth hF hg3) rfl rfl (Nat.le_of_ble_eq_true rfl) hl.1 (hR_of (by omega) (by decide)) ⟨Nat.le_refl _, Nat.le_refl _⟩ dX11_width_1) (fun H locs hJ => ?_)
  refine lv_if_ne (tgt := 10) hx hb dX11_width_4 (by decide) (fun c4 => ?_) (fun c4 => ?_)
  · have hf := ite_f hf c4
    refine lv_aload_n hx hb dX11_width_10 rfl (lv_at hl 0 rfl) ?_
    refine gC_0_9 C hJ fl_RX11_129 dX11_width_11 ?_
    refine lv_topi (fun x5 hx5 => ?_)
    have hf := bnd_at hf hx5
    refine lv_istore_n (lv' := [(2, .int x5), (0, .ref (q 0)), (1, .int a1)]) hx hb dX11_width_14 rfl hl (by decide) rfl (fun ls hl => ?_)
    refine lv_aload_n hx hb dX11_width_15 rfl (lv_at hl 1 rfl) ?_
    refine lv_iload_n hx hb dX11_width_16 rfl (lv_at hl 2 rfl) ?_
    refine pC_0_9 C hJ fl_RX11_129 dX11_width_17 (fun σ6 H locs hs hJ => ?_)
    have hf := bnd_at hf hs
    refine lv_iload_n hx hb dX11_width_20 rfl (lv_at hl 0 rfl) ?_
    exact ret_I hret hJ hf rfl dX11_width_21
  · have hf := ite_t hf c4
    refine lv_bipush (v := -2) hx hb dX11_width_7 (by decide) ?_
    exact ret_I hret hJ hf rfl dX11_width_9
set_option maxHeartbeats 4000000 in
set_option maxRecDepth 100000 in
theorem cC_O_has {l : Launch} {D : va_G} {cA cB : ClassId} {q : Nat → Nat} {x : Nat → Nat} {N : Nat} {σ σ' : St} {r : Int32} {a1 : Int32} (hF : Fr (wC q cA cB) (aC q) (eC q x)) (hf : fC_O_has N σ a1 = some (σ', r)) : MI l yX3_has cX3_has 2 .boolean 1 D (tyC cA cB) (wC q cA cB) (aC q) (eC q x) [.ref (q 9), .int a1] σ σ' r := by
  refine MI_of (by decide) hF (Nat.le_of_ble_eq_true rfl) ?_
  intro p e s m args below meth c Q C hret hJ ls hl
  obtain ⟨hx, hb, hml, hown, hts, hK, hE, -⟩ := id C
  have hsb : ∀ z, (aC q) z → (aC q) z := fun _ h => h
  have hl : lv_has ls 2 [(0, .ref (q 9)), (1, .int a1)] := hl
  unfold fC_O_has at hf
  refine lv_iload_n hx hb dX3_has_0 rfl (lv_at hl 1 rfl) ?_
  refine lv_if_lt (tgt := 16) hx hb dX3_has_1 (by decide) (fun c1 => ?_) (fun c1 => ?_)
  · have hf := ite_t hf c1
    refine lv_iconst (v := 0) hx hb dX3_has_16 (by decide) ?_
    exact ret_I hret hJ hf (nar_z (by decide)) dX3_has_17
  · have hf := ite_f hf c1
    refine lv_iload_n hx hb dX3_has_4 rfl (lv_at hl 1 rfl) ?_
    refine lv_aload_n hx hb dX3_has_5 rfl (lv_at hl 0 rfl) ?_
    refine gC_9_2 C hJ fl_RX3_18 dX3_has_6 ?_
    refine lv_icmp_ge (tgt := 16) hx hb dX3_has_9 (by decide) (fun c2 => ?_) (fun c2 => ?_)
    · have hf := ite_t hf c2
      refine lv_iconst (v := 0) hx hb dX3_has_16 (by decide) ?_
      exact ret_I hret hJ hf (nar_z (by decide)) dX3_has_17
    · have hf := ite_f hf c2
      refine lv_iconst (v := 1) hx hb dX3_has_12 (by decide) ?_
      refine lv_goto (tgt := 17) hx hb dX3_has_13 (by decide) ?_
      exact ret_I hret hJ hf (nar_z (by decide)) dX3_has_17
set_option maxHeartbeats 4000000 in
set_option maxRecDepth 100000 in
theorem cC_F_add {l : Launch} {D : va_G} {cA cB : ClassId} {q : Nat → Nat} {x : Nat → Nat} {N : Nat} {σ σ' : St} {r : Int32} {a1 : Int32} {a2 : Int32} {a3 : Int32} {a4 : Int32} {a5 : Int32} {a6 : Int32} (hF : Fr (wC q cA cB) (aC q) (eC q x)) (hf : fC_F_add N σ a1 a2 a3 a4 a5 a6 = some (σ', r)) : MI l yX0_add cX0_add 7 .int 1 D (tyC cA cB) (wC q cA cB) (aC q) (eC q x) [.ref (q 11), .int a1, .int a2, .int a3, .int a4, .int a5, .int a6] σ σ' r := by
  refine MI_of (by decide) hF (Nat.le_of_ble_eq_true rfl) ?_
  intro p e s m args below meth c Q C hret hJ ls hl
  obtain ⟨hx, hb, hml, hown, hts, hK, hE, -⟩ := id C
  have hsb : ∀ z, (aC q) z → (aC q) z := fun _ h => h
  have hl : lv_has ls 7 [(0, .ref (q 11)), (1, .int a1), (2, .int a2), (3, .int a3), (4, .int a4), (5, .int a5), (6, .int a6)] := hl
  unfold fC_F_add at hf
  refine lv_aload_n hx hb dX0_add_0 rfl (lv_at hl 0 rfl) ?_
  refine gC_11_7 C hJ fl_RX0_33 dX0_add_1 ?_
  refine lv_bipush (v := 24) hx hb dX0_add_4 (by decide) ?_
  refine lv_icmp_lt (tgt := 12) hx hb dX0_add_6 (by decide) (fun c1 => ?_) (fun c1 => ?_)
  · have hf := ite_t hf c1
    refine lv_aload_n hx hb dX0_add_12 rfl (lv_at hl 0 rfl) ?_
    refine gC_11_0 C hJ fl_RX0_9 dX0_add_13 ?_
    refine lv_aload_n hx hb dX0_add_16 rfl (lv_at hl 0 rfl) ?_
    refine gC_11_7 C hJ fl_RX0_33 dX0_add_17 ?_
    refine lv_iload_n hx hb dX0_add_20 rfl (lv_at hl 1 rfl) ?_
    obtain ⟨h2, hf⟩ := gi_some hf
    refine sC_46 C hJ h2 dX0_add_21 (fun σ3 H locs hs hJ => ?_)
    have hf := bnd_at hf hs
    refine lv_aload_n hx hb dX0_add_22 rfl (lv_at hl 0 rfl) ?_
    refine gC_11_1 C hJ fl_RX0_15 dX0_add_23 ?_
    refine lv_aload_n hx hb dX0_add_26 rfl (lv_at hl 0 rfl) ?_
    refine gC_11_7 C hJ fl_RX0_33 dX0_add_27 ?_
    refine lv_iload_n hx hb dX0_add_30 rfl (lv_at hl 2 rfl) ?_
    obtain ⟨h4, hf⟩ := gi_some hf
    refine sC_47 C hJ h4 dX0_add_31 (fun σ5 H locs hs hJ => ?_)
    have hf := bnd_at hf hs
    refine lv_aload_n hx hb dX0_add_32 rfl (lv_at hl 0 rfl) ?_
    refine gC_11_2 C hJ fl_RX0_18 dX0_add_33 ?_
    refine lv_aload_n hx hb dX0_add_36 rfl (lv_at hl 0 rfl) ?_
    refine gC_11_7 C hJ fl_RX0_33 dX0_add_37 ?_
    refine lv_iload_n hx hb dX0_add_40 rfl (lv_at hl 3 rfl) ?_
    obtain ⟨h6, hf⟩ := gi_some hf
    refine sC_48 C hJ h6 dX0_add_41 (fun σ7 H locs hs hJ => ?_)
    have hf := bnd_at hf hs
    refine lv_aload_n hx hb dX0_add_42 rfl (lv_at hl 0 rfl) ?_
    refine gC_11_3 C hJ fl_RX0_21 dX0_add_43 ?_
    refine lv_aload_n hx hb dX0_add_46 rfl (lv_at hl 0 rfl) ?_
    refine gC_11_7 C hJ fl_RX0_33 dX0_add_47 ?_
    refine lv_iload hx hb dX0_add_50 (lv_at hl 4 rfl) ?_
    obtain ⟨h8, hf⟩ := gi_some hf
    refine sC_49 C hJ h8 dX0_add_52 (fun σ9 H locs hs hJ => ?_)
    have hf := bnd_at hf hs
    refine lv_aload_n hx hb dX0_add_53 rfl (lv_at hl 0 rfl) ?_
    refine gC_11_4 C hJ fl_RX0_24 dX0_add_54 ?_
    refine lv_aload_n hx hb dX0_add_57 rfl (lv_at hl 0 rfl) ?_
    refine gC_11_7 C hJ fl_RX0_33 dX0_add_58 ?_
    refine lv_iload hx hb dX0_add_61 (lv_at hl 5 rfl) ?_
    refine lv_bipush (v := 10) hx hb dX0_add_63 (by decide) ?_
    refine lv_idiv hx hb dX0_add_65 (by decide) ?_
    obtain ⟨h10, hf⟩ := gi_some hf
    refine sC_50 C hJ h10 dX0_add_66 (fun σ11 H locs hs hJ => ?_)
    have hf := bnd_at hf hs
    refine lv_aload_n hx hb dX0_add_67 rfl (lv_at hl 0 rfl) ?_
    refine gC_11_5 C hJ fl_RX0_27 dX0_add_68 ?_
    refine lv_aload_n hx hb dX0_add_71 rfl (lv_at hl 0 rfl) ?_
    refine gC_11_7 C hJ fl_RX0_33 dX0_add_72 ?_
    refine lv_iload hx hb dX0_add_75 (lv_at hl 5 rfl) ?_
    refine lv_bipush (v := 10) hx hb dX0_add_77 (by decide) ?_
    refine lv_irem hx hb dX0_add_79 (by decide) ?_
    obtain ⟨h12, hf⟩ := gi_some hf
    refine sC_51 C hJ h12 dX0_add_80 (fun σ13 H locs hs hJ => ?_)
    have hf := bnd_at hf hs
    refine lv_aload_n hx hb dX0_add_81 rfl (lv_at hl 0 rfl) ?_
    refine gC_11_6 C hJ fl_RX0_30 dX0_add_82 ?_
    refine lv_aload_n hx hb dX0_add_85 rfl (lv_at hl 0 rfl) ?_
    refine gC_11_7 C hJ fl_RX0_33 dX0_add_86 ?_
    refine lv_iload hx hb dX0_add_89 (lv_at hl 6 rfl) ?_
    obtain ⟨h14, hf⟩ := gi_some hf
    refine sC_52 C hJ h14 dX0_add_91 (fun σ15 H locs hs hJ => ?_)
    have hf := bnd_at hf hs
    refine lv_aload_n hx hb dX0_add_92 rfl (lv_at hl 0 rfl) ?_
    refine lv_dup hx hb dX0_add_93 rfl ?_
    refine gC_11_7 C hJ fl_RX0_33 dX0_add_94 ?_
    refine lv_iconst (v := 1) hx hb dX0_add_97 (by decide) ?_
    refine lv_iadd hx hb dX0_add_98 ?_
    refine pC_11_7 C hJ fl_RX0_33 dX0_add_99 (fun σ16 H locs hs hJ => ?_)
    have hf := bnd_at hf hs
    refine lv_aload_n hx hb dX0_add_102 rfl (lv_at hl 0 rfl) ?_
    refine gC_11_7 C hJ fl_RX0_33 dX0_add_103 ?_
    refine lv_iconst (v := 1) hx hb dX0_add_106 (by decide) ?_
    refine lv_isub hx hb dX0_add_107 ?_
    exact ret_I hret hJ hf rfl dX0_add_108
  · have hf := ite_f hf c1
    refine lv_bipush (v := -4) hx hb dX0_add_9 (by decide) ?_
    exact ret_I hret hJ hf rfl dX0_add_11
set_option maxHeartbeats 4000000 in
set_option maxRecDepth 100000 in
theorem cC_call {l : Launch} {D : va_G} {cA cB : ClassId} {q : Nat → Nat} {x : Nat → Nat} {N : Nat} {σ σ' : St} {r : Int32} {a1 : Int32} {a2 : Int32} {a3 : Int32} {a4 : Int32} {a5 : Int32} (hF : Fr (wC q cA cB) (aC q) (eC q x)) (hf : fC_call N σ a1 a2 a3 a4 a5 = some (σ', r)) : MI l yX11_call cX11_call 7 .int 3 D (tyC cA cB) (wC q cA cB) (aC q) (eC q x) [.ref (q 0), .int a1, .int a2, .int a3, .int a4, .int a5] σ σ' r := by
  refine MI_of (by decide) hF (Nat.le_of_ble_eq_true rfl) ?_
  intro p e s m args below meth c Q C hret hJ ls hl
  obtain ⟨hx, hb, hml, hown, hts, hK, hE, -⟩ := id C
  have hsb : ∀ z, (aC q) z → (aC q) z := fun _ h => h
  have hl : lv_has ls 7 [(0, .ref (q 0)), (1, .int a1), (2, .int a2), (3, .int a3), (4, .int a4), (5, .int a5)] := hl
  unfold fC_call at hf
  refine lv_aload_n hx hb dX11_call_0 rfl (lv_at hl 0 rfl) ?_
  refine gC_0_0 C hJ fl_RX11_12 dX11_call_1 ?_
  refine gC_1_0 C hJ fl_RX11_86 dX11_call_4 ?_
  refine lv_astore (lv' := [(6, .ref (q 7)), (0, .ref (q 0)), (1, .int a1), (2, .int a2), (3, .int a3), (4, .int a4), (5, .int a5)]) hx hb dX11_call_7 hl (by decide) rfl (fun ls hl => ?_)
  refine lv_iload_n hx hb dX11_call_9 rfl (lv_at hl 2 rfl) ?_
  refine lv_iconst (v := 0) hx hb dX11_call_10 (by decide) ?_
  refine lv_iconst (v := 5) hx hb dX11_call_11 (by decide) ?_
  obtain ⟨σ1, r2, hg3, hf⟩ := cal_some hf
  refine backI hsb hJ (runS (As := [.int a1, .int (0 : Int32), .int (5 : Int32)]) (rest := []) C hJ lk_RX11_100 (cC_isWithin hF hg3) rfl rfl (Nat.le_of_ble_eq_true rfl) hl.1 (hR_of (by omega) (by decide)) ⟨Nat.le_refl _, Nat.le_refl _⟩ dX11_call_12) (fun H locs hJ => ?_)
  refine lv_if_eq (tgt := 41) hx hb dX11_call_15 (by decide) (fun c4 => ?_) (fun c4 => ?_)
  · have hf := ite_t hf c4
    refine lv_bipush (v := -2) hx hb dX11_call_41 (by decide) ?_
    exact ret_I hret hJ hf rfl dX11_call_43
  · have hf := ite_f hf c4
    refine lv_aload hx hb dX11_call_18 (lv_at hl 0 rfl) ?_
    refine lv_iload_n hx hb dX11_call_20 rfl (lv_at hl 3 rfl) ?_
    obtain ⟨σ5, r6, hg7, hf⟩ := cal_some hf
    refine backI hsb hJ (runV (As := [.int a2]) (rest := []) C hJ lk_RX11_93 (cC_S_has hF hg7) recC_7 rfl rfl (Nat.le_of_ble_eq_true rfl) hl.1 (hR_of (by omega) (by decide)) ⟨Nat.le_refl _, Nat.le_refl _⟩ dX11_call_21) (fun H locs hJ => ?_)
    refine lv_if_eq (tgt := 41) hx hb dX11_call_24 (by decide) (fun c8 => ?_) (fun c8 => ?_)
    · have hf := ite_t hf c8
      refine lv_bipush (v := -2) hx hb dX11_call_41 (by decide) ?_
      exact ret_I hret hJ hf rfl dX11_call_43
    · have hf := ite_f hf c8
      refine lv_aload hx hb dX11_call_27 (lv_at hl 0 rfl) ?_
      refine lv_iload_n hx hb dX11_call_29 rfl (lv_at hl 4 rfl) ?_
      obtain ⟨σ9, r10, hg11, hf⟩ := cal_some hf
      refine backI hsb hJ (runV (As := [.int a3]) (rest := []) C hJ lk_RX11_93 (cC_S_has hF hg11) recC_7 rfl rfl (Nat.le_of_ble_eq_true rfl) hl.1 (hR_of (by omega) (by decide)) ⟨Nat.le_refl _, Nat.le_refl _⟩ dX11_call_30) (fun H locs hJ => ?_)
      refine lv_if_eq (tgt := 41) hx hb dX11_call_33 (by decide) (fun c12 => ?_) (fun c12 => ?_)
      · have hf := ite_t hf c12
        refine lv_bipush (v := -2) hx hb dX11_call_41 (by decide) ?_
        exact ret_I hret hJ hf rfl dX11_call_43
      · have hf := ite_f hf c12
        refine lv_iload_n hx hb dX11_call_36 rfl (lv_at hl 3 rfl) ?_
        refine lv_iload_n hx hb dX11_call_37 rfl (lv_at hl 4 rfl) ?_
        refine lv_icmp_ne (tgt := 44) hx hb dX11_call_38 (by decide) (fun c13 => ?_) (fun c13 => ?_)
        · have hf := ite_f hf c13
          refine lv_iload hx hb dX11_call_44 (lv_at hl 5 rfl) ?_
          obtain ⟨σ14, r15, hg16, hf⟩ := cal_some hf
          refine backI hsb hJ (runS (As := [.int a4]) (rest := []) C hJ lk_RX11_124 (cC_isTick hF hg16) rfl rfl (Nat.le_of_ble_eq_true rfl) hl.1 (hR_of (by omega) (by decide)) ⟨Nat.le_refl _, Nat.le_refl _⟩ dX11_call_46) (fun H locs hJ => ?_)
          refine lv_if_eq (tgt := 93) hx hb dX11_call_49 (by decide) (fun c17 => ?_) (fun c17 => ?_)
          · have hf := ite_t hf c17
            refine lv_bipush (v := -2) hx hb dX11_call_93 (by decide) ?_
            exact ret_I hret hJ hf rfl dX11_call_95
          · have hf := ite_f hf c17
            refine lv_iload hx hb dX11_call_52 (lv_at hl 6 rfl) ?_
            refine lv_if_lt (tgt := 93) hx hb dX11_call_54 (by decide) (fun c18 => ?_) (fun c18 => ?_)
            · have hf := ite_t hf c18
              refine lv_bipush (v := -2) hx hb dX11_call_93 (by decide) ?_
              exact ret_I hret hJ hf rfl dX11_call_95
            · have hf := ite_f hf c18
              refine lv_aload_n hx hb dX11_call_57 rfl (lv_at hl 1 rfl) ?_
              refine gC_0_0 C hJ fl_RX11_12 dX11_call_58 ?_
              refine gC_1_1 C hJ fl_RX11_149 dX11_call_61 ?_
              refine lv_iload hx hb dX11_call_64 (lv_at hl 6 rfl) ?_
              refine lv_bipush (v := 10) hx hb dX11_call_66 (by decide) ?_
              refine lv_idiv hx hb dX11_call_68 (by decide) ?_
              obtain ⟨σ19, r20, hg21, hf⟩ := cal_some hf
              refine backI hsb hJ (runV (As := [.int (a5 / (10 : Int32))]) (rest := []) C hJ lk_RX11_156 (cC_A_has hF hg21) recC_8 rfl rfl (Nat.le_of_ble_eq_true rfl) hl.1 (hR_of (by omega) (by decide)) ⟨Nat.le_refl _, Nat.le_refl _⟩ dX11_call_69) (fun H locs hJ => ?_)
              refine lv_if_eq (tgt := 93) hx hb dX11_call_72 (by decide) (fun c22 => ?_) (fun c22 => ?_)
              · have hf := ite_t hf c22
                refine lv_bipush (v := -2) hx hb dX11_call_93 (by decide) ?_
                exact ret_I hret hJ hf rfl dX11_call_95
              · have hf := ite_f hf c22
                refine lv_aload_n hx hb dX11_call_75 rfl (lv_at hl 1 rfl) ?_
                refine gC_0_0 C hJ fl_RX11_12 dX11_call_76 ?_
                refine gC_1_2 C hJ fl_RX11_165 dX11_call_79 ?_
                refine lv_iload hx hb dX11_call_82 (lv_at hl 6 rfl) ?_
                refine lv_bipush (v := 10) hx hb dX11_call_84 (by decide) ?_
                refine lv_irem hx hb dX11_call_86 (by decide) ?_
                obtain ⟨σ23, r24, hg25, hf⟩ := cal_some hf
                refine backI hsb hJ (runV (As := [.int (a5 - a5 / (10 : Int32) * (10 : Int32))]) (rest := []) C hJ lk_RX11_188 (cC_O_has hF hg25) recC_9 rfl rfl (Nat.le_of_ble_eq_true rfl) hl.1 (hR_of (by omega) (by decide)) ⟨Nat.le_refl _, Nat.le_refl _⟩ dX11_call_87) (fun H locs hJ => ?_)
                refine lv_if_ne (tgt := 96) hx hb dX11_call_90 (by decide) (fun c26 => ?_) (fun c26 => ?_)
                · have hf := ite_f hf c26
                  refine lv_aload_n hx hb dX11_call_96 rfl (lv_at hl 1 rfl) ?_
                  refine gC_0_0 C hJ fl_RX11_12 dX11_call_97 ?_
                  refine gC_1_4 C hJ fl_RX11_189 dX11_call_100 ?_
                  refine lv_iload_n hx hb dX11_call_103 rfl (lv_at hl 2 rfl) ?_
                  refine lv_iload_n hx hb dX11_call_104 rfl (lv_at hl 3 rfl) ?_
                  refine lv_iload_n hx hb dX11_call_105 rfl (lv_at hl 4 rfl) ?_
                  refine lv_iload hx hb dX11_call_106 (lv_at hl 5 rfl) ?_
                  refine lv_iload hx hb dX11_call_108 (lv_at hl 6 rfl) ?_
                  refine lv_aload hx hb dX11_call_110 (lv_at hl 0 rfl) ?_
                  refine gC_7_0 C hJ fl_RX11_193 dX11_call_112 ?_
                  refine lv_iload_n hx hb dX11_call_115 rfl (lv_at hl 3 rfl) ?_
                  obtain ⟨h27, hf⟩ := gi_some hf
                  refine aC_32 C hJ h27 dX11_call_116 ?_
                  obtain ⟨σ28, r29, hg30, hf⟩ := cal_some hf
                  refine backI hsb hJ (runV (As := [.int a1, .int a2, .int a3, .int a4, .int a5, .int (σ23.2.1 32 a2.toNatClampNeg)]) (rest := []) C hJ lk_RX11_196 (cC_F_add hF hg30) recC_11 rfl rfl (Nat.le_of_ble_eq_true rfl) hl.1 (hR_of (by omega) (by decide)) ⟨Nat.le_refl _, Nat.le_refl _⟩ dX11_call_117) (fun H locs hJ => ?_)
                  exact ret_I hret hJ hf rfl dX11_call_120
                · have hf := ite_t hf c26
                  refine lv_bipush (v := -2) hx hb dX11_call_93 (by decide) ?_
                  exact ret_I hret hJ hf rfl dX11_call_95
        · have hf := ite_t hf c13
          refine lv_bipush (v := -2) hx hb dX11_call_41 (by decide) ?_
          exact ret_I hret hJ hf rfl dX11_call_43
