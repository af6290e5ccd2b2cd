set_option maxHeartbeats 4000000 in
set_option maxRecDepth 100000 in
theorem cC_H_hasRun {l : Launch} {D : va_G} {cA cB : ClassId} {q : Nat → Nat} {x : Nat → Nat} {N : Nat} {σ σ' : St} {r : Int32} {a1 : Int32} {a2 : Int32} {a3 : Int32} (hF : Fr (wC q cA cB) (aC q) (eC q x)) (hf : fC_H_hasRun N σ a1 a2 a3 = some (σ', r)) : MI l yX7_hasRun cX7_hasRun 4 .boolean 1 D (tyC cA cB) (wC q cA cB) (aC q) (eC q x) [.ref (q 5), .int a1, .int a2, .int a3] σ σ' r := by
  refine MI_of (by decide) hF (Nat.le_of_ble_eq_true rfl) ?_
  intro p e s m args below meth c Q C hret hJ ls hl
  obtain ⟨hx, hb, hml, hown, hts, hK, hE, -⟩ := id C
  have hsb : ∀ z, (aC q) z → (aC q) z := fun _ h => h
  have hl : lv_has ls 4 [(0, .ref (q 5)), (1, .int a1), (2, .int a2), (3, .int a3)] := hl
  unfold fC_H_hasRun at hf
  refine lv_iload_n hx hb dX7_hasRun_0 rfl (lv_at hl 2 rfl) ?_
  refine lv_if_lt (tgt := 34) hx hb dX7_hasRun_1 (by decide) (fun c1 => ?_) (fun c1 => ?_)
  · have hf := ite_t hf c1
    refine lv_iconst (v := 0) hx hb dX7_hasRun_34 (by decide) ?_
    exact ret_I hret hJ hf (nar_z (by decide)) dX7_hasRun_35
  · have hf := ite_f hf c1
    refine lv_iload_n hx hb dX7_hasRun_4 rfl (lv_at hl 3 rfl) ?_
    refine lv_if_lt (tgt := 34) hx hb dX7_hasRun_5 (by decide) (fun c2 => ?_) (fun c2 => ?_)
    · have hf := ite_t hf c2
      refine lv_iconst (v := 0) hx hb dX7_hasRun_34 (by decide) ?_
      exact ret_I hret hJ hf (nar_z (by decide)) dX7_hasRun_35
    · have hf := ite_f hf c2
      refine lv_iload_n hx hb dX7_hasRun_8 rfl (lv_at hl 2 rfl) ?_
      refine lv_aload_n hx hb dX7_hasRun_9 rfl (lv_at hl 0 rfl) ?_
      refine gC_5_1 C hJ fl_RX7_15 dX7_hasRun_10 ?_
      refine lv_iload_n hx hb dX7_hasRun_13 rfl (lv_at hl 1 rfl) ?_
      obtain ⟨h3, hf⟩ := gi_some hf
      refine aC_26 C hJ h3 dX7_hasRun_14 ?_
      refine lv_icmp_gt (tgt := 34) hx hb dX7_hasRun_15 (by decide) (fun c4 => ?_) (fun c4 => ?_)
      · have hf := ite_t hf c4
        refine lv_iconst (v := 0) hx hb dX7_hasRun_34 (by decide) ?_
        exact ret_I hret hJ hf (nar_z (by decide)) dX7_hasRun_35
      · have hf := ite_f hf c4
        refine lv_iload_n hx hb dX7_hasRun_18 rfl (lv_at hl 3 rfl) ?_
        refine lv_aload_n hx hb dX7_hasRun_19 rfl (lv_at hl 0 rfl) ?_
        refine gC_5_1 C hJ fl_RX7_15 dX7_hasRun_20 ?_
        refine lv_iload_n hx hb dX7_hasRun_23 rfl (lv_at hl 1 rfl) ?_
        obtain ⟨h5, hf⟩ := gi_some hf
        refine aC_26 C hJ h5 dX7_hasRun_24 ?_
        refine lv_iload_n hx hb dX7_hasRun_25 rfl (lv_at hl 2 rfl) ?_
        refine lv_isub hx hb dX7_hasRun_26 ?_
        refine lv_icmp_gt (tgt := 34) hx hb dX7_hasRun_27 (by decide) (fun c6 => ?_) (fun c6 => ?_)
        · have hf := ite_t hf c6
          refine lv_iconst (v := 0) hx hb dX7_hasRun_34 (by decide) ?_
          exact ret_I hret hJ hf (nar_z (by decide)) dX7_hasRun_35
        · have hf := ite_f hf c6
          refine lv_iconst (v := 1) hx hb dX7_hasRun_30 (by decide) ?_
          refine lv_goto (tgt := 35) hx hb dX7_hasRun_31 (by decide) ?_
          exact ret_I hret hJ hf (nar_z (by decide)) dX7_hasRun_35
set_option maxHeartbeats 4000000 in
set_option maxRecDepth 100000 in
theorem cC_copy {l : Launch} {D : va_G} {cA cB : ClassId} {q : Nat → Nat} {x : Nat → Nat} {N : Nat} {σ σ' : St} {r : Int32} {a1 : Int32} {a2 : Int32} {a3 : Int32} {a4 : Int32} {a5 : Int32} (hF : Fr (wC q cA cB) (aC q) (eC q x)) (hf : fC_copy N σ a1 a2 a3 a4 a5 = some (σ', r)) : MI l yX11_copy cX11_copy 6 .int 3 D (tyC cA cB) (wC q cA cB) (aC q) (eC q x) [.ref (q 0), .int a1, .int a2, .int a3, .int a4, .int a5] σ σ' r := by
  refine MI_of (by decide) hF (Nat.le_of_ble_eq_true rfl) ?_
  intro p e s m args below meth c Q C hret hJ ls hl
  obtain ⟨hx, hb, hml, hown, hts, hK, hE, -⟩ := id C
  have hsb : ∀ z, (aC q) z → (aC q) z := fun _ h => h
  have hl : lv_has ls 6 [(0, .ref (q 0)), (1, .int a1), (2, .int a2), (3, .int a3), (4, .int a4), (5, .int a5)] := hl
  unfold fC_copy at hf
  refine lv_iload_n hx hb dX11_copy_0 rfl (lv_at hl 1 rfl) ?_
  obtain ⟨σ1, r2, hg3, hf⟩ := cal_some hf
  refine backI hsb hJ (runS (As := [.int a1]) (rest := []) C hJ lk_RX11_233 (cC_isSheet hF hg3) rfl rfl (Nat.le_of_ble_eq_true rfl) hl.1 (hR_of (by omega) (by decide)) ⟨Nat.le_refl _, Nat.le_refl _⟩ dX11_copy_1) (fun H locs hJ => ?_)
  refine lv_if_eq (tgt := 14) hx hb dX11_copy_4 (by decide) (fun c4 => ?_) (fun c4 => ?_)
  · have hf := ite_t hf c4
    refine lv_bipush (v := -2) hx hb dX11_copy_14 (by decide) ?_
    exact ret_I hret hJ hf rfl dX11_copy_16
  · have hf := ite_f hf c4
    refine lv_iload_n hx hb dX11_copy_7 rfl (lv_at hl 3 rfl) ?_
    obtain ⟨σ5, r6, hg7, hf⟩ := cal_some hf
    refine backI hsb hJ (runS (As := [.int a3]) (rest := []) C hJ lk_RX11_233 (cC_isSheet hF hg7) rfl rfl (Nat.le_of_ble_eq_true rfl) hl.1 (hR_of (by omega) (by decide)) ⟨Nat.le_refl _, Nat.le_refl _⟩ dX11_copy_8) (fun H locs hJ => ?_)
    refine lv_if_ne (tgt := 17) hx hb dX11_copy_11 (by decide) (fun c8 => ?_) (fun c8 => ?_)
    · have hf := ite_f hf c8
      refine lv_aload_n hx hb dX11_copy_17 rfl (lv_at hl 0 rfl) ?_
      refine gC_0_4 C hJ fl_RX11_40 dX11_copy_18 ?_
      refine lv_iload_n hx hb dX11_copy_21 rfl (lv_at hl 1 rfl) ?_
      obtain ⟨σ9, r10, hg11, hf⟩ := cal_some hf
      refine backI hsb hJ (runV (As := [.int a1]) (rest := []) C hJ lk_RX11_315 (cC_H_isMissing hF hg11) recC_5 rfl rfl (Nat.le_of_ble_eq_true rfl) hl.1 (hR_of (by omega) (by decide)) ⟨Nat.le_refl _, Nat.le_refl _⟩ dX11_copy_22) (fun H locs hJ => ?_)
      refine lv_if_ne (tgt := 39) hx hb dX11_copy_25 (by decide) (fun c12 => ?_) (fun c12 => ?_)
      · have hf := ite_f hf c12
        refine lv_bipush (v := -11) hx hb dX11_copy_39 (by decide) ?_
        exact ret_I hret hJ hf rfl dX11_copy_41
      · have hf := ite_t hf c12
        refine lv_aload_n hx hb dX11_copy_28 rfl (lv_at hl 0 rfl) ?_
        refine gC_0_4 C hJ fl_RX11_40 dX11_copy_29 ?_
        refine lv_iload_n hx hb dX11_copy_32 rfl (lv_at hl 3 rfl) ?_
        obtain ⟨σ13, r14, hg15, hf⟩ := cal_some hf
        refine backI hsb hJ (runV (As := [.int a3]) (rest := []) C hJ lk_RX11_315 (cC_H_isMissing hF hg15) recC_5 rfl rfl (Nat.le_of_ble_eq_true rfl) hl.1 (hR_of (by omega) (by decide)) ⟨Nat.le_refl _, Nat.le_refl _⟩ dX11_copy_33) (fun H locs hJ => ?_)
        refine lv_if_eq (tgt := 42) hx hb dX11_copy_36 (by decide) (fun c16 => ?_) (fun c16 => ?_)
        · have hf := ite_t hf c16
          refine lv_aload_n hx hb dX11_copy_42 rfl (lv_at hl 0 rfl) ?_
          refine gC_0_4 C hJ fl_RX11_40 dX11_copy_43 ?_
          refine gC_5_0 C hJ fl_RX11_320 dX11_copy_46 ?_
          refine lv_iload_n hx hb dX11_copy_49 rfl (lv_at hl 1 rfl) ?_
          obtain ⟨h17, hf⟩ := gi_some hf
          refine aC_25 C hJ h17 dX11_copy_50 ?_
          refine lv_aload_n hx hb dX11_copy_51 rfl (lv_at hl 0 rfl) ?_
          refine gC_0_4 C hJ fl_RX11_40 dX11_copy_52 ?_
          refine gC_5_0 C hJ fl_RX11_320 dX11_copy_55 ?_
          refine lv_iload_n hx hb dX11_copy_58 rfl (lv_at hl 3 rfl) ?_
          obtain ⟨h18, hf⟩ := gi_some hf
          refine aC_25 C hJ h18 dX11_copy_59 ?_
          refine lv_icmp_eq (tgt := 66) hx hb dX11_copy_60 (by decide) (fun c19 => ?_) (fun c19 => ?_)
          · have hf := ite_t hf c19
            refine lv_aload_n hx hb dX11_copy_66 rfl (lv_at hl 0 rfl) ?_
            refine gC_0_4 C hJ fl_RX11_40 dX11_copy_67 ?_
            refine lv_iload_n hx hb dX11_copy_70 rfl (lv_at hl 1 rfl) ?_
            refine lv_iload_n hx hb dX11_copy_71 rfl (lv_at hl 2 rfl) ?_
            refine lv_iload hx hb dX11_copy_72 (lv_at hl 5 rfl) ?_
            obtain ⟨σ20, r21, hg22, hf⟩ := cal_some hf
            refine backI hsb hJ (runV (As := [.int a1, .int a2, .int a5]) (rest := []) C hJ lk_RX11_323 (cC_H_hasRun hF hg22) recC_5 rfl rfl (Nat.le_of_ble_eq_true rfl) hl.1 (hR_of (by omega) (by decide)) ⟨Nat.le_refl _, Nat.le_refl _⟩ dX11_copy_74) (fun H locs hJ => ?_)
            refine lv_if_eq (tgt := 95) hx hb dX11_copy_77 (by decide) (fun c23 => ?_) (fun c23 => ?_)
            · have hf := ite_t hf c23
              refine lv_bipush (v := -12) hx hb dX11_copy_95 (by decide) ?_
              exact ret_I hret hJ hf rfl dX11_copy_97
            · have hf := ite_f hf c23
              refine lv_aload_n hx hb dX11_copy_80 rfl (lv_at hl 0 rfl) ?_
              refine gC_0_4 C hJ fl_RX11_40 dX11_copy_81 ?_
              refine lv_iload_n hx hb dX11_copy_84 rfl (lv_at hl 3 rfl) ?_
              refine lv_iload hx hb dX11_copy_85 (lv_at hl 4 rfl) ?_
              refine lv_iload hx hb dX11_copy_87 (lv_at hl 5 rfl) ?_
              obtain ⟨σ24, r25, hg26, hf⟩ := cal_some hf
              refine backI hsb hJ (runV (As := [.int a3, .int a4, .int a5]) (rest := []) C hJ lk_RX11_323 (cC_H_hasRun hF hg26) recC_5 rfl rfl (Nat.le_of_ble_eq_true rfl) hl.1 (hR_of (by omega) (by decide)) ⟨Nat.le_refl _, Nat.le_refl _⟩ dX11_copy_89) (fun H locs hJ => ?_)
              refine lv_if_ne (tgt := 98) hx hb dX11_copy_92 (by decide) (fun c27 => ?_) (fun c27 => ?_)
              · have hf := ite_f hf c27
                refine lv_aload_n hx hb dX11_copy_98 rfl (lv_at hl 0 rfl) ?_
                refine gC_0_4 C hJ fl_RX11_40 dX11_copy_99 ?_
                refine gC_5_2 C hJ fl_RX11_326 dX11_copy_102 ?_
                refine lv_iload_n hx hb dX11_copy_105 rfl (lv_at hl 1 rfl) ?_
                refine lv_bipush (v := 40) hx hb dX11_copy_106 (by decide) ?_
                refine lv_imul hx hb dX11_copy_108 ?_
                refine lv_iload_n hx hb dX11_copy_109 rfl (lv_at hl 2 rfl) ?_
                refine lv_iadd hx hb dX11_copy_110 ?_
                refine lv_aload_n hx hb dX11_copy_111 rfl (lv_at hl 0 rfl) ?_
                refine gC_0_4 C hJ fl_RX11_40 dX11_copy_112 ?_
                refine gC_5_2 C hJ fl_RX11_326 dX11_copy_115 ?_
                refine lv_iload_n hx hb dX11_copy_118 rfl (lv_at hl 3 rfl) ?_
                refine lv_bipush (v := 40) hx hb dX11_copy_119 (by decide) ?_
                refine lv_imul hx hb dX11_copy_121 ?_
                refine lv_iload hx hb dX11_copy_122 (lv_at hl 4 rfl) ?_
                refine lv_iadd hx hb dX11_copy_124 ?_
                refine lv_iload hx hb dX11_copy_125 (lv_at hl 5 rfl) ?_
                obtain ⟨h28, hf⟩ := gcp_some hf
                refine cpyC C hJ hl.1 w_mcpy h28 (Nat.le_of_ble_eq_true rfl) (Nat.le_of_ble_eq_true rfl) dX11_copy_127 (fun σ29 H locs hs hJ => ?_)
                have hf := bnd_at hf hs
                refine lv_iload hx hb dX11_copy_130 (lv_at hl 5 rfl) ?_
                exact ret_I hret hJ hf rfl dX11_copy_132
              · have hf := ite_t hf c27
                refine lv_bipush (v := -12) hx hb dX11_copy_95 (by decide) ?_
                exact ret_I hret hJ hf rfl dX11_copy_97
          · have hf := ite_f hf c19
            refine lv_bipush (v := -13) hx hb dX11_copy_63 (by decide) ?_
            exact ret_I hret hJ hf rfl dX11_copy_65
        · have hf := ite_f hf c16
          refine lv_bipush (v := -11) hx hb dX11_copy_39 (by decide) ?_
          exact ret_I hret hJ hf rfl dX11_copy_41
    · have hf := ite_t hf c8
      refine lv_bipush (v := -2) hx hb dX11_copy_14 (by decide) ?_
      exact ret_I hret hJ hf rfl dX11_copy_16
set_option maxHeartbeats 4000000 in
set_option maxRecDepth 100000 in
theorem cC_men {l : Launch} {D : va_G} {cA cB : ClassId} {q : Nat → Nat} {x : Nat → Nat} {N : Nat} {σ σ' : St} {r : Int32} {a1 : Int32} {a2 : Int32} {a3 : Int32} {a4 : Int32} (hF : Fr (wC q cA cB) (aC q) (eC q x)) (hf : fC_men N σ a1 a2 a3 a4 = some (σ', r)) : MI l yX11_men cX11_men 9 .int 4 D (tyC cA cB) (wC q cA cB) (aC q) (eC q x) [.ref (q 0), .int a1, .int a2, .int a3, .int a4] σ σ' r := by
  refine MI_of (by decide) hF (Nat.le_of_ble_eq_true rfl) ?_
  intro p e s m args below meth c Q C hret hJ ls hl
  obtain ⟨hx, hb, hml, hown, hts, hK, hE, -⟩ := id C
  have hsb : ∀ z, (aC q) z → (aC q) z := fun _ h => h
  have l77 : ∀ (n : Nat) (σ : St) (a1 : Int32) (a3 : Int32) (a4 : Int32) (a5 : Int32) (a6 : Int32) (H : Heap) (locs : List Loc) (ls : Array Slot), fC_men_l77 N  n σ a1 a3 a4 a5 a6 = some (σ', r) → J D (wC q cA cB) (aC q) s σ H locs → lv_has ls 9 [(0, .ref (q 0)), (1, .int a1), (3, .int a3), (4, .int a4), (5, .int a5), (6, .int a6)] → W p l e (rmH 4) s m args below meth c H locs 0 0 Q (F0 m 77 ls []) := by
    intro n77
    induction n77 with
    | zero => intro σ a1 a3 a4 a5 a6 H locs ls hf; rw [fC_men_l77] at hf; cases hf
    | succ n77 ih77 =>
      have j163 : ∀ (σ : St) (a1 : Int32) (a3 : Int32) (a4 : Int32) (a5 : Int32) (a6 : Int32) (H : Heap) (locs : List Loc) (ls : Array Slot), fC_men_j163 N (fC_men_l77 N  n77) σ a1 a3 a4 a5 a6 = some (σ', r) → J D (wC q cA cB) (aC q) s σ H locs → lv_has ls 9 [(0, .ref (q 0)), (1, .int a1), (3, .int a3), (4, .int a4), (5, .int a5), (6, .int a6)] → W p l e (rmH 4) s m args below meth c H locs 0 0 Q (F0 m 163 ls []) := by
        intro σ a1 a3 a4 a5 a6 H locs ls hf hJ hl
        unfold fC_men_j163 at hf
        obtain ⟨x1, hx1⟩ : ∃ z : Int32, z = a6 + (1 : Int32) := ⟨_, rfl⟩
        have hf := bnd_at hf hx1
        refine lv_iinc (v := x1) (lv' := [(6, .int x1), (0, .ref (q 0)), (1, .int a1), (3, .int a3), (4, .int a4), (5, .int a5)]) hx hb dX11_men_163 hl (k := 5) rfl (by rw [hx1]; rfl) (by decide) rfl (fun ls hl => ?_)
        refine lv_goto (tgt := 77) hx hb dX11_men_166 (by decide) ?_
        exact ih77 σ a1 a3 a4 a5 x1 _ _ _ hf hJ (lv_sub hl [1, 2, 3, 4, 5, 0] rfl)
      intro σ a1 a3 a4 a5 a6 H locs ls hf hJ hl
      rw [fC_men_l77] at hf
      refine lv_iload hx hb dX11_men_77 (lv_at hl 5 rfl) ?_
      refine lv_iload hx hb dX11_men_79 (lv_at hl 3 rfl) ?_
      refine lv_icmp_ge (tgt := 169) hx hb dX11_men_81 (by decide) (fun c2 => ?_) (fun c2 => ?_)
      · have hf := ite_t hf c2
        refine lv_iload hx hb dX11_men_169 (lv_at hl 4 rfl) ?_
        exact ret_I hret hJ hf rfl dX11_men_171
      · have hf := ite_f hf c2
        refine lv_iload_n hx hb dX11_men_84 rfl (lv_at hl 2 rfl) ?_
        refine lv_iconst (v := 3) hx hb dX11_men_85 (by decide) ?_
        refine lv_iload hx hb dX11_men_86 (lv_at hl 5 rfl) ?_
        refine lv_imul hx hb dX11_men_88 ?_
        refine lv_iadd hx hb dX11_men_89 ?_
        refine lv_topi (fun x3 hx3 => ?_)
        have hf := bnd_at hf hx3
        refine lv_istore (lv' := [(7, .int x3), (0, .ref (q 0)), (1, .int a1), (3, .int a3), (4, .int a4), (5, .int a5), (6, .int a6)]) hx hb dX11_men_90 hl (by decide) rfl (fun ls hl => ?_)
        refine lv_aload_n hx hb dX11_men_92 rfl (lv_at hl 1 rfl) ?_
        refine gC_0_4 C hJ fl_RX11_40 dX11_men_93 ?_
        refine lv_iload_n hx hb dX11_men_96 rfl (lv_at hl 2 rfl) ?_
        refine lv_iload hx hb dX11_men_97 (lv_at hl 0 rfl) ?_
        refine lv_iconst (v := 3) hx hb dX11_men_99 (by decide) ?_
        obtain ⟨σ4, r5, hg6, hf⟩ := cal_some hf
        refine backI hsb hJ (runV (As := [.int a1, .int x3, .int (3 : Int32)]) (rest := []) C hJ lk_RX11_323 (cC_H_hasRun hF hg6) recC_5 rfl rfl (Nat.le_of_ble_eq_true rfl) hl.1 (hR_of (by omega) (by decide)) ⟨Nat.le_refl _, Nat.le_refl _⟩ dX11_men_100) (fun H locs hJ => ?_)
        refine lv_if_ne (tgt := 109) hx hb dX11_men_103 (by decide) (fun c7 => ?_) (fun c7 => ?_)
        · have hf := ite_f hf c7
          refine lv_aload_n hx hb dX11_men_109 rfl (lv_at hl 1 rfl) ?_
          refine gC_0_4 C hJ fl_RX11_40 dX11_men_110 ?_
          refine lv_iload_n hx hb dX11_men_113 rfl (lv_at hl 2 rfl) ?_
          refine lv_iload hx hb dX11_men_114 (lv_at hl 0 rfl) ?_
          obtain ⟨σ8, r9, hg10, hf⟩ := cal_some hf
          refine backI hsb hJ (runV (As := [.int a1, .int x3]) (rest := []) C hJ lk_RX11_244 (cC_H_itemOf hF hg10) recC_5 rfl rfl (Nat.le_of_ble_eq_true rfl) hl.1 (hR_of (by omega) (by decide)) ⟨Nat.le_refl _, Nat.le_refl _⟩ dX11_men_116) (fun H locs hJ => ?_)
          refine lv_istore (lv' := [(8, .int r9), (7, .int x3), (0, .ref (q 0)), (1, .int a1), (3, .int a3), (4, .int a4), (5, .int a5), (6, .int a6)]) hx hb dX11_men_119 hl (by decide) rfl (fun ls hl => ?_)
          refine lv_aload_n hx hb dX11_men_121 rfl (lv_at hl 2 rfl) ?_
          refine gC_0_0 C hJ fl_RX11_12 dX11_men_122 ?_
          refine gC_1_0 C hJ fl_RX11_86 dX11_men_125 ?_
          refine lv_iload hx hb dX11_men_128 (lv_at hl 0 rfl) ?_
          refine lv_aload_n hx hb dX11_men_130 rfl (lv_at hl 2 rfl) ?_
          refine gC_0_4 C hJ fl_RX11_40 dX11_men_131 ?_
          refine lv_iload_n hx hb dX11_men_134 rfl (lv_at hl 3 rfl) ?_
          refine lv_iload hx hb dX11_men_135 (lv_at hl 1 rfl) ?_
          refine lv_iconst (v := 1) hx hb dX11_men_137 (by decide) ?_
          refine lv_iadd hx hb dX11_men_138 ?_
          obtain ⟨σ11, r12, hg13, hf⟩ := cal_some hf
          refine backI hsb hJ (runV (As := [.int a1, .int (x3 + (1 : Int32))]) (rest := [.int r9, .ref (q 7)]) C hJ lk_RX11_244 (cC_H_itemOf hF hg13) recC_5 rfl rfl (Nat.le_of_ble_eq_true rfl) hl.1 (hR_of (by omega) (by decide)) ⟨Nat.le_refl _, Nat.le_refl _⟩ dX11_men_139) (fun H locs hJ => ?_)
          refine lv_aload_n hx hb dX11_men_142 rfl (lv_at hl 2 rfl) ?_
          refine gC_0_4 C hJ fl_RX11_40 dX11_men_143 ?_
          refine lv_iload_n hx hb dX11_men_146 rfl (lv_at hl 3 rfl) ?_
          refine lv_iload hx hb dX11_men_147 (lv_at hl 1 rfl) ?_
          refine lv_iconst (v := 2) hx hb dX11_men_149 (by decide) ?_
          refine lv_iadd hx hb dX11_men_150 ?_
          obtain ⟨σ14, r15, hg16, hf⟩ := cal_some hf
          refine backI hsb hJ (runV (As := [.int a1, .int (x3 + (2 : Int32))]) (rest := [.int r12, .int r9, .ref (q 7)]) C hJ lk_RX11_244 (cC_H_itemOf hF hg16) recC_5 rfl rfl (Nat.le_of_ble_eq_true rfl) hl.1 (hR_of (by omega) (by decide)) ⟨Nat.le_refl _, Nat.le_refl _⟩ dX11_men_151) (fun H locs hJ => ?_)
          obtain ⟨σ17, r18, hg19, hf⟩ := cal_some hf
          refine backI hsb hJ (runV (As := [.int r9, .int r12, .int r15]) (rest := []) C hJ lk_RX11_89 (cC_S_add hF hg19) recC_7 rfl rfl (Nat.le_of_ble_eq_true rfl) hl.1 (hR_of (by omega) (by decide)) ⟨Nat.le_refl _, Nat.le_refl _⟩ dX11_men_154) (fun H locs hJ => ?_)
          refine lv_if_lt (tgt := 163) hx hb dX11_men_157 (by decide) (fun c20 => ?_) (fun c20 => ?_)
          · have hf := ite_t hf c20
            exact j163 σ17 a1 a3 a4 a5 a6 _ _ _ hf hJ (lv_sub hl [2, 3, 4, 5, 6, 7] rfl)
          · have hf := ite_f hf c20
            obtain ⟨x21, hx21⟩ : ∃ z : Int32, z = a5 + (1 : Int32) := ⟨_, rfl⟩
            have hf := bnd_at hf hx21
            refine lv_iinc (v := x21) (lv' := [(5, .int x21), (8, .int r9), (7, .int x3), (0, .ref (q 0)), (1, .int a1), (3, .int a3), (4, .int a4), (6, .int a6)]) hx hb dX11_men_160 hl (k := 6) rfl (by rw [hx21]; rfl) (by decide) rfl (fun ls hl => ?_)
            exact j163 σ17 a1 a3 a4 x21 a6 _ _ _ hf hJ (lv_sub hl [3, 4, 5, 6, 0, 7] rfl)
        · have hf := ite_t hf c7
          refine lv_bipush (v := -12) hx hb dX11_men_106 (by decide) ?_
          exact ret_I hret hJ hf rfl dX11_men_108
  have j57 : ∀ (σ : St) (a1 : Int32) (a3 : Int32) (a4 : Int32) (H : Heap) (locs : List Loc) (ls : Array Slot), fC_men_j57 N  σ a1 a3 a4 = some (σ', r) → J D (wC q cA cB) (aC q) s σ H locs → lv_has ls 9 [(0, .ref (q 0)), (1, .int a1), (3, .int a3), (4, .int a4)] → W p l e (rmH 4) s m args below meth c H locs 0 0 Q (F0 m 57 ls []) := by
    intro σ a1 a3 a4 H locs ls hf hJ hl
    unfold fC_men_j57 at hf
    refine lv_aload_n hx hb dX11_men_57 rfl (lv_at hl 0 rfl) ?_
    refine gC_0_4 C hJ fl_RX11_40 dX11_men_58 ?_
    refine lv_iload_n hx hb dX11_men_61 rfl (lv_at hl 1 rfl) ?_
    obtain ⟨σ22, r23, hg24, hf⟩ := cal_some hf
    refine backI hsb hJ (runV (As := [.int a1]) (rest := []) C hJ lk_RX11_315 (cC_H_isMissing hF hg24) recC_5 rfl rfl (Nat.le_of_ble_eq_true rfl) hl.1 (hR_of (by omega) (by decide)) ⟨Nat.le_refl _, Nat.le_refl _⟩ dX11_men_62) (fun H locs hJ => ?_)
    refine lv_if_eq (tgt := 71) hx hb dX11_men_65 (by decide) (fun c25 => ?_) (fun c25 => ?_)
    · have hf := ite_t hf c25
      refine lv_iconst (v := 0) hx hb dX11_men_71 (by decide) ?_
      refine lv_istore (lv' := [(5, .int (0 : Int32)), (0, .ref (q 0)), (1, .int a1), (3, .int a3), (4, .int a4)]) hx hb dX11_men_72 hl (by decide) rfl (fun ls hl => ?_)
      refine lv_iconst (v := 0) hx hb dX11_men_74 (by decide) ?_
      refine lv_istore (lv' := [(6, .int (0 : Int32)), (5, .int (0 : Int32)), (0, .ref (q 0)), (1, .int a1), (3, .int a3), (4, .int a4)]) hx hb dX11_men_75 hl (by decide) rfl (fun ls hl => ?_)
      exact l77 N σ22 a1 a3 a4 (0 : Int32) (0 : Int32) _ _ _ hf hJ (lv_sub hl [2, 3, 4, 5, 1, 0] rfl)
    · have hf := ite_f hf c25
      refine lv_bipush (v := -11) hx hb dX11_men_68 (by decide) ?_
      exact ret_I hret hJ hf rfl dX11_men_70
  have hl : lv_has ls 9 [(0, .ref (q 0)), (1, .int a1), (2, .int a2), (3, .int a3), (4, .int a4)] := hl
  unfold fC_men at hf
  refine lv_iload_n hx hb dX11_men_0 rfl (lv_at hl 1 rfl) ?_
  obtain ⟨σ26, r27, hg28, hf⟩ := cal_some hf
  refine backI hsb hJ (runS (As := [.int a1]) (rest := []) C hJ lk_RX11_233 (cC_isSheet hF hg28) rfl rfl (Nat.le_of_ble_eq_true rfl) hl.1 (hR_of (by omega) (by decide)) ⟨Nat.le_refl _, Nat.le_refl _⟩ dX11_men_1) (fun H locs hJ => ?_)
  refine lv_if_eq (tgt := 27) hx hb dX11_men_4 (by decide) (fun c29 => ?_) (fun c29 => ?_)
  · have hf := ite_t hf c29
    refine lv_bipush (v := -2) hx hb dX11_men_27 (by decide) ?_
    exact ret_I hret hJ hf rfl dX11_men_29
  · have hf := ite_f hf c29
    refine lv_iload_n hx hb dX11_men_7 rfl (lv_at hl 2 rfl) ?_
    refine lv_iconst (v := 0) hx hb dX11_men_8 (by decide) ?_
    refine lv_iconst (v := 2) hx hb dX11_men_9 (by decide) ?_
    obtain ⟨σ30, r31, hg32, hf⟩ := cal_some hf
    refine backI hsb hJ (runS (As := [.int a2, .int (0 : Int32), .int (2 : Int32)]) (rest := []) C hJ lk_RX11_100 (cC_isWithin hF hg32) rfl rfl (Nat.le_of_ble_eq_true rfl) hl.1 (hR_of (by omega) (by decide)) ⟨Nat.le_refl _, Nat.le_refl _⟩ dX11_men_10) (fun H locs hJ => ?_)
    refine lv_if_eq (tgt := 27) hx hb dX11_men_13 (by decide) (fun c33 => ?_) (fun c33 => ?_)
    · have hf := ite_t hf c33
      refine lv_bipush (v := -2) hx hb dX11_men_27 (by decide) ?_
      exact ret_I hret hJ hf rfl dX11_men_29
    · have hf := ite_f hf c33
      refine lv_iload hx hb dX11_men_16 (lv_at hl 4 rfl) ?_
      refine lv_iconst (v := 0) hx hb dX11_men_18 (by decide) ?_
      refine lv_bipush (v := 10) hx hb dX11_men_19 (by decide) ?_
      obtain ⟨σ34, r35, hg36, hf⟩ := cal_some hf
      refine backI hsb hJ (runS (As := [.int a4, .int (0 : Int32), .int (10 : Int32)]) (rest := []) C hJ lk_RX11_100 (cC_isWithin hF hg36) rfl rfl (Nat.le_of_ble_eq_true rfl) hl.1 (hR_of (by omega) (by decide)) ⟨Nat.le_refl _, Nat.le_refl _⟩ dX11_men_21) (fun H locs hJ => ?_)
      refine lv_if_ne (tgt := 30) hx hb dX11_men_24 (by decide) (fun c37 => ?_) (fun c37 => ?_)
      · have hf := ite_f hf c37
        refine lv_aload_n hx hb dX11_men_30 rfl (lv_at hl 0 rfl) ?_
        refine gC_0_4 C hJ fl_RX11_40 dX11_men_31 ?_
        refine lv_iload_n hx hb dX11_men_34 rfl (lv_at hl 1 rfl) ?_
        obtain ⟨σ38, r39, hg40, hf⟩ := cal_some hf
        refine backI hsb hJ (runV (As := [.int a1]) (rest := []) C hJ lk_RX11_315 (cC_H_isMissing hF hg40) recC_5 rfl rfl (Nat.le_of_ble_eq_true rfl) hl.1 (hR_of (by omega) (by decide)) ⟨Nat.le_refl _, Nat.le_refl _⟩ dX11_men_35) (fun H locs hJ => ?_)
        refine lv_if_ne (tgt := 57) hx hb dX11_men_38 (by decide) (fun c41 => ?_) (fun c41 => ?_)
        · have hf := ite_f hf c41
          exact j57 σ38 a1 a3 a4 _ _ _ hf hJ (lv_sub hl [0, 1, 3, 4] rfl)
        · have hf := ite_t hf c41
          refine lv_aload_n hx hb dX11_men_41 rfl (lv_at hl 0 rfl) ?_
          refine gC_0_4 C hJ fl_RX11_40 dX11_men_42 ?_
          refine gC_5_0 C hJ fl_RX11_320 dX11_men_45 ?_
          refine lv_iload_n hx hb dX11_men_48 rfl (lv_at hl 1 rfl) ?_
          obtain ⟨h42, hf⟩ := gi_some hf
          refine aC_25 C hJ h42 dX11_men_49 ?_
          refine lv_iload_n hx hb dX11_men_50 rfl (lv_at hl 2 rfl) ?_
          refine lv_icmp_eq (tgt := 57) hx hb dX11_men_51 (by decide) (fun c43 => ?_) (fun c43 => ?_)
          · have hf := ite_t hf c43
            exact j57 σ38 a1 a3 a4 _ _ _ hf hJ (lv_sub hl [0, 1, 3, 4] rfl)
          · have hf := ite_f hf c43
            refine lv_bipush (v := -13) hx hb dX11_men_54 (by decide) ?_
            exact ret_I hret hJ hf rfl dX11_men_56
      · have hf := ite_t hf c37
        refine lv_bipush (v := -2) hx hb dX11_men_27 (by decide) ?_
        exact ret_I hret hJ hf rfl dX11_men_29
set_option maxHeartbeats 4000000 in
set_option maxRecDepth 100000 in
theorem cC_taken {l : Launch} {D : va_G} {cA cB : ClassId} {q : Nat → Nat} {x : Nat → Nat} {N : Nat} {σ σ' : St} {r : Int32} {a1 : Int32} {a2 : Int32} (hF : Fr (wC q cA cB) (aC q) (eC q x)) (hf : fC_taken N σ a1 a2 = some (σ', r)) : MI l yX11_taken cX11_taken 3 .int 3 D (tyC cA cB) (wC q cA cB) (aC q) (eC q x) [.ref (q 0), .int a1, .int a2] σ σ' r := by
  refine MI_of (by decide) hF (Nat.le_of_ble_eq_true rfl) ?_
  intro p e s m args below meth c Q C hret hJ ls hl
  obtain ⟨hx, hb, hml, hown, hts, hK, hE, -⟩ := id C
  have hsb : ∀ z, (aC q) z → (aC q) z := fun _ h => h
  have hl : lv_has ls 3 [(0, .ref (q 0)), (1, .int a1), (2, .int a2)] := hl
  unfold fC_taken at hf
  refine lv_iload_n hx hb dX11_taken_0 rfl (lv_at hl 2 rfl) ?_
  refine lv_iconst (v := 0) hx hb dX11_taken_1 (by decide) ?_
  refine lv_iconst (v := 5) hx hb dX11_taken_2 (by decide) ?_
  obtain ⟨σ1, r2, hg3, hf⟩ := cal_some hf
  refine backI hsb hJ (runS (As := [.int a2, .int (0 : Int32), .int (5 : Int32)]) (rest := []) C hJ lk_RX11_100 (cC_isWithin hF hg3) rfl rfl (Nat.le_of_ble_eq_true rfl) hl.1 (hR_of (by omega) (by decide)) ⟨Nat.le_refl _, Nat.le_refl _⟩ dX11_taken_3) (fun H locs hJ => ?_)
  refine lv_if_ne (tgt := 12) hx hb dX11_taken_6 (by decide) (fun c4 => ?_) (fun c4 => ?_)
  · have hf := ite_f hf c4
    refine lv_aload_n hx hb dX11_taken_12 rfl (lv_at hl 0 rfl) ?_
    refine gC_0_0 C hJ fl_RX11_12 dX11_taken_13 ?_
    refine gC_1_4 C hJ fl_RX11_189 dX11_taken_16 ?_
    refine lv_iload_n hx hb dX11_taken_19 rfl (lv_at hl 1 rfl) ?_
    obtain ⟨σ5, r6, hg7, hf⟩ := cal_some hf
    refine backI hsb hJ (runV (As := [.int a1]) (rest := []) C hJ lk_RX11_201 (cC_F_has hF hg7) recC_11 rfl rfl (Nat.le_of_ble_eq_true rfl) hl.1 (hR_of (by omega) (by decide)) ⟨Nat.le_refl _, Nat.le_refl _⟩ dX11_taken_20) (fun H locs hJ => ?_)
    refine lv_if_ne (tgt := 29) hx hb dX11_taken_23 (by decide) (fun c8 => ?_) (fun c8 => ?_)
    · have hf := ite_f hf c8
      refine lv_aload_n hx hb dX11_taken_29 rfl (lv_at hl 0 rfl) ?_
      refine gC_0_0 C hJ fl_RX11_12 dX11_taken_30 ?_
      refine gC_1_4 C hJ fl_RX11_189 dX11_taken_33 ?_
      refine gC_11_0 C hJ fl_RX11_202 dX11_taken_36 ?_
      refine lv_iload_n hx hb dX11_taken_39 rfl (lv_at hl 1 rfl) ?_
      obtain ⟨h9, hf⟩ := gi_some hf
      refine aC_46 C hJ h9 dX11_taken_40 ?_
      refine lv_iload_n hx hb dX11_taken_41 rfl (lv_at hl 2 rfl) ?_
      obtain ⟨σ10, r11, hg12, hf⟩ := cal_some hf
      refine backI hsb hJ (runS (As := [.int (σ5.2.1 46 a1.toNatClampNeg), .int a2]) (rest := []) C hJ lk_RX11_335 (cC_isUnder hF hg12) rfl rfl (Nat.le_of_ble_eq_true rfl) hl.1 (hR_of (by omega) (by decide)) ⟨Nat.le_refl _, Nat.le_refl _⟩ dX11_taken_42) (fun H locs hJ => ?_)
      refine lv_if_eq (tgt := 63) hx hb dX11_taken_45 (by decide) (fun c13 => ?_) (fun c13 => ?_)
      · have hf := ite_t hf c13
        refine lv_bipush (v := -13) hx hb dX11_taken_63 (by decide) ?_
        exact ret_I hret hJ hf rfl dX11_taken_65
      · have hf := ite_f hf c13
        refine lv_aload_n hx hb dX11_taken_48 rfl (lv_at hl 0 rfl) ?_
        refine gC_0_0 C hJ fl_RX11_12 dX11_taken_49 ?_
        refine gC_1_4 C hJ fl_RX11_189 dX11_taken_52 ?_
        refine gC_11_3 C hJ fl_RX11_338 dX11_taken_55 ?_
        refine lv_iload_n hx hb dX11_taken_58 rfl (lv_at hl 1 rfl) ?_
        obtain ⟨h14, hf⟩ := gi_some hf
        refine aC_49 C hJ h14 dX11_taken_59 ?_
        refine lv_goto (tgt := 65) hx hb dX11_taken_60 (by decide) ?_
        exact ret_I hret hJ hf rfl dX11_taken_65
    · have hf := ite_t hf c8
      refine lv_bipush (v := -11) hx hb dX11_taken_26 (by decide) ?_
      exact ret_I hret hJ hf rfl dX11_taken_28
  · have hf := ite_t hf c4
    refine lv_bipush (v := -2) hx hb dX11_taken_9 (by decide) ?_
    exact ret_I hret hJ hf rfl dX11_taken_11
