set_option maxHeartbeats 4000000 in
set_option maxRecDepth 100000 in
theorem cC_match {l : Launch} {D : va_G} {cA cB : ClassId} {q : Nat → Nat} {x : Nat → Nat} {N : Nat} {σ σ' : St} {r : Int32} {a1 : Int32} {a2 : Int32} {a3 : Int32} (hF : Fr (wC q cA cB) (aC q) (eC q x)) (hf : fC_match N σ a1 a2 a3 = some (σ', r)) : MI l yX11_match cX11_match 4 .int 3 D (tyC cA cB) (wC q cA cB) (aC q) (eC q x) [.ref (q 0), .int a1, .int a2, .int a3] σ σ' r := by
  refine MI_of (by decide) hF (Nat.le_of_ble_eq_true rfl) ?_
  intro p e s m args below meth c Q C hret hJ ls hl
  obtain ⟨hx, hb, hml, hown, hts, hK, hE, -⟩ := id C
  have hsb : ∀ z, (aC q) z → (aC q) z := fun _ h => h
  have hl : lv_has ls 4 [(0, .ref (q 0)), (1, .int a1), (2, .int a2), (3, .int a3)] := hl
  unfold fC_match at hf
  refine lv_iload_n hx hb dX11_match_0 rfl (lv_at hl 1 rfl) ?_
  refine lv_if_lt (tgt := 35) hx hb dX11_match_1 (by decide) (fun c1 => ?_) (fun c1 => ?_)
  · have hf := ite_t hf c1
    refine lv_bipush (v := -2) hx hb dX11_match_35 (by decide) ?_
    exact ret_I hret hJ hf rfl dX11_match_37
  · have hf := ite_f hf c1
    refine lv_iload_n hx hb dX11_match_4 rfl (lv_at hl 1 rfl) ?_
    refine lv_bipush (v := 10) hx hb dX11_match_5 (by decide) ?_
    refine lv_idiv hx hb dX11_match_7 (by decide) ?_
    obtain ⟨σ2, r3, hg4, hf⟩ := cal_some hf
    refine backI hsb hJ (runS (As := [.int (a1 / (10 : Int32))]) (rest := []) C hJ lk_RX11_258 (cC_isSide hF hg4) rfl rfl (Nat.le_of_ble_eq_true rfl) hl.1 (hR_of (by omega) (by decide)) ⟨Nat.le_refl _, Nat.le_refl _⟩ dX11_match_8) (fun H locs hJ => ?_)
    refine lv_if_eq (tgt := 35) hx hb dX11_match_11 (by decide) (fun c5 => ?_) (fun c5 => ?_)
    · have hf := ite_t hf c5
      refine lv_bipush (v := -2) hx hb dX11_match_35 (by decide) ?_
      exact ret_I hret hJ hf rfl dX11_match_37
    · have hf := ite_f hf c5
      refine lv_iload_n hx hb dX11_match_14 rfl (lv_at hl 1 rfl) ?_
      refine lv_bipush (v := 10) hx hb dX11_match_15 (by decide) ?_
      refine lv_irem hx hb dX11_match_17 (by decide) ?_
      obtain ⟨σ6, r7, hg8, hf⟩ := cal_some hf
      refine backI hsb hJ (runS (As := [.int (a1 - a1 / (10 : Int32) * (10 : Int32))]) (rest := []) C hJ lk_RX11_258 (cC_isSide hF hg8) rfl rfl (Nat.le_of_ble_eq_true rfl) hl.1 (hR_of (by omega) (by decide)) ⟨Nat.le_refl _, Nat.le_refl _⟩ dX11_match_18) (fun H locs hJ => ?_)
      refine lv_if_eq (tgt := 35) hx hb dX11_match_21 (by decide) (fun c9 => ?_) (fun c9 => ?_)
      · have hf := ite_t hf c9
        refine lv_bipush (v := -2) hx hb dX11_match_35 (by decide) ?_
        exact ret_I hret hJ hf rfl dX11_match_37
      · have hf := ite_f hf c9
        refine lv_iload_n hx hb dX11_match_24 rfl (lv_at hl 1 rfl) ?_
        refine lv_bipush (v := 10) hx hb dX11_match_25 (by decide) ?_
        refine lv_idiv hx hb dX11_match_27 (by decide) ?_
        refine lv_iload_n hx hb dX11_match_28 rfl (lv_at hl 1 rfl) ?_
        refine lv_bipush (v := 10) hx hb dX11_match_29 (by decide) ?_
        refine lv_irem hx hb dX11_match_31 (by decide) ?_
        refine lv_icmp_ne (tgt := 38) hx hb dX11_match_32 (by decide) (fun c10 => ?_) (fun c10 => ?_)
        · have hf := ite_f hf c10
          refine lv_iload_n hx hb dX11_match_38 rfl (lv_at hl 2 rfl) ?_
          refine lv_iconst (v := 0) hx hb dX11_match_39 (by decide) ?_
          refine lv_bipush (v := 99) hx hb dX11_match_40 (by decide) ?_
          obtain ⟨σ11, r12, hg13, hf⟩ := cal_some hf
          refine backI hsb hJ (runS (As := [.int a2, .int (0 : Int32), .int (99 : Int32)]) (rest := []) C hJ lk_RX11_100 (cC_isWithin hF hg13) rfl rfl (Nat.le_of_ble_eq_true rfl) hl.1 (hR_of (by omega) (by decide)) ⟨Nat.le_refl _, Nat.le_refl _⟩ dX11_match_42) (fun H locs hJ => ?_)
          refine lv_if_eq (tgt := 62) hx hb dX11_match_45 (by decide) (fun c14 => ?_) (fun c14 => ?_)
          · have hf := ite_t hf c14
            refine lv_bipush (v := -2) hx hb dX11_match_62 (by decide) ?_
            exact ret_I hret hJ hf rfl dX11_match_64
          · have hf := ite_f hf c14
            refine lv_aload_n hx hb dX11_match_48 rfl (lv_at hl 0 rfl) ?_
            refine gC_0_0 C hJ fl_RX11_12 dX11_match_49 ?_
            refine gC_1_4 C hJ fl_RX11_189 dX11_match_52 ?_
            refine lv_iload_n hx hb dX11_match_55 rfl (lv_at hl 3 rfl) ?_
            obtain ⟨σ15, r16, hg17, hf⟩ := cal_some hf
            refine backI hsb hJ (runV (As := [.int a3]) (rest := []) C hJ lk_RX11_236 (cC_F_hasAll hF hg17) recC_11 rfl rfl (Nat.le_of_ble_eq_true rfl) hl.1 (hR_of (by omega) (by decide)) ⟨Nat.le_refl _, Nat.le_refl _⟩ dX11_match_56) (fun H locs hJ => ?_)
            refine lv_if_ne (tgt := 65) hx hb dX11_match_59 (by decide) (fun c18 => ?_) (fun c18 => ?_)
            · have hf := ite_f hf c18
              refine lv_aload_n hx hb dX11_match_65 rfl (lv_at hl 0 rfl) ?_
              refine gC_0_2 C hJ fl_RX11_26 dX11_match_66 ?_
              refine lv_iload_n hx hb dX11_match_69 rfl (lv_at hl 1 rfl) ?_
              refine lv_iload_n hx hb dX11_match_70 rfl (lv_at hl 2 rfl) ?_
              refine lv_iload_n hx hb dX11_match_71 rfl (lv_at hl 3 rfl) ?_
              obtain ⟨σ19, r20, hg21, hf⟩ := cal_some hf
              refine backI hsb hJ (runV (As := [.int a1, .int a2, .int a3]) (rest := []) C hJ lk_RX11_261 (cC_L_add hF hg21) recC_3 rfl rfl (Nat.le_of_ble_eq_true rfl) hl.1 (hR_of (by omega) (by decide)) ⟨Nat.le_refl _, Nat.le_refl _⟩ dX11_match_72) (fun H locs hJ => ?_)
              exact ret_I hret hJ hf rfl dX11_match_75
            · have hf := ite_t hf c18
              refine lv_bipush (v := -2) hx hb dX11_match_62 (by decide) ?_
              exact ret_I hret hJ hf rfl dX11_match_64
        · have hf := ite_t hf c10
          refine lv_bipush (v := -2) hx hb dX11_match_35 (by decide) ?_
          exact ret_I hret hJ hf rfl dX11_match_37
set_option maxHeartbeats 4000000 in
set_option maxRecDepth 100000 in
theorem cC_F_attackedBy {l : Launch} {D : va_G} {cA cB : ClassId} {q : Nat → Nat} {x : Nat → Nat} {N : Nat} {σ σ' : St} {r : Int32} {a1 : Int32} {a2 : Int32} (hF : Fr (wC q cA cB) (aC q) (eC q x)) (hf : fC_F_attackedBy N σ a1 a2 = some (σ', r)) : MI l yX0_attackedBy cX0_attackedBy 5 .int 1 D (tyC cA cB) (wC q cA cB) (aC q) (eC q x) [.ref (q 11), .int a1, .int a2] σ σ' r := by
  refine MI_of (by decide) hF (Nat.le_of_ble_eq_true rfl) ?_
  intro p e s m args below meth c Q C hret hJ ls hl
  obtain ⟨hx, hb, hml, hown, hts, hK, hE, -⟩ := id C
  have hsb : ∀ z, (aC q) z → (aC q) z := fun _ h => h
  have l5 : ∀ (n : Nat) (σ : St) (a1 : Int32) (a2 : Int32) (a3 : Int32) (a4 : Int32) (H : Heap) (locs : List Loc) (ls : Array Slot), fC_F_attackedBy_l5 N  n σ a1 a2 a3 a4 = some (σ', r) → J D (wC q cA cB) (aC q) s σ H locs → lv_has ls 5 [(0, .ref (q 11)), (1, .int a1), (2, .int a2), (3, .int a3), (4, .int a4)] → W p l e (rmH 1) s m args below meth c H locs 0 0 Q (F0 m 5 ls []) := by
    intro n5
    induction n5 with
    | zero => intro σ a1 a2 a3 a4 H locs ls hf; rw [fC_F_attackedBy_l5] at hf; cases hf
    | succ n5 ih5 =>
      have j42 : ∀ (σ : St) (a1 : Int32) (a2 : Int32) (a3 : Int32) (a4 : Int32) (H : Heap) (locs : List Loc) (ls : Array Slot), fC_F_attackedBy_j42 N (fC_F_attackedBy_l5 N  n5) σ a1 a2 a3 a4 = some (σ', r) → J D (wC q cA cB) (aC q) s σ H locs → lv_has ls 5 [(0, .ref (q 11)), (1, .int a1), (2, .int a2), (3, .int a3), (4, .int a4)] → W p l e (rmH 1) s m args below meth c H locs 0 0 Q (F0 m 42 ls []) := by
        intro σ a1 a2 a3 a4 H locs ls hf hJ hl
        unfold fC_F_attackedBy_j42 at hf
        obtain ⟨x1, hx1⟩ : ∃ z : Int32, z = a4 + (1 : Int32) := ⟨_, rfl⟩
        have hf := bnd_at hf hx1
        refine lv_iinc (v := x1) (lv' := [(4, .int x1), (0, .ref (q 11)), (1, .int a1), (2, .int a2), (3, .int a3)]) hx hb dX0_attackedBy_42 hl (k := 4) rfl (by rw [hx1]; rfl) (by decide) rfl (fun ls hl => ?_)
        refine lv_goto (tgt := 5) hx hb dX0_attackedBy_45 (by decide) ?_
        exact ih5 σ a1 a2 a3 x1 _ _ _ hf hJ (lv_sub hl [1, 2, 3, 4, 0] rfl)
      intro σ a1 a2 a3 a4 H locs ls hf hJ hl
      rw [fC_F_attackedBy_l5] at hf
      refine lv_iload hx hb dX0_attackedBy_5 (lv_at hl 4 rfl) ?_
      refine lv_aload_n hx hb dX0_attackedBy_7 rfl (lv_at hl 0 rfl) ?_
      refine gC_11_7 C hJ fl_RX0_33 dX0_attackedBy_8 ?_
      refine lv_icmp_ge (tgt := 48) hx hb dX0_attackedBy_11 (by decide) (fun c2 => ?_) (fun c2 => ?_)
      · have hf := ite_t hf c2
        refine lv_iload_n hx hb dX0_attackedBy_48 rfl (lv_at hl 3 rfl) ?_
        exact ret_I hret hJ hf rfl dX0_attackedBy_49
      · have hf := ite_f hf c2
        refine lv_iload_n hx hb dX0_attackedBy_14 rfl (lv_at hl 2 rfl) ?_
        refine lv_iload hx hb dX0_attackedBy_15 (lv_at hl 4 rfl) ?_
        refine lv_ishr hx hb dX0_attackedBy_17 ?_
        refine lv_iconst (v := 1) hx hb dX0_attackedBy_18 (by decide) ?_
        refine lv_iand hx hb dX0_attackedBy_19 ?_
        refine lv_iconst (v := 1) hx hb dX0_attackedBy_20 (by decide) ?_
        refine lv_icmp_ne (tgt := 42) hx hb dX0_attackedBy_21 (by decide) (fun c3 => ?_) (fun c3 => ?_)
        · have hf := ite_f hf c3
          exact j42 σ a1 a2 a3 a4 _ _ _ hf hJ (lv_sub hl [0, 1, 2, 3, 4] rfl)
        · have hf := ite_t hf c3
          refine lv_aload_n hx hb dX0_attackedBy_24 rfl (lv_at hl 0 rfl) ?_
          refine gC_11_6 C hJ fl_RX0_30 dX0_attackedBy_25 ?_
          refine lv_iload hx hb dX0_attackedBy_28 (lv_at hl 4 rfl) ?_
          obtain ⟨h4, hf⟩ := gi_some hf
          refine aC_52 C hJ h4 dX0_attackedBy_30 ?_
          refine lv_iload_n hx hb dX0_attackedBy_31 rfl (lv_at hl 1 rfl) ?_
          refine lv_icmp_ne (tgt := 42) hx hb dX0_attackedBy_32 (by decide) (fun c5 => ?_) (fun c5 => ?_)
          · have hf := ite_f hf c5
            exact j42 σ a1 a2 a3 a4 _ _ _ hf hJ (lv_sub hl [0, 1, 2, 3, 4] rfl)
          · have hf := ite_t hf c5
            refine lv_iload_n hx hb dX0_attackedBy_35 rfl (lv_at hl 3 rfl) ?_
            refine lv_iconst (v := 1) hx hb dX0_attackedBy_36 (by decide) ?_
            refine lv_iload hx hb dX0_attackedBy_37 (lv_at hl 4 rfl) ?_
            refine lv_ishl hx hb dX0_attackedBy_39 ?_
            refine lv_ior hx hb dX0_attackedBy_40 ?_
            refine lv_topi (fun x6 hx6 => ?_)
            have hf := bnd_at hf hx6
            refine lv_istore_n (lv' := [(3, .int x6), (0, .ref (q 11)), (1, .int a1), (2, .int a2), (4, .int a4)]) hx hb dX0_attackedBy_41 rfl hl (by decide) rfl (fun ls hl => ?_)
            exact j42 σ a1 a2 x6 a4 _ _ _ hf hJ (lv_sub hl [1, 2, 3, 0, 4] rfl)
  have hl : lv_has ls 5 [(0, .ref (q 11)), (1, .int a1), (2, .int a2)] := hl
  unfold fC_F_attackedBy at hf
  refine lv_iconst (v := 0) hx hb dX0_attackedBy_0 (by decide) ?_
  refine lv_istore_n (lv' := [(3, .int (0 : Int32)), (0, .ref (q 11)), (1, .int a1), (2, .int a2)]) hx hb dX0_attackedBy_1 rfl hl (by decide) rfl (fun ls hl => ?_)
  refine lv_iconst (v := 0) hx hb dX0_attackedBy_2 (by decide) ?_
  refine lv_istore (lv' := [(4, .int (0 : Int32)), (3, .int (0 : Int32)), (0, .ref (q 11)), (1, .int a1), (2, .int a2)]) hx hb dX0_attackedBy_3 hl (by decide) rfl (fun ls hl => ?_)
  exact l5 N σ a1 a2 (0 : Int32) (0 : Int32) _ _ _ hf hJ (lv_sub hl [2, 3, 4, 1, 0] rfl)
set_option maxHeartbeats 4000000 in
set_option maxRecDepth 100000 in
theorem cC_Int_bitCount {l : Launch} {D : va_G} {cA cB : ClassId} {q : Nat → Nat} {x : Nat → Nat} {N : Nat} {σ σ' : St} {r : Int32} {a0 : Int32} (hF : Fr (wC q cA cB) (aC q) (eC q x)) (hf : fC_Int_bitCount N σ a0 = some (σ', r)) : MI l yJ6_bitCount_0f7a4 cJ6_bitCount_0f7a4 1 .int 1 D (tyC cA cB) (wC q cA cB) (aC q) (eC q x) [.int a0] σ σ' r := by
  refine MI_of (by decide) hF (Nat.le_of_ble_eq_true rfl) ?_
  intro p e s m args below meth c Q C hret hJ ls hl
  obtain ⟨hx, hb, hml, hown, hts, hK, hE, -⟩ := id C
  have hsb : ∀ z, (aC q) z → (aC q) z := fun _ h => h
  have hl : lv_has ls 1 [(0, .int a0)] := hl
  unfold fC_Int_bitCount at hf
  refine lv_iload_n hx hb dJ6_bitCount_0f7a4_0 rfl (lv_at hl 0 rfl) ?_
  refine lv_iload_n hx hb dJ6_bitCount_0f7a4_1 rfl (lv_at hl 0 rfl) ?_
  refine lv_iconst (v := 1) hx hb dJ6_bitCount_0f7a4_2 (by decide) ?_
  refine lv_iushr (v := (a0.toUInt32 >>> ((1 : Int32).toUInt32 &&& Int32.toUInt32 31)).toInt32) hx hb dJ6_bitCount_0f7a4_3 rfl ?_
  refine lv_ldcw (v := 1431655765) hx hb hown (hts _ ki_RJ6_265) dJ6_bitCount_0f7a4_4 ?_
  refine lv_iand hx hb dJ6_bitCount_0f7a4_7 ?_
  refine lv_isub hx hb dJ6_bitCount_0f7a4_8 ?_
  refine lv_topi (fun x1 hx1 => ?_)
  have hf := bnd_at hf hx1
  refine lv_istore_n (lv' := [(0, .int x1)]) hx hb dJ6_bitCount_0f7a4_9 rfl hl (by decide) rfl (fun ls hl => ?_)
  refine lv_iload_n hx hb dJ6_bitCount_0f7a4_10 rfl (lv_at hl 0 rfl) ?_
  refine lv_ldcw (v := 858993459) hx hb hown (hts _ ki_RJ6_266) dJ6_bitCount_0f7a4_11 ?_
  refine lv_iand hx hb dJ6_bitCount_0f7a4_14 ?_
  refine lv_iload_n hx hb dJ6_bitCount_0f7a4_15 rfl (lv_at hl 0 rfl) ?_
  refine lv_iconst (v := 2) hx hb dJ6_bitCount_0f7a4_16 (by decide) ?_
  refine lv_iushr (v := (x1.toUInt32 >>> ((2 : Int32).toUInt32 &&& Int32.toUInt32 31)).toInt32) hx hb dJ6_bitCount_0f7a4_17 rfl ?_
  refine lv_ldcw (v := 858993459) hx hb hown (hts _ ki_RJ6_266) dJ6_bitCount_0f7a4_18 ?_
  refine lv_iand hx hb dJ6_bitCount_0f7a4_21 ?_
  refine lv_iadd hx hb dJ6_bitCount_0f7a4_22 ?_
  refine lv_topi (fun x2 hx2 => ?_)
  have hf := bnd_at hf hx2
  refine lv_istore_n (lv' := [(0, .int x2)]) hx hb dJ6_bitCount_0f7a4_23 rfl hl (by decide) rfl (fun ls hl => ?_)
  refine lv_iload_n hx hb dJ6_bitCount_0f7a4_24 rfl (lv_at hl 0 rfl) ?_
  refine lv_iload_n hx hb dJ6_bitCount_0f7a4_25 rfl (lv_at hl 0 rfl) ?_
  refine lv_iconst (v := 4) hx hb dJ6_bitCount_0f7a4_26 (by decide) ?_
  refine lv_iushr (v := (x2.toUInt32 >>> ((4 : Int32).toUInt32 &&& Int32.toUInt32 31)).toInt32) hx hb dJ6_bitCount_0f7a4_27 rfl ?_
  refine lv_iadd hx hb dJ6_bitCount_0f7a4_28 ?_
  refine lv_ldcw (v := 252645135) hx hb hown (hts _ ki_RJ6_267) dJ6_bitCount_0f7a4_29 ?_
  refine lv_iand hx hb dJ6_bitCount_0f7a4_32 ?_
  refine lv_topi (fun x3 hx3 => ?_)
  have hf := bnd_at hf hx3
  refine lv_istore_n (lv' := [(0, .int x3)]) hx hb dJ6_bitCount_0f7a4_33 rfl hl (by decide) rfl (fun ls hl => ?_)
  refine lv_iload_n hx hb dJ6_bitCount_0f7a4_34 rfl (lv_at hl 0 rfl) ?_
  refine lv_iload_n hx hb dJ6_bitCount_0f7a4_35 rfl (lv_at hl 0 rfl) ?_
  refine lv_bipush (v := 8) hx hb dJ6_bitCount_0f7a4_36 (by decide) ?_
  refine lv_iushr (v := (x3.toUInt32 >>> ((8 : Int32).toUInt32 &&& Int32.toUInt32 31)).toInt32) hx hb dJ6_bitCount_0f7a4_38 rfl ?_
  refine lv_iadd hx hb dJ6_bitCount_0f7a4_39 ?_
  refine lv_topi (fun x4 hx4 => ?_)
  have hf := bnd_at hf hx4
  refine lv_istore_n (lv' := [(0, .int x4)]) hx hb dJ6_bitCount_0f7a4_40 rfl hl (by decide) rfl (fun ls hl => ?_)
  refine lv_iload_n hx hb dJ6_bitCount_0f7a4_41 rfl (lv_at hl 0 rfl) ?_
  refine lv_iload_n hx hb dJ6_bitCount_0f7a4_42 rfl (lv_at hl 0 rfl) ?_
  refine lv_bipush (v := 16) hx hb dJ6_bitCount_0f7a4_43 (by decide) ?_
  refine lv_iushr (v := (x4.toUInt32 >>> ((16 : Int32).toUInt32 &&& Int32.toUInt32 31)).toInt32) hx hb dJ6_bitCount_0f7a4_45 rfl ?_
  refine lv_iadd hx hb dJ6_bitCount_0f7a4_46 ?_
  refine lv_topi (fun x5 hx5 => ?_)
  have hf := bnd_at hf hx5
  refine lv_istore_n (lv' := [(0, .int x5)]) hx hb dJ6_bitCount_0f7a4_47 rfl hl (by decide) rfl (fun ls hl => ?_)
  refine lv_iload_n hx hb dJ6_bitCount_0f7a4_48 rfl (lv_at hl 0 rfl) ?_
  refine lv_bipush (v := 63) hx hb dJ6_bitCount_0f7a4_49 (by decide) ?_
  refine lv_iand hx hb dJ6_bitCount_0f7a4_51 ?_
  exact ret_I hret hJ hf rfl dJ6_bitCount_0f7a4_52
set_option maxHeartbeats 4000000 in
set_option maxRecDepth 100000 in
theorem cC_L_score {l : Launch} {D : va_G} {cA cB : ClassId} {q : Nat → Nat} {x : Nat → Nat} {N : Nat} {σ σ' : St} {a1 : Int32} {a2 : Int32} {a3 : Int32} (hF : Fr (wC q cA cB) (aC q) (eC q x)) (hf : fC_L_score N σ a1 a2 a3 = some (σ', ())) : MV l yX4_score cX4_score 4 1 D (tyC cA cB) (wC q cA cB) (aC q) (eC q x) [.ref (q 3), .int a1, .int a2, .int a3] σ σ' := by
  refine MV_of (by decide) hF (Nat.le_of_ble_eq_true rfl) ?_
  intro p e s m args below meth c Q C hret hJ ls hl
  obtain ⟨hx, hb, hml, hown, hts, hK, hE, -⟩ := id C
  have hsb : ∀ z, (aC q) z → (aC q) z := fun _ h => h
  have hl : lv_has ls 4 [(0, .ref (q 3)), (1, .int a1), (2, .int a2), (3, .int a3)] := hl
  unfold fC_L_score at hf
  refine lv_aload_n hx hb dX4_score_0 rfl (lv_at hl 0 rfl) ?_
  refine gC_3_6 C hJ fl_RX4_27 dX4_score_1 ?_
  refine lv_iload_n hx hb dX4_score_4 rfl (lv_at hl 1 rfl) ?_
  refine lv_dup2_11 hx hb dX4_score_5 rfl rfl ?_
  obtain ⟨h1, hf⟩ := gi_some hf
  refine aC_20 C hJ h1 dX4_score_6 ?_
  refine lv_iload_n hx hb dX4_score_7 rfl (lv_at hl 2 rfl) ?_
  refine lv_iadd hx hb dX4_score_8 ?_
  obtain ⟨h2, hf⟩ := gi_some hf
  refine sC_20 C hJ h2 dX4_score_9 (fun σ3 H locs hs hJ => ?_)
  have hf := bnd_at hf hs
  refine lv_aload_n hx hb dX4_score_10 rfl (lv_at hl 0 rfl) ?_
  refine gC_3_7 C hJ fl_RX4_30 dX4_score_11 ?_
  refine lv_iload_n hx hb dX4_score_14 rfl (lv_at hl 1 rfl) ?_
  refine lv_dup2_11 hx hb dX4_score_15 rfl rfl ?_
  obtain ⟨h4, hf⟩ := gi_some hf
  refine aC_21 C hJ h4 dX4_score_16 ?_
  refine lv_iload_n hx hb dX4_score_17 rfl (lv_at hl 3 rfl) ?_
  refine lv_iadd hx hb dX4_score_18 ?_
  obtain ⟨h5, hf⟩ := gi_some hf
  refine sC_21 C hJ h5 dX4_score_19 (fun σ6 H locs hs hJ => ?_)
  have hf := bnd_at hf hs
  refine lv_iload_n hx hb dX4_score_20 rfl (lv_at hl 2 rfl) ?_
  refine lv_iload_n hx hb dX4_score_21 rfl (lv_at hl 3 rfl) ?_
  refine lv_icmp_le (tgt := 38) hx hb dX4_score_22 (by decide) (fun c7 => ?_) (fun c7 => ?_)
  · have hf := ite_t hf c7
    refine lv_iload_n hx hb dX4_score_38 rfl (lv_at hl 2 rfl) ?_
    refine lv_iload_n hx hb dX4_score_39 rfl (lv_at hl 3 rfl) ?_
    refine lv_icmp_ne (tgt := 53) hx hb dX4_score_40 (by decide) (fun c8 => ?_) (fun c8 => ?_)
    · have hf := ite_f hf c8
      exact ret_V hret hJ hf dX4_score_53
    · have hf := ite_t hf c8
      refine lv_aload_n hx hb dX4_score_43 rfl (lv_at hl 0 rfl) ?_
      refine gC_3_5 C hJ fl_RX4_24 dX4_score_44 ?_
      refine lv_iload_n hx hb dX4_score_47 rfl (lv_at hl 1 rfl) ?_
      refine lv_dup2_11 hx hb dX4_score_48 rfl rfl ?_
      obtain ⟨h9, hf⟩ := gi_some hf
      refine aC_19 C hJ h9 dX4_score_49 ?_
      refine lv_iconst (v := 1) hx hb dX4_score_50 (by decide) ?_
      refine lv_iadd hx hb dX4_score_51 ?_
      obtain ⟨h10, hf⟩ := gi_some hf
      refine sC_19 C hJ h10 dX4_score_52 (fun σ11 H locs hs hJ => ?_)
      have hf := bnd_at hf hs
      exact ret_V hret hJ hf dX4_score_53
  · have hf := ite_f hf c7
    refine lv_aload_n hx hb dX4_score_25 rfl (lv_at hl 0 rfl) ?_
    refine gC_3_5 C hJ fl_RX4_24 dX4_score_26 ?_
    refine lv_iload_n hx hb dX4_score_29 rfl (lv_at hl 1 rfl) ?_
    refine lv_dup2_11 hx hb dX4_score_30 rfl rfl ?_
    obtain ⟨h12, hf⟩ := gi_some hf
    refine aC_19 C hJ h12 dX4_score_31 ?_
    refine lv_iconst (v := 3) hx hb dX4_score_32 (by decide) ?_
    refine lv_iadd hx hb dX4_score_33 ?_
    obtain ⟨h13, hf⟩ := gi_some hf
    refine sC_19 C hJ h13 dX4_score_34 (fun σ14 H locs hs hJ => ?_)
    have hf := bnd_at hf hs
    refine lv_goto (tgt := 53) hx hb dX4_score_35 (by decide) ?_
    exact ret_V hret hJ hf dX4_score_53
set_option maxHeartbeats 4000000 in
set_option maxRecDepth 100000 in
theorem cC_L_playAll {l : Launch} {D : va_G} {cA cB : ClassId} {q : Nat → Nat} {x : Nat → Nat} {N : Nat} {σ σ' : St} {a1 : Int32} (hF : Fr (wC q cA cB) (aC q) (eC q x)) (hf : fC_L_playAll N σ a1 = some (σ', ())) : MV l yX4_playAll cX4_playAll 7 2 D (tyC cA cB) (wC q cA cB) (aC q) (eC q x) [.ref (q 3), .int a1, .ref (q 11)] σ σ' := by
  refine MV_of (by decide) hF (Nat.le_of_ble_eq_true rfl) ?_
  intro p e s m args below meth c Q C hret hJ ls hl
  obtain ⟨hx, hb, hml, hown, hts, hK, hE, -⟩ := id C
  have hsb : ∀ z, (aC q) z → (aC q) z := fun _ h => h
  have l36 : ∀ (n : Nat) (σ : St) (a1 : Int32) (a3 : Int32) (H : Heap) (locs : List Loc) (ls : Array Slot), fC_L_playAll_l36 N  n σ a1 a3 = some (σ', ()) → J D (wC q cA cB) (aC q) s σ H locs → lv_has ls 7 [(0, .ref (q 3)), (1, .int a1), (2, .ref (q 11)), (3, .int a3)] → W p l e (rmH 2) s m args below meth c H locs 0 0 Q (F0 m 36 ls []) := by
    intro n36
    induction n36 with
    | zero => intro σ a1 a3 H locs ls hf; rw [fC_L_playAll_l36] at hf; cases hf
    | succ n36 ih36 =>
      intro σ a1 a3 H locs ls hf hJ hl
      rw [fC_L_playAll_l36] at hf
      refine lv_iload_n hx hb dX4_playAll_36 rfl (lv_at hl 3 rfl) ?_
      refine lv_aload_n hx hb dX4_playAll_37 rfl (lv_at hl 0 rfl) ?_
      refine gC_3_4 C hJ fl_RX4_33 dX4_playAll_38 ?_
      refine lv_icmp_ge (tgt := 144) hx hb dX4_playAll_41 (by decide) (fun c1 => ?_) (fun c1 => ?_)
      · have hf := ite_t hf c1
        exact ret_V hret hJ hf dX4_playAll_144
      · have hf := ite_f hf c1
        refine lv_aload_n hx hb dX4_playAll_44 rfl (lv_at hl 0 rfl) ?_
        refine gC_3_3 C hJ fl_RX4_21 dX4_playAll_45 ?_
        refine lv_iload_n hx hb dX4_playAll_48 rfl (lv_at hl 3 rfl) ?_
        obtain ⟨h2, hf⟩ := gi_some hf
        refine aC_18 C hJ h2 dX4_playAll_49 ?_
        refine lv_iload_n hx hb dX4_playAll_50 rfl (lv_at hl 1 rfl) ?_
        refine lv_iconst (v := -1) hx hb dX4_playAll_51 (by decide) ?_
        refine lv_ixor hx hb dX4_playAll_52 ?_
        refine lv_iand hx hb dX4_playAll_53 ?_
        refine lv_topi (fun x3 hx3 => ?_)
        have hf := bnd_at hf hx3
        refine lv_istore (lv' := [(4, .int x3), (0, .ref (q 3)), (1, .int a1), (2, .ref (q 11)), (3, .int a3)]) hx hb dX4_playAll_54 hl (by decide) rfl (fun ls hl => ?_)
        refine lv_aload_n hx hb dX4_playAll_56 rfl (lv_at hl 1 rfl) ?_
        refine gC_3_2 C hJ fl_RX4_18 dX4_playAll_57 ?_
        refine lv_iload_n hx hb dX4_playAll_60 rfl (lv_at hl 4 rfl) ?_
        obtain ⟨h4, hf⟩ := gi_some hf
        refine aC_17 C hJ h4 dX4_playAll_61 ?_
        refine lv_bipush (v := 10) hx hb dX4_playAll_62 (by decide) ?_
        refine lv_idiv hx hb dX4_playAll_64 (by decide) ?_
        refine lv_aload_n hx hb dX4_playAll_65 rfl (lv_at hl 3 rfl) ?_
        refine lv_aload_n hx hb dX4_playAll_66 rfl (lv_at hl 1 rfl) ?_
        refine gC_3_0 C hJ fl_RX4_9 dX4_playAll_67 ?_
        refine lv_iload_n hx hb dX4_playAll_70 rfl (lv_at hl 4 rfl) ?_
        obtain ⟨h5, hf⟩ := gi_some hf
        refine aC_15 C hJ h5 dX4_playAll_71 ?_
        refine lv_iload hx hb dX4_playAll_72 (lv_at hl 0 rfl) ?_
        obtain ⟨σ6, r7, hg8, hf⟩ := cal_some hf
        refine backI hsb hJ (runV (As := [.int (σ.2.1 15 a3.toNatClampNeg), .int x3]) (rest := [.int ((σ.2.1 17 a3.toNatClampNeg) / (10 : Int32))]) C hJ lk_RX4_37 (cC_F_attackedBy hF hg8) recC_11 rfl rfl (Nat.le_of_ble_eq_true rfl) hl.1 (hR_of (by omega) (by decide)) ⟨Nat.le_refl _, Nat.le_refl _⟩ dX4_playAll_74) (fun H locs hJ => ?_)
        obtain ⟨σ9, r10, hg11, hf⟩ := cal_some hf
        refine backI hsb hJ (runS (As := [.int r7]) (rest := [.int ((σ.2.1 17 a3.toNatClampNeg) / (10 : Int32))]) C hJ lk_RX4_43 (cC_Int_bitCount hF hg11) rfl rfl (Nat.le_of_ble_eq_true rfl) hl.1 (hR_of (by omega) (by decide)) ⟨Nat.le_refl _, Nat.le_refl _⟩ dX4_playAll_77) (fun H locs hJ => ?_)
        refine lv_iadd hx hb dX4_playAll_80 ?_
        refine lv_topi (fun x12 hx12 => ?_)
        have hf := bnd_at hf hx12
        refine lv_istore (lv' := [(5, .int x12), (4, .int x3), (0, .ref (q 3)), (1, .int a1), (2, .ref (q 11)), (3, .int a3)]) hx hb dX4_playAll_81 hl (by decide) rfl (fun ls hl => ?_)
        refine lv_aload_n hx hb dX4_playAll_83 rfl (lv_at hl 2 rfl) ?_
        refine gC_3_2 C hJ fl_RX4_18 dX4_playAll_84 ?_
        refine lv_iload_n hx hb dX4_playAll_87 rfl (lv_at hl 5 rfl) ?_
        obtain ⟨h13, hf⟩ := gi_some hf
        refine aC_17 C hJ h13 dX4_playAll_88 ?_
        refine lv_bipush (v := 10) hx hb dX4_playAll_89 (by decide) ?_
        refine lv_irem hx hb dX4_playAll_91 (by decide) ?_
        refine lv_aload_n hx hb dX4_playAll_92 rfl (lv_at hl 4 rfl) ?_
        refine lv_aload_n hx hb dX4_playAll_93 rfl (lv_at hl 2 rfl) ?_
        refine gC_3_1 C hJ fl_RX4_15 dX4_playAll_94 ?_
        refine lv_iload_n hx hb dX4_playAll_97 rfl (lv_at hl 5 rfl) ?_
        obtain ⟨h14, hf⟩ := gi_some hf
        refine aC_16 C hJ h14 dX4_playAll_98 ?_
        refine lv_iload hx hb dX4_playAll_99 (lv_at hl 1 rfl) ?_
        obtain ⟨σ15, r16, hg17, hf⟩ := cal_some hf
        refine backI hsb hJ (runV (As := [.int (σ9.2.1 16 a3.toNatClampNeg), .int x3]) (rest := [.int ((σ9.2.1 17 a3.toNatClampNeg) - (σ9.2.1 17 a3.toNatClampNeg) / (10 : Int32) * (10 : Int32))]) C hJ lk_RX4_37 (cC_F_attackedBy hF hg17) recC_11 rfl rfl (Nat.le_of_ble_eq_true rfl) hl.1 (hR_of (by omega) (by decide)) ⟨Nat.le_refl _, Nat.le_refl _⟩ dX4_playAll_101) (fun H locs hJ => ?_)
        obtain ⟨σ18, r19, hg20, hf⟩ := cal_some hf
        refine backI hsb hJ (runS (As := [.int r16]) (rest := [.int ((σ9.2.1 17 a3.toNatClampNeg) - (σ9.2.1 17 a3.toNatClampNeg) / (10 : Int32) * (10 : Int32))]) C hJ lk_RX4_43 (cC_Int_bitCount hF hg20) rfl rfl (Nat.le_of_ble_eq_true rfl) hl.1 (hR_of (by omega) (by decide)) ⟨Nat.le_refl _, Nat.le_refl _⟩ dX4_playAll_104) (fun H locs hJ => ?_)
        refine lv_iadd hx hb dX4_playAll_107 ?_
        refine lv_topi (fun x21 hx21 => ?_)
        have hf := bnd_at hf hx21
        refine lv_istore (lv' := [(6, .int x21), (5, .int x12), (4, .int x3), (0, .ref (q 3)), (1, .int a1), (2, .ref (q 11)), (3, .int a3)]) hx hb dX4_playAll_108 hl (by decide) rfl (fun ls hl => ?_)
        refine lv_aload_n hx hb dX4_playAll_110 rfl (lv_at hl 3 rfl) ?_
        refine lv_aload_n hx hb dX4_playAll_111 rfl (lv_at hl 3 rfl) ?_
        refine gC_3_0 C hJ fl_RX4_9 dX4_playAll_112 ?_
        refine lv_iload_n hx hb dX4_playAll_115 rfl (lv_at hl 6 rfl) ?_
        obtain ⟨h22, hf⟩ := gi_some hf
        refine aC_15 C hJ h22 dX4_playAll_116 ?_
        refine lv_iload hx hb dX4_playAll_117 (lv_at hl 1 rfl) ?_
        refine lv_iload hx hb dX4_playAll_119 (lv_at hl 0 rfl) ?_
        obtain ⟨σ23, r24, hg25, hf⟩ := cal_some hf
        refine backV hsb hJ (runV (As := [.int (σ18.2.1 15 a3.toNatClampNeg), .int x12, .int x21]) (rest := []) C hJ lk_RX4_49 (cC_L_score hF hg25) recC_3 rfl rfl (Nat.le_of_ble_eq_true rfl) hl.1 (hR_of (by omega) (by decide)) ⟨Nat.le_refl _, Nat.le_refl _⟩ dX4_playAll_121) (fun H locs hJ => ?_)
        refine lv_aload_n hx hb dX4_playAll_124 rfl (lv_at hl 3 rfl) ?_
        refine lv_aload_n hx hb dX4_playAll_125 rfl (lv_at hl 3 rfl) ?_
        refine gC_3_1 C hJ fl_RX4_15 dX4_playAll_126 ?_
        refine lv_iload_n hx hb dX4_playAll_129 rfl (lv_at hl 6 rfl) ?_
        obtain ⟨h26, hf⟩ := gi_some hf
        refine aC_16 C hJ h26 dX4_playAll_130 ?_
        refine lv_iload hx hb dX4_playAll_131 (lv_at hl 0 rfl) ?_
        refine lv_iload hx hb dX4_playAll_133 (lv_at hl 1 rfl) ?_
        obtain ⟨σ27, r28, hg29, hf⟩ := cal_some hf
        refine backV hsb hJ (runV (As := [.int (σ23.2.1 16 a3.toNatClampNeg), .int x21, .int x12]) (rest := []) C hJ lk_RX4_49 (cC_L_score hF hg29) recC_3 rfl rfl (Nat.le_of_ble_eq_true rfl) hl.1 (hR_of (by omega) (by decide)) ⟨Nat.le_refl _, Nat.le_refl _⟩ dX4_playAll_135) (fun H locs hJ => ?_)
        obtain ⟨x30, hx30⟩ : ∃ z : Int32, z = a3 + (1 : Int32) := ⟨_, rfl⟩
        have hf := bnd_at hf hx30
        refine lv_iinc (v := x30) (lv' := [(3, .int x30), (6, .int x21), (5, .int x12), (4, .int x3), (0, .ref (q 3)), (1, .int a1), (2, .ref (q 11))]) hx hb dX4_playAll_138 hl (k := 6) rfl (by rw [hx30]; rfl) (by decide) rfl (fun ls hl => ?_)
        refine lv_goto (tgt := 36) hx hb dX4_playAll_141 (by decide) ?_
        exact ih36 σ27 a1 x30 _ _ _ hf hJ (lv_sub hl [4, 5, 6, 0] rfl)
  have j34 : ∀ (σ : St) (a1 : Int32) (H : Heap) (locs : List Loc) (ls : Array Slot), fC_L_playAll_j34 N  σ a1 = some (σ', ()) → J D (wC q cA cB) (aC q) s σ H locs → lv_has ls 7 [(0, .ref (q 3)), (1, .int a1), (2, .ref (q 11))] → W p l e (rmH 2) s m args below meth c H locs 0 0 Q (F0 m 34 ls []) := by
    intro σ a1 H locs ls hf hJ hl
    unfold fC_L_playAll_j34 at hf
    refine lv_iconst (v := 0) hx hb dX4_playAll_34 (by decide) ?_
    refine lv_istore_n (lv' := [(3, .int (0 : Int32)), (0, .ref (q 3)), (1, .int a1), (2, .ref (q 11))]) hx hb dX4_playAll_35 rfl hl (by decide) rfl (fun ls hl => ?_)
    exact l36 N σ a1 (0 : Int32) _ _ _ hf hJ (lv_sub hl [1, 2, 3, 0] rfl)
  have l2 : ∀ (n : Nat) (σ : St) (a1 : Int32) (a3 : Int32) (H : Heap) (locs : List Loc) (ls : Array Slot), fC_L_playAll_l2 N  n σ a1 a3 = some (σ', ()) → J D (wC q cA cB) (aC q) s σ H locs → lv_has ls 7 [(0, .ref (q 3)), (1, .int a1), (2, .ref (q 11)), (3, .int a3)] → W p l e (rmH 2) s m args below meth c H locs 0 0 Q (F0 m 2 ls []) := by
    intro n2
    induction n2 with
    | zero => intro σ a1 a3 H locs ls hf; rw [fC_L_playAll_l2] at hf; cases hf
    | succ n2 ih2 =>
      intro σ a1 a3 H locs ls hf hJ hl
      rw [fC_L_playAll_l2] at hf
      refine lv_iload_n hx hb dX4_playAll_2 rfl (lv_at hl 3 rfl) ?_
      refine lv_iconst (v := 4) hx hb dX4_playAll_3 (by decide) ?_
      refine lv_icmp_ge (tgt := 34) hx hb dX4_playAll_4 (by decide) (fun c31 => ?_) (fun c31 => ?_)
      · have hf := ite_t hf c31
        exact j34 σ a1 _ _ _ hf hJ (lv_sub hl [0, 1, 2] rfl)
      · have hf := ite_f hf c31
        refine lv_aload_n hx hb dX4_playAll_7 rfl (lv_at hl 0 rfl) ?_
        refine gC_3_5 C hJ fl_RX4_24 dX4_playAll_8 ?_
        refine lv_iload_n hx hb dX4_playAll_11 rfl (lv_at hl 3 rfl) ?_
        refine lv_iconst (v := 0) hx hb dX4_playAll_12 (by decide) ?_
        obtain ⟨h32, hf⟩ := gi_some hf
        refine sC_19 C hJ h32 dX4_playAll_13 (fun σ33 H locs hs hJ => ?_)
        have hf := bnd_at hf hs
        refine lv_aload_n hx hb dX4_playAll_14 rfl (lv_at hl 0 rfl) ?_
        refine gC_3_6 C hJ fl_RX4_27 dX4_playAll_15 ?_
        refine lv_iload_n hx hb dX4_playAll_18 rfl (lv_at hl 3 rfl) ?_
        refine lv_iconst (v := 0) hx hb dX4_playAll_19 (by decide) ?_
        obtain ⟨h34, hf⟩ := gi_some hf
        refine sC_20 C hJ h34 dX4_playAll_20 (fun σ35 H locs hs hJ => ?_)
        have hf := bnd_at hf hs
        refine lv_aload_n hx hb dX4_playAll_21 rfl (lv_at hl 0 rfl) ?_
        refine gC_3_7 C hJ fl_RX4_30 dX4_playAll_22 ?_
        refine lv_iload_n hx hb dX4_playAll_25 rfl (lv_at hl 3 rfl) ?_
        refine lv_iconst (v := 0) hx hb dX4_playAll_26 (by decide) ?_
        obtain ⟨h36, hf⟩ := gi_some hf
        refine sC_21 C hJ h36 dX4_playAll_27 (fun σ37 H locs hs hJ => ?_)
        have hf := bnd_at hf hs
        obtain ⟨x38, hx38⟩ : ∃ z : Int32, z = a3 + (1 : Int32) := ⟨_, rfl⟩
        have hf := bnd_at hf hx38
        refine lv_iinc (v := x38) (lv' := [(3, .int x38), (0, .ref (q 3)), (1, .int a1), (2, .ref (q 11))]) hx hb dX4_playAll_28 hl (k := 3) rfl (by rw [hx38]; rfl) (by decide) rfl (fun ls hl => ?_)
        refine lv_goto (tgt := 2) hx hb dX4_playAll_31 (by decide) ?_
        exact ih2 σ37 a1 x38 _ _ _ hf hJ (lv_sub hl [1, 2, 3, 0] rfl)
  have hl : lv_has ls 7 [(0, .ref (q 3)), (1, .int a1), (2, .ref (q 11))] := hl
  unfold fC_L_playAll at hf
  refine lv_iconst (v := 0) hx hb dX4_playAll_0 (by decide) ?_
  refine lv_istore_n (lv' := [(3, .int (0 : Int32)), (0, .ref (q 3)), (1, .int a1), (2, .ref (q 11))]) hx hb dX4_playAll_1 rfl hl (by decide) rfl (fun ls hl => ?_)
  exact l2 N σ a1 (0 : Int32) _ _ _ hf hJ (lv_sub hl [1, 2, 3, 0] rfl)
set_option maxHeartbeats 4000000 in
set_option maxRecDepth 100000 in
theorem cC_L_isAbove {l : Launch} {D : va_G} {cA cB : ClassId} {q : Nat → Nat} {x : Nat → Nat} {N : Nat} {σ σ' : St} {r : Int32} {a1 : Int32} {a2 : Int32} (hF : Fr (wC q cA cB) (aC q) (eC q x)) (hf : fC_L_isAbove N σ a1 a2 = some (σ', r)) : MI l yX4_isAbove cX4_isAbove 5 .boolean 1 D (tyC cA cB) (wC q cA cB) (aC q) (eC q x) [.ref (q 3), .int a1, .int a2] σ σ' r := by
  refine MI_of (by decide) hF (Nat.le_of_ble_eq_true rfl) ?_
  intro p e s m args below meth c Q C hret hJ ls hl
  obtain ⟨hx, hb, hml, hown, hts, hK, hE, -⟩ := id C
  have hsb : ∀ z, (aC q) z → (aC q) z := fun _ h => h
  have hl : lv_has ls 5 [(0, .ref (q 3)), (1, .int a1), (2, .int a2)] := hl
  unfold fC_L_isAbove at hf
  refine lv_aload_n hx hb dX4_isAbove_0 rfl (lv_at hl 0 rfl) ?_
  refine gC_3_5 C hJ fl_RX4_24 dX4_isAbove_1 ?_
  refine lv_iload_n hx hb dX4_isAbove_4 rfl (lv_at hl 1 rfl) ?_
  obtain ⟨h1, hf⟩ := gi_some hf
  refine aC_19 C hJ h1 dX4_isAbove_5 ?_
  refine lv_aload_n hx hb dX4_isAbove_6 rfl (lv_at hl 0 rfl) ?_
  refine gC_3_5 C hJ fl_RX4_24 dX4_isAbove_7 ?_
  refine lv_iload_n hx hb dX4_isAbove_10 rfl (lv_at hl 2 rfl) ?_
  obtain ⟨h2, hf⟩ := gi_some hf
  refine aC_19 C hJ h2 dX4_isAbove_11 ?_
  refine lv_icmp_eq (tgt := 36) hx hb dX4_isAbove_12 (by decide) (fun c3 => ?_) (fun c3 => ?_)
  · have hf := ite_t hf c3
    refine lv_aload_n hx hb dX4_isAbove_36 rfl (lv_at hl 0 rfl) ?_
    refine gC_3_6 C hJ fl_RX4_27 dX4_isAbove_37 ?_
    refine lv_iload_n hx hb dX4_isAbove_40 rfl (lv_at hl 1 rfl) ?_
    obtain ⟨h4, hf⟩ := gi_some hf
    refine aC_20 C hJ h4 dX4_isAbove_41 ?_
    refine lv_aload_n hx hb dX4_isAbove_42 rfl (lv_at hl 0 rfl) ?_
    refine gC_3_7 C hJ fl_RX4_30 dX4_isAbove_43 ?_
    refine lv_iload_n hx hb dX4_isAbove_46 rfl (lv_at hl 1 rfl) ?_
    obtain ⟨h5, hf⟩ := gi_some hf
    refine aC_21 C hJ h5 dX4_isAbove_47 ?_
    refine lv_isub hx hb dX4_isAbove_48 ?_
    refine lv_topi (fun x6 hx6 => ?_)
    have hf := bnd_at hf hx6
    refine lv_istore_n (lv' := [(3, .int x6), (0, .ref (q 3)), (1, .int a1), (2, .int a2)]) hx hb dX4_isAbove_49 rfl hl (by decide) rfl (fun ls hl => ?_)
    refine lv_aload_n hx hb dX4_isAbove_50 rfl (lv_at hl 1 rfl) ?_
    refine gC_3_6 C hJ fl_RX4_27 dX4_isAbove_51 ?_
    refine lv_iload_n hx hb dX4_isAbove_54 rfl (lv_at hl 3 rfl) ?_
    obtain ⟨h7, hf⟩ := gi_some hf
    refine aC_20 C hJ h7 dX4_isAbove_55 ?_
    refine lv_aload_n hx hb dX4_isAbove_56 rfl (lv_at hl 1 rfl) ?_
    refine gC_3_7 C hJ fl_RX4_30 dX4_isAbove_57 ?_
    refine lv_iload_n hx hb dX4_isAbove_60 rfl (lv_at hl 3 rfl) ?_
    obtain ⟨h8, hf⟩ := gi_some hf
    refine aC_21 C hJ h8 dX4_isAbove_61 ?_
    refine lv_isub hx hb dX4_isAbove_62 ?_
    refine lv_topi (fun x9 hx9 => ?_)
    have hf := bnd_at hf hx9
    refine lv_istore (lv' := [(4, .int x9), (3, .int x6), (0, .ref (q 3)), (1, .int a1), (2, .int a2)]) hx hb dX4_isAbove_63 hl (by decide) rfl (fun ls hl => ?_)
    refine lv_iload_n hx hb dX4_isAbove_65 rfl (lv_at hl 1 rfl) ?_
    refine lv_iload hx hb dX4_isAbove_66 (lv_at hl 0 rfl) ?_
    refine lv_icmp_eq (tgt := 85) hx hb dX4_isAbove_68 (by decide) (fun c10 => ?_) (fun c10 => ?_)
    · have hf := ite_t hf c10
      refine lv_aload_n hx hb dX4_isAbove_85 rfl (lv_at hl 2 rfl) ?_
      refine gC_3_6 C hJ fl_RX4_27 dX4_isAbove_86 ?_
      refine lv_iload_n hx hb dX4_isAbove_89 rfl (lv_at hl 3 rfl) ?_
      obtain ⟨h11, hf⟩ := gi_some hf
      refine aC_20 C hJ h11 dX4_isAbove_90 ?_
      refine lv_aload_n hx hb dX4_isAbove_91 rfl (lv_at hl 2 rfl) ?_
      refine gC_3_6 C hJ fl_RX4_27 dX4_isAbove_92 ?_
      refine lv_iload_n hx hb dX4_isAbove_95 rfl (lv_at hl 4 rfl) ?_
      obtain ⟨h12, hf⟩ := gi_some hf
      refine aC_20 C hJ h12 dX4_isAbove_96 ?_
      refine lv_icmp_le (tgt := 104) hx hb dX4_isAbove_97 (by decide) (fun c13 => ?_) (fun c13 => ?_)
      · have hf := ite_t hf c13
        refine lv_iconst (v := 0) hx hb dX4_isAbove_104 (by decide) ?_
        exact ret_I hret hJ hf (nar_z (by decide)) dX4_isAbove_105
      · have hf := ite_f hf c13
        refine lv_iconst (v := 1) hx hb dX4_isAbove_100 (by decide) ?_
        refine lv_goto (tgt := 105) hx hb dX4_isAbove_101 (by decide) ?_
        exact ret_I hret hJ hf (nar_z (by decide)) dX4_isAbove_105
    · have hf := ite_f hf c10
      refine lv_iload_n hx hb dX4_isAbove_71 rfl (lv_at hl 1 rfl) ?_
      refine lv_iload hx hb dX4_isAbove_72 (lv_at hl 0 rfl) ?_
      refine lv_icmp_le (tgt := 81) hx hb dX4_isAbove_74 (by decide) (fun c14 => ?_) (fun c14 => ?_)
      · have hf := ite_t hf c14
        refine lv_iconst (v := 0) hx hb dX4_isAbove_81 (by decide) ?_
        refine lv_goto (tgt := 105) hx hb dX4_isAbove_82 (by decide) ?_
        exact ret_I hret hJ hf (nar_z (by decide)) dX4_isAbove_105
      · have hf := ite_f hf c14
        refine lv_iconst (v := 1) hx hb dX4_isAbove_77 (by decide) ?_
        refine lv_goto (tgt := 105) hx hb dX4_isAbove_78 (by decide) ?_
        exact ret_I hret hJ hf (nar_z (by decide)) dX4_isAbove_105
  · have hf := ite_f hf c3
    refine lv_aload_n hx hb dX4_isAbove_15 rfl (lv_at hl 0 rfl) ?_
    refine gC_3_5 C hJ fl_RX4_24 dX4_isAbove_16 ?_
    refine lv_iload_n hx hb dX4_isAbove_19 rfl (lv_at hl 1 rfl) ?_
    obtain ⟨h15, hf⟩ := gi_some hf
    refine aC_19 C hJ h15 dX4_isAbove_20 ?_
    refine lv_aload_n hx hb dX4_isAbove_21 rfl (lv_at hl 0 rfl) ?_
    refine gC_3_5 C hJ fl_RX4_24 dX4_isAbove_22 ?_
    refine lv_iload_n hx hb dX4_isAbove_25 rfl (lv_at hl 2 rfl) ?_
    obtain ⟨h16, hf⟩ := gi_some hf
    refine aC_19 C hJ h16 dX4_isAbove_26 ?_
    refine lv_icmp_le (tgt := 34) hx hb dX4_isAbove_27 (by decide) (fun c17 => ?_) (fun c17 => ?_)
    · have hf := ite_t hf c17
      refine lv_iconst (v := 0) hx hb dX4_isAbove_34 (by decide) ?_
      exact ret_I hret hJ hf (nar_z (by decide)) dX4_isAbove_35
    · have hf := ite_f hf c17
      refine lv_iconst (v := 1) hx hb dX4_isAbove_30 (by decide) ?_
      refine lv_goto (tgt := 35) hx hb dX4_isAbove_31 (by decide) ?_
      exact ret_I hret hJ hf (nar_z (by decide)) dX4_isAbove_35
set_option maxHeartbeats 4000000 in
set_option maxRecDepth 100000 in
theorem cC_L_rankOf {l : Launch} {D : va_G} {cA cB : ClassId} {q : Nat → Nat} {x : Nat → Nat} {N : Nat} {σ σ' : St} {r : Int32} {a1 : Int32} (hF : Fr (wC q cA cB) (aC q) (eC q x)) (hf : fC_L_rankOf N σ a1 = some (σ', r)) : MI l yX4_rankOf cX4_rankOf 4 .int 2 D (tyC cA cB) (wC q cA cB) (aC q) (eC q x) [.ref (q 3), .int a1] σ σ' r := by
  refine MI_of (by decide) hF (Nat.le_of_ble_eq_true rfl) ?_
  intro p e s m args below meth c Q C hret hJ ls hl
  obtain ⟨hx, hb, hml, hown, hts, hK, hE, -⟩ := id C
  have hsb : ∀ z, (aC q) z → (aC q) z := fun _ h => h
  have l4 : ∀ (n : Nat) (σ : St) (a1 : Int32) (a2 : Int32) (a3 : Int32) (H : Heap) (locs : List Loc) (ls : Array Slot), fC_L_rankOf_l4 N  n σ a1 a2 a3 = some (σ', r) → J D (wC q cA cB) (aC q) s σ H locs → lv_has ls 4 [(0, .ref (q 3)), (1, .int a1), (2, .int a2), (3, .int a3)] → W p l e (rmH 2) s m args below meth c H locs 0 0 Q (F0 m 4 ls []) := by
    intro n4
    induction n4 with
    | zero => intro σ a1 a2 a3 H locs ls hf; rw [fC_L_rankOf_l4] at hf; cases hf
    | succ n4 ih4 =>
      have j24 : ∀ (σ : St) (a1 : Int32) (a3 : Int32) (t0 : Int32) (t1 : Int32) (H : Heap) (locs : List Loc) (ls : Array Slot), fC_L_rankOf_j24 N (fC_L_rankOf_l4 N  n4) σ a1 a3 t0 t1 = some (σ', r) → J D (wC q cA cB) (aC q) s σ H locs → lv_has ls 4 [(0, .ref (q 3)), (1, .int a1), (3, .int a3)] → W p l e (rmH 2) s m args below meth c H locs 0 0 Q (F0 m 24 ls [.int t1, .int t0]) := by
        intro σ a1 a3 t0 t1 H locs ls hf hJ hl
        unfold fC_L_rankOf_j24 at hf
        refine lv_iadd hx hb dX4_rankOf_24 ?_
        refine lv_topi (fun x1 hx1 => ?_)
        have hf := bnd_at hf hx1
        refine lv_istore_n (lv' := [(2, .int x1), (0, .ref (q 3)), (1, .int a1), (3, .int a3)]) hx hb dX4_rankOf_25 rfl hl (by decide) rfl (fun ls hl => ?_)
        obtain ⟨x2, hx2⟩ : ∃ z : Int32, z = a3 + (1 : Int32) := ⟨_, rfl⟩
        have hf := bnd_at hf hx2
        refine lv_iinc (v := x2) (lv' := [(3, .int x2), (2, .int x1), (0, .ref (q 3)), (1, .int a1)]) hx hb dX4_rankOf_26 hl (k := 3) rfl (by rw [hx2]; rfl) (by decide) rfl (fun ls hl => ?_)
        refine lv_goto (tgt := 4) hx hb dX4_rankOf_29 (by decide) ?_
        exact ih4 σ a1 x1 x2 _ _ _ hf hJ (lv_sub hl [2, 3, 1, 0] rfl)
      intro σ a1 a2 a3 H locs ls hf hJ hl
      rw [fC_L_rankOf_l4] at hf
      refine lv_iload_n hx hb dX4_rankOf_4 rfl (lv_at hl 3 rfl) ?_
      refine lv_iconst (v := 4) hx hb dX4_rankOf_5 (by decide) ?_
      refine lv_icmp_ge (tgt := 32) hx hb dX4_rankOf_6 (by decide) (fun c3 => ?_) (fun c3 => ?_)
      · have hf := ite_t hf c3
        refine lv_iload_n hx hb dX4_rankOf_32 rfl (lv_at hl 2 rfl) ?_
        exact ret_I hret hJ hf rfl dX4_rankOf_33
      · have hf := ite_f hf c3
        refine lv_iload_n hx hb dX4_rankOf_9 rfl (lv_at hl 2 rfl) ?_
        refine lv_aload_n hx hb dX4_rankOf_10 rfl (lv_at hl 0 rfl) ?_
        refine lv_iload_n hx hb dX4_rankOf_11 rfl (lv_at hl 3 rfl) ?_
        refine lv_iload_n hx hb dX4_rankOf_12 rfl (lv_at hl 1 rfl) ?_
        obtain ⟨σ4, r5, hg6, hf⟩ := cal_some hf
        refine backI hsb hJ (runV (As := [.int a3, .int a1]) (rest := [.int a2]) C hJ lk_RX4_53 (cC_L_isAbove hF hg6) recC_3 rfl rfl (Nat.le_of_ble_eq_true rfl) hl.1 (hR_of (by omega) (by decide)) ⟨Nat.le_refl _, Nat.le_refl _⟩ dX4_rankOf_13) (fun H locs hJ => ?_)
        refine lv_if_eq (tgt := 23) hx hb dX4_rankOf_16 (by decide) (fun c7 => ?_) (fun c7 => ?_)
        · have hf := ite_t hf c7
          refine lv_iconst (v := 0) hx hb dX4_rankOf_23 (by decide) ?_
          exact j24 σ4 a1 a3 a2 (0 : Int32) _ _ _ hf hJ (lv_sub hl [0, 1, 3] rfl)
        · have hf := ite_f hf c7
          refine lv_iconst (v := 1) hx hb dX4_rankOf_19 (by decide) ?_
          refine lv_goto (tgt := 24) hx hb dX4_rankOf_20 (by decide) ?_
          exact j24 σ4 a1 a3 a2 (1 : Int32) _ _ _ hf hJ (lv_sub hl [0, 1, 3] rfl)
  have hl : lv_has ls 4 [(0, .ref (q 3)), (1, .int a1)] := hl
  unfold fC_L_rankOf at hf
  refine lv_iconst (v := 0) hx hb dX4_rankOf_0 (by decide) ?_
  refine lv_istore_n (lv' := [(2, .int (0 : Int32)), (0, .ref (q 3)), (1, .int a1)]) hx hb dX4_rankOf_1 rfl hl (by decide) rfl (fun ls hl => ?_)
  refine lv_iconst (v := 0) hx hb dX4_rankOf_2 (by decide) ?_
  refine lv_istore_n (lv' := [(3, .int (0 : Int32)), (2, .int (0 : Int32)), (0, .ref (q 3)), (1, .int a1)]) hx hb dX4_rankOf_3 rfl hl (by decide) rfl (fun ls hl => ?_)
  exact l4 N σ a1 (0 : Int32) (0 : Int32) _ _ _ hf hJ (lv_sub hl [2, 3, 1, 0] rfl)
set_option maxHeartbeats 4000000 in
set_option maxRecDepth 100000 in
theorem cC_table {l : Launch} {D : va_G} {cA cB : ClassId} {q : Nat → Nat} {x : Nat → Nat} {N : Nat} {σ σ' : St} {r : Int32} {a1 : Int32} {a2 : Int32} {a3 : Int32} (hF : Fr (wC q cA cB) (aC q) (eC q x)) (hf : fC_table N σ a1 a2 a3 = some (σ', r)) : MI l yX11_table cX11_table 4 .int 8 D (tyC cA cB) (wC q cA cB) (aC q) (eC q x) [.ref (q 0), .int a1, .int a2, .int a3] σ σ' r := by
  refine MI_of (by decide) hF (Nat.le_of_ble_eq_true rfl) ?_
  intro p e s m args below meth c Q C hret hJ ls hl
  obtain ⟨hx, hb, hml, hown, hts, hK, hE, -⟩ := id C
  have hsb : ∀ z, (aC q) z → (aC q) z := fun _ h => h
  have hl : lv_has ls 4 [(0, .ref (q 0)), (1, .int a1), (2, .int a2), (3, .int a3)] := hl
  unfold fC_table at hf
  refine lv_iload_n hx hb dX11_table_0 rfl (lv_at hl 1 rfl) ?_
  obtain ⟨σ1, r2, hg3, hf⟩ := cal_some hf
  refine backI hsb hJ (runS (As := [.int a1]) (rest := []) C hJ lk_RX11_185 (cC_isWidth hF hg3) rfl rfl (Nat.le_of_ble_eq_true rfl) hl.1 (hR_of (by omega) (by decide)) ⟨Nat.le_refl _, Nat.le_refl _⟩ dX11_table_1) (fun H locs hJ => ?_)
  refine lv_if_eq (tgt := 23) hx hb dX11_table_4 (by decide) (fun c4 => ?_) (fun c4 => ?_)
  · have hf := ite_t hf c4
    refine lv_bipush (v := -2) hx hb dX11_table_23 (by decide) ?_
    exact ret_I hret hJ hf rfl dX11_table_25
  · have hf := ite_f hf c4
    refine lv_iload_n hx hb dX11_table_7 rfl (lv_at hl 2 rfl) ?_
    obtain ⟨σ5, r6, hg7, hf⟩ := cal_some hf
    refine backI hsb hJ (runS (As := [.int a2]) (rest := []) C hJ lk_RX11_258 (cC_isSide hF hg7) rfl rfl (Nat.le_of_ble_eq_true rfl) hl.1 (hR_of (by omega) (by decide)) ⟨Nat.le_refl _, Nat.le_refl _⟩ dX11_table_8) (fun H locs hJ => ?_)
    refine lv_if_eq (tgt := 23) hx hb dX11_table_11 (by decide) (fun c8 => ?_) (fun c8 => ?_)
    · have hf := ite_t hf c8
      refine lv_bipush (v := -2) hx hb dX11_table_23 (by decide) ?_
      exact ret_I hret hJ hf rfl dX11_table_25
    · have hf := ite_f hf c8
      refine lv_iload_n hx hb dX11_table_14 rfl (lv_at hl 3 rfl) ?_
      refine lv_iconst (v := 0) hx hb dX11_table_15 (by decide) ?_
      refine lv_iconst (v := 3) hx hb dX11_table_16 (by decide) ?_
      obtain ⟨σ9, r10, hg11, hf⟩ := cal_some hf
      refine backI hsb hJ (runS (As := [.int a3, .int (0 : Int32), .int (3 : Int32)]) (rest := []) C hJ lk_RX11_100 (cC_isWithin hF hg11) rfl rfl (Nat.le_of_ble_eq_true rfl) hl.1 (hR_of (by omega) (by decide)) ⟨Nat.le_refl _, Nat.le_refl _⟩ dX11_table_17) (fun H locs hJ => ?_)
      refine lv_if_ne (tgt := 26) hx hb dX11_table_20 (by decide) (fun c12 => ?_) (fun c12 => ?_)
      · have hf := ite_f hf c12
        refine lv_aload_n hx hb dX11_table_26 rfl (lv_at hl 0 rfl) ?_
        refine gC_0_0 C hJ fl_RX11_12 dX11_table_27 ?_
        refine lv_iload_n hx hb dX11_table_30 rfl (lv_at hl 1 rfl) ?_
        obtain ⟨σ13, r14, hg15, hf⟩ := cal_some hf
        refine backV hsb hJ (runV (As := [.int a1]) (rest := []) C hJ lk_RX11_133 (cC_P_lookAs hF hg15) recC_1 rfl rfl (Nat.le_of_ble_eq_true rfl) hl.1 (hR_of (by omega) (by decide)) ⟨Nat.le_refl _, Nat.le_refl _⟩ dX11_table_31) (fun H locs hJ => ?_)
        refine lv_aload_n hx hb dX11_table_34 rfl (lv_at hl 0 rfl) ?_
        refine gC_0_2 C hJ fl_RX11_26 dX11_table_35 ?_
        refine lv_aload_n hx hb dX11_table_38 rfl (lv_at hl 0 rfl) ?_
        refine gC_0_0 C hJ fl_RX11_12 dX11_table_39 ?_
        refine lv_aload_n hx hb dX11_table_42 rfl (lv_at hl 0 rfl) ?_
        refine gC_0_0 C hJ fl_RX11_12 dX11_table_43 ?_
        refine gC_1_4 C hJ fl_RX11_189 dX11_table_46 ?_
        obtain ⟨σ16, r17, hg18, hf⟩ := cal_some hf
        refine backI hsb hJ (runV (As := []) (rest := [.ref (q 1), .ref (q 3)]) C hJ lk_RX11_227 (cC_F_all hF hg18) recC_11 rfl rfl (Nat.le_of_ble_eq_true rfl) hl.1 (hR_of (by omega) (by decide)) ⟨Nat.le_refl _, Nat.le_refl _⟩ dX11_table_49) (fun H locs hJ => ?_)
        obtain ⟨σ19, r20, hg21, hf⟩ := cal_some hf
        refine backI hsb hJ (runV (As := [.int r17]) (rest := [.ref (q 3)]) C hJ lk_RX11_230 (cC_P_offsideAmong hF hg21) recC_1 rfl rfl (Nat.le_of_ble_eq_true rfl) hl.1 (hR_of (by omega) (by decide)) ⟨Nat.le_refl _, Nat.le_refl _⟩ dX11_table_52) (fun H locs hJ => ?_)
        refine lv_aload_n hx hb dX11_table_55 rfl (lv_at hl 0 rfl) ?_
        refine gC_0_0 C hJ fl_RX11_12 dX11_table_56 ?_
        refine gC_1_4 C hJ fl_RX11_189 dX11_table_59 ?_
        obtain ⟨σ22, r23, hg24, hf⟩ := cal_some hf
        refine backV hsb hJ (runV (As := [.int r20, .ref (q 11)]) (rest := []) C hJ lk_RX11_262 (cC_L_playAll hF hg24) recC_3 rfl rfl (Nat.le_of_ble_eq_true rfl) hl.1 (hR_of (by omega) (by decide)) ⟨Nat.le_refl _, Nat.le_refl _⟩ dX11_table_62) (fun H locs hJ => ?_)
        refine lv_iload_n hx hb dX11_table_65 rfl (lv_at hl 3 rfl) ?_
        by_cases c25 : a3 = (0 : Int32)
        · have hf := ite_t hf c25
          refine lv_tableIn (off := 26) (tgt := 92) hx hb dX11_table_66 (by rw [c25]; decide) (by rw [c25]; decide) (by rw [c25]; rfl) (by decide) ?_
          refine lv_aload_n hx hb dX11_table_92 rfl (lv_at hl 0 rfl) ?_
          refine gC_0_2 C hJ fl_RX11_26 dX11_table_93 ?_
          refine gC_3_5 C hJ fl_RX11_266 dX11_table_96 ?_
          refine lv_iload_n hx hb dX11_table_99 rfl (lv_at hl 2 rfl) ?_
          obtain ⟨h26, hf⟩ := gi_some hf
          refine aC_19 C hJ h26 dX11_table_100 ?_
          exact ret_I hret hJ hf rfl dX11_table_101
        have hf := ite_f hf c25
        by_cases c27 : a3 = (1 : Int32)
        · have hf := ite_t hf c27
          refine lv_tableIn (off := 36) (tgt := 102) hx hb dX11_table_66 (by rw [c27]; decide) (by rw [c27]; decide) (by rw [c27]; rfl) (by decide) ?_
          refine lv_aload_n hx hb dX11_table_102 rfl (lv_at hl 0 rfl) ?_
          refine gC_0_2 C hJ fl_RX11_26 dX11_table_103 ?_
          refine gC_3_6 C hJ fl_RX11_269 dX11_table_106 ?_
          refine lv_iload_n hx hb dX11_table_109 rfl (lv_at hl 2 rfl) ?_
          obtain ⟨h28, hf⟩ := gi_some hf
          refine aC_20 C hJ h28 dX11_table_110 ?_
          exact ret_I hret hJ hf rfl dX11_table_111
        have hf := ite_f hf c27
        by_cases c29 : a3 = (2 : Int32)
        · have hf := ite_t hf c29
          refine lv_tableIn (off := 46) (tgt := 112) hx hb dX11_table_66 (by rw [c29]; decide) (by rw [c29]; decide) (by rw [c29]; rfl) (by decide) ?_
          refine lv_aload_n hx hb dX11_table_112 rfl (lv_at hl 0 rfl) ?_
          refine gC_0_2 C hJ fl_RX11_26 dX11_table_113 ?_
          refine gC_3_7 C hJ fl_RX11_272 dX11_table_116 ?_
          refine lv_iload_n hx hb dX11_table_119 rfl (lv_at hl 2 rfl) ?_
          obtain ⟨h30, hf⟩ := gi_some hf
          refine aC_21 C hJ h30 dX11_table_120 ?_
          exact ret_I hret hJ hf rfl dX11_table_121
        have hf := ite_f hf c29
        refine lv_tableOut (tgt := 122) hx hb dX11_table_66 (by have ec25 : a3.toInt ≠ 0 := fun h => c25 (Int32.toInt_inj.mp (h.trans (by decide))); have ec27 : a3.toInt ≠ 1 := fun h => c27 (Int32.toInt_inj.mp (h.trans (by decide))); have ec29 : a3.toInt ≠ 2 := fun h => c29 (Int32.toInt_inj.mp (h.trans (by decide))); omega) (by decide) ?_
        refine lv_aload_n hx hb dX11_table_122 rfl (lv_at hl 0 rfl) ?_
        refine gC_0_2 C hJ fl_RX11_26 dX11_table_123 ?_
        refine lv_iload_n hx hb dX11_table_126 rfl (lv_at hl 2 rfl) ?_
        obtain ⟨σ31, r32, hg33, hf⟩ := cal_some hf
        refine backI hsb hJ (runV (As := [.int a2]) (rest := []) C hJ lk_RX11_275 (cC_L_rankOf hF hg33) recC_3 rfl rfl (Nat.le_of_ble_eq_true rfl) hl.1 (hR_of (by omega) (by decide)) ⟨Nat.le_refl _, Nat.le_refl _⟩ dX11_table_127) (fun H locs hJ => ?_)
        exact ret_I hret hJ hf rfl dX11_table_130
      · have hf := ite_t hf c12
        refine lv_bipush (v := -2) hx hb dX11_table_23 (by decide) ?_
        exact ret_I hret hJ hf rfl dX11_table_25
set_option maxHeartbeats 4000000 in
set_option maxRecDepth 100000 in
theorem cC_L_allRanks {l : Launch} {D : va_G} {cA cB : ClassId} {q : Nat → Nat} {x : Nat → Nat} {N : Nat} {σ σ' : St} {r : Int32} (hF : Fr (wC q cA cB) (aC q) (eC q x)) (hf : fC_L_allRanks N σ  = some (σ', r)) : MI l yX4_allRanks cX4_allRanks 3 .int 3 D (tyC cA cB) (wC q cA cB) (aC q) (eC q x) [.ref (q 3)] σ σ' r := by
  refine MI_of (by decide) hF (Nat.le_of_ble_eq_true rfl) ?_
  intro p e s m args below meth c Q C hret hJ ls hl
  obtain ⟨hx, hb, hml, hown, hts, hK, hE, -⟩ := id C
  have hsb : ∀ z, (aC q) z → (aC q) z := fun _ h => h
  have l4 : ∀ (n : Nat) (σ : St) (a1 : Int32) (a2 : Int32) (H : Heap) (locs : List Loc) (ls : Array Slot), fC_L_allRanks_l4 N  n σ a1 a2 = some (σ', r) → J D (wC q cA cB) (aC q) s σ H locs → lv_has ls 3 [(0, .ref (q 3)), (1, .int a1), (2, .int a2)] → W p l e (rmH 3) s m args below meth c H locs 0 0 Q (F0 m 4 ls []) := by
    intro n4
    induction n4 with
    | zero => intro σ a1 a2 H locs ls hf; rw [fC_L_allRanks_l4] at hf; cases hf
    | succ n4 ih4 =>
      intro σ a1 a2 H locs ls hf hJ hl
      rw [fC_L_allRanks_l4] at hf
      refine lv_iload_n hx hb dX4_allRanks_4 rfl (lv_at hl 2 rfl) ?_
      refine lv_iconst (v := 4) hx hb dX4_allRanks_5 (by decide) ?_
      refine lv_icmp_ge (tgt := 25) hx hb dX4_allRanks_6 (by decide) (fun c1 => ?_) (fun c1 => ?_)
      · have hf := ite_t hf c1
        refine lv_iload_n hx hb dX4_allRanks_25 rfl (lv_at hl 1 rfl) ?_
        exact ret_I hret hJ hf rfl dX4_allRanks_26
      · have hf := ite_f hf c1
        refine lv_iload_n hx hb dX4_allRanks_9 rfl (lv_at hl 1 rfl) ?_
        refine lv_iconst (v := 4) hx hb dX4_allRanks_10 (by decide) ?_
        refine lv_imul hx hb dX4_allRanks_11 ?_
        refine lv_aload_n hx hb dX4_allRanks_12 rfl (lv_at hl 0 rfl) ?_
        refine lv_iload_n hx hb dX4_allRanks_13 rfl (lv_at hl 2 rfl) ?_
        obtain ⟨σ2, r3, hg4, hf⟩ := cal_some hf
        refine backI hsb hJ (runV (As := [.int a2]) (rest := [.int (a1 * (4 : Int32))]) C hJ lk_RX4_57 (cC_L_rankOf hF hg4) recC_3 rfl rfl (Nat.le_of_ble_eq_true rfl) hl.1 (hR_of (by omega) (by decide)) ⟨Nat.le_refl _, Nat.le_refl _⟩ dX4_allRanks_14) (fun H locs hJ => ?_)
        refine lv_iadd hx hb dX4_allRanks_17 ?_
        refine lv_topi (fun x5 hx5 => ?_)
        have hf := bnd_at hf hx5
        refine lv_istore_n (lv' := [(1, .int x5), (0, .ref (q 3)), (2, .int a2)]) hx hb dX4_allRanks_18 rfl hl (by decide) rfl (fun ls hl => ?_)
        obtain ⟨x6, hx6⟩ : ∃ z : Int32, z = a2 + (1 : Int32) := ⟨_, rfl⟩
        have hf := bnd_at hf hx6
        refine lv_iinc (v := x6) (lv' := [(2, .int x6), (1, .int x5), (0, .ref (q 3))]) hx hb dX4_allRanks_19 hl (k := 2) rfl (by rw [hx6]; rfl) (by decide) rfl (fun ls hl => ?_)
        refine lv_goto (tgt := 4) hx hb dX4_allRanks_22 (by decide) ?_
        exact ih4 σ2 x5 x6 _ _ _ hf hJ (lv_sub hl [2, 1, 0] rfl)
  have hl : lv_has ls 3 [(0, .ref (q 3))] := hl
  unfold fC_L_allRanks at hf
  refine lv_iconst (v := 0) hx hb dX4_allRanks_0 (by decide) ?_
  refine lv_istore_n (lv' := [(1, .int (0 : Int32)), (0, .ref (q 3))]) hx hb dX4_allRanks_1 rfl hl (by decide) rfl (fun ls hl => ?_)
  refine lv_iconst (v := 0) hx hb dX4_allRanks_2 (by decide) ?_
  refine lv_istore_n (lv' := [(2, .int (0 : Int32)), (1, .int (0 : Int32)), (0, .ref (q 3))]) hx hb dX4_allRanks_3 rfl hl (by decide) rfl (fun ls hl => ?_)
  exact l4 N σ (0 : Int32) (0 : Int32) _ _ _ hf hJ (lv_sub hl [2, 1, 0] rfl)
set_option maxHeartbeats 4000000 in
set_option maxRecDepth 100000 in
theorem cC_season {l : Launch} {D : va_G} {cA cB : ClassId} {q : Nat → Nat} {x : Nat → Nat} {N : Nat} {σ σ' : St} {r : Int32} {a1 : Int32} (hF : Fr (wC q cA cB) (aC q) (eC q x)) (hf : fC_season N σ a1 = some (σ', r)) : MI l yX11_season cX11_season 7 .int 8 D (tyC cA cB) (wC q cA cB) (aC q) (eC q x) [.ref (q 0), .int a1] σ σ' r := by
  refine MI_of (by decide) hF (Nat.le_of_ble_eq_true rfl) ?_
  intro p e s m args below meth c Q C hret hJ ls hl
  obtain ⟨hx, hb, hml, hown, hts, hK, hE, -⟩ := id C
  have hsb : ∀ z, (aC q) z → (aC q) z := fun _ h => h
  have l33 : ∀ (n : Nat) (σ : St) (a1 : Int32) (a3 : Int32) (a4 : Int32) (a5 : Int32) (H : Heap) (locs : List Loc) (ls : Array Slot), fC_season_l33 N  n σ a1 a3 a4 a5 = some (σ', r) → J D (wC q cA cB) (aC q) s σ H locs → lv_has ls 7 [(0, .ref (q 0)), (1, .int a1), (3, .int a3), (4, .int a4), (5, .int a5)] → W p l e (rmH 8) s m args below meth c H locs 0 0 Q (F0 m 33 ls []) := by
    intro n33
    induction n33 with
    | zero => intro σ a1 a3 a4 a5 H locs ls hf; rw [fC_season_l33] at hf; cases hf
    | succ n33 ih33 =>
      have j119 : ∀ (σ : St) (a1 : Int32) (a3 : Int32) (a5 : Int32) (a6 : Int32) (H : Heap) (locs : List Loc) (ls : Array Slot), fC_season_j119 N (fC_season_l33 N  n33) σ a1 a3 a5 a6 = some (σ', r) → J D (wC q cA cB) (aC q) s σ H locs → lv_has ls 7 [(0, .ref (q 0)), (1, .int a1), (3, .int a3), (5, .int a5), (6, .int a6)] → W p l e (rmH 8) s m args below meth c H locs 0 0 Q (F0 m 119 ls []) := by
        intro σ a1 a3 a5 a6 H locs ls hf hJ hl
        unfold fC_season_j119 at hf
        refine lv_iload hx hb dX11_season_119 (lv_at hl 4 rfl) ?_
        refine lv_istore (lv' := [(4, .int a6), (0, .ref (q 0)), (1, .int a1), (3, .int a3), (5, .int a5), (6, .int a6)]) hx hb dX11_season_121 hl (by decide) rfl (fun ls hl => ?_)
        obtain ⟨x1, hx1⟩ : ∃ z : Int32, z = a5 + (1 : Int32) := ⟨_, rfl⟩
        have hf := bnd_at hf hx1
        refine lv_iinc (v := x1) (lv' := [(5, .int x1), (4, .int a6), (0, .ref (q 0)), (1, .int a1), (3, .int a3), (6, .int a6)]) hx hb dX11_season_123 hl (k := 4) rfl (by rw [hx1]; rfl) (by decide) rfl (fun ls hl => ?_)
        refine lv_goto (tgt := 33) hx hb dX11_season_126 (by decide) ?_
        exact ih33 σ a1 a3 a6 x1 _ _ _ hf hJ (lv_sub hl [2, 3, 4, 1, 0] rfl)
      intro σ a1 a3 a4 a5 H locs ls hf hJ hl
      rw [fC_season_l33] at hf
      refine lv_iload hx hb dX11_season_33 (lv_at hl 4 rfl) ?_
      refine lv_aload_n hx hb dX11_season_35 rfl (lv_at hl 0 rfl) ?_
      refine gC_0_4 C hJ fl_RX11_40 dX11_season_36 ?_
      refine gC_5_1 C hJ fl_RX11_256 dX11_season_39 ?_
      refine lv_iload_n hx hb dX11_season_42 rfl (lv_at hl 1 rfl) ?_
      obtain ⟨h2, hf⟩ := gi_some hf
      refine aC_26 C hJ h2 dX11_season_43 ?_
      refine lv_icmp_ge (tgt := 129) hx hb dX11_season_44 (by decide) (fun c3 => ?_) (fun c3 => ?_)
      · have hf := ite_t hf c3
        refine lv_iload_n hx hb dX11_season_129 rfl (lv_at hl 2 rfl) ?_
        exact ret_I hret hJ hf rfl dX11_season_130
      · have hf := ite_f hf c3
        refine lv_aload_n hx hb dX11_season_47 rfl (lv_at hl 0 rfl) ?_
        refine gC_0_0 C hJ fl_RX11_12 dX11_season_48 ?_
        refine lv_aload_n hx hb dX11_season_51 rfl (lv_at hl 0 rfl) ?_
        refine gC_0_4 C hJ fl_RX11_40 dX11_season_52 ?_
        refine lv_iload_n hx hb dX11_season_55 rfl (lv_at hl 1 rfl) ?_
        refine lv_iload hx hb dX11_season_56 (lv_at hl 4 rfl) ?_
        obtain ⟨σ4, r5, hg6, hf⟩ := cal_some hf
        refine backI hsb hJ (runV (As := [.int a1, .int a5]) (rest := [.ref (q 1)]) C hJ lk_RX11_244 (cC_H_itemOf hF hg6) recC_5 rfl rfl (Nat.le_of_ble_eq_true rfl) hl.1 (hR_of (by omega) (by decide)) ⟨Nat.le_refl _, Nat.le_refl _⟩ dX11_season_58) (fun H locs hJ => ?_)
        obtain ⟨σ7, r8, hg9, hf⟩ := cal_some hf
        refine backV hsb hJ (runV (As := [.int r5]) (rest := []) C hJ lk_RX11_133 (cC_P_lookAs hF hg9) recC_1 rfl rfl (Nat.le_of_ble_eq_true rfl) hl.1 (hR_of (by omega) (by decide)) ⟨Nat.le_refl _, Nat.le_refl _⟩ dX11_season_61) (fun H locs hJ => ?_)
        refine lv_aload_n hx hb dX11_season_64 rfl (lv_at hl 0 rfl) ?_
        refine gC_0_2 C hJ fl_RX11_26 dX11_season_65 ?_
        refine lv_aload_n hx hb dX11_season_68 rfl (lv_at hl 0 rfl) ?_
        refine gC_0_0 C hJ fl_RX11_12 dX11_season_69 ?_
        refine lv_aload_n hx hb dX11_season_72 rfl (lv_at hl 0 rfl) ?_
        refine gC_0_0 C hJ fl_RX11_12 dX11_season_73 ?_
        refine gC_1_4 C hJ fl_RX11_189 dX11_season_76 ?_
        obtain ⟨σ10, r11, hg12, hf⟩ := cal_some hf
        refine backI hsb hJ (runV (As := []) (rest := [.ref (q 1), .ref (q 3)]) C hJ lk_RX11_227 (cC_F_all hF hg12) recC_11 rfl rfl (Nat.le_of_ble_eq_true rfl) hl.1 (hR_of (by omega) (by decide)) ⟨Nat.le_refl _, Nat.le_refl _⟩ dX11_season_79) (fun H locs hJ => ?_)
        obtain ⟨σ13, r14, hg15, hf⟩ := cal_some hf
        refine backI hsb hJ (runV (As := [.int r11]) (rest := [.ref (q 3)]) C hJ lk_RX11_230 (cC_P_offsideAmong hF hg15) recC_1 rfl rfl (Nat.le_of_ble_eq_true rfl) hl.1 (hR_of (by omega) (by decide)) ⟨Nat.le_refl _, Nat.le_refl _⟩ dX11_season_82) (fun H locs hJ => ?_)
        refine lv_aload_n hx hb dX11_season_85 rfl (lv_at hl 0 rfl) ?_
        refine gC_0_0 C hJ fl_RX11_12 dX11_season_86 ?_
        refine gC_1_4 C hJ fl_RX11_189 dX11_season_89 ?_
        obtain ⟨σ16, r17, hg18, hf⟩ := cal_some hf
        refine backV hsb hJ (runV (As := [.int r14, .ref (q 11)]) (rest := []) C hJ lk_RX11_262 (cC_L_playAll hF hg18) recC_3 rfl rfl (Nat.le_of_ble_eq_true rfl) hl.1 (hR_of (by omega) (by decide)) ⟨Nat.le_refl _, Nat.le_refl _⟩ dX11_season_92) (fun H locs hJ => ?_)
        refine lv_aload_n hx hb dX11_season_95 rfl (lv_at hl 0 rfl) ?_
        refine gC_0_2 C hJ fl_RX11_26 dX11_season_96 ?_
        obtain ⟨σ19, r20, hg21, hf⟩ := cal_some hf
        refine backI hsb hJ (runV (As := []) (rest := []) C hJ lk_RX11_278 (cC_L_allRanks hF hg21) recC_3 rfl rfl (Nat.le_of_ble_eq_true rfl) hl.1 (hR_of (by omega) (by decide)) ⟨Nat.le_refl _, Nat.le_refl _⟩ dX11_season_99) (fun H locs hJ => ?_)
        refine lv_istore (lv' := [(6, .int r20), (0, .ref (q 0)), (1, .int a1), (3, .int a3), (4, .int a4), (5, .int a5)]) hx hb dX11_season_102 hl (by decide) rfl (fun ls hl => ?_)
        refine lv_iload hx hb dX11_season_104 (lv_at hl 5 rfl) ?_
        refine lv_if_le (tgt := 119) hx hb dX11_season_106 (by decide) (fun c22 => ?_) (fun c22 => ?_)
        · have hf := ite_t hf c22
          exact j119 σ19 a1 a3 a5 r20 _ _ _ hf hJ (lv_sub hl [1, 2, 3, 5, 0] rfl)
        · have hf := ite_f hf c22
          refine lv_iload hx hb dX11_season_109 (lv_at hl 0 rfl) ?_
          refine lv_iload hx hb dX11_season_111 (lv_at hl 4 rfl) ?_
          refine lv_icmp_eq (tgt := 119) hx hb dX11_season_113 (by decide) (fun c23 => ?_) (fun c23 => ?_)
          · have hf := ite_t hf c23
            exact j119 σ19 a1 a3 a5 r20 _ _ _ hf hJ (lv_sub hl [1, 2, 3, 5, 0] rfl)
          · have hf := ite_f hf c23
            obtain ⟨x24, hx24⟩ : ∃ z : Int32, z = a3 + (1 : Int32) := ⟨_, rfl⟩
            have hf := bnd_at hf hx24
            refine lv_iinc (v := x24) (lv' := [(3, .int x24), (6, .int r20), (0, .ref (q 0)), (1, .int a1), (4, .int a4), (5, .int a5)]) hx hb dX11_season_116 hl (k := 3) rfl (by rw [hx24]; rfl) (by decide) rfl (fun ls hl => ?_)
            exact j119 σ19 a1 x24 a5 r20 _ _ _ hf hJ (lv_sub hl [2, 3, 0, 5, 1] rfl)
  have hl : lv_has ls 7 [(0, .ref (q 0)), (1, .int a1)] := hl
  unfold fC_season at hf
  refine lv_iload_n hx hb dX11_season_0 rfl (lv_at hl 1 rfl) ?_
  obtain ⟨σ25, r26, hg27, hf⟩ := cal_some hf
  refine backI hsb hJ (runS (As := [.int a1]) (rest := []) C hJ lk_RX11_233 (cC_isSheet hF hg27) rfl rfl (Nat.le_of_ble_eq_true rfl) hl.1 (hR_of (by omega) (by decide)) ⟨Nat.le_refl _, Nat.le_refl _⟩ dX11_season_1) (fun H locs hJ => ?_)
  refine lv_if_ne (tgt := 10) hx hb dX11_season_4 (by decide) (fun c28 => ?_) (fun c28 => ?_)
  · have hf := ite_f hf c28
    refine lv_aload_n hx hb dX11_season_10 rfl (lv_at hl 0 rfl) ?_
    refine gC_0_4 C hJ fl_RX11_40 dX11_season_11 ?_
    refine lv_iload_n hx hb dX11_season_14 rfl (lv_at hl 1 rfl) ?_
    obtain ⟨σ29, r30, hg31, hf⟩ := cal_some hf
    refine backI hsb hJ (runV (As := [.int a1]) (rest := []) C hJ lk_RX11_239 (cC_H_refusalAsWidths hF hg31) recC_5 rfl rfl (Nat.le_of_ble_eq_true rfl) hl.1 (hR_of (by omega) (by decide)) ⟨Nat.le_refl _, Nat.le_refl _⟩ dX11_season_15) (fun H locs hJ => ?_)
    refine lv_istore_n (lv' := [(2, .int r30), (0, .ref (q 0)), (1, .int a1)]) hx hb dX11_season_18 rfl hl (by decide) rfl (fun ls hl => ?_)
    refine lv_iload_n hx hb dX11_season_19 rfl (lv_at hl 0 rfl) ?_
    refine lv_if_eq (tgt := 25) hx hb dX11_season_20 (by decide) (fun c32 => ?_) (fun c32 => ?_)
    · have hf := ite_t hf c32
      refine lv_iconst (v := 0) hx hb dX11_season_25 (by decide) ?_
      refine lv_istore_n (lv' := [(3, .int (0 : Int32)), (2, .int r30), (0, .ref (q 0)), (1, .int a1)]) hx hb dX11_season_26 rfl hl (by decide) rfl (fun ls hl => ?_)
      refine lv_iconst (v := 0) hx hb dX11_season_27 (by decide) ?_
      refine lv_istore (lv' := [(4, .int (0 : Int32)), (3, .int (0 : Int32)), (2, .int r30), (0, .ref (q 0)), (1, .int a1)]) hx hb dX11_season_28 hl (by decide) rfl (fun ls hl => ?_)
      refine lv_iconst (v := 0) hx hb dX11_season_30 (by decide) ?_
      refine lv_istore (lv' := [(5, .int (0 : Int32)), (4, .int (0 : Int32)), (3, .int (0 : Int32)), (2, .int r30), (0, .ref (q 0)), (1, .int a1)]) hx hb dX11_season_31 hl (by decide) rfl (fun ls hl => ?_)
      exact l33 N σ29 a1 (0 : Int32) (0 : Int32) (0 : Int32) _ _ _ hf hJ (lv_sub hl [4, 5, 2, 1, 0] rfl)
    · have hf := ite_f hf c32
      refine lv_iload_n hx hb dX11_season_23 rfl (lv_at hl 0 rfl) ?_
      exact ret_I hret hJ hf rfl dX11_season_24
  · have hf := ite_t hf c28
    refine lv_bipush (v := -2) hx hb dX11_season_7 (by decide) ?_
    exact ret_I hret hJ hf rfl dX11_season_9
set_option maxHeartbeats 4000000 in
set_option maxRecDepth 100000 in
theorem cC_stand {l : Launch} {D : va_G} {cA cB : ClassId} {q : Nat → Nat} {x : Nat → Nat} {N : Nat} {σ σ' : St} {r : Int32} {a1 : Int32} {a2 : Int32} {a3 : Int32} (hF : Fr (wC q cA cB) (aC q) (eC q x)) (hf : fC_stand N σ a1 a2 a3 = some (σ', r)) : MI l yX11_stand cX11_stand 4 .int 8 D (tyC cA cB) (wC q cA cB) (aC q) (eC q x) [.ref (q 0), .int a1, .int a2, .int a3] σ σ' r := by
  refine MI_of (by decide) hF (Nat.le_of_ble_eq_true rfl) ?_
  intro p e s m args below meth c Q C hret hJ ls hl
  obtain ⟨hx, hb, hml, hown, hts, hK, hE, -⟩ := id C
  have hsb : ∀ z, (aC q) z → (aC q) z := fun _ h => h
  have hl : lv_has ls 4 [(0, .ref (q 0)), (1, .int a1), (2, .int a2), (3, .int a3)] := hl
  unfold fC_stand at hf
  refine lv_iload_n hx hb dX11_stand_0 rfl (lv_at hl 1 rfl) ?_
  obtain ⟨σ1, r2, hg3, hf⟩ := cal_some hf
  refine backI hsb hJ (runS (As := [.int a1]) (rest := []) C hJ lk_RX11_258 (cC_isSide hF hg3) rfl rfl (Nat.le_of_ble_eq_true rfl) hl.1 (hR_of (by omega) (by decide)) ⟨Nat.le_refl _, Nat.le_refl _⟩ dX11_stand_1) (fun H locs hJ => ?_)
  refine lv_if_eq (tgt := 28) hx hb dX11_stand_4 (by decide) (fun c4 => ?_) (fun c4 => ?_)
  · have hf := ite_t hf c4
    refine lv_bipush (v := -2) hx hb dX11_stand_28 (by decide) ?_
    exact ret_I hret hJ hf rfl dX11_stand_30
  · have hf := ite_f hf c4
    refine lv_iload_n hx hb dX11_stand_7 rfl (lv_at hl 2 rfl) ?_
    obtain ⟨σ5, r6, hg7, hf⟩ := cal_some hf
    refine backI hsb hJ (runS (As := [.int a2]) (rest := []) C hJ lk_RX11_185 (cC_isWidth hF hg7) rfl rfl (Nat.le_of_ble_eq_true rfl) hl.1 (hR_of (by omega) (by decide)) ⟨Nat.le_refl _, Nat.le_refl _⟩ dX11_stand_8) (fun H locs hJ => ?_)
    refine lv_if_eq (tgt := 28) hx hb dX11_stand_11 (by decide) (fun c8 => ?_) (fun c8 => ?_)
    · have hf := ite_t hf c8
      refine lv_bipush (v := -2) hx hb dX11_stand_28 (by decide) ?_
      exact ret_I hret hJ hf rfl dX11_stand_30
    · have hf := ite_f hf c8
      refine lv_aload_n hx hb dX11_stand_14 rfl (lv_at hl 0 rfl) ?_
      refine gC_0_0 C hJ fl_RX11_12 dX11_stand_15 ?_
      refine gC_1_4 C hJ fl_RX11_189 dX11_stand_18 ?_
      refine lv_iload_n hx hb dX11_stand_21 rfl (lv_at hl 3 rfl) ?_
      obtain ⟨σ9, r10, hg11, hf⟩ := cal_some hf
      refine backI hsb hJ (runV (As := [.int a3]) (rest := []) C hJ lk_RX11_236 (cC_F_hasAll hF hg11) recC_11 rfl rfl (Nat.le_of_ble_eq_true rfl) hl.1 (hR_of (by omega) (by decide)) ⟨Nat.le_refl _, Nat.le_refl _⟩ dX11_stand_22) (fun H locs hJ => ?_)
      refine lv_if_ne (tgt := 31) hx hb dX11_stand_25 (by decide) (fun c12 => ?_) (fun c12 => ?_)
      · have hf := ite_f hf c12
        refine lv_aload_n hx hb dX11_stand_31 rfl (lv_at hl 0 rfl) ?_
        refine gC_0_0 C hJ fl_RX11_12 dX11_stand_32 ?_
        refine lv_iload_n hx hb dX11_stand_35 rfl (lv_at hl 2 rfl) ?_
        refine lv_iload_n hx hb dX11_stand_36 rfl (lv_at hl 1 rfl) ?_
        refine lv_iload_n hx hb dX11_stand_37 rfl (lv_at hl 2 rfl) ?_
        refine lv_aload_n hx hb dX11_stand_38 rfl (lv_at hl 0 rfl) ?_
        refine gC_0_9 C hJ fl_RX11_129 dX11_stand_39 ?_
        refine lv_isub hx hb dX11_stand_42 ?_
        refine lv_iconst (v := 2) hx hb dX11_stand_43 (by decide) ?_
        refine lv_idiv hx hb dX11_stand_44 (by decide) ?_
        obtain ⟨σ13, r14, hg15, hf⟩ := cal_some hf
        refine backV hsb hJ (runV (As := [.int a2, .int a1, .int ((a2 - (σ9.1 3)) / (2 : Int32))]) (rest := []) C hJ lk_RX11_281 (cC_P_lookAsStanding hF hg15) recC_1 rfl rfl (Nat.le_of_ble_eq_true rfl) hl.1 (hR_of (by omega) (by decide)) ⟨Nat.le_refl _, Nat.le_refl _⟩ dX11_stand_45) (fun H locs hJ => ?_)
        refine lv_aload_n hx hb dX11_stand_48 rfl (lv_at hl 0 rfl) ?_
        refine gC_0_0 C hJ fl_RX11_12 dX11_stand_49 ?_
        refine lv_aload_n hx hb dX11_stand_52 rfl (lv_at hl 0 rfl) ?_
        refine gC_0_0 C hJ fl_RX11_12 dX11_stand_53 ?_
        refine gC_1_4 C hJ fl_RX11_189 dX11_stand_56 ?_
        refine lv_iload_n hx hb dX11_stand_59 rfl (lv_at hl 1 rfl) ?_
        refine lv_iload_n hx hb dX11_stand_60 rfl (lv_at hl 3 rfl) ?_
        obtain ⟨σ16, r17, hg18, hf⟩ := cal_some hf
        refine backI hsb hJ (runV (As := [.int a1, .int a3]) (rest := [.ref (q 1)]) C hJ lk_RX11_285 (cC_F_attackedBy hF hg18) recC_11 rfl rfl (Nat.le_of_ble_eq_true rfl) hl.1 (hR_of (by omega) (by decide)) ⟨Nat.le_refl _, Nat.le_refl _⟩ dX11_stand_61) (fun H locs hJ => ?_)
        obtain ⟨σ19, r20, hg21, hf⟩ := cal_some hf
        refine backI hsb hJ (runV (As := [.int r17]) (rest := []) C hJ lk_RX11_230 (cC_P_offsideAmong hF hg21) recC_1 rfl rfl (Nat.le_of_ble_eq_true rfl) hl.1 (hR_of (by omega) (by decide)) ⟨Nat.le_refl _, Nat.le_refl _⟩ dX11_stand_64) (fun H locs hJ => ?_)
        exact ret_I hret hJ hf rfl dX11_stand_67
      · have hf := ite_t hf c12
        refine lv_bipush (v := -2) hx hb dX11_stand_28 (by decide) ?_
        exact ret_I hret hJ hf rfl dX11_stand_30
