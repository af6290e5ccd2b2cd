set_option maxHeartbeats 4000000 in
set_option maxRecDepth 100000 in
theorem cC_K_add {l : Launch} {D : va_G} {cA cB : ClassId} {q : Nat → Nat} {x : Nat → Nat} {N : Nat} {σ σ' : St} {r : Int32} {a1 : Int32} {a2 : Int32} (hF : Fr (wC q cA cB) (aC q) (eC q x)) (hf : fC_K_add N σ a1 a2 = some (σ', r)) : MI l yX2_add cX2_add 3 .int 2 D (tyC cA cB) (wC q cA cB) (aC q) (eC q x) [.ref (q 4), .int a1, .int a2] σ σ' r := by
  refine MI_of (by decide) hF (Nat.le_of_ble_eq_true rfl) ?_
  intro p e s m args below meth c Q C hret hJ ls hl
  obtain ⟨hx, hb, hml, hown, hts, hK, hE, -⟩ := id C
  have hsb : ∀ z, (aC q) z → (aC q) z := fun _ h => h
  have hl : lv_has ls 3 [(0, .ref (q 4)), (1, .int a1), (2, .int a2)] := hl
  unfold fC_K_add at hf
  refine lv_iload_n hx hb dX2_add_0 rfl (lv_at hl 1 rfl) ?_
  refine lv_iconst (v := 0) hx hb dX2_add_1 (by decide) ?_
  refine lv_bipush (v := 63) hx hb dX2_add_2 (by decide) ?_
  obtain ⟨σ1, r2, hg3, hf⟩ := cal_some hf
  refine backI hsb hJ (runN (As := [.int a1, .int (0 : Int32), .int (63 : Int32)]) (rest := []) C hJ lkn_yX11_isWithin (hE.1 _ nl_RX2_21) (cC_isWithin hF hg3) rfl rfl (Nat.le_of_ble_eq_true rfl) hl.1 (hR_of (by omega) (by decide)) ⟨Nat.le_refl _, Nat.le_refl _⟩ dX2_add_4) (fun H locs hJ => ?_)
  refine lv_if_eq (tgt := 19) hx hb dX2_add_7 (by decide) (fun c4 => ?_) (fun c4 => ?_)
  · have hf := ite_t hf c4
    refine lv_bipush (v := -2) hx hb dX2_add_19 (by decide) ?_
    exact ret_I hret hJ hf rfl dX2_add_21
  · have hf := ite_f hf c4
    refine lv_iload_n hx hb dX2_add_10 rfl (lv_at hl 2 rfl) ?_
    refine lv_iconst (v := 0) hx hb dX2_add_11 (by decide) ?_
    refine lv_iconst (v := 3) hx hb dX2_add_12 (by decide) ?_
    obtain ⟨σ5, r6, hg7, hf⟩ := cal_some hf
    refine backI hsb hJ (runN (As := [.int a2, .int (0 : Int32), .int (3 : Int32)]) (rest := []) C hJ lkn_yX11_isWithin (hE.1 _ nl_RX2_21) (cC_isWithin hF hg7) rfl rfl (Nat.le_of_ble_eq_true rfl) hl.1 (hR_of (by omega) (by decide)) ⟨Nat.le_refl _, Nat.le_refl _⟩ dX2_add_13) (fun H locs hJ => ?_)
    refine lv_if_ne (tgt := 22) hx hb dX2_add_16 (by decide) (fun c8 => ?_) (fun c8 => ?_)
    · have hf := ite_f hf c8
      refine lv_aload_n hx hb dX2_add_22 rfl (lv_at hl 0 rfl) ?_
      refine gC_4_3 C hJ fl_RX2_25 dX2_add_23 ?_
      refine lv_bipush (v := 40) hx hb dX2_add_26 (by decide) ?_
      refine lv_icmp_lt (tgt := 34) hx hb dX2_add_28 (by decide) (fun c9 => ?_) (fun c9 => ?_)
      · have hf := ite_t hf c9
        refine lv_aload_n hx hb dX2_add_34 rfl (lv_at hl 0 rfl) ?_
        refine gC_4_0 C hJ fl_RX2_9 dX2_add_35 ?_
        refine lv_aload_n hx hb dX2_add_38 rfl (lv_at hl 0 rfl) ?_
        refine gC_4_3 C hJ fl_RX2_25 dX2_add_39 ?_
        refine lv_iload_n hx hb dX2_add_42 rfl (lv_at hl 1 rfl) ?_
        obtain ⟨h10, hf⟩ := gi_some hf
        refine sC_22 C hJ h10 dX2_add_43 (fun σ11 H locs hs hJ => ?_)
        have hf := bnd_at hf hs
        refine lv_aload_n hx hb dX2_add_44 rfl (lv_at hl 0 rfl) ?_
        refine gC_4_1 C hJ fl_RX2_15 dX2_add_45 ?_
        refine lv_aload_n hx hb dX2_add_48 rfl (lv_at hl 0 rfl) ?_
        refine gC_4_3 C hJ fl_RX2_25 dX2_add_49 ?_
        refine lv_iload_n hx hb dX2_add_52 rfl (lv_at hl 2 rfl) ?_
        obtain ⟨h12, hf⟩ := gi_some hf
        refine sC_23 C hJ h12 dX2_add_53 (fun σ13 H locs hs hJ => ?_)
        have hf := bnd_at hf hs
        refine lv_aload_n hx hb dX2_add_54 rfl (lv_at hl 0 rfl) ?_
        refine lv_dup hx hb dX2_add_55 rfl ?_
        refine gC_4_3 C hJ fl_RX2_25 dX2_add_56 ?_
        refine lv_iconst (v := 1) hx hb dX2_add_59 (by decide) ?_
        refine lv_iadd hx hb dX2_add_60 ?_
        refine pC_4_3 C hJ fl_RX2_25 dX2_add_61 (fun σ14 H locs hs hJ => ?_)
        have hf := bnd_at hf hs
        refine lv_aload_n hx hb dX2_add_64 rfl (lv_at hl 0 rfl) ?_
        refine gC_4_3 C hJ fl_RX2_25 dX2_add_65 ?_
        refine lv_iconst (v := 1) hx hb dX2_add_68 (by decide) ?_
        refine lv_isub hx hb dX2_add_69 ?_
        exact ret_I hret hJ hf rfl dX2_add_70
      · have hf := ite_f hf c9
        refine lv_bipush (v := -4) hx hb dX2_add_31 (by decide) ?_
        exact ret_I hret hJ hf rfl dX2_add_33
    · have hf := ite_t hf c8
      refine lv_bipush (v := -2) hx hb dX2_add_19 (by decide) ?_
      exact ret_I hret hJ hf rfl dX2_add_21
set_option maxHeartbeats 4000000 in
set_option maxRecDepth 100000 in
theorem cC_shown {l : Launch} {D : va_G} {cA cB : ClassId} {q : Nat → Nat} {x : Nat → Nat} {N : Nat} {σ σ' : St} {r : Int32} {a1 : Int32} {a2 : Int32} (hF : Fr (wC q cA cB) (aC q) (eC q x)) (hf : fC_shown N σ a1 a2 = some (σ', r)) : MI l yX11_shown cX11_shown 3 .int 3 D (tyC cA cB) (wC q cA cB) (aC q) (eC q x) [.ref (q 0), .int a1, .int a2] σ σ' r := by
  refine MI_of (by decide) hF (Nat.le_of_ble_eq_true rfl) ?_
  intro p e s m args below meth c Q C hret hJ ls hl
  obtain ⟨hx, hb, hml, hown, hts, hK, hE, -⟩ := id C
  have hsb : ∀ z, (aC q) z → (aC q) z := fun _ h => h
  have hl : lv_has ls 3 [(0, .ref (q 0)), (1, .int a1), (2, .int a2)] := hl
  unfold fC_shown at hf
  refine lv_aload_n hx hb dX11_shown_0 rfl (lv_at hl 0 rfl) ?_
  refine gC_0_3 C hJ fl_RX11_33 dX11_shown_1 ?_
  refine lv_iload_n hx hb dX11_shown_4 rfl (lv_at hl 1 rfl) ?_
  refine lv_iload_n hx hb dX11_shown_5 rfl (lv_at hl 2 rfl) ?_
  obtain ⟨σ1, r2, hg3, hf⟩ := cal_some hf
  refine backI hsb hJ (runV (As := [.int a1, .int a2]) (rest := []) C hJ lk_RX11_288 (cC_K_add hF hg3) recC_4 rfl rfl (Nat.le_of_ble_eq_true rfl) hl.1 (hR_of (by omega) (by decide)) ⟨Nat.le_refl _, Nat.le_refl _⟩ dX11_shown_6) (fun H locs hJ => ?_)
  exact ret_I hret hJ hf rfl dX11_shown_9
set_option maxHeartbeats 4000000 in
set_option maxRecDepth 100000 in
theorem cC_K_isSplitBy {l : Launch} {D : va_G} {cA cB : ClassId} {q : Nat → Nat} {x : Nat → Nat} {N : Nat} {σ σ' : St} {r : Int32} {a1 : Int32} (hF : Fr (wC q cA cB) (aC q) (eC q x)) (hf : fC_K_isSplitBy N σ a1 = some (σ', r)) : MI l yX2_isSplitBy cX2_isSplitBy 4 .boolean 1 D (tyC cA cB) (wC q cA cB) (aC q) (eC q x) [.ref (q 4), .int a1] σ σ' r := by
  refine MI_of (by decide) hF (Nat.le_of_ble_eq_true rfl) ?_
  intro p e s m args below meth c Q C hret hJ ls hl
  obtain ⟨hx, hb, hml, hown, hts, hK, hE, -⟩ := id C
  have hsb : ∀ z, (aC q) z → (aC q) z := fun _ h => h
  have l23 : ∀ (n : Nat) (σ : St) (a1 : Int32) (a2 : Int32) (H : Heap) (locs : List Loc) (ls : Array Slot), fC_K_isSplitBy_l23 N  n σ a1 a2 = some (σ', r) → J D (wC q cA cB) (aC q) s σ H locs → lv_has ls 4 [(0, .ref (q 4)), (1, .int a1), (2, .int a2)] → W p l e (rmH 1) s m args below meth c H locs 0 0 Q (F0 m 23 ls []) := by
    intro n23
    induction n23 with
    | zero => intro σ a1 a2 H locs ls hf; rw [fC_K_isSplitBy_l23] at hf; cases hf
    | succ n23 ih23 =>
      have j67 : ∀ (σ : St) (a1 : Int32) (a2 : Int32) (a3 : Int32) (H : Heap) (locs : List Loc) (ls : Array Slot), fC_K_isSplitBy_j67 N (fC_K_isSplitBy_l23 N  n23) σ a1 a2 a3 = some (σ', r) → J D (wC q cA cB) (aC q) s σ H locs → lv_has ls 4 [(0, .ref (q 4)), (1, .int a1), (2, .int a2), (3, .int a3)] → W p l e (rmH 1) s m args below meth c H locs 0 0 Q (F0 m 67 ls []) := by
        intro σ a1 a2 a3 H locs ls hf hJ hl
        unfold fC_K_isSplitBy_j67 at hf
        refine lv_aload_n hx hb dX2_isSplitBy_67 rfl (lv_at hl 0 rfl) ?_
        refine gC_4_2 C hJ fl_RX2_18 dX2_isSplitBy_68 ?_
        refine lv_iload_n hx hb dX2_isSplitBy_71 rfl (lv_at hl 3 rfl) ?_
        refine lv_aload_n hx hb dX2_isSplitBy_72 rfl (lv_at hl 0 rfl) ?_
        refine gC_4_1 C hJ fl_RX2_15 dX2_isSplitBy_73 ?_
        refine lv_iload_n hx hb dX2_isSplitBy_76 rfl (lv_at hl 2 rfl) ?_
        obtain ⟨h1, hf⟩ := gi_some hf
        refine aC_23 C hJ h1 dX2_isSplitBy_77 ?_
        obtain ⟨h2, hf⟩ := gi_some hf
        refine sC_24 C hJ h2 dX2_isSplitBy_78 (fun σ3 H locs hs hJ => ?_)
        have hf := bnd_at hf hs
        obtain ⟨x4, hx4⟩ : ∃ z : Int32, z = a2 + (1 : Int32) := ⟨_, rfl⟩
        have hf := bnd_at hf hx4
        refine lv_iinc (v := x4) (lv' := [(2, .int x4), (0, .ref (q 4)), (1, .int a1), (3, .int a3)]) hx hb dX2_isSplitBy_79 hl (k := 2) rfl (by rw [hx4]; rfl) (by decide) rfl (fun ls hl => ?_)
        refine lv_goto (tgt := 23) hx hb dX2_isSplitBy_82 (by decide) ?_
        exact ih23 σ3 a1 x4 _ _ _ hf hJ (lv_sub hl [1, 2, 0] rfl)
      intro σ a1 a2 H locs ls hf hJ hl
      rw [fC_K_isSplitBy_l23] at hf
      refine lv_iload_n hx hb dX2_isSplitBy_23 rfl (lv_at hl 2 rfl) ?_
      refine lv_aload_n hx hb dX2_isSplitBy_24 rfl (lv_at hl 0 rfl) ?_
      refine gC_4_3 C hJ fl_RX2_25 dX2_isSplitBy_25 ?_
      refine lv_icmp_ge (tgt := 85) hx hb dX2_isSplitBy_28 (by decide) (fun c5 => ?_) (fun c5 => ?_)
      · have hf := ite_t hf c5
        refine lv_iconst (v := 1) hx hb dX2_isSplitBy_85 (by decide) ?_
        exact ret_I hret hJ hf (nar_z (by decide)) dX2_isSplitBy_86
      · have hf := ite_f hf c5
        refine lv_aload_n hx hb dX2_isSplitBy_31 rfl (lv_at hl 0 rfl) ?_
        refine gC_4_0 C hJ fl_RX2_9 dX2_isSplitBy_32 ?_
        refine lv_iload_n hx hb dX2_isSplitBy_35 rfl (lv_at hl 2 rfl) ?_
        obtain ⟨h6, hf⟩ := gi_some hf
        refine aC_22 C hJ h6 dX2_isSplitBy_36 ?_
        refine lv_iload_n hx hb dX2_isSplitBy_37 rfl (lv_at hl 1 rfl) ?_
        refine lv_iand hx hb dX2_isSplitBy_38 ?_
        refine lv_topi (fun x7 hx7 => ?_)
        have hf := bnd_at hf hx7
        refine lv_istore_n (lv' := [(3, .int x7), (0, .ref (q 4)), (1, .int a1), (2, .int a2)]) hx hb dX2_isSplitBy_39 rfl hl (by decide) rfl (fun ls hl => ?_)
        refine lv_aload_n hx hb dX2_isSplitBy_40 rfl (lv_at hl 1 rfl) ?_
        refine gC_4_2 C hJ fl_RX2_18 dX2_isSplitBy_41 ?_
        refine lv_iload_n hx hb dX2_isSplitBy_44 rfl (lv_at hl 0 rfl) ?_
        obtain ⟨h8, hf⟩ := gi_some hf
        refine aC_24 C hJ h8 dX2_isSplitBy_45 ?_
        refine lv_iconst (v := -1) hx hb dX2_isSplitBy_46 (by decide) ?_
        refine lv_icmp_eq (tgt := 67) hx hb dX2_isSplitBy_47 (by decide) (fun c9 => ?_) (fun c9 => ?_)
        · have hf := ite_t hf c9
          exact j67 σ a1 a2 x7 _ _ _ hf hJ (lv_sub hl [1, 2, 3, 0] rfl)
        · have hf := ite_f hf c9
          refine lv_aload_n hx hb dX2_isSplitBy_50 rfl (lv_at hl 1 rfl) ?_
          refine gC_4_2 C hJ fl_RX2_18 dX2_isSplitBy_51 ?_
          refine lv_iload_n hx hb dX2_isSplitBy_54 rfl (lv_at hl 0 rfl) ?_
          obtain ⟨h10, hf⟩ := gi_some hf
          refine aC_24 C hJ h10 dX2_isSplitBy_55 ?_
          refine lv_aload_n hx hb dX2_isSplitBy_56 rfl (lv_at hl 1 rfl) ?_
          refine gC_4_1 C hJ fl_RX2_15 dX2_isSplitBy_57 ?_
          refine lv_iload_n hx hb dX2_isSplitBy_60 rfl (lv_at hl 3 rfl) ?_
          obtain ⟨h11, hf⟩ := gi_some hf
          refine aC_23 C hJ h11 dX2_isSplitBy_61 ?_
          refine lv_icmp_eq (tgt := 67) hx hb dX2_isSplitBy_62 (by decide) (fun c12 => ?_) (fun c12 => ?_)
          · have hf := ite_t hf c12
            exact j67 σ a1 a2 x7 _ _ _ hf hJ (lv_sub hl [1, 2, 3, 0] rfl)
          · have hf := ite_f hf c12
            refine lv_iconst (v := 0) hx hb dX2_isSplitBy_65 (by decide) ?_
            exact ret_I hret hJ hf (nar_z (by decide)) dX2_isSplitBy_66
  have j21 : ∀ (σ : St) (a1 : Int32) (H : Heap) (locs : List Loc) (ls : Array Slot), fC_K_isSplitBy_j21 N  σ a1 = some (σ', r) → J D (wC q cA cB) (aC q) s σ H locs → lv_has ls 4 [(0, .ref (q 4)), (1, .int a1)] → W p l e (rmH 1) s m args below meth c H locs 0 0 Q (F0 m 21 ls []) := by
    intro σ a1 H locs ls hf hJ hl
    unfold fC_K_isSplitBy_j21 at hf
    refine lv_iconst (v := 0) hx hb dX2_isSplitBy_21 (by decide) ?_
    refine lv_istore_n (lv' := [(2, .int (0 : Int32)), (0, .ref (q 4)), (1, .int a1)]) hx hb dX2_isSplitBy_22 rfl hl (by decide) rfl (fun ls hl => ?_)
    exact l23 N σ a1 (0 : Int32) _ _ _ hf hJ (lv_sub hl [1, 2, 0] rfl)
  have l2 : ∀ (n : Nat) (σ : St) (a1 : Int32) (a2 : Int32) (H : Heap) (locs : List Loc) (ls : Array Slot), fC_K_isSplitBy_l2 N  n σ a1 a2 = some (σ', r) → J D (wC q cA cB) (aC q) s σ H locs → lv_has ls 4 [(0, .ref (q 4)), (1, .int a1), (2, .int a2)] → W p l e (rmH 1) s m args below meth c H locs 0 0 Q (F0 m 2 ls []) := by
    intro n2
    induction n2 with
    | zero => intro σ a1 a2 H locs ls hf; rw [fC_K_isSplitBy_l2] at hf; cases hf
    | succ n2 ih2 =>
      intro σ a1 a2 H locs ls hf hJ hl
      rw [fC_K_isSplitBy_l2] at hf
      refine lv_iload_n hx hb dX2_isSplitBy_2 rfl (lv_at hl 2 rfl) ?_
      refine lv_bipush (v := 64) hx hb dX2_isSplitBy_3 (by decide) ?_
      refine lv_icmp_ge (tgt := 21) hx hb dX2_isSplitBy_5 (by decide) (fun c13 => ?_) (fun c13 => ?_)
      · have hf := ite_t hf c13
        exact j21 σ a1 _ _ _ hf hJ (lv_sub hl [0, 1] rfl)
      · have hf := ite_f hf c13
        refine lv_aload_n hx hb dX2_isSplitBy_8 rfl (lv_at hl 0 rfl) ?_
        refine gC_4_2 C hJ fl_RX2_18 dX2_isSplitBy_9 ?_
        refine lv_iload_n hx hb dX2_isSplitBy_12 rfl (lv_at hl 2 rfl) ?_
        refine lv_iconst (v := -1) hx hb dX2_isSplitBy_13 (by decide) ?_
        obtain ⟨h14, hf⟩ := gi_some hf
        refine sC_24 C hJ h14 dX2_isSplitBy_14 (fun σ15 H locs hs hJ => ?_)
        have hf := bnd_at hf hs
        obtain ⟨x16, hx16⟩ : ∃ z : Int32, z = a2 + (1 : Int32) := ⟨_, rfl⟩
        have hf := bnd_at hf hx16
        refine lv_iinc (v := x16) (lv' := [(2, .int x16), (0, .ref (q 4)), (1, .int a1)]) hx hb dX2_isSplitBy_15 hl (k := 2) rfl (by rw [hx16]; rfl) (by decide) rfl (fun ls hl => ?_)
        refine lv_goto (tgt := 2) hx hb dX2_isSplitBy_18 (by decide) ?_
        exact ih2 σ15 a1 x16 _ _ _ hf hJ (lv_sub hl [1, 2, 0] rfl)
  have hl : lv_has ls 4 [(0, .ref (q 4)), (1, .int a1)] := hl
  unfold fC_K_isSplitBy at hf
  refine lv_iconst (v := 0) hx hb dX2_isSplitBy_0 (by decide) ?_
  refine lv_istore_n (lv' := [(2, .int (0 : Int32)), (0, .ref (q 4)), (1, .int a1)]) hx hb dX2_isSplitBy_1 rfl hl (by decide) rfl (fun ls hl => ?_)
  exact l2 N σ a1 (0 : Int32) _ _ _ hf hJ (lv_sub hl [1, 2, 0] rfl)
set_option maxHeartbeats 4000000 in
set_option maxRecDepth 100000 in
theorem cC_K_fewestMarks {l : Launch} {D : va_G} {cA cB : ClassId} {q : Nat → Nat} {x : Nat → Nat} {N : Nat} {σ σ' : St} {r : Int32} (hF : Fr (wC q cA cB) (aC q) (eC q x)) (hf : fC_K_fewestMarks N σ  = some (σ', r)) : MI l yX2_fewestMarks cX2_fewestMarks 4 .int 2 D (tyC cA cB) (wC q cA cB) (aC q) (eC q x) [.ref (q 4)] σ σ' r := by
  refine MI_of (by decide) hF (Nat.le_of_ble_eq_true rfl) ?_
  intro p e s m args below meth c Q C hret hJ ls hl
  obtain ⟨hx, hb, hml, hown, hts, hK, hE, -⟩ := id C
  have hsb : ∀ z, (aC q) z → (aC q) z := fun _ h => h
  have l4 : ∀ (n : Nat) (σ : St) (a1 : Int32) (a2 : Int32) (H : Heap) (locs : List Loc) (ls : Array Slot), fC_K_fewestMarks_l4 N  n σ a1 a2 = some (σ', r) → J D (wC q cA cB) (aC q) s σ H locs → lv_has ls 4 [(0, .ref (q 4)), (1, .int a1), (2, .int a2)] → W p l e (rmH 2) s m args below meth c H locs 0 0 Q (F0 m 4 ls []) := by
    intro n4
    induction n4 with
    | zero => intro σ a1 a2 H locs ls hf; rw [fC_K_fewestMarks_l4] at hf; cases hf
    | succ n4 ih4 =>
      have j46 : ∀ (σ : St) (a1 : Int32) (a2 : Int32) (H : Heap) (locs : List Loc) (ls : Array Slot), fC_K_fewestMarks_j46 N (fC_K_fewestMarks_l4 N  n4) σ a1 a2 = some (σ', r) → J D (wC q cA cB) (aC q) s σ H locs → lv_has ls 4 [(0, .ref (q 4)), (1, .int a1), (2, .int a2)] → W p l e (rmH 2) s m args below meth c H locs 0 0 Q (F0 m 46 ls []) := by
        intro σ a1 a2 H locs ls hf hJ hl
        unfold fC_K_fewestMarks_j46 at hf
        obtain ⟨x1, hx1⟩ : ∃ z : Int32, z = a2 + (1 : Int32) := ⟨_, rfl⟩
        have hf := bnd_at hf hx1
        refine lv_iinc (v := x1) (lv' := [(2, .int x1), (0, .ref (q 4)), (1, .int a1)]) hx hb dX2_fewestMarks_46 hl (k := 2) rfl (by rw [hx1]; rfl) (by decide) rfl (fun ls hl => ?_)
        refine lv_goto (tgt := 4) hx hb dX2_fewestMarks_49 (by decide) ?_
        exact ih4 σ a1 x1 _ _ _ hf hJ (lv_sub hl [1, 2, 0] rfl)
      have j31 : ∀ (σ : St) (a1 : Int32) (a2 : Int32) (t0 : Int32) (H : Heap) (locs : List Loc) (ls : Array Slot), fC_K_fewestMarks_j31 N (fC_K_fewestMarks_l4 N  n4) σ a1 a2 t0 = some (σ', r) → J D (wC q cA cB) (aC q) s σ H locs → lv_has ls 4 [(0, .ref (q 4)), (1, .int a1), (2, .int a2)] → W p l e (rmH 2) s m args below meth c H locs 0 0 Q (F0 m 31 ls [.int t0]) := by
        intro σ a1 a2 t0 H locs ls hf hJ hl
        unfold fC_K_fewestMarks_j31 at hf
        refine lv_istore_n (lv' := [(3, .int t0), (0, .ref (q 4)), (1, .int a1), (2, .int a2)]) hx hb dX2_fewestMarks_31 rfl hl (by decide) rfl (fun ls hl => ?_)
        refine lv_iload_n hx hb dX2_fewestMarks_32 rfl (lv_at hl 0 rfl) ?_
        refine lv_if_eq (tgt := 46) hx hb dX2_fewestMarks_33 (by decide) (fun c2 => ?_) (fun c2 => ?_)
        · have hf := ite_t hf c2
          exact j46 σ a1 a2 _ _ _ hf hJ (lv_sub hl [1, 2, 3] rfl)
        · have hf := ite_f hf c2
          refine lv_aload_n hx hb dX2_fewestMarks_36 rfl (lv_at hl 1 rfl) ?_
          refine lv_iload_n hx hb dX2_fewestMarks_37 rfl (lv_at hl 3 rfl) ?_
          obtain ⟨σ3, r4, hg5, hf⟩ := cal_some hf
          refine backI hsb hJ (runV (As := [.int a2]) (rest := []) C hJ lk_RX2_35 (cC_K_isSplitBy hF hg5) recC_4 rfl rfl (Nat.le_of_ble_eq_true rfl) hl.1 (hR_of (by omega) (by decide)) ⟨Nat.le_refl _, Nat.le_refl _⟩ dX2_fewestMarks_38) (fun H locs hJ => ?_)
          refine lv_if_eq (tgt := 46) hx hb dX2_fewestMarks_41 (by decide) (fun c6 => ?_) (fun c6 => ?_)
          · have hf := ite_t hf c6
            exact j46 σ3 a1 a2 _ _ _ hf hJ (lv_sub hl [1, 2, 3] rfl)
          · have hf := ite_f hf c6
            refine lv_iload_n hx hb dX2_fewestMarks_44 rfl (lv_at hl 3 rfl) ?_
            refine lv_istore_n (lv' := [(1, .int a2), (3, .int t0), (0, .ref (q 4)), (2, .int a2)]) hx hb dX2_fewestMarks_45 rfl hl (by decide) rfl (fun ls hl => ?_)
            exact j46 σ3 a2 a2 _ _ _ hf hJ (lv_sub hl [2, 0, 3] rfl)
      have j26 : ∀ (σ : St) (a1 : Int32) (a2 : Int32) (H : Heap) (locs : List Loc) (ls : Array Slot), fC_K_fewestMarks_j26 N (fC_K_fewestMarks_l4 N  n4) σ a1 a2 = some (σ', r) → J D (wC q cA cB) (aC q) s σ H locs → lv_has ls 4 [(0, .ref (q 4)), (1, .int a1), (2, .int a2)] → W p l e (rmH 2) s m args below meth c H locs 0 0 Q (F0 m 26 ls []) := by
        intro σ a1 a2 H locs ls hf hJ hl
        unfold fC_K_fewestMarks_j26 at hf
        refine lv_iconst (v := 1) hx hb dX2_fewestMarks_26 (by decide) ?_
        refine lv_goto (tgt := 31) hx hb dX2_fewestMarks_27 (by decide) ?_
        exact j31 σ a1 a2 (1 : Int32) _ _ _ hf hJ (lv_sub hl [0, 1, 2] rfl)
      intro σ a1 a2 H locs ls hf hJ hl
      rw [fC_K_fewestMarks_l4] at hf
      refine lv_iload_n hx hb dX2_fewestMarks_4 rfl (lv_at hl 2 rfl) ?_
      refine lv_bipush (v := 64) hx hb dX2_fewestMarks_5 (by decide) ?_
      refine lv_icmp_ge (tgt := 52) hx hb dX2_fewestMarks_7 (by decide) (fun c7 => ?_) (fun c7 => ?_)
      · have hf := ite_t hf c7
        refine lv_iload_n hx hb dX2_fewestMarks_52 rfl (lv_at hl 1 rfl) ?_
        exact ret_I hret hJ hf rfl dX2_fewestMarks_53
      · have hf := ite_f hf c7
        refine lv_iload_n hx hb dX2_fewestMarks_10 rfl (lv_at hl 1 rfl) ?_
        refine lv_iconst (v := -1) hx hb dX2_fewestMarks_11 (by decide) ?_
        refine lv_icmp_eq (tgt := 26) hx hb dX2_fewestMarks_12 (by decide) (fun c8 => ?_) (fun c8 => ?_)
        · have hf := ite_t hf c8
          exact j26 σ a1 a2 _ _ _ hf hJ (lv_sub hl [0, 1, 2] rfl)
        · have hf := ite_f hf c8
          refine lv_iload_n hx hb dX2_fewestMarks_15 rfl (lv_at hl 2 rfl) ?_
          obtain ⟨σ9, r10, hg11, hf⟩ := cal_some hf
          refine backI hsb hJ (runS (As := [.int a2]) (rest := []) C hJ lk_RX2_29 (cC_Int_bitCount hF hg11) rfl rfl (Nat.le_of_ble_eq_true rfl) hl.1 (hR_of (by omega) (by decide)) ⟨Nat.le_refl _, Nat.le_refl _⟩ dX2_fewestMarks_16) (fun H locs hJ => ?_)
          refine lv_iload_n hx hb dX2_fewestMarks_19 rfl (lv_at hl 1 rfl) ?_
          obtain ⟨σ12, r13, hg14, hf⟩ := cal_some hf
          refine backI hsb hJ (runS (As := [.int a1]) (rest := [.int r10]) C hJ lk_RX2_29 (cC_Int_bitCount hF hg14) rfl rfl (Nat.le_of_ble_eq_true rfl) hl.1 (hR_of (by omega) (by decide)) ⟨Nat.le_refl _, Nat.le_refl _⟩ dX2_fewestMarks_20) (fun H locs hJ => ?_)
          refine lv_icmp_ge (tgt := 30) hx hb dX2_fewestMarks_23 (by decide) (fun c15 => ?_) (fun c15 => ?_)
          · have hf := ite_t hf c15
            refine lv_iconst (v := 0) hx hb dX2_fewestMarks_30 (by decide) ?_
            exact j31 σ12 a1 a2 (0 : Int32) _ _ _ hf hJ (lv_sub hl [0, 1, 2] rfl)
          · have hf := ite_f hf c15
            exact j26 σ12 a1 a2 _ _ _ hf hJ (lv_sub hl [0, 1, 2] rfl)
  have hl : lv_has ls 4 [(0, .ref (q 4))] := hl
  unfold fC_K_fewestMarks at hf
  refine lv_iconst (v := -1) hx hb dX2_fewestMarks_0 (by decide) ?_
  refine lv_istore_n (lv' := [(1, .int (-1 : Int32)), (0, .ref (q 4))]) hx hb dX2_fewestMarks_1 rfl hl (by decide) rfl (fun ls hl => ?_)
  refine lv_iconst (v := 0) hx hb dX2_fewestMarks_2 (by decide) ?_
  refine lv_istore_n (lv' := [(2, .int (0 : Int32)), (1, .int (-1 : Int32)), (0, .ref (q 4))]) hx hb dX2_fewestMarks_3 rfl hl (by decide) rfl (fun ls hl => ?_)
  exact l4 N σ (-1 : Int32) (0 : Int32) _ _ _ hf hJ (lv_sub hl [2, 1, 0] rfl)
set_option maxHeartbeats 4000000 in
set_option maxRecDepth 100000 in
theorem cC_split {l : Launch} {D : va_G} {cA cB : ClassId} {q : Nat → Nat} {x : Nat → Nat} {N : Nat} {σ σ' : St} {r : Int32} (hF : Fr (wC q cA cB) (aC q) (eC q x)) (hf : fC_split N σ  = some (σ', r)) : MI l yX11_split cX11_split 1 .int 3 D (tyC cA cB) (wC q cA cB) (aC q) (eC q x) [.ref (q 0)] σ σ' r := by
  refine MI_of (by decide) hF (Nat.le_of_ble_eq_true rfl) ?_
  intro p e s m args below meth c Q C hret hJ ls hl
  obtain ⟨hx, hb, hml, hown, hts, hK, hE, -⟩ := id C
  have hsb : ∀ z, (aC q) z → (aC q) z := fun _ h => h
  have hl : lv_has ls 1 [(0, .ref (q 0))] := hl
  unfold fC_split at hf
  refine lv_aload_n hx hb dX11_split_0 rfl (lv_at hl 0 rfl) ?_
  refine gC_0_3 C hJ fl_RX11_33 dX11_split_1 ?_
  obtain ⟨σ1, r2, hg3, hf⟩ := cal_some hf
  refine backI hsb hJ (runV (As := []) (rest := []) C hJ lk_RX11_289 (cC_K_fewestMarks hF hg3) recC_4 rfl rfl (Nat.le_of_ble_eq_true rfl) hl.1 (hR_of (by omega) (by decide)) ⟨Nat.le_refl _, Nat.le_refl _⟩ dX11_split_4) (fun H locs hJ => ?_)
  exact ret_I hret hJ hf rfl dX11_split_7
set_option maxHeartbeats 4000000 in
set_option maxRecDepth 100000 in
theorem cC_S_takeMenOf_6 {l : Launch} {D : va_G} {cA cB : ClassId} {q : Nat → Nat} {x : Nat → Nat} {N : Nat} {σ σ' : St} (hF : Fr (wC q cA cB) (aC q) (eC q x)) (hf : fC_S_takeMenOf_6 N σ  = some (σ', ())) : MV l yX8_takeMenOf cX8_takeMenOf 4 1 D (tyC cA cB) (wC q cA cB) (aC q) (eC q x) [.ref (q 6), .ref (q 7)] σ σ' := by
  refine MV_of (by decide) hF (Nat.le_of_ble_eq_true rfl) ?_
  intro p e s m args below meth c Q C hret hJ ls hl
  obtain ⟨hx, hb, hml, hown, hts, hK, hE, -⟩ := id C
  have hsb : ∀ z, (aC q) z → (aC q) z := fun _ h => h
  have l2 : ∀ (n : Nat) (σ : St) (a2 : Int32) (H : Heap) (locs : List Loc) (ls : Array Slot), fC_S_takeMenOf_6_l2 N  n σ a2 = some (σ', ()) → J D (wC q cA cB) (aC q) s σ H locs → lv_has ls 4 [(0, .ref (q 6)), (1, .ref (q 7)), (2, .int a2)] → W p l e (rmH 1) s m args below meth c H locs 0 0 Q (F0 m 2 ls []) := by
    intro n2
    induction n2 with
    | zero => intro σ a2 H locs ls hf; rw [fC_S_takeMenOf_6_l2] at hf; cases hf
    | succ n2 ih2 =>
      have j71 : ∀ (σ : St) (a2 : Int32) (H : Heap) (locs : List Loc) (ls : Array Slot), fC_S_takeMenOf_6_j71 N (fC_S_takeMenOf_6_l2 N  n2) σ a2 = some (σ', ()) → J D (wC q cA cB) (aC q) s σ H locs → lv_has ls 4 [(0, .ref (q 6)), (1, .ref (q 7)), (2, .int a2)] → W p l e (rmH 1) s m args below meth c H locs 0 0 Q (F0 m 71 ls []) := by
        intro σ a2 H locs ls hf hJ hl
        unfold fC_S_takeMenOf_6_j71 at hf
        obtain ⟨x1, hx1⟩ : ∃ z : Int32, z = a2 + (1 : Int32) := ⟨_, rfl⟩
        have hf := bnd_at hf hx1
        refine lv_iinc (v := x1) (lv' := [(2, .int x1), (0, .ref (q 6)), (1, .ref (q 7))]) hx hb dX8_takeMenOf_71 hl (k := 2) rfl (by rw [hx1]; rfl) (by decide) rfl (fun ls hl => ?_)
        refine lv_goto (tgt := 2) hx hb dX8_takeMenOf_74 (by decide) ?_
        exact ih2 σ x1 _ _ _ hf hJ (lv_sub hl [1, 2, 0] rfl)
      have l44 : ∀ (n : Nat) (σ : St) (a2 : Int32) (a3 : Int32) (H : Heap) (locs : List Loc) (ls : Array Slot), fC_S_takeMenOf_6_l44 N (fC_S_takeMenOf_6_l2 N  n2) n σ a2 a3 = some (σ', ()) → J D (wC q cA cB) (aC q) s σ H locs → lv_has ls 4 [(0, .ref (q 6)), (1, .ref (q 7)), (2, .int a2), (3, .int a3)] → W p l e (rmH 1) s m args below meth c H locs 0 0 Q (F0 m 44 ls []) := by
        intro n44
        induction n44 with
        | zero => intro σ a2 a3 H locs ls hf; rw [fC_S_takeMenOf_6_l44] at hf; cases hf
        | succ n44 ih44 =>
          intro σ a2 a3 H locs ls hf hJ hl
          rw [fC_S_takeMenOf_6_l44] at hf
          refine lv_iload_n hx hb dX8_takeMenOf_44 rfl (lv_at hl 3 rfl) ?_
          refine lv_iload_n hx hb dX8_takeMenOf_45 rfl (lv_at hl 2 rfl) ?_
          refine lv_iconst (v := 4) hx hb dX8_takeMenOf_46 (by decide) ?_
          refine lv_imul hx hb dX8_takeMenOf_47 ?_
          refine lv_iconst (v := 4) hx hb dX8_takeMenOf_48 (by decide) ?_
          refine lv_iadd hx hb dX8_takeMenOf_49 ?_
          refine lv_icmp_ge (tgt := 71) hx hb dX8_takeMenOf_50 (by decide) (fun c2 => ?_) (fun c2 => ?_)
          · have hf := ite_t hf c2
            exact j71 σ a2 _ _ _ hf hJ (lv_sub hl [0, 1, 2] rfl)
          · have hf := ite_f hf c2
            refine lv_aload_n hx hb dX8_takeMenOf_53 rfl (lv_at hl 0 rfl) ?_
            refine gC_6_3 C hJ fl_RX8_21 dX8_takeMenOf_54 ?_
            refine lv_iload_n hx hb dX8_takeMenOf_57 rfl (lv_at hl 3 rfl) ?_
            refine lv_aload_n hx hb dX8_takeMenOf_58 rfl (lv_at hl 1 rfl) ?_
            refine gC_7_3 C hJ fl_RX8_21 dX8_takeMenOf_59 ?_
            refine lv_iload_n hx hb dX8_takeMenOf_62 rfl (lv_at hl 3 rfl) ?_
            obtain ⟨h3, hf⟩ := gi_some hf
            refine aC_35 C hJ h3 dX8_takeMenOf_63 ?_
            obtain ⟨h4, hf⟩ := gi_some hf
            refine sC_31 C hJ h4 dX8_takeMenOf_64 (fun σ5 H locs hs hJ => ?_)
            have hf := bnd_at hf hs
            obtain ⟨x6, hx6⟩ : ∃ z : Int32, z = a3 + (1 : Int32) := ⟨_, rfl⟩
            have hf := bnd_at hf hx6
            refine lv_iinc (v := x6) (lv' := [(3, .int x6), (0, .ref (q 6)), (1, .ref (q 7)), (2, .int a2)]) hx hb dX8_takeMenOf_65 hl (k := 3) rfl (by rw [hx6]; rfl) (by decide) rfl (fun ls hl => ?_)
            refine lv_goto (tgt := 44) hx hb dX8_takeMenOf_68 (by decide) ?_
            exact ih44 σ5 a2 x6 _ _ _ hf hJ (lv_sub hl [1, 2, 3, 0] rfl)
      intro σ a2 H locs ls hf hJ hl
      rw [fC_S_takeMenOf_6_l2] at hf
      refine lv_iload_n hx hb dX8_takeMenOf_2 rfl (lv_at hl 2 rfl) ?_
      refine lv_aload_n hx hb dX8_takeMenOf_3 rfl (lv_at hl 1 rfl) ?_
      refine gC_7_4 C hJ fl_RX8_24 dX8_takeMenOf_4 ?_
      refine lv_icmp_ge (tgt := 77) hx hb dX8_takeMenOf_7 (by decide) (fun c7 => ?_) (fun c7 => ?_)
      · have hf := ite_t hf c7
        exact ret_V hret hJ hf dX8_takeMenOf_77
      · have hf := ite_f hf c7
        refine lv_iload_n hx hb dX8_takeMenOf_10 rfl (lv_at hl 2 rfl) ?_
        refine lv_bipush (v := 10) hx hb dX8_takeMenOf_11 (by decide) ?_
        refine lv_icmp_ge (tgt := 77) hx hb dX8_takeMenOf_13 (by decide) (fun c8 => ?_) (fun c8 => ?_)
        · have hf := ite_t hf c8
          exact ret_V hret hJ hf dX8_takeMenOf_77
        · have hf := ite_f hf c8
          refine lv_aload_n hx hb dX8_takeMenOf_16 rfl (lv_at hl 0 rfl) ?_
          refine gC_6_1 C hJ fl_RX8_15 dX8_takeMenOf_17 ?_
          refine lv_iload_n hx hb dX8_takeMenOf_20 rfl (lv_at hl 2 rfl) ?_
          refine lv_aload_n hx hb dX8_takeMenOf_21 rfl (lv_at hl 1 rfl) ?_
          refine gC_7_1 C hJ fl_RX8_15 dX8_takeMenOf_22 ?_
          refine lv_iload_n hx hb dX8_takeMenOf_25 rfl (lv_at hl 2 rfl) ?_
          obtain ⟨h9, hf⟩ := gi_some hf
          refine aC_33 C hJ h9 dX8_takeMenOf_26 ?_
          obtain ⟨h10, hf⟩ := gi_some hf
          refine sC_29 C hJ h10 dX8_takeMenOf_27 (fun σ11 H locs hs hJ => ?_)
          have hf := bnd_at hf hs
          refine lv_aload_n hx hb dX8_takeMenOf_28 rfl (lv_at hl 0 rfl) ?_
          refine gC_6_2 C hJ fl_RX8_18 dX8_takeMenOf_29 ?_
          refine lv_iload_n hx hb dX8_takeMenOf_32 rfl (lv_at hl 2 rfl) ?_
          refine lv_aload_n hx hb dX8_takeMenOf_33 rfl (lv_at hl 1 rfl) ?_
          refine gC_7_2 C hJ fl_RX8_18 dX8_takeMenOf_34 ?_
          refine lv_iload_n hx hb dX8_takeMenOf_37 rfl (lv_at hl 2 rfl) ?_
          obtain ⟨h12, hf⟩ := gi_some hf
          refine aC_34 C hJ h12 dX8_takeMenOf_38 ?_
          obtain ⟨h13, hf⟩ := gi_some hf
          refine sC_30 C hJ h13 dX8_takeMenOf_39 (fun σ14 H locs hs hJ => ?_)
          have hf := bnd_at hf hs
          refine lv_iload_n hx hb dX8_takeMenOf_40 rfl (lv_at hl 2 rfl) ?_
          refine lv_iconst (v := 4) hx hb dX8_takeMenOf_41 (by decide) ?_
          refine lv_imul hx hb dX8_takeMenOf_42 ?_
          refine lv_topi (fun x15 hx15 => ?_)
          have hf := bnd_at hf hx15
          refine lv_istore_n (lv' := [(3, .int x15), (0, .ref (q 6)), (1, .ref (q 7)), (2, .int a2)]) hx hb dX8_takeMenOf_43 rfl hl (by decide) rfl (fun ls hl => ?_)
          exact l44 N σ14 a2 x15 _ _ _ hf hJ (lv_sub hl [1, 2, 3, 0] rfl)
  have hl : lv_has ls 4 [(0, .ref (q 6)), (1, .ref (q 7))] := hl
  unfold fC_S_takeMenOf_6 at hf
  refine lv_iconst (v := 0) hx hb dX8_takeMenOf_0 (by decide) ?_
  refine lv_istore_n (lv' := [(2, .int (0 : Int32)), (0, .ref (q 6)), (1, .ref (q 7))]) hx hb dX8_takeMenOf_1 rfl hl (by decide) rfl (fun ls hl => ?_)
  exact l2 N σ (0 : Int32) _ _ _ hf hJ (lv_sub hl [1, 2, 0] rfl)
set_option maxHeartbeats 4000000 in
set_option maxRecDepth 100000 in
theorem cC_image {l : Launch} {D : va_G} {cA cB : ClassId} {q : Nat → Nat} {x : Nat → Nat} {N : Nat} {σ σ' : St} {r : Int32} (hF : Fr (wC q cA cB) (aC q) (eC q x)) (hf : fC_image N σ  = some (σ', r)) : MI l yX11_image cX11_image 1 .int 2 D (tyC cA cB) (wC q cA cB) (aC q) (eC q x) [.ref (q 0)] σ σ' r := by
  refine MI_of (by decide) hF (Nat.le_of_ble_eq_true rfl) ?_
  intro p e s m args below meth c Q C hret hJ ls hl
  obtain ⟨hx, hb, hml, hown, hts, hK, hE, -⟩ := id C
  have hsb : ∀ z, (aC q) z → (aC q) z := fun _ h => h
  have hl : lv_has ls 1 [(0, .ref (q 0))] := hl
  unfold fC_image at hf
  refine lv_aload_n hx hb dX11_image_0 rfl (lv_at hl 0 rfl) ?_
  refine gC_0_5 C hJ fl_RX11_47 dX11_image_1 ?_
  refine lv_aload_n hx hb dX11_image_4 rfl (lv_at hl 0 rfl) ?_
  refine gC_0_0 C hJ fl_RX11_12 dX11_image_5 ?_
  refine gC_1_0 C hJ fl_RX11_86 dX11_image_8 ?_
  refine gC_7_4 C hJ fl_RX11_292 dX11_image_11 ?_
  refine pC_6_4 C hJ fl_RX11_292 dX11_image_14 (fun σ1 H locs hs hJ => ?_)
  have hf := bnd_at hf hs
  refine lv_aload_n hx hb dX11_image_17 rfl (lv_at hl 0 rfl) ?_
  refine gC_0_5 C hJ fl_RX11_47 dX11_image_18 ?_
  refine lv_aload_n hx hb dX11_image_21 rfl (lv_at hl 0 rfl) ?_
  refine gC_0_0 C hJ fl_RX11_12 dX11_image_22 ?_
  refine gC_1_0 C hJ fl_RX11_86 dX11_image_25 ?_
  obtain ⟨σ2, r3, hg4, hf⟩ := cal_some hf
  refine backV hsb hJ (runV (As := [.ref (q 7)]) (rest := []) C hJ lk_RX11_293 (cC_S_takeMenOf_6 hF hg4) recC_6 rfl rfl (Nat.le_of_ble_eq_true rfl) hl.1 (hR_of (by omega) (by decide)) ⟨Nat.le_refl _, Nat.le_refl _⟩ dX11_image_28) (fun H locs hJ => ?_)
  refine lv_aload_n hx hb dX11_image_31 rfl (lv_at hl 0 rfl) ?_
  refine lv_aload_n hx hb dX11_image_32 rfl (lv_at hl 0 rfl) ?_
  refine gC_0_9 C hJ fl_RX11_129 dX11_image_33 ?_
  refine pC_0_6 C hJ fl_RX11_297 dX11_image_36 (fun σ5 H locs hs hJ => ?_)
  have hf := bnd_at hf hs
  refine lv_aload_n hx hb dX11_image_39 rfl (lv_at hl 0 rfl) ?_
  refine lv_aload_n hx hb dX11_image_40 rfl (lv_at hl 0 rfl) ?_
  refine gC_0_0 C hJ fl_RX11_12 dX11_image_41 ?_
  refine gC_1_3 C hJ fl_RX11_76 dX11_image_44 ?_
  refine gC_10_6 C hJ fl_RX11_178 dX11_image_47 ?_
  refine pC_0_7 C hJ fl_RX11_300 dX11_image_50 (fun σ6 H locs hs hJ => ?_)
  have hf := bnd_at hf hs
  refine lv_aload_n hx hb dX11_image_53 rfl (lv_at hl 0 rfl) ?_
  refine lv_iconst (v := 1) hx hb dX11_image_54 (by decide) ?_
  refine pC_0_8 C hJ (by decide) fl_RX11_303 dX11_image_55 (fun σ7 H locs hs hJ => ?_)
  have hf := bnd_at hf hs
  refine lv_aload_n hx hb dX11_image_58 rfl (lv_at hl 0 rfl) ?_
  refine gC_0_9 C hJ fl_RX11_129 dX11_image_59 ?_
  exact ret_I hret hJ hf rfl dX11_image_62
set_option maxHeartbeats 4000000 in
set_option maxRecDepth 100000 in
theorem cC_S_takeMenOf_7 {l : Launch} {D : va_G} {cA cB : ClassId} {q : Nat → Nat} {x : Nat → Nat} {N : Nat} {σ σ' : St} (hF : Fr (wC q cA cB) (aC q) (eC q x)) (hf : fC_S_takeMenOf_7 N σ  = some (σ', ())) : MV l yX8_takeMenOf cX8_takeMenOf 4 1 D (tyC cA cB) (wC q cA cB) (aC q) (eC q x) [.ref (q 7), .ref (q 6)] σ σ' := by
  refine MV_of (by decide) hF (Nat.le_of_ble_eq_true rfl) ?_
  intro p e s m args below meth c Q C hret hJ ls hl
  obtain ⟨hx, hb, hml, hown, hts, hK, hE, -⟩ := id C
  have hsb : ∀ z, (aC q) z → (aC q) z := fun _ h => h
  have l2 : ∀ (n : Nat) (σ : St) (a2 : Int32) (H : Heap) (locs : List Loc) (ls : Array Slot), fC_S_takeMenOf_7_l2 N  n σ a2 = some (σ', ()) → J D (wC q cA cB) (aC q) s σ H locs → lv_has ls 4 [(0, .ref (q 7)), (1, .ref (q 6)), (2, .int a2)] → W p l e (rmH 1) s m args below meth c H locs 0 0 Q (F0 m 2 ls []) := by
    intro n2
    induction n2 with
    | zero => intro σ a2 H locs ls hf; rw [fC_S_takeMenOf_7_l2] at hf; cases hf
    | succ n2 ih2 =>
      have j71 : ∀ (σ : St) (a2 : Int32) (H : Heap) (locs : List Loc) (ls : Array Slot), fC_S_takeMenOf_7_j71 N (fC_S_takeMenOf_7_l2 N  n2) σ a2 = some (σ', ()) → J D (wC q cA cB) (aC q) s σ H locs → lv_has ls 4 [(0, .ref (q 7)), (1, .ref (q 6)), (2, .int a2)] → W p l e (rmH 1) s m args below meth c H locs 0 0 Q (F0 m 71 ls []) := by
        intro σ a2 H locs ls hf hJ hl
        unfold fC_S_takeMenOf_7_j71 at hf
        obtain ⟨x1, hx1⟩ : ∃ z : Int32, z = a2 + (1 : Int32) := ⟨_, rfl⟩
        have hf := bnd_at hf hx1
        refine lv_iinc (v := x1) (lv' := [(2, .int x1), (0, .ref (q 7)), (1, .ref (q 6))]) hx hb dX8_takeMenOf_71 hl (k := 2) rfl (by rw [hx1]; rfl) (by decide) rfl (fun ls hl => ?_)
        refine lv_goto (tgt := 2) hx hb dX8_takeMenOf_74 (by decide) ?_
        exact ih2 σ x1 _ _ _ hf hJ (lv_sub hl [1, 2, 0] rfl)
      have l44 : ∀ (n : Nat) (σ : St) (a2 : Int32) (a3 : Int32) (H : Heap) (locs : List Loc) (ls : Array Slot), fC_S_takeMenOf_7_l44 N (fC_S_takeMenOf_7_l2 N  n2) n σ a2 a3 = some (σ', ()) → J D (wC q cA cB) (aC q) s σ H locs → lv_has ls 4 [(0, .ref (q 7)), (1, .ref (q 6)), (2, .int a2), (3, .int a3)] → W p l e (rmH 1) s m args below meth c H locs 0 0 Q (F0 m 44 ls []) := by
        intro n44
        induction n44 with
        | zero => intro σ a2 a3 H locs ls hf; rw [fC_S_takeMenOf_7_l44] at hf; cases hf
        | succ n44 ih44 =>
          intro σ a2 a3 H locs ls hf hJ hl
          rw [fC_S_takeMenOf_7_l44] at hf
          refine lv_iload_n hx hb dX8_takeMenOf_44 rfl (lv_at hl 3 rfl) ?_
          refine lv_iload_n hx hb dX8_takeMenOf_45 rfl (lv_at hl 2 rfl) ?_
          refine lv_iconst (v := 4) hx hb dX8_takeMenOf_46 (by decide) ?_
          refine lv_imul hx hb dX8_takeMenOf_47 ?_
          refine lv_iconst (v := 4) hx hb dX8_takeMenOf_48 (by decide) ?_
          refine lv_iadd hx hb dX8_takeMenOf_49 ?_
          refine lv_icmp_ge (tgt := 71) hx hb dX8_takeMenOf_50 (by decide) (fun c2 => ?_) (fun c2 => ?_)
          · have hf := ite_t hf c2
            exact j71 σ a2 _ _ _ hf hJ (lv_sub hl [0, 1, 2] rfl)
          · have hf := ite_f hf c2
            refine lv_aload_n hx hb dX8_takeMenOf_53 rfl (lv_at hl 0 rfl) ?_
            refine gC_7_3 C hJ fl_RX8_21 dX8_takeMenOf_54 ?_
            refine lv_iload_n hx hb dX8_takeMenOf_57 rfl (lv_at hl 3 rfl) ?_
            refine lv_aload_n hx hb dX8_takeMenOf_58 rfl (lv_at hl 1 rfl) ?_
            refine gC_6_3 C hJ fl_RX8_21 dX8_takeMenOf_59 ?_
            refine lv_iload_n hx hb dX8_takeMenOf_62 rfl (lv_at hl 3 rfl) ?_
            obtain ⟨h3, hf⟩ := gi_some hf
            refine aC_31 C hJ h3 dX8_takeMenOf_63 ?_
            obtain ⟨h4, hf⟩ := gi_some hf
            refine sC_35 C hJ h4 dX8_takeMenOf_64 (fun σ5 H locs hs hJ => ?_)
            have hf := bnd_at hf hs
            obtain ⟨x6, hx6⟩ : ∃ z : Int32, z = a3 + (1 : Int32) := ⟨_, rfl⟩
            have hf := bnd_at hf hx6
            refine lv_iinc (v := x6) (lv' := [(3, .int x6), (0, .ref (q 7)), (1, .ref (q 6)), (2, .int a2)]) hx hb dX8_takeMenOf_65 hl (k := 3) rfl (by rw [hx6]; rfl) (by decide) rfl (fun ls hl => ?_)
            refine lv_goto (tgt := 44) hx hb dX8_takeMenOf_68 (by decide) ?_
            exact ih44 σ5 a2 x6 _ _ _ hf hJ (lv_sub hl [1, 2, 3, 0] rfl)
      intro σ a2 H locs ls hf hJ hl
      rw [fC_S_takeMenOf_7_l2] at hf
      refine lv_iload_n hx hb dX8_takeMenOf_2 rfl (lv_at hl 2 rfl) ?_
      refine lv_aload_n hx hb dX8_takeMenOf_3 rfl (lv_at hl 1 rfl) ?_
      refine gC_6_4 C hJ fl_RX8_24 dX8_takeMenOf_4 ?_
      refine lv_icmp_ge (tgt := 77) hx hb dX8_takeMenOf_7 (by decide) (fun c7 => ?_) (fun c7 => ?_)
      · have hf := ite_t hf c7
        exact ret_V hret hJ hf dX8_takeMenOf_77
      · have hf := ite_f hf c7
        refine lv_iload_n hx hb dX8_takeMenOf_10 rfl (lv_at hl 2 rfl) ?_
        refine lv_bipush (v := 10) hx hb dX8_takeMenOf_11 (by decide) ?_
        refine lv_icmp_ge (tgt := 77) hx hb dX8_takeMenOf_13 (by decide) (fun c8 => ?_) (fun c8 => ?_)
        · have hf := ite_t hf c8
          exact ret_V hret hJ hf dX8_takeMenOf_77
        · have hf := ite_f hf c8
          refine lv_aload_n hx hb dX8_takeMenOf_16 rfl (lv_at hl 0 rfl) ?_
          refine gC_7_1 C hJ fl_RX8_15 dX8_takeMenOf_17 ?_
          refine lv_iload_n hx hb dX8_takeMenOf_20 rfl (lv_at hl 2 rfl) ?_
          refine lv_aload_n hx hb dX8_takeMenOf_21 rfl (lv_at hl 1 rfl) ?_
          refine gC_6_1 C hJ fl_RX8_15 dX8_takeMenOf_22 ?_
          refine lv_iload_n hx hb dX8_takeMenOf_25 rfl (lv_at hl 2 rfl) ?_
          obtain ⟨h9, hf⟩ := gi_some hf
          refine aC_29 C hJ h9 dX8_takeMenOf_26 ?_
          obtain ⟨h10, hf⟩ := gi_some hf
          refine sC_33 C hJ h10 dX8_takeMenOf_27 (fun σ11 H locs hs hJ => ?_)
          have hf := bnd_at hf hs
          refine lv_aload_n hx hb dX8_takeMenOf_28 rfl (lv_at hl 0 rfl) ?_
          refine gC_7_2 C hJ fl_RX8_18 dX8_takeMenOf_29 ?_
          refine lv_iload_n hx hb dX8_takeMenOf_32 rfl (lv_at hl 2 rfl) ?_
          refine lv_aload_n hx hb dX8_takeMenOf_33 rfl (lv_at hl 1 rfl) ?_
          refine gC_6_2 C hJ fl_RX8_18 dX8_takeMenOf_34 ?_
          refine lv_iload_n hx hb dX8_takeMenOf_37 rfl (lv_at hl 2 rfl) ?_
          obtain ⟨h12, hf⟩ := gi_some hf
          refine aC_30 C hJ h12 dX8_takeMenOf_38 ?_
          obtain ⟨h13, hf⟩ := gi_some hf
          refine sC_34 C hJ h13 dX8_takeMenOf_39 (fun σ14 H locs hs hJ => ?_)
          have hf := bnd_at hf hs
          refine lv_iload_n hx hb dX8_takeMenOf_40 rfl (lv_at hl 2 rfl) ?_
          refine lv_iconst (v := 4) hx hb dX8_takeMenOf_41 (by decide) ?_
          refine lv_imul hx hb dX8_takeMenOf_42 ?_
          refine lv_topi (fun x15 hx15 => ?_)
          have hf := bnd_at hf hx15
          refine lv_istore_n (lv' := [(3, .int x15), (0, .ref (q 7)), (1, .ref (q 6)), (2, .int a2)]) hx hb dX8_takeMenOf_43 rfl hl (by decide) rfl (fun ls hl => ?_)
          exact l44 N σ14 a2 x15 _ _ _ hf hJ (lv_sub hl [1, 2, 3, 0] rfl)
  have hl : lv_has ls 4 [(0, .ref (q 7)), (1, .ref (q 6))] := hl
  unfold fC_S_takeMenOf_7 at hf
  refine lv_iconst (v := 0) hx hb dX8_takeMenOf_0 (by decide) ?_
  refine lv_istore_n (lv' := [(2, .int (0 : Int32)), (0, .ref (q 7)), (1, .ref (q 6))]) hx hb dX8_takeMenOf_1 rfl hl (by decide) rfl (fun ls hl => ?_)
  exact l2 N σ (0 : Int32) _ _ _ hf hJ (lv_sub hl [1, 2, 0] rfl)
set_option maxHeartbeats 4000000 in
set_option maxRecDepth 100000 in
theorem cC_back {l : Launch} {D : va_G} {cA cB : ClassId} {q : Nat → Nat} {x : Nat → Nat} {N : Nat} {σ σ' : St} {r : Int32} (hF : Fr (wC q cA cB) (aC q) (eC q x)) (hf : fC_back N σ  = some (σ', r)) : MI l yX11_back cX11_back 1 .int 2 D (tyC cA cB) (wC q cA cB) (aC q) (eC q x) [.ref (q 0)] σ σ' r := by
  refine MI_of (by decide) hF (Nat.le_of_ble_eq_true rfl) ?_
  intro p e s m args below meth c Q C hret hJ ls hl
  obtain ⟨hx, hb, hml, hown, hts, hK, hE, -⟩ := id C
  have hsb : ∀ z, (aC q) z → (aC q) z := fun _ h => h
  have hl : lv_has ls 1 [(0, .ref (q 0))] := hl
  unfold fC_back at hf
  refine lv_aload_n hx hb dX11_back_0 rfl (lv_at hl 0 rfl) ?_
  refine gC_0_8 C hJ fl_RX11_303 dX11_back_1 ?_
  refine lv_if_ne (tgt := 10) hx hb dX11_back_4 (by decide) (fun c1 => ?_) (fun c1 => ?_)
  · have hf := ite_f hf c1
    refine lv_aload_n hx hb dX11_back_10 rfl (lv_at hl 0 rfl) ?_
    refine gC_0_0 C hJ fl_RX11_12 dX11_back_11 ?_
    refine gC_1_0 C hJ fl_RX11_86 dX11_back_14 ?_
    refine lv_aload_n hx hb dX11_back_17 rfl (lv_at hl 0 rfl) ?_
    refine gC_0_5 C hJ fl_RX11_47 dX11_back_18 ?_
    obtain ⟨σ2, r3, hg4, hf⟩ := cal_some hf
    refine backV hsb hJ (runV (As := [.ref (q 6)]) (rest := []) C hJ lk_RX11_293 (cC_S_takeMenOf_7 hF hg4) recC_7 rfl rfl (Nat.le_of_ble_eq_true rfl) hl.1 (hR_of (by omega) (by decide)) ⟨Nat.le_refl _, Nat.le_refl _⟩ dX11_back_21) (fun H locs hJ => ?_)
    refine lv_aload_n hx hb dX11_back_24 rfl (lv_at hl 0 rfl) ?_
    refine lv_aload_n hx hb dX11_back_25 rfl (lv_at hl 0 rfl) ?_
    refine gC_0_6 C hJ fl_RX11_297 dX11_back_26 ?_
    refine pC_0_9 C hJ fl_RX11_129 dX11_back_29 (fun σ5 H locs hs hJ => ?_)
    have hf := bnd_at hf hs
    refine lv_aload_n hx hb dX11_back_32 rfl (lv_at hl 0 rfl) ?_
    refine gC_0_0 C hJ fl_RX11_12 dX11_back_33 ?_
    refine gC_1_3 C hJ fl_RX11_76 dX11_back_36 ?_
    refine lv_aload_n hx hb dX11_back_39 rfl (lv_at hl 0 rfl) ?_
    refine gC_0_7 C hJ fl_RX11_300 dX11_back_40 ?_
    refine pC_10_6 C hJ fl_RX11_178 dX11_back_43 (fun σ6 H locs hs hJ => ?_)
    have hf := bnd_at hf hs
    refine lv_aload_n hx hb dX11_back_46 rfl (lv_at hl 0 rfl) ?_
    refine gC_0_9 C hJ fl_RX11_129 dX11_back_47 ?_
    exact ret_I hret hJ hf rfl dX11_back_50
  · have hf := ite_t hf c1
    refine lv_bipush (v := -3) hx hb dX11_back_7 (by decide) ?_
    exact ret_I hret hJ hf rfl dX11_back_9
set_option maxHeartbeats 4000000 in
set_option maxRecDepth 100000 in
theorem cC_count {l : Launch} {D : va_G} {cA cB : ClassId} {q : Nat → Nat} {x : Nat → Nat} {N : Nat} {σ σ' : St} {r : Int32} {a1 : Int32} (hF : Fr (wC q cA cB) (aC q) (eC q x)) (hf : fC_count N σ a1 = some (σ', r)) : MI l yX11_count cX11_count 2 .int 1 D (tyC cA cB) (wC q cA cB) (aC q) (eC q x) [.ref (q 0), .int a1] σ σ' r := by
  refine MI_of (by decide) hF (Nat.le_of_ble_eq_true rfl) ?_
  intro p e s m args below meth c Q C hret hJ ls hl
  obtain ⟨hx, hb, hml, hown, hts, hK, hE, -⟩ := id C
  have hsb : ∀ z, (aC q) z → (aC q) z := fun _ h => h
  have hl : lv_has ls 2 [(0, .ref (q 0)), (1, .int a1)] := hl
  unfold fC_count at hf
  refine lv_iload_n hx hb dX11_count_0 rfl (lv_at hl 1 rfl) ?_
  by_cases c1 : a1 = (0 : Int32)
  · have hf := ite_t hf c1
    refine lv_tableIn (off := 55) (tgt := 56) hx hb dX11_count_1 (by rw [c1]; decide) (by rw [c1]; decide) (by rw [c1]; rfl) (by decide) ?_
    refine lv_aload_n hx hb dX11_count_56 rfl (lv_at hl 0 rfl) ?_
    refine gC_0_0 C hJ fl_RX11_12 dX11_count_57 ?_
    refine gC_1_0 C hJ fl_RX11_86 dX11_count_60 ?_
    refine gC_7_4 C hJ fl_RX11_292 dX11_count_63 ?_
    exact ret_I hret hJ hf rfl dX11_count_66
  have hf := ite_f hf c1
  by_cases c2 : a1 = (1 : Int32)
  · have hf := ite_t hf c2
    refine lv_tableIn (off := 66) (tgt := 67) hx hb dX11_count_1 (by rw [c2]; decide) (by rw [c2]; decide) (by rw [c2]; rfl) (by decide) ?_
    refine lv_aload_n hx hb dX11_count_67 rfl (lv_at hl 0 rfl) ?_
    refine gC_0_0 C hJ fl_RX11_12 dX11_count_68 ?_
    refine gC_1_1 C hJ fl_RX11_149 dX11_count_71 ?_
    refine gC_8_3 C hJ fl_RX11_307 dX11_count_74 ?_
    exact ret_I hret hJ hf rfl dX11_count_77
  have hf := ite_f hf c2
  by_cases c3 : a1 = (2 : Int32)
  · have hf := ite_t hf c3
    refine lv_tableIn (off := 77) (tgt := 78) hx hb dX11_count_1 (by rw [c3]; decide) (by rw [c3]; decide) (by rw [c3]; rfl) (by decide) ?_
    refine lv_aload_n hx hb dX11_count_78 rfl (lv_at hl 0 rfl) ?_
    refine gC_0_0 C hJ fl_RX11_12 dX11_count_79 ?_
    refine gC_1_2 C hJ fl_RX11_165 dX11_count_82 ?_
    refine gC_9_2 C hJ fl_RX11_308 dX11_count_85 ?_
    exact ret_I hret hJ hf rfl dX11_count_88
  have hf := ite_f hf c3
  by_cases c4 : a1 = (3 : Int32)
  · have hf := ite_t hf c4
    refine lv_tableIn (off := 88) (tgt := 89) hx hb dX11_count_1 (by rw [c4]; decide) (by rw [c4]; decide) (by rw [c4]; rfl) (by decide) ?_
    refine lv_aload_n hx hb dX11_count_89 rfl (lv_at hl 0 rfl) ?_
    refine gC_0_0 C hJ fl_RX11_12 dX11_count_90 ?_
    refine gC_1_4 C hJ fl_RX11_189 dX11_count_93 ?_
    refine gC_11_7 C hJ fl_RX11_309 dX11_count_96 ?_
    exact ret_I hret hJ hf rfl dX11_count_99
  have hf := ite_f hf c4
  by_cases c5 : a1 = (4 : Int32)
  · have hf := ite_t hf c5
    refine lv_tableIn (off := 99) (tgt := 100) hx hb dX11_count_1 (by rw [c5]; decide) (by rw [c5]; decide) (by rw [c5]; rfl) (by decide) ?_
    refine lv_aload_n hx hb dX11_count_100 rfl (lv_at hl 0 rfl) ?_
    refine gC_0_2 C hJ fl_RX11_26 dX11_count_101 ?_
    refine gC_3_4 C hJ fl_RX11_310 dX11_count_104 ?_
    exact ret_I hret hJ hf rfl dX11_count_107
  have hf := ite_f hf c5
  by_cases c6 : a1 = (5 : Int32)
  · have hf := ite_t hf c6
    refine lv_tableIn (off := 107) (tgt := 108) hx hb dX11_count_1 (by rw [c6]; decide) (by rw [c6]; decide) (by rw [c6]; rfl) (by decide) ?_
    refine lv_aload_n hx hb dX11_count_108 rfl (lv_at hl 0 rfl) ?_
    refine gC_0_3 C hJ fl_RX11_33 dX11_count_109 ?_
    refine gC_4_3 C hJ fl_RX11_311 dX11_count_112 ?_
    exact ret_I hret hJ hf rfl dX11_count_115
  have hf := ite_f hf c6
  by_cases c7 : a1 = (6 : Int32)
  · have hf := ite_t hf c7
    refine lv_tableIn (off := 115) (tgt := 116) hx hb dX11_count_1 (by rw [c7]; decide) (by rw [c7]; decide) (by rw [c7]; rfl) (by decide) ?_
    refine lv_aload_n hx hb dX11_count_116 rfl (lv_at hl 0 rfl) ?_
    refine gC_0_0 C hJ fl_RX11_12 dX11_count_117 ?_
    refine gC_1_3 C hJ fl_RX11_76 dX11_count_120 ?_
    refine gC_10_5 C hJ fl_RX11_176 dX11_count_123 ?_
    exact ret_I hret hJ hf rfl dX11_count_126
  have hf := ite_f hf c7
  by_cases c8 : a1 = (7 : Int32)
  · have hf := ite_t hf c8
    refine lv_tableIn (off := 126) (tgt := 127) hx hb dX11_count_1 (by rw [c8]; decide) (by rw [c8]; decide) (by rw [c8]; rfl) (by decide) ?_
    refine lv_aload_n hx hb dX11_count_127 rfl (lv_at hl 0 rfl) ?_
    refine gC_0_1 C hJ fl_RX11_19 dX11_count_128 ?_
    refine gC_2_0 C hJ fl_RX11_59 dX11_count_131 ?_
    refine gC_12_1 C hJ fl_RX11_173 dX11_count_134 ?_
    exact ret_I hret hJ hf rfl dX11_count_137
  have hf := ite_f hf c8
  by_cases c9 : a1 = (8 : Int32)
  · have hf := ite_t hf c9
    refine lv_tableIn (off := 137) (tgt := 138) hx hb dX11_count_1 (by rw [c9]; decide) (by rw [c9]; decide) (by rw [c9]; rfl) (by decide) ?_
    refine lv_aload_n hx hb dX11_count_138 rfl (lv_at hl 0 rfl) ?_
    refine gC_0_0 C hJ fl_RX11_12 dX11_count_139 ?_
    refine gC_1_3 C hJ fl_RX11_76 dX11_count_142 ?_
    refine gC_10_6 C hJ fl_RX11_178 dX11_count_145 ?_
    exact ret_I hret hJ hf rfl dX11_count_148
  have hf := ite_f hf c9
  by_cases c10 : a1 = (9 : Int32)
  · have hf := ite_t hf c10
    refine lv_tableIn (off := 148) (tgt := 149) hx hb dX11_count_1 (by rw [c10]; decide) (by rw [c10]; decide) (by rw [c10]; rfl) (by decide) ?_
    refine lv_aload_n hx hb dX11_count_149 rfl (lv_at hl 0 rfl) ?_
    refine gC_0_9 C hJ fl_RX11_129 dX11_count_150 ?_
    exact ret_I hret hJ hf rfl dX11_count_153
  have hf := ite_f hf c10
  refine lv_tableOut (tgt := 154) hx hb dX11_count_1 (by have ec1 : a1.toInt ≠ 0 := fun h => c1 (Int32.toInt_inj.mp (h.trans (by decide))); have ec2 : a1.toInt ≠ 1 := fun h => c2 (Int32.toInt_inj.mp (h.trans (by decide))); have ec3 : a1.toInt ≠ 2 := fun h => c3 (Int32.toInt_inj.mp (h.trans (by decide))); have ec4 : a1.toInt ≠ 3 := fun h => c4 (Int32.toInt_inj.mp (h.trans (by decide))); have ec5 : a1.toInt ≠ 4 := fun h => c5 (Int32.toInt_inj.mp (h.trans (by decide))); have ec6 : a1.toInt ≠ 5 := fun h => c6 (Int32.toInt_inj.mp (h.trans (by decide))); have ec7 : a1.toInt ≠ 6 := fun h => c7 (Int32.toInt_inj.mp (h.trans (by decide))); have ec8 : a1.toInt ≠ 7 := fun h => c8 (Int32.toInt_inj.mp (h.trans (by decide))); have ec9 : a1.toInt ≠ 8 := fun h => c9 (Int32.toInt_inj.mp (h.trans (by decide))); have ec10 : a1.toInt ≠ 9 := fun h => c10 (Int32.toInt_inj.mp (h.trans (by decide))); omega) (by decide) ?_
  refine lv_bipush (v := -2) hx hb dX11_count_154 (by decide) ?_
  exact ret_I hret hJ hf rfl dX11_count_156
set_option maxHeartbeats 4000000 in
set_option maxRecDepth 100000 in
theorem cC_H_layOut {l : Launch} {D : va_G} {cA cB : ClassId} {q : Nat → Nat} {x : Nat → Nat} {N : Nat} {σ σ' : St} {a1 : Int32} {a2 : Int32} {a3 : Int32} (hF : Fr (wC q cA cB) (aC q) (eC q x)) (hf : fC_H_layOut N σ a1 a2 a3 = some (σ', ())) : MV l yX7_layOut cX7_layOut 5 1 D (tyC cA cB) (wC q cA cB) (aC q) (eC q x) [.ref (q 5), .int a1, .int a2, .int a3] σ σ' := by
  refine MV_of (by decide) hF (Nat.le_of_ble_eq_true rfl) ?_
  intro p e s m args below meth c Q C hret hJ ls hl
  obtain ⟨hx, hb, hml, hown, hts, hK, hE, -⟩ := id C
  have hsb : ∀ z, (aC q) z → (aC q) z := fun _ h => h
  have l17 : ∀ (n : Nat) (σ : St) (a1 : Int32) (a4 : Int32) (H : Heap) (locs : List Loc) (ls : Array Slot), fC_H_layOut_l17 N  n σ a1 a4 = some (σ', ()) → J D (wC q cA cB) (aC q) s σ H locs → lv_has ls 5 [(0, .ref (q 5)), (1, .int a1), (4, .int a4)] → W p l e (rmH 1) s m args below meth c H locs 0 0 Q (F0 m 17 ls []) := by
    intro n17
    induction n17 with
    | zero => intro σ a1 a4 H locs ls hf; rw [fC_H_layOut_l17] at hf; cases hf
    | succ n17 ih17 =>
      intro σ a1 a4 H locs ls hf hJ hl
      rw [fC_H_layOut_l17] at hf
      refine lv_iload hx hb dX7_layOut_17 (lv_at hl 2 rfl) ?_
      refine lv_bipush (v := 40) hx hb dX7_layOut_19 (by decide) ?_
      refine lv_icmp_ge (tgt := 43) hx hb dX7_layOut_21 (by decide) (fun c1 => ?_) (fun c1 => ?_)
      · have hf := ite_t hf c1
        exact ret_V hret hJ hf dX7_layOut_43
      · have hf := ite_f hf c1
        refine lv_aload_n hx hb dX7_layOut_24 rfl (lv_at hl 0 rfl) ?_
        refine gC_5_2 C hJ fl_RX7_18 dX7_layOut_25 ?_
        refine lv_iload_n hx hb dX7_layOut_28 rfl (lv_at hl 1 rfl) ?_
        refine lv_bipush (v := 40) hx hb dX7_layOut_29 (by decide) ?_
        refine lv_imul hx hb dX7_layOut_31 ?_
        refine lv_iload hx hb dX7_layOut_32 (lv_at hl 2 rfl) ?_
        refine lv_iadd hx hb dX7_layOut_34 ?_
        refine lv_iconst (v := 0) hx hb dX7_layOut_35 (by decide) ?_
        obtain ⟨h2, hf⟩ := gi_some hf
        refine sC_27 C hJ h2 dX7_layOut_36 (fun σ3 H locs hs hJ => ?_)
        have hf := bnd_at hf hs
        obtain ⟨x4, hx4⟩ : ∃ z : Int32, z = a4 + (1 : Int32) := ⟨_, rfl⟩
        have hf := bnd_at hf hx4
        refine lv_iinc (v := x4) (lv' := [(4, .int x4), (0, .ref (q 5)), (1, .int a1)]) hx hb dX7_layOut_37 hl (k := 2) rfl (by rw [hx4]; rfl) (by decide) rfl (fun ls hl => ?_)
        refine lv_goto (tgt := 17) hx hb dX7_layOut_40 (by decide) ?_
        exact ih17 σ3 a1 x4 _ _ _ hf hJ (lv_sub hl [1, 2, 0] rfl)
  have hl : lv_has ls 5 [(0, .ref (q 5)), (1, .int a1), (2, .int a2), (3, .int a3)] := hl
  unfold fC_H_layOut at hf
  refine lv_aload_n hx hb dX7_layOut_0 rfl (lv_at hl 0 rfl) ?_
  refine gC_5_0 C hJ fl_RX7_9 dX7_layOut_1 ?_
  refine lv_iload_n hx hb dX7_layOut_4 rfl (lv_at hl 1 rfl) ?_
  refine lv_iload_n hx hb dX7_layOut_5 rfl (lv_at hl 2 rfl) ?_
  obtain ⟨h5, hf⟩ := gi_some hf
  refine sC_25 C hJ h5 dX7_layOut_6 (fun σ6 H locs hs hJ => ?_)
  have hf := bnd_at hf hs
  refine lv_aload_n hx hb dX7_layOut_7 rfl (lv_at hl 0 rfl) ?_
  refine gC_5_1 C hJ fl_RX7_15 dX7_layOut_8 ?_
  refine lv_iload_n hx hb dX7_layOut_11 rfl (lv_at hl 1 rfl) ?_
  refine lv_iload_n hx hb dX7_layOut_12 rfl (lv_at hl 3 rfl) ?_
  obtain ⟨h7, hf⟩ := gi_some hf
  refine sC_26 C hJ h7 dX7_layOut_13 (fun σ8 H locs hs hJ => ?_)
  have hf := bnd_at hf hs
  refine lv_iconst (v := 0) hx hb dX7_layOut_14 (by decide) ?_
  refine lv_istore (lv' := [(4, .int (0 : Int32)), (0, .ref (q 5)), (1, .int a1), (2, .int a2), (3, .int a3)]) hx hb dX7_layOut_15 hl (by decide) rfl (fun ls hl => ?_)
  exact l17 N σ8 a1 (0 : Int32) _ _ _ hf hJ (lv_sub hl [1, 2, 0] rfl)
set_option maxHeartbeats 4000000 in
set_option maxRecDepth 100000 in
theorem cC_sheet {l : Launch} {D : va_G} {cA cB : ClassId} {q : Nat → Nat} {x : Nat → Nat} {N : Nat} {σ σ' : St} {r : Int32} {a1 : Int32} {a2 : Int32} {a3 : Int32} (hF : Fr (wC q cA cB) (aC q) (eC q x)) (hf : fC_sheet N σ a1 a2 a3 = some (σ', r)) : MI l yX11_sheet cX11_sheet 4 .int 3 D (tyC cA cB) (wC q cA cB) (aC q) (eC q x) [.ref (q 0), .int a1, .int a2, .int a3] σ σ' r := by
  refine MI_of (by decide) hF (Nat.le_of_ble_eq_true rfl) ?_
  intro p e s m args below meth c Q C hret hJ ls hl
  obtain ⟨hx, hb, hml, hown, hts, hK, hE, -⟩ := id C
  have hsb : ∀ z, (aC q) z → (aC q) z := fun _ h => h
  have hl : lv_has ls 4 [(0, .ref (q 0)), (1, .int a1), (2, .int a2), (3, .int a3)] := hl
  unfold fC_sheet at hf
  refine lv_iload_n hx hb dX11_sheet_0 rfl (lv_at hl 1 rfl) ?_
  obtain ⟨σ1, r2, hg3, hf⟩ := cal_some hf
  refine backI hsb hJ (runS (As := [.int a1]) (rest := []) C hJ lk_RX11_233 (cC_isSheet hF hg3) rfl rfl (Nat.le_of_ble_eq_true rfl) hl.1 (hR_of (by omega) (by decide)) ⟨Nat.le_refl _, Nat.le_refl _⟩ dX11_sheet_1) (fun H locs hJ => ?_)
  refine lv_if_eq (tgt := 16) hx hb dX11_sheet_4 (by decide) (fun c4 => ?_) (fun c4 => ?_)
  · have hf := ite_t hf c4
    refine lv_bipush (v := -2) hx hb dX11_sheet_16 (by decide) ?_
    exact ret_I hret hJ hf rfl dX11_sheet_18
  · have hf := ite_f hf c4
    refine lv_iload_n hx hb dX11_sheet_7 rfl (lv_at hl 2 rfl) ?_
    refine lv_iconst (v := -1) hx hb dX11_sheet_8 (by decide) ?_
    refine lv_iconst (v := 2) hx hb dX11_sheet_9 (by decide) ?_
    obtain ⟨σ5, r6, hg7, hf⟩ := cal_some hf
    refine backI hsb hJ (runS (As := [.int a2, .int (-1 : Int32), .int (2 : Int32)]) (rest := []) C hJ lk_RX11_100 (cC_isWithin hF hg7) rfl rfl (Nat.le_of_ble_eq_true rfl) hl.1 (hR_of (by omega) (by decide)) ⟨Nat.le_refl _, Nat.le_refl _⟩ dX11_sheet_10) (fun H locs hJ => ?_)
    refine lv_if_ne (tgt := 19) hx hb dX11_sheet_13 (by decide) (fun c8 => ?_) (fun c8 => ?_)
    · have hf := ite_f hf c8
      refine lv_iload_n hx hb dX11_sheet_19 rfl (lv_at hl 2 rfl) ?_
      refine lv_iconst (v := -1) hx hb dX11_sheet_20 (by decide) ?_
      refine lv_icmp_ne (tgt := 36) hx hb dX11_sheet_21 (by decide) (fun c9 => ?_) (fun c9 => ?_)
      · have hf := ite_f hf c9
        refine lv_iload_n hx hb dX11_sheet_36 rfl (lv_at hl 3 rfl) ?_
        refine lv_bipush (v := 40) hx hb dX11_sheet_37 (by decide) ?_
        refine lv_icmp_le (tgt := 45) hx hb dX11_sheet_39 (by decide) (fun c10 => ?_) (fun c10 => ?_)
        · have hf := ite_t hf c10
          refine lv_iload_n hx hb dX11_sheet_45 rfl (lv_at hl 3 rfl) ?_
          refine lv_if_ge (tgt := 52) hx hb dX11_sheet_46 (by decide) (fun c11 => ?_) (fun c11 => ?_)
          · have hf := ite_t hf c11
            refine lv_aload_n hx hb dX11_sheet_52 rfl (lv_at hl 0 rfl) ?_
            refine gC_0_4 C hJ fl_RX11_40 dX11_sheet_53 ?_
            refine lv_iload_n hx hb dX11_sheet_56 rfl (lv_at hl 1 rfl) ?_
            refine lv_iload_n hx hb dX11_sheet_57 rfl (lv_at hl 2 rfl) ?_
            refine lv_iload_n hx hb dX11_sheet_58 rfl (lv_at hl 3 rfl) ?_
            obtain ⟨σ12, r13, hg14, hf⟩ := cal_some hf
            refine backV hsb hJ (runV (As := [.int a1, .int a2, .int a3]) (rest := []) C hJ lk_RX11_312 (cC_H_layOut hF hg14) recC_5 rfl rfl (Nat.le_of_ble_eq_true rfl) hl.1 (hR_of (by omega) (by decide)) ⟨Nat.le_refl _, Nat.le_refl _⟩ dX11_sheet_59) (fun H locs hJ => ?_)
            refine lv_iconst (v := 1) hx hb dX11_sheet_62 (by decide) ?_
            exact ret_I hret hJ hf rfl dX11_sheet_63
          · have hf := ite_f hf c11
            refine lv_bipush (v := -14) hx hb dX11_sheet_49 (by decide) ?_
            exact ret_I hret hJ hf rfl dX11_sheet_51
        · have hf := ite_f hf c10
          refine lv_bipush (v := -2) hx hb dX11_sheet_42 (by decide) ?_
          exact ret_I hret hJ hf rfl dX11_sheet_44
      · have hf := ite_t hf c9
        refine lv_aload_n hx hb dX11_sheet_24 rfl (lv_at hl 0 rfl) ?_
        refine gC_0_4 C hJ fl_RX11_40 dX11_sheet_25 ?_
        refine lv_iload_n hx hb dX11_sheet_28 rfl (lv_at hl 1 rfl) ?_
        refine lv_iconst (v := -1) hx hb dX11_sheet_29 (by decide) ?_
        refine lv_iconst (v := 0) hx hb dX11_sheet_30 (by decide) ?_
        obtain ⟨σ15, r16, hg17, hf⟩ := cal_some hf
        refine backV hsb hJ (runV (As := [.int a1, .int (-1 : Int32), .int (0 : Int32)]) (rest := []) C hJ lk_RX11_312 (cC_H_layOut hF hg17) recC_5 rfl rfl (Nat.le_of_ble_eq_true rfl) hl.1 (hR_of (by omega) (by decide)) ⟨Nat.le_refl _, Nat.le_refl _⟩ dX11_sheet_31) (fun H locs hJ => ?_)
        refine lv_iconst (v := 1) hx hb dX11_sheet_34 (by decide) ?_
        exact ret_I hret hJ hf rfl dX11_sheet_35
    · have hf := ite_t hf c8
      refine lv_bipush (v := -2) hx hb dX11_sheet_16 (by decide) ?_
      exact ret_I hret hJ hf rfl dX11_sheet_18
set_option maxHeartbeats 4000000 in
set_option maxRecDepth 100000 in
theorem cC_H_put {l : Launch} {D : va_G} {cA cB : ClassId} {q : Nat → Nat} {x : Nat → Nat} {N : Nat} {σ σ' : St} {a1 : Int32} {a2 : Int32} {a3 : Int32} (hF : Fr (wC q cA cB) (aC q) (eC q x)) (hf : fC_H_put N σ a1 a2 a3 = some (σ', ())) : MV l yX7_put cX7_put 5 1 D (tyC cA cB) (wC q cA cB) (aC q) (eC q x) [.ref (q 5), .int a1, .int a2, .int a3] σ σ' := by
  refine MV_of (by decide) hF (Nat.le_of_ble_eq_true rfl) ?_
  intro p e s m args below meth c Q C hret hJ ls hl
  obtain ⟨hx, hb, hml, hown, hts, hK, hE, -⟩ := id C
  have hsb : ∀ z, (aC q) z → (aC q) z := fun _ h => h
  have j33 : ∀ (σ : St) (a1 : Int32) (a2 : Int32) (a4 : Int32) (H : Heap) (locs : List Loc) (ls : Array Slot), fC_H_put_j33 N  σ a1 a2 a4 = some (σ', ()) → J D (wC q cA cB) (aC q) s σ H locs → lv_has ls 5 [(0, .ref (q 5)), (1, .int a1), (2, .int a2), (4, .int a4)] → W p l e (rmH 1) s m args below meth c H locs 0 0 Q (F0 m 33 ls []) := by
    intro σ a1 a2 a4 H locs ls hf hJ hl
    unfold fC_H_put_j33 at hf
    refine lv_aload_n hx hb dX7_put_33 rfl (lv_at hl 0 rfl) ?_
    refine gC_5_2 C hJ fl_RX7_18 dX7_put_34 ?_
    refine lv_iload_n hx hb dX7_put_37 rfl (lv_at hl 1 rfl) ?_
    refine lv_bipush (v := 40) hx hb dX7_put_38 (by decide) ?_
    refine lv_imul hx hb dX7_put_40 ?_
    refine lv_iload_n hx hb dX7_put_41 rfl (lv_at hl 2 rfl) ?_
    refine lv_iadd hx hb dX7_put_42 ?_
    refine lv_iload hx hb dX7_put_43 (lv_at hl 3 rfl) ?_
    obtain ⟨h1, hf⟩ := gi_some hf
    refine sC_27 C hJ h1 dX7_put_45 (fun σ2 H locs hs hJ => ?_)
    have hf := bnd_at hf hs
    exact ret_V hret hJ hf dX7_put_46
  have hl : lv_has ls 5 [(0, .ref (q 5)), (1, .int a1), (2, .int a2), (3, .int a3)] := hl
  unfold fC_H_put at hf
  refine lv_iload_n hx hb dX7_put_0 rfl (lv_at hl 3 rfl) ?_
  refine lv_istore (lv' := [(4, .int a3), (0, .ref (q 5)), (1, .int a1), (2, .int a2), (3, .int a3)]) hx hb dX7_put_1 hl (by decide) rfl (fun ls hl => ?_)
  refine lv_aload_n hx hb dX7_put_3 rfl (lv_at hl 1 rfl) ?_
  refine gC_5_0 C hJ fl_RX7_9 dX7_put_4 ?_
  refine lv_iload_n hx hb dX7_put_7 rfl (lv_at hl 2 rfl) ?_
  obtain ⟨h3, hf⟩ := gi_some hf
  refine aC_25 C hJ h3 dX7_put_8 ?_
  refine lv_if_ne (tgt := 19) hx hb dX7_put_9 (by decide) (fun c4 => ?_) (fun c4 => ?_)
  · have hf := ite_f hf c4
    refine lv_aload_n hx hb dX7_put_19 rfl (lv_at hl 1 rfl) ?_
    refine gC_5_0 C hJ fl_RX7_9 dX7_put_20 ?_
    refine lv_iload_n hx hb dX7_put_23 rfl (lv_at hl 2 rfl) ?_
    obtain ⟨h5, hf⟩ := gi_some hf
    refine aC_25 C hJ h5 dX7_put_24 ?_
    refine lv_iconst (v := 1) hx hb dX7_put_25 (by decide) ?_
    refine lv_icmp_ne (tgt := 33) hx hb dX7_put_26 (by decide) (fun c6 => ?_) (fun c6 => ?_)
    · have hf := ite_f hf c6
      exact j33 σ a1 a2 a3 _ _ _ hf hJ (lv_sub hl [1, 2, 3, 0] rfl)
    · have hf := ite_t hf c6
      refine lv_iload_n hx hb dX7_put_29 rfl (lv_at hl 4 rfl) ?_
      refine lv_i2s (v := a3.toInt16.toInt32) hx hb dX7_put_30 rfl ?_
      refine lv_topi (fun x7 hx7 => ?_)
      have hf := bnd_at hf hx7
      refine lv_istore (lv' := [(4, .int x7), (0, .ref (q 5)), (1, .int a1), (2, .int a2), (3, .int a3)]) hx hb dX7_put_31 hl (by decide) rfl (fun ls hl => ?_)
      exact j33 σ a1 a2 x7 _ _ _ hf hJ (lv_sub hl [1, 2, 3, 0] rfl)
  · have hf := ite_t hf c4
    refine lv_iload_n hx hb dX7_put_12 rfl (lv_at hl 4 rfl) ?_
    refine lv_i2b (v := a3.toInt8.toInt32) hx hb dX7_put_13 rfl ?_
    refine lv_topi (fun x8 hx8 => ?_)
    have hf := bnd_at hf hx8
    refine lv_istore (lv' := [(4, .int x8), (0, .ref (q 5)), (1, .int a1), (2, .int a2), (3, .int a3)]) hx hb dX7_put_14 hl (by decide) rfl (fun ls hl => ?_)
    refine lv_goto (tgt := 33) hx hb dX7_put_16 (by decide) ?_
    exact j33 σ a1 a2 x8 _ _ _ hf hJ (lv_sub hl [1, 2, 3, 0] rfl)
set_option maxHeartbeats 4000000 in
set_option maxRecDepth 100000 in
theorem cC_cell {l : Launch} {D : va_G} {cA cB : ClassId} {q : Nat → Nat} {x : Nat → Nat} {N : Nat} {σ σ' : St} {r : Int32} {a1 : Int32} {a2 : Int32} {a3 : Int32} (hF : Fr (wC q cA cB) (aC q) (eC q x)) (hf : fC_cell N σ a1 a2 a3 = some (σ', r)) : MI l yX11_cell cX11_cell 4 .int 3 D (tyC cA cB) (wC q cA cB) (aC q) (eC q x) [.ref (q 0), .int a1, .int a2, .int a3] σ σ' r := by
  refine MI_of (by decide) hF (Nat.le_of_ble_eq_true rfl) ?_
  intro p e s m args below meth c Q C hret hJ ls hl
  obtain ⟨hx, hb, hml, hown, hts, hK, hE, -⟩ := id C
  have hsb : ∀ z, (aC q) z → (aC q) z := fun _ h => h
  have hl : lv_has ls 4 [(0, .ref (q 0)), (1, .int a1), (2, .int a2), (3, .int a3)] := hl
  unfold fC_cell at hf
  refine lv_iload_n hx hb dX11_cell_0 rfl (lv_at hl 1 rfl) ?_
  obtain ⟨σ1, r2, hg3, hf⟩ := cal_some hf
  refine backI hsb hJ (runS (As := [.int a1]) (rest := []) C hJ lk_RX11_233 (cC_isSheet hF hg3) rfl rfl (Nat.le_of_ble_eq_true rfl) hl.1 (hR_of (by omega) (by decide)) ⟨Nat.le_refl _, Nat.le_refl _⟩ dX11_cell_1) (fun H locs hJ => ?_)
  refine lv_if_ne (tgt := 10) hx hb dX11_cell_4 (by decide) (fun c4 => ?_) (fun c4 => ?_)
  · have hf := ite_f hf c4
    refine lv_aload_n hx hb dX11_cell_10 rfl (lv_at hl 0 rfl) ?_
    refine gC_0_4 C hJ fl_RX11_40 dX11_cell_11 ?_
    refine lv_iload_n hx hb dX11_cell_14 rfl (lv_at hl 1 rfl) ?_
    obtain ⟨σ5, r6, hg7, hf⟩ := cal_some hf
    refine backI hsb hJ (runV (As := [.int a1]) (rest := []) C hJ lk_RX11_315 (cC_H_isMissing hF hg7) recC_5 rfl rfl (Nat.le_of_ble_eq_true rfl) hl.1 (hR_of (by omega) (by decide)) ⟨Nat.le_refl _, Nat.le_refl _⟩ dX11_cell_15) (fun H locs hJ => ?_)
    refine lv_if_eq (tgt := 24) hx hb dX11_cell_18 (by decide) (fun c8 => ?_) (fun c8 => ?_)
    · have hf := ite_t hf c8
      refine lv_aload_n hx hb dX11_cell_24 rfl (lv_at hl 0 rfl) ?_
      refine gC_0_4 C hJ fl_RX11_40 dX11_cell_25 ?_
      refine lv_iload_n hx hb dX11_cell_28 rfl (lv_at hl 1 rfl) ?_
      refine lv_iload_n hx hb dX11_cell_29 rfl (lv_at hl 2 rfl) ?_
      obtain ⟨σ9, r10, hg11, hf⟩ := cal_some hf
      refine backI hsb hJ (runV (As := [.int a1, .int a2]) (rest := []) C hJ lk_RX11_242 (cC_H_has hF hg11) recC_5 rfl rfl (Nat.le_of_ble_eq_true rfl) hl.1 (hR_of (by omega) (by decide)) ⟨Nat.le_refl _, Nat.le_refl _⟩ dX11_cell_30) (fun H locs hJ => ?_)
      refine lv_if_ne (tgt := 39) hx hb dX11_cell_33 (by decide) (fun c12 => ?_) (fun c12 => ?_)
      · have hf := ite_f hf c12
        refine lv_aload_n hx hb dX11_cell_39 rfl (lv_at hl 0 rfl) ?_
        refine gC_0_4 C hJ fl_RX11_40 dX11_cell_40 ?_
        refine lv_iload_n hx hb dX11_cell_43 rfl (lv_at hl 1 rfl) ?_
        refine lv_iload_n hx hb dX11_cell_44 rfl (lv_at hl 2 rfl) ?_
        refine lv_iload_n hx hb dX11_cell_45 rfl (lv_at hl 3 rfl) ?_
        obtain ⟨σ13, r14, hg15, hf⟩ := cal_some hf
        refine backV hsb hJ (runV (As := [.int a1, .int a2, .int a3]) (rest := []) C hJ lk_RX11_318 (cC_H_put hF hg15) recC_5 rfl rfl (Nat.le_of_ble_eq_true rfl) hl.1 (hR_of (by omega) (by decide)) ⟨Nat.le_refl _, Nat.le_refl _⟩ dX11_cell_46) (fun H locs hJ => ?_)
        refine lv_iconst (v := 1) hx hb dX11_cell_49 (by decide) ?_
        exact ret_I hret hJ hf rfl dX11_cell_50
      · have hf := ite_t hf c12
        refine lv_bipush (v := -12) hx hb dX11_cell_36 (by decide) ?_
        exact ret_I hret hJ hf rfl dX11_cell_38
    · have hf := ite_f hf c8
      refine lv_bipush (v := -11) hx hb dX11_cell_21 (by decide) ?_
      exact ret_I hret hJ hf rfl dX11_cell_23
  · have hf := ite_t hf c4
    refine lv_bipush (v := -2) hx hb dX11_cell_7 (by decide) ?_
    exact ret_I hret hJ hf rfl dX11_cell_9
