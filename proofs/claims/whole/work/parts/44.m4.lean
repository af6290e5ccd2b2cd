set_option maxHeartbeats 4000000 in
set_option maxRecDepth 100000 in
theorem cM_all {l : Launch} {D : va_G} {cA cB : ClassId} {q : Nat → Nat} {A : Nat → Prop} {E : State → Prop} {N : Nat} {σ σ' : St} {r : Int32} (hF : Fr (wM q cA cB) A E) (hf : fM_all N σ  = some (σ', r)) : MI l yX12_all cX12_all 1 .int 1 D (tyM cA cB) (wM q cA cB) A E [.ref (q 0)] σ σ' r := by
  refine MI_of (by decide) hF (Nat.le_of_ble_eq_true rfl) ?_
  intro p e s m args below meth c Q C hret hJ ls hl
  obtain ⟨hx, hb, hml, hown, hts, hK, hE, -⟩ := id C
  have hsb : ∀ z, A z → A z := fun _ h => h
  have hl : lv_has ls 1 [(0, .ref (q 0))] := hl
  unfold fM_all at hf
  refine lv_iconst (v := 1) hx hb dX12_all_0 (by decide) ?_
  refine lv_aload_n hx hb dX12_all_1 rfl (lv_at hl 0 rfl) ?_
  refine gM_0_41 C hJ fl_RX12_363 dX12_all_2 ?_
  refine lv_ishl hx hb dX12_all_5 ?_
  refine lv_iconst (v := 1) hx hb dX12_all_6 (by decide) ?_
  refine lv_isub hx hb dX12_all_7 ?_
  exact ret_I hret hJ hf rfl dX12_all_8
set_option maxHeartbeats 4000000 in
set_option maxRecDepth 100000 in
theorem cM_offsides {l : Launch} {D : va_G} {cA cB : ClassId} {q : Nat → Nat} {A : Nat → Prop} {E : State → Prop} {N : Nat} {σ σ' : St} {r : Int32} {a1 : Int32} (hF : Fr (wM q cA cB) A E) (hf : fM_offsides N σ a1 = some (σ', r)) : MI l yX12_offsides cX12_offsides 4 .int 57 D (tyM cA cB) (wM q cA cB) A E [.ref (q 0), .int a1] σ σ' r := by
  refine MI_of (by decide) hF (Nat.le_of_ble_eq_true rfl) ?_
  intro p e s m args below meth c Q C hret hJ ls hl
  obtain ⟨hx, hb, hml, hown, hts, hK, hE, -⟩ := id C
  have hsb : ∀ z, A z → A z := fun _ h => h
  have l4 : ∀ (n : Nat) (σ : St) (a1 : Int32) (a2 : Int32) (a3 : Int32) (H : Heap) (locs : List Loc) (ls : Array Slot), fM_offsides_l4 N  n σ a1 a2 a3 = some (σ', r) → J D (wM q cA cB) A s σ H locs → lv_has ls 4 [(0, .ref (q 0)), (1, .int a1), (2, .int a2), (3, .int a3)] → W p l e (rmH 57) s m args below meth c H locs 0 0 Q (F0 m 4 ls []) := by
    intro n4
    induction n4 with
    | zero => intro σ a1 a2 a3 H locs ls hf; rw [fM_offsides_l4] at hf; cases hf
    | succ n4 ih4 =>
      have j43 : ∀ (σ : St) (a1 : Int32) (a3 : Int32) (t0 : Int32) (t1 : Int32) (H : Heap) (locs : List Loc) (ls : Array Slot), fM_offsides_j43 N (fM_offsides_l4 N  n4) σ a1 a3 t0 t1 = some (σ', r) → J D (wM q cA cB) A s σ H locs → lv_has ls 4 [(0, .ref (q 0)), (1, .int a1), (3, .int a3)] → W p l e (rmH 57) s m args below meth c H locs 0 0 Q (F0 m 43 ls [.int t1, .int t0]) := by
        intro σ a1 a3 t0 t1 H locs ls hf hJ hl
        unfold fM_offsides_j43 at hf
        refine lv_ior hx hb dX12_offsides_43 ?_
        refine lv_topi (fun x1 hx1 => ?_)
        have hf := bnd_at hf hx1
        refine lv_istore_n (lv' := [(2, .int x1), (0, .ref (q 0)), (1, .int a1), (3, .int a3)]) hx hb dX12_offsides_44 rfl hl (by decide) rfl (fun ls hl => ?_)
        obtain ⟨x2, hx2⟩ : ∃ z : Int32, z = a3 + (1 : Int32) := ⟨_, rfl⟩
        have hf := bnd_at hf hx2
        refine lv_iinc (v := x2) (lv' := [(3, .int x2), (2, .int x1), (0, .ref (q 0)), (1, .int a1)]) hx hb dX12_offsides_45 hl (k := 3) rfl (by rw [hx2]; rfl) (by decide) rfl (fun ls hl => ?_)
        refine lv_goto (tgt := 4) hx hb dX12_offsides_48 (by decide) ?_
        exact ih4 σ a1 x1 x2 _ _ _ hf hJ (lv_sub hl [2, 3, 1, 0] rfl)
      have j42 : ∀ (σ : St) (a1 : Int32) (a3 : Int32) (t0 : Int32) (H : Heap) (locs : List Loc) (ls : Array Slot), fM_offsides_j42 N (fM_offsides_l4 N  n4) σ a1 a3 t0 = some (σ', r) → J D (wM q cA cB) A s σ H locs → lv_has ls 4 [(0, .ref (q 0)), (1, .int a1), (3, .int a3)] → W p l e (rmH 57) s m args below meth c H locs 0 0 Q (F0 m 42 ls [.int t0]) := by
        intro σ a1 a3 t0 H locs ls hf hJ hl
        unfold fM_offsides_j42 at hf
        refine lv_iconst (v := 0) hx hb dX12_offsides_42 (by decide) ?_
        exact j43 σ a1 a3 t0 (0 : Int32) _ _ _ hf hJ (lv_sub hl [0, 1, 2] rfl)
      intro σ a1 a2 a3 H locs ls hf hJ hl
      rw [fM_offsides_l4] at hf
      refine lv_iload_n hx hb dX12_offsides_4 rfl (lv_at hl 3 rfl) ?_
      refine lv_aload_n hx hb dX12_offsides_5 rfl (lv_at hl 0 rfl) ?_
      refine gM_0_41 C hJ fl_RX12_363 dX12_offsides_6 ?_
      refine lv_icmp_ge (tgt := 51) hx hb dX12_offsides_9 (by decide) (fun c3 => ?_) (fun c3 => ?_)
      · have hf := ite_t hf c3
        refine lv_iload_n hx hb dX12_offsides_51 rfl (lv_at hl 2 rfl) ?_
        exact ret_I hret hJ hf rfl dX12_offsides_52
      · have hf := ite_f hf c3
        refine lv_iload_n hx hb dX12_offsides_12 rfl (lv_at hl 2 rfl) ?_
        refine lv_iload_n hx hb dX12_offsides_13 rfl (lv_at hl 1 rfl) ?_
        refine lv_iload_n hx hb dX12_offsides_14 rfl (lv_at hl 3 rfl) ?_
        refine lv_ishr hx hb dX12_offsides_15 ?_
        refine lv_iconst (v := 1) hx hb dX12_offsides_16 (by decide) ?_
        refine lv_iand hx hb dX12_offsides_17 ?_
        refine lv_iconst (v := 1) hx hb dX12_offsides_18 (by decide) ?_
        refine lv_icmp_ne (tgt := 42) hx hb dX12_offsides_19 (by decide) (fun c4 => ?_) (fun c4 => ?_)
        · have hf := ite_f hf c4
          exact j42 σ a1 a3 a2 _ _ _ hf hJ (lv_sub hl [0, 1, 3] rfl)
        · have hf := ite_t hf c4
          refine lv_aload_n hx hb dX12_offsides_22 rfl (lv_at hl 0 rfl) ?_
          refine lv_iload_n hx hb dX12_offsides_23 rfl (lv_at hl 3 rfl) ?_
          refine lv_aload_n hx hb dX12_offsides_24 rfl (lv_at hl 0 rfl) ?_
          refine gM_0_35 C hJ fl_RX12_50 dX12_offsides_25 ?_
          refine lv_iload_n hx hb dX12_offsides_28 rfl (lv_at hl 3 rfl) ?_
          obtain ⟨h5, hf⟩ := gi_some hf
          refine aM_13 C hJ h5 dX12_offsides_29 ?_
          obtain ⟨σ6, r7, hg8, hf⟩ := cal_some hf
          refine backI hsb hJ (runV (As := [.int a3, .int (σ.2.1 13 a3.toNatClampNeg)]) (rest := [.int a2]) C hJ lk_RX12_392 (cM_isOffside hF hg8) recM_0 rfl rfl (Nat.le_of_ble_eq_true rfl) hl.1 (hR_of (by omega) (by decide)) ⟨Nat.le_refl _, Nat.le_refl _⟩ dX12_offsides_30) (fun H locs hJ => ?_)
          refine lv_if_eq (tgt := 42) hx hb dX12_offsides_33 (by decide) (fun c9 => ?_) (fun c9 => ?_)
          · have hf := ite_t hf c9
            exact j42 σ6 a1 a3 a2 _ _ _ hf hJ (lv_sub hl [0, 1, 3] rfl)
          · have hf := ite_f hf c9
            refine lv_iconst (v := 1) hx hb dX12_offsides_36 (by decide) ?_
            refine lv_iload_n hx hb dX12_offsides_37 rfl (lv_at hl 3 rfl) ?_
            refine lv_ishl hx hb dX12_offsides_38 ?_
            refine lv_goto (tgt := 43) hx hb dX12_offsides_39 (by decide) ?_
            exact j43 σ6 a1 a3 a2 ((1 : Int32) <<< (a3 &&& 31)) _ _ _ hf hJ (lv_sub hl [0, 1, 3] rfl)
  have hl : lv_has ls 4 [(0, .ref (q 0)), (1, .int a1)] := hl
  unfold fM_offsides at hf
  refine lv_iconst (v := 0) hx hb dX12_offsides_0 (by decide) ?_
  refine lv_istore_n (lv' := [(2, .int (0 : Int32)), (0, .ref (q 0)), (1, .int a1)]) hx hb dX12_offsides_1 rfl hl (by decide) rfl (fun ls hl => ?_)
  refine lv_iconst (v := 0) hx hb dX12_offsides_2 (by decide) ?_
  refine lv_istore_n (lv' := [(3, .int (0 : Int32)), (2, .int (0 : Int32)), (0, .ref (q 0)), (1, .int a1)]) hx hb dX12_offsides_3 rfl hl (by decide) rfl (fun ls hl => ?_)
  exact l4 N σ a1 (0 : Int32) (0 : Int32) _ _ _ hf hJ (lv_sub hl [2, 3, 1, 0] rfl)
set_option maxHeartbeats 4000000 in
set_option maxRecDepth 100000 in
theorem cM_offside {l : Launch} {D : va_G} {cA cB : ClassId} {q : Nat → Nat} {A : Nat → Prop} {E : State → Prop} {N : Nat} {σ σ' : St} {r : Int32} (hF : Fr (wM q cA cB) A E) (hf : fM_offside N σ  = some (σ', r)) : MI l yX12_offside cX12_offside 1 .int 58 D (tyM cA cB) (wM q cA cB) A E [.ref (q 0)] σ σ' r := by
  refine MI_of (by decide) hF (Nat.le_of_ble_eq_true rfl) ?_
  intro p e s m args below meth c Q C hret hJ ls hl
  obtain ⟨hx, hb, hml, hown, hts, hK, hE, -⟩ := id C
  have hsb : ∀ z, A z → A z := fun _ h => h
  have hl : lv_has ls 1 [(0, .ref (q 0))] := hl
  unfold fM_offside at hf
  refine lv_aload_n hx hb dX12_offside_0 rfl (lv_at hl 0 rfl) ?_
  refine lv_aload_n hx hb dX12_offside_1 rfl (lv_at hl 0 rfl) ?_
  obtain ⟨σ1, r2, hg3, hf⟩ := cal_some hf
  refine backI hsb hJ (runV (As := []) (rest := [.ref (q 0)]) C hJ lk_RX12_401 (cM_all hF hg3) recM_0 rfl rfl (Nat.le_of_ble_eq_true rfl) hl.1 (hR_of (by omega) (by decide)) ⟨Nat.le_refl _, Nat.le_refl _⟩ dX12_offside_2) (fun H locs hJ => ?_)
  obtain ⟨σ4, r5, hg6, hf⟩ := cal_some hf
  refine backI hsb hJ (runV (As := [.int r2]) (rest := []) C hJ lk_RX12_404 (cM_offsides hF hg6) recM_0 rfl rfl (Nat.le_of_ble_eq_true rfl) hl.1 (hR_of (by omega) (by decide)) ⟨Nat.le_refl _, Nat.le_refl _⟩ dX12_offside_5) (fun H locs hJ => ?_)
  exact ret_I hret hJ hf rfl dX12_offside_8
set_option maxHeartbeats 4000000 in
set_option maxRecDepth 100000 in
theorem cM_isSheet {l : Launch} {D : va_G} {cA cB : ClassId} {q : Nat → Nat} {A : Nat → Prop} {E : State → Prop} {N : Nat} {σ σ' : St} {r : Int32} {a0 : Int32} (hF : Fr (wM q cA cB) A E) (hf : fM_isSheet N σ a0 = some (σ', r)) : MI l yX12_isSheet cX12_isSheet 1 .boolean 2 D (tyM cA cB) (wM q cA cB) A E [.int a0] σ σ' r := by
  refine MI_of (by decide) hF (Nat.le_of_ble_eq_true rfl) ?_
  intro p e s m args below meth c Q C hret hJ ls hl
  obtain ⟨hx, hb, hml, hown, hts, hK, hE, -⟩ := id C
  have hsb : ∀ z, A z → A z := fun _ h => h
  have hl : lv_has ls 1 [(0, .int a0)] := hl
  unfold fM_isSheet at hf
  refine lv_iload_n hx hb dX12_isSheet_0 rfl (lv_at hl 0 rfl) ?_
  refine lv_i2l (v := a0.toInt64) hx hb dX12_isSheet_1 rfl ?_
  refine lv_lconst (v := 0) hx hb dX12_isSheet_2 (by decide) ?_
  refine lv_ldc2 (v := 3) hx hb hown (hts _ kl_RX12_146) dX12_isSheet_3 ?_
  obtain ⟨σ1, r2, hg3, hf⟩ := cal_some hf
  refine backI hsb hJ (runS (As := [.long a0.toInt64, .long (0 : Int64), .long (3 : Int64)]) (rest := []) C hJ lk_RX12_138 (cM_in hF hg3) rfl rfl (Nat.le_of_ble_eq_true rfl) hl.1 (hR_of (by omega) (by decide)) ⟨Nat.le_refl _, Nat.le_refl _⟩ dX12_isSheet_6) (fun H locs hJ => ?_)
  obtain ⟨h4, hf⟩ := gd_some hf
  exact ret_I hret hJ hf (nar_z h4) dX12_isSheet_9
set_option maxHeartbeats 4000000 in
set_option maxRecDepth 100000 in
theorem cM_widths {l : Launch} {D : va_G} {cA cB : ClassId} {q : Nat → Nat} {A : Nat → Prop} {E : State → Prop} {N : Nat} {σ σ' : St} {r : Int32} {a1 : Int32} (hF : Fr (wM q cA cB) A E) (hf : fM_widths N σ a1 = some (σ', r)) : MI l yX12_widths cX12_widths 3 .int 3 D (tyM cA cB) (wM q cA cB) A E [.ref (q 0), .int a1] σ σ' r := by
  refine MI_of (by decide) hF (Nat.le_of_ble_eq_true rfl) ?_
  intro p e s m args below meth c Q C hret hJ ls hl
  obtain ⟨hx, hb, hml, hown, hts, hK, hE, -⟩ := id C
  have hsb : ∀ z, A z → A z := fun _ h => h
  have l34 : ∀ (n : Nat) (σ : St) (a1 : Int32) (a2 : Int32) (H : Heap) (locs : List Loc) (ls : Array Slot), fM_widths_l34 N  n σ a1 a2 = some (σ', r) → J D (wM q cA cB) A s σ H locs → lv_has ls 3 [(0, .ref (q 0)), (1, .int a1), (2, .int a2)] → W p l e (rmH 3) s m args below meth c H locs 0 0 Q (F0 m 34 ls []) := by
    intro n34
    induction n34 with
    | zero => intro σ a1 a2 H locs ls hf; rw [fM_widths_l34] at hf; cases hf
    | succ n34 ih34 =>
      intro σ a1 a2 H locs ls hf hJ hl
      rw [fM_widths_l34] at hf
      refine lv_iload_n hx hb dX12_widths_34 rfl (lv_at hl 2 rfl) ?_
      refine lv_aload_n hx hb dX12_widths_35 rfl (lv_at hl 0 rfl) ?_
      refine gM_0_61 C hJ fl_RX12_108 dX12_widths_36 ?_
      refine lv_iload_n hx hb dX12_widths_39 rfl (lv_at hl 1 rfl) ?_
      obtain ⟨h1, hf⟩ := gi_some hf
      refine aM_32 C hJ h1 dX12_widths_40 ?_
      refine lv_icmp_ge (tgt := 70) hx hb dX12_widths_41 (by decide) (fun c2 => ?_) (fun c2 => ?_)
      · have hf := ite_t hf c2
        refine lv_iconst (v := 0) hx hb dX12_widths_70 (by decide) ?_
        exact ret_I hret hJ hf rfl dX12_widths_71
      · have hf := ite_f hf c2
        refine lv_aload_n hx hb dX12_widths_44 rfl (lv_at hl 0 rfl) ?_
        refine gM_0_62 C hJ fl_RX12_111 dX12_widths_45 ?_
        refine lv_bipush (v := 40) hx hb dX12_widths_48 (by decide) ?_
        refine lv_iload_n hx hb dX12_widths_50 rfl (lv_at hl 1 rfl) ?_
        refine lv_imul hx hb dX12_widths_51 ?_
        refine lv_iload_n hx hb dX12_widths_52 rfl (lv_at hl 2 rfl) ?_
        refine lv_iadd hx hb dX12_widths_53 ?_
        obtain ⟨h3, hf⟩ := gi_some hf
        refine aM_33 C hJ h3 dX12_widths_54 ?_
        obtain ⟨σ4, r5, hg6, hf⟩ := cal_some hf
        refine backI hsb hJ (runS (As := [.int (σ.2.1 33 (((40 : Int32) * a1) + a2).toNatClampNeg)]) (rest := []) C hJ lk_RX12_313 (cM_isWidth hF hg6) rfl rfl (Nat.le_of_ble_eq_true rfl) hl.1 (hR_of (by omega) (by decide)) ⟨Nat.le_refl _, Nat.le_refl _⟩ dX12_widths_55) (fun H locs hJ => ?_)
        refine lv_if_ne (tgt := 64) hx hb dX12_widths_58 (by decide) (fun c7 => ?_) (fun c7 => ?_)
        · have hf := ite_f hf c7
          obtain ⟨x8, hx8⟩ : ∃ z : Int32, z = a2 + (1 : Int32) := ⟨_, rfl⟩
          have hf := bnd_at hf hx8
          refine lv_iinc (v := x8) (lv' := [(2, .int x8), (0, .ref (q 0)), (1, .int a1)]) hx hb dX12_widths_64 hl (k := 2) rfl (by rw [hx8]; rfl) (by decide) rfl (fun ls hl => ?_)
          refine lv_goto (tgt := 34) hx hb dX12_widths_67 (by decide) ?_
          exact ih34 σ4 a1 x8 _ _ _ hf hJ (lv_sub hl [1, 2, 0] rfl)
        · have hf := ite_t hf c7
          refine lv_bipush (v := -2) hx hb dX12_widths_61 (by decide) ?_
          exact ret_I hret hJ hf rfl dX12_widths_63
  have hl : lv_has ls 3 [(0, .ref (q 0)), (1, .int a1)] := hl
  unfold fM_widths at hf
  refine lv_aload_n hx hb dX12_widths_0 rfl (lv_at hl 0 rfl) ?_
  refine gM_0_59 C hJ fl_RX12_101 dX12_widths_1 ?_
  refine lv_iload_n hx hb dX12_widths_4 rfl (lv_at hl 1 rfl) ?_
  obtain ⟨h9, hf⟩ := gi_some hf
  refine aM_30 C hJ h9 dX12_widths_5 ?_
  refine lv_if_ne (tgt := 12) hx hb dX12_widths_6 (by decide) (fun c10 => ?_) (fun c10 => ?_)
  · have hf := ite_f hf c10
    refine lv_aload_n hx hb dX12_widths_12 rfl (lv_at hl 0 rfl) ?_
    refine gM_0_61 C hJ fl_RX12_108 dX12_widths_13 ?_
    refine lv_iload_n hx hb dX12_widths_16 rfl (lv_at hl 1 rfl) ?_
    obtain ⟨h11, hf⟩ := gi_some hf
    refine aM_32 C hJ h11 dX12_widths_17 ?_
    refine lv_i2l (v := (σ.2.1 32 a1.toNatClampNeg).toInt64) hx hb dX12_widths_18 rfl ?_
    refine lv_lconst (v := 1) hx hb dX12_widths_19 (by decide) ?_
    refine lv_ldc2 (v := 8) hx hb hown (hts _ kl_RX12_162) dX12_widths_20 ?_
    obtain ⟨σ12, r13, hg14, hf⟩ := cal_some hf
    refine backI hsb hJ (runS (As := [.long ((σ.2.1 32 a1.toNatClampNeg).toInt64), .long (1 : Int64), .long (8 : Int64)]) (rest := []) C hJ lk_RX12_138 (cM_in hF hg14) rfl rfl (Nat.le_of_ble_eq_true rfl) hl.1 (hR_of (by omega) (by decide)) ⟨Nat.le_refl _, Nat.le_refl _⟩ dX12_widths_23) (fun H locs hJ => ?_)
    refine lv_if_ne (tgt := 32) hx hb dX12_widths_26 (by decide) (fun c15 => ?_) (fun c15 => ?_)
    · have hf := ite_f hf c15
      refine lv_iconst (v := 0) hx hb dX12_widths_32 (by decide) ?_
      refine lv_istore_n (lv' := [(2, .int (0 : Int32)), (0, .ref (q 0)), (1, .int a1)]) hx hb dX12_widths_33 rfl hl (by decide) rfl (fun ls hl => ?_)
      exact l34 N σ12 a1 (0 : Int32) _ _ _ hf hJ (lv_sub hl [1, 2, 0] rfl)
    · have hf := ite_t hf c15
      refine lv_bipush (v := -2) hx hb dX12_widths_29 (by decide) ?_
      exact ret_I hret hJ hf rfl dX12_widths_31
  · have hf := ite_t hf c10
    refine lv_bipush (v := -11) hx hb dX12_widths_9 (by decide) ?_
    exact ret_I hret hJ hf rfl dX12_widths_11
set_option maxHeartbeats 4000000 in
set_option maxRecDepth 100000 in
theorem cM_wrongs {l : Launch} {D : va_G} {cA cB : ClassId} {q : Nat → Nat} {A : Nat → Prop} {E : State → Prop} {N : Nat} {σ σ' : St} {r : Int32} {a1 : Int32} {a2 : Int32} {a3 : Int32} (hF : Fr (wM q cA cB) A E) (hf : fM_wrongs N σ a1 a2 a3 = some (σ', r)) : MI l yX12_wrongs cX12_wrongs 9 .int 57 D (tyM cA cB) (wM q cA cB) A E [.ref (q 0), .int a1, .int a2, .int a3] σ σ' r := by
  refine MI_of (by decide) hF (Nat.le_of_ble_eq_true rfl) ?_
  intro p e s m args below meth c Q C hret hJ ls hl
  obtain ⟨hx, hb, hml, hown, hts, hK, hE, -⟩ := id C
  have hsb : ∀ z, A z → A z := fun _ h => h
  have j105 : ∀ (σ : St) (a4 : Int32) (a5 : Int32) (H : Heap) (locs : List Loc) (ls : Array Slot), fM_wrongs_j105 N  σ a4 a5 = some (σ', r) → J D (wM q cA cB) A s σ H locs → lv_has ls 9 [(0, .ref (q 0)), (4, .int a4), (5, .int a5)] → W p l e (rmH 57) s m args below meth c H locs 0 0 Q (F0 m 105 ls []) := by
    intro σ a4 a5 H locs ls hf hJ hl
    unfold fM_wrongs_j105 at hf
    refine lv_aload_n hx hb dX12_wrongs_105 rfl (lv_at hl 0 rfl) ?_
    refine lv_iload hx hb dX12_wrongs_106 (lv_at hl 1 rfl) ?_
    refine pM_0_12 C hJ fl_RX12_247 dX12_wrongs_108 (fun σ1 H locs hs hJ => ?_)
    have hf := bnd_at hf hs
    refine lv_iload hx hb dX12_wrongs_111 (lv_at hl 2 rfl) ?_
    exact ret_I hret hJ hf rfl dX12_wrongs_113
  have l17 : ∀ (n : Nat) (σ : St) (a1 : Int32) (a3 : Int32) (a4 : Int32) (a5 : Int32) (a6 : Int32) (H : Heap) (locs : List Loc) (ls : Array Slot), fM_wrongs_l17 N  n σ a1 a3 a4 a5 a6 = some (σ', r) → J D (wM q cA cB) A s σ H locs → lv_has ls 9 [(0, .ref (q 0)), (1, .int a1), (3, .int a3), (4, .int a4), (5, .int a5), (6, .int a6)] → W p l e (rmH 57) s m args below meth c H locs 0 0 Q (F0 m 17 ls []) := by
    intro n17
    induction n17 with
    | zero => intro σ a1 a3 a4 a5 a6 H locs ls hf; rw [fM_wrongs_l17] at hf; cases hf
    | succ n17 ih17 =>
      have j99 : ∀ (σ : St) (a1 : Int32) (a3 : Int32) (a4 : Int32) (a5 : Int32) (a6 : Int32) (H : Heap) (locs : List Loc) (ls : Array Slot), fM_wrongs_j99 N (fM_wrongs_l17 N  n17) σ a1 a3 a4 a5 a6 = some (σ', r) → J D (wM q cA cB) A s σ H locs → lv_has ls 9 [(0, .ref (q 0)), (1, .int a1), (3, .int a3), (4, .int a4), (5, .int a5), (6, .int a6)] → W p l e (rmH 57) s m args below meth c H locs 0 0 Q (F0 m 99 ls []) := by
        intro σ a1 a3 a4 a5 a6 H locs ls hf hJ hl
        unfold fM_wrongs_j99 at hf
        obtain ⟨x2, hx2⟩ : ∃ z : Int32, z = a6 + (1 : Int32) := ⟨_, rfl⟩
        have hf := bnd_at hf hx2
        refine lv_iinc (v := x2) (lv' := [(6, .int x2), (0, .ref (q 0)), (1, .int a1), (3, .int a3), (4, .int a4), (5, .int a5)]) hx hb dX12_wrongs_99 hl (k := 5) rfl (by rw [hx2]; rfl) (by decide) rfl (fun ls hl => ?_)
        refine lv_goto (tgt := 17) hx hb dX12_wrongs_102 (by decide) ?_
        exact ih17 σ a1 a3 a4 a5 x2 _ _ _ hf hJ (lv_sub hl [1, 2, 3, 4, 5, 0] rfl)
      have j96 : ∀ (σ : St) (a1 : Int32) (a3 : Int32) (a4 : Int32) (a6 : Int32) (t0 : Int32) (t1 : Int32) (H : Heap) (locs : List Loc) (ls : Array Slot), fM_wrongs_j96 N (fM_wrongs_l17 N  n17) σ a1 a3 a4 a6 t0 t1 = some (σ', r) → J D (wM q cA cB) A s σ H locs → lv_has ls 9 [(0, .ref (q 0)), (1, .int a1), (3, .int a3), (4, .int a4), (6, .int a6)] → W p l e (rmH 57) s m args below meth c H locs 0 0 Q (F0 m 96 ls [.int t1, .int t0]) := by
        intro σ a1 a3 a4 a6 t0 t1 H locs ls hf hJ hl
        unfold fM_wrongs_j96 at hf
        refine lv_iadd hx hb dX12_wrongs_96 ?_
        refine lv_topi (fun x3 hx3 => ?_)
        have hf := bnd_at hf hx3
        refine lv_istore (lv' := [(5, .int x3), (0, .ref (q 0)), (1, .int a1), (3, .int a3), (4, .int a4), (6, .int a6)]) hx hb dX12_wrongs_97 hl (by decide) rfl (fun ls hl => ?_)
        exact j99 σ a1 a3 a4 x3 a6 _ _ _ hf hJ (lv_sub hl [1, 2, 3, 4, 0, 5] rfl)
      have j95 : ∀ (σ : St) (a1 : Int32) (a3 : Int32) (a4 : Int32) (a6 : Int32) (t0 : Int32) (H : Heap) (locs : List Loc) (ls : Array Slot), fM_wrongs_j95 N (fM_wrongs_l17 N  n17) σ a1 a3 a4 a6 t0 = some (σ', r) → J D (wM q cA cB) A s σ H locs → lv_has ls 9 [(0, .ref (q 0)), (1, .int a1), (3, .int a3), (4, .int a4), (6, .int a6)] → W p l e (rmH 57) s m args below meth c H locs 0 0 Q (F0 m 95 ls [.int t0]) := by
        intro σ a1 a3 a4 a6 t0 H locs ls hf hJ hl
        unfold fM_wrongs_j95 at hf
        refine lv_iconst (v := 0) hx hb dX12_wrongs_95 (by decide) ?_
        exact j96 σ a1 a3 a4 a6 t0 (0 : Int32) _ _ _ hf hJ (lv_sub hl [0, 1, 2, 3, 4] rfl)
      have j91 : ∀ (σ : St) (a1 : Int32) (a3 : Int32) (a4 : Int32) (a6 : Int32) (t0 : Int32) (H : Heap) (locs : List Loc) (ls : Array Slot), fM_wrongs_j91 N (fM_wrongs_l17 N  n17) σ a1 a3 a4 a6 t0 = some (σ', r) → J D (wM q cA cB) A s σ H locs → lv_has ls 9 [(0, .ref (q 0)), (1, .int a1), (3, .int a3), (4, .int a4), (6, .int a6)] → W p l e (rmH 57) s m args below meth c H locs 0 0 Q (F0 m 91 ls [.int t0]) := by
        intro σ a1 a3 a4 a6 t0 H locs ls hf hJ hl
        unfold fM_wrongs_j91 at hf
        refine lv_iconst (v := 1) hx hb dX12_wrongs_91 (by decide) ?_
        refine lv_goto (tgt := 96) hx hb dX12_wrongs_92 (by decide) ?_
        exact j96 σ a1 a3 a4 a6 t0 (1 : Int32) _ _ _ hf hJ (lv_sub hl [0, 1, 2, 3, 4] rfl)
      intro σ a1 a3 a4 a5 a6 H locs ls hf hJ hl
      rw [fM_wrongs_l17] at hf
      refine lv_iload hx hb dX12_wrongs_17 (lv_at hl 5 rfl) ?_
      refine lv_aload_n hx hb dX12_wrongs_19 rfl (lv_at hl 0 rfl) ?_
      refine gM_0_41 C hJ fl_RX12_363 dX12_wrongs_20 ?_
      refine lv_icmp_ge (tgt := 105) hx hb dX12_wrongs_23 (by decide) (fun c4 => ?_) (fun c4 => ?_)
      · have hf := ite_t hf c4
        exact j105 σ a4 a5 _ _ _ hf hJ (lv_sub hl [0, 3, 4] rfl)
      · have hf := ite_f hf c4
        refine lv_iload_n hx hb dX12_wrongs_26 rfl (lv_at hl 1 rfl) ?_
        refine lv_iload hx hb dX12_wrongs_27 (lv_at hl 5 rfl) ?_
        refine lv_ishr hx hb dX12_wrongs_29 ?_
        refine lv_iconst (v := 1) hx hb dX12_wrongs_30 (by decide) ?_
        refine lv_iand hx hb dX12_wrongs_31 ?_
        refine lv_if_ne (tgt := 38) hx hb dX12_wrongs_32 (by decide) (fun c5 => ?_) (fun c5 => ?_)
        · have hf := ite_f hf c5
          refine lv_aload_n hx hb dX12_wrongs_38 rfl (lv_at hl 0 rfl) ?_
          refine lv_iload hx hb dX12_wrongs_39 (lv_at hl 5 rfl) ?_
          refine lv_iconst (v := 0) hx hb dX12_wrongs_41 (by decide) ?_
          obtain ⟨σ6, r7, hg8, hf⟩ := cal_some hf
          refine backI hsb hJ (runV (As := [.int a6, .int (0 : Int32)]) (rest := []) C hJ lk_RX12_392 (cM_isOffside hF hg8) recM_0 rfl rfl (Nat.le_of_ble_eq_true rfl) hl.1 (hR_of (by omega) (by decide)) ⟨Nat.le_refl _, Nat.le_refl _⟩ dX12_wrongs_42) (fun H locs hJ => ?_)
          refine lv_istore (lv' := [(7, .int r7), (0, .ref (q 0)), (1, .int a1), (3, .int a3), (4, .int a4), (5, .int a5), (6, .int a6)]) hx hb dX12_wrongs_45 hl (by decide) rfl (fun ls hl => ?_)
          refine lv_aload_n hx hb dX12_wrongs_47 rfl (lv_at hl 1 rfl) ?_
          refine lv_iload hx hb dX12_wrongs_48 (lv_at hl 6 rfl) ?_
          refine lv_aload_n hx hb dX12_wrongs_50 rfl (lv_at hl 1 rfl) ?_
          refine gM_0_35 C hJ fl_RX12_50 dX12_wrongs_51 ?_
          refine lv_iload hx hb dX12_wrongs_54 (lv_at hl 6 rfl) ?_
          obtain ⟨h9, hf⟩ := gi_some hf
          refine aM_13 C hJ h9 dX12_wrongs_56 ?_
          obtain ⟨σ10, r11, hg12, hf⟩ := cal_some hf
          refine backI hsb hJ (runV (As := [.int a6, .int (σ6.2.1 13 a6.toNatClampNeg)]) (rest := []) C hJ lk_RX12_392 (cM_isOffside hF hg12) recM_0 rfl rfl (Nat.le_of_ble_eq_true rfl) hl.1 (hR_of (by omega) (by decide)) ⟨Nat.le_refl _, Nat.le_refl _⟩ dX12_wrongs_57) (fun H locs hJ => ?_)
          refine lv_istore (lv' := [(8, .int r11), (7, .int r7), (0, .ref (q 0)), (1, .int a1), (3, .int a3), (4, .int a4), (5, .int a5), (6, .int a6)]) hx hb dX12_wrongs_60 hl (by decide) rfl (fun ls hl => ?_)
          refine lv_iload hx hb dX12_wrongs_62 (lv_at hl 6 rfl) ?_
          refine lv_iload_n hx hb dX12_wrongs_64 rfl (lv_at hl 4 rfl) ?_
          refine lv_if_ne (tgt := 81) hx hb dX12_wrongs_65 (by decide) (fun c13 => ?_) (fun c13 => ?_)
          · have hf := ite_f hf c13
            refine lv_iload hx hb dX12_wrongs_81 (lv_at hl 0 rfl) ?_
            refine lv_if_eq (tgt := 95) hx hb dX12_wrongs_83 (by decide) (fun c14 => ?_) (fun c14 => ?_)
            · have hf := ite_t hf c14
              exact j95 σ10 a1 a3 a4 a6 a5 _ _ _ hf hJ (lv_sub hl [2, 3, 4, 5, 7] rfl)
            · have hf := ite_f hf c14
              refine lv_iload hx hb dX12_wrongs_86 (lv_at hl 1 rfl) ?_
              refine lv_if_ne (tgt := 95) hx hb dX12_wrongs_88 (by decide) (fun c15 => ?_) (fun c15 => ?_)
              · have hf := ite_f hf c15
                exact j95 σ10 a1 a3 a4 a6 a5 _ _ _ hf hJ (lv_sub hl [2, 3, 4, 5, 7] rfl)
              · have hf := ite_t hf c15
                exact j91 σ10 a1 a3 a4 a6 a5 _ _ _ hf hJ (lv_sub hl [2, 3, 4, 5, 7] rfl)
          · have hf := ite_t hf c13
            refine lv_iload hx hb dX12_wrongs_68 (lv_at hl 1 rfl) ?_
            refine lv_if_eq (tgt := 95) hx hb dX12_wrongs_70 (by decide) (fun c16 => ?_) (fun c16 => ?_)
            · have hf := ite_t hf c16
              exact j95 σ10 a1 a3 a4 a6 a5 _ _ _ hf hJ (lv_sub hl [2, 3, 4, 5, 7] rfl)
            · have hf := ite_f hf c16
              refine lv_iload hx hb dX12_wrongs_73 (lv_at hl 0 rfl) ?_
              refine lv_if_ne (tgt := 95) hx hb dX12_wrongs_75 (by decide) (fun c17 => ?_) (fun c17 => ?_)
              · have hf := ite_f hf c17
                exact j95 σ10 a1 a3 a4 a6 a5 _ _ _ hf hJ (lv_sub hl [2, 3, 4, 5, 7] rfl)
              · have hf := ite_t hf c17
                refine lv_goto (tgt := 91) hx hb dX12_wrongs_78 (by decide) ?_
                exact j91 σ10 a1 a3 a4 a6 a5 _ _ _ hf hJ (lv_sub hl [2, 3, 4, 5, 7] rfl)
        · have hf := ite_t hf c5
          refine lv_goto (tgt := 99) hx hb dX12_wrongs_35 (by decide) ?_
          exact j99 σ a1 a3 a4 a5 a6 _ _ _ hf hJ (lv_sub hl [0, 1, 2, 3, 4, 5] rfl)
  have hl : lv_has ls 9 [(0, .ref (q 0)), (1, .int a1), (2, .int a2), (3, .int a3)] := hl
  unfold fM_wrongs at hf
  refine lv_aload_n hx hb dX12_wrongs_0 rfl (lv_at hl 0 rfl) ?_
  refine gM_0_12 C hJ fl_RX12_247 dX12_wrongs_1 ?_
  refine lv_topi (fun x18 hx18 => ?_)
  have hf := bnd_at hf hx18
  refine lv_istore (lv' := [(4, .int x18), (0, .ref (q 0)), (1, .int a1), (2, .int a2), (3, .int a3)]) hx hb dX12_wrongs_4 hl (by decide) rfl (fun ls hl => ?_)
  refine lv_aload_n hx hb dX12_wrongs_6 rfl (lv_at hl 1 rfl) ?_
  refine lv_iload_n hx hb dX12_wrongs_7 rfl (lv_at hl 3 rfl) ?_
  refine pM_0_12 C hJ fl_RX12_247 dX12_wrongs_8 (fun σ19 H locs hs hJ => ?_)
  have hf := bnd_at hf hs
  refine lv_iconst (v := 0) hx hb dX12_wrongs_11 (by decide) ?_
  refine lv_istore (lv' := [(5, .int (0 : Int32)), (4, .int x18), (0, .ref (q 0)), (1, .int a1), (2, .int a2), (3, .int a3)]) hx hb dX12_wrongs_12 hl (by decide) rfl (fun ls hl => ?_)
  refine lv_iconst (v := 0) hx hb dX12_wrongs_14 (by decide) ?_
  refine lv_istore (lv' := [(6, .int (0 : Int32)), (5, .int (0 : Int32)), (4, .int x18), (0, .ref (q 0)), (1, .int a1), (2, .int a2), (3, .int a3)]) hx hb dX12_wrongs_15 hl (by decide) rfl (fun ls hl => ?_)
  exact l17 N σ19 a1 a3 x18 (0 : Int32) (0 : Int32) _ _ _ hf hJ (lv_sub hl [3, 4, 6, 2, 1, 0] rfl)
set_option maxHeartbeats 4000000 in
set_option maxRecDepth 100000 in
theorem cM_wrong {l : Launch} {D : va_G} {cA cB : ClassId} {q : Nat → Nat} {A : Nat → Prop} {E : State → Prop} {N : Nat} {σ σ' : St} {r : Int32} {a1 : Int32} {a2 : Int32} {a3 : Int32} {a4 : Int32} (hF : Fr (wM q cA cB) A E) (hf : fM_wrong N σ a1 a2 a3 a4 = some (σ', r)) : MI l yX12_wrong cX12_wrong 6 .int 58 D (tyM cA cB) (wM q cA cB) A E [.ref (q 0), .int a1, .int a2, .int a3, .int a4] σ σ' r := by
  refine MI_of (by decide) hF (Nat.le_of_ble_eq_true rfl) ?_
  intro p e s m args below meth c Q C hret hJ ls hl
  obtain ⟨hx, hb, hml, hown, hts, hK, hE, -⟩ := id C
  have hsb : ∀ z, A z → A z := fun _ h => h
  have hl : lv_has ls 6 [(0, .ref (q 0)), (1, .int a1), (2, .int a2), (3, .int a3), (4, .int a4)] := hl
  unfold fM_wrong at hf
  refine lv_iload_n hx hb dX12_wrong_0 rfl (lv_at hl 1 rfl) ?_
  obtain ⟨σ1, r2, hg3, hf⟩ := cal_some hf
  refine backI hsb hJ (runS (As := [.int a1]) (rest := []) C hJ lk_RX12_407 (cM_isSheet hF hg3) rfl rfl (Nat.le_of_ble_eq_true rfl) hl.1 (hR_of (by omega) (by decide)) ⟨Nat.le_refl _, Nat.le_refl _⟩ dX12_wrong_1) (fun H locs hJ => ?_)
  refine lv_if_eq (tgt := 32) hx hb dX12_wrong_4 (by decide) (fun c4 => ?_) (fun c4 => ?_)
  · have hf := ite_t hf c4
    refine lv_bipush (v := -2) hx hb dX12_wrong_32 (by decide) ?_
    exact ret_I hret hJ hf rfl dX12_wrong_34
  · have hf := ite_f hf c4
    refine lv_iload_n hx hb dX12_wrong_7 rfl (lv_at hl 2 rfl) ?_
    refine lv_i2l (v := a2.toInt64) hx hb dX12_wrong_8 rfl ?_
    refine lv_lconst (v := 0) hx hb dX12_wrong_9 (by decide) ?_
    refine lv_aload_n hx hb dX12_wrong_10 rfl (lv_at hl 0 rfl) ?_
    obtain ⟨σ5, r6, hg7, hf⟩ := cal_some hf
    refine backI hsb hJ (runV (As := []) (rest := [.long (0 : Int64), .long a2.toInt64]) C hJ lk_RX12_401 (cM_all hF hg7) recM_0 rfl rfl (Nat.le_of_ble_eq_true rfl) hl.1 (hR_of (by omega) (by decide)) ⟨Nat.le_refl _, Nat.le_refl _⟩ dX12_wrong_11) (fun H locs hJ => ?_)
    refine lv_i2l (v := r6.toInt64) hx hb dX12_wrong_14 rfl ?_
    obtain ⟨σ8, r9, hg10, hf⟩ := cal_some hf
    refine backI hsb hJ (runS (As := [.long a2.toInt64, .long (0 : Int64), .long r6.toInt64]) (rest := []) C hJ lk_RX12_138 (cM_in hF hg10) rfl rfl (Nat.le_of_ble_eq_true rfl) hl.1 (hR_of (by omega) (by decide)) ⟨Nat.le_refl _, Nat.le_refl _⟩ dX12_wrong_15) (fun H locs hJ => ?_)
    refine lv_if_eq (tgt := 32) hx hb dX12_wrong_18 (by decide) (fun c11 => ?_) (fun c11 => ?_)
    · have hf := ite_t hf c11
      refine lv_bipush (v := -2) hx hb dX12_wrong_32 (by decide) ?_
      exact ret_I hret hJ hf rfl dX12_wrong_34
    · have hf := ite_f hf c11
      refine lv_iload hx hb dX12_wrong_21 (lv_at hl 4 rfl) ?_
      refine lv_i2l (v := a4.toInt64) hx hb dX12_wrong_23 rfl ?_
      refine lv_lconst (v := 0) hx hb dX12_wrong_24 (by decide) ?_
      refine lv_lconst (v := 1) hx hb dX12_wrong_25 (by decide) ?_
      obtain ⟨σ12, r13, hg14, hf⟩ := cal_some hf
      refine backI hsb hJ (runS (As := [.long a4.toInt64, .long (0 : Int64), .long (1 : Int64)]) (rest := []) C hJ lk_RX12_138 (cM_in hF hg14) rfl rfl (Nat.le_of_ble_eq_true rfl) hl.1 (hR_of (by omega) (by decide)) ⟨Nat.le_refl _, Nat.le_refl _⟩ dX12_wrong_26) (fun H locs hJ => ?_)
      refine lv_if_ne (tgt := 35) hx hb dX12_wrong_29 (by decide) (fun c15 => ?_) (fun c15 => ?_)
      · have hf := ite_f hf c15
        refine lv_aload_n hx hb dX12_wrong_35 rfl (lv_at hl 0 rfl) ?_
        refine lv_iload_n hx hb dX12_wrong_36 rfl (lv_at hl 1 rfl) ?_
        obtain ⟨σ16, r17, hg18, hf⟩ := cal_some hf
        refine backI hsb hJ (runV (As := [.int a1]) (rest := []) C hJ lk_RX12_410 (cM_widths hF hg18) recM_0 rfl rfl (Nat.le_of_ble_eq_true rfl) hl.1 (hR_of (by omega) (by decide)) ⟨Nat.le_refl _, Nat.le_refl _⟩ dX12_wrong_37) (fun H locs hJ => ?_)
        refine lv_istore (lv' := [(5, .int r17), (0, .ref (q 0)), (1, .int a1), (2, .int a2), (3, .int a3), (4, .int a4)]) hx hb dX12_wrong_40 hl (by decide) rfl (fun ls hl => ?_)
        refine lv_iload hx hb dX12_wrong_42 (lv_at hl 0 rfl) ?_
        refine lv_if_eq (tgt := 50) hx hb dX12_wrong_44 (by decide) (fun c19 => ?_) (fun c19 => ?_)
        · have hf := ite_t hf c19
          refine lv_iload_n hx hb dX12_wrong_50 rfl (lv_at hl 4 rfl) ?_
          refine lv_i2l (v := a3.toInt64) hx hb dX12_wrong_51 rfl ?_
          refine lv_lconst (v := 0) hx hb dX12_wrong_52 (by decide) ?_
          refine lv_aload_n hx hb dX12_wrong_53 rfl (lv_at hl 1 rfl) ?_
          refine gM_0_61 C hJ fl_RX12_108 dX12_wrong_54 ?_
          refine lv_iload_n hx hb dX12_wrong_57 rfl (lv_at hl 2 rfl) ?_
          obtain ⟨h20, hf⟩ := gi_some hf
          refine aM_32 C hJ h20 dX12_wrong_58 ?_
          refine lv_iconst (v := 1) hx hb dX12_wrong_59 (by decide) ?_
          refine lv_isub hx hb dX12_wrong_60 ?_
          refine lv_i2l (v := ((σ16.2.1 32 a1.toNatClampNeg) - (1 : Int32)).toInt64) hx hb dX12_wrong_61 rfl ?_
          obtain ⟨σ21, r22, hg23, hf⟩ := cal_some hf
          refine backI hsb hJ (runS (As := [.long a3.toInt64, .long (0 : Int64), .long (((σ16.2.1 32 a1.toNatClampNeg) - (1 : Int32)).toInt64)]) (rest := []) C hJ lk_RX12_138 (cM_in hF hg23) rfl rfl (Nat.le_of_ble_eq_true rfl) hl.1 (hR_of (by omega) (by decide)) ⟨Nat.le_refl _, Nat.le_refl _⟩ dX12_wrong_62) (fun H locs hJ => ?_)
          refine lv_if_eq (tgt := 89) hx hb dX12_wrong_65 (by decide) (fun c24 => ?_) (fun c24 => ?_)
          · have hf := ite_t hf c24
            refine lv_iconst (v := -1) hx hb dX12_wrong_89 (by decide) ?_
            exact ret_I hret hJ hf rfl dX12_wrong_90
          · have hf := ite_f hf c24
            refine lv_aload_n hx hb dX12_wrong_68 rfl (lv_at hl 1 rfl) ?_
            refine lv_iload_n hx hb dX12_wrong_69 rfl (lv_at hl 3 rfl) ?_
            refine lv_aload_n hx hb dX12_wrong_70 rfl (lv_at hl 1 rfl) ?_
            refine gM_0_62 C hJ fl_RX12_111 dX12_wrong_71 ?_
            refine lv_bipush (v := 40) hx hb dX12_wrong_74 (by decide) ?_
            refine lv_iload_n hx hb dX12_wrong_76 rfl (lv_at hl 2 rfl) ?_
            refine lv_imul hx hb dX12_wrong_77 ?_
            refine lv_iload_n hx hb dX12_wrong_78 rfl (lv_at hl 4 rfl) ?_
            refine lv_iadd hx hb dX12_wrong_79 ?_
            obtain ⟨h25, hf⟩ := gi_some hf
            refine aM_33 C hJ h25 dX12_wrong_80 ?_
            refine lv_iload hx hb dX12_wrong_81 (lv_at hl 5 rfl) ?_
            obtain ⟨σ26, r27, hg28, hf⟩ := cal_some hf
            refine backI hsb hJ (runV (As := [.int a2, .int (σ21.2.1 33 (((40 : Int32) * a1) + a3).toNatClampNeg), .int a4]) (rest := []) C hJ lk_RX12_413 (cM_wrongs hF hg28) recM_0 rfl rfl (Nat.le_of_ble_eq_true rfl) hl.1 (hR_of (by omega) (by decide)) ⟨Nat.le_refl _, Nat.le_refl _⟩ dX12_wrong_83) (fun H locs hJ => ?_)
            refine lv_goto (tgt := 90) hx hb dX12_wrong_86 (by decide) ?_
            exact ret_I hret hJ hf rfl dX12_wrong_90
        · have hf := ite_f hf c19
          refine lv_iload hx hb dX12_wrong_47 (lv_at hl 0 rfl) ?_
          exact ret_I hret hJ hf rfl dX12_wrong_49
      · have hf := ite_t hf c15
        refine lv_bipush (v := -2) hx hb dX12_wrong_32 (by decide) ?_
        exact ret_I hret hJ hf rfl dX12_wrong_34
set_option maxHeartbeats 4000000 in
set_option maxRecDepth 100000 in
theorem cM_best {l : Launch} {D : va_G} {cA cB : ClassId} {q : Nat → Nat} {A : Nat → Prop} {E : State → Prop} {N : Nat} {σ σ' : St} {r : Int32} {a1 : Int32} {a2 : Int32} {a3 : Int32} (hF : Fr (wM q cA cB) A E) (hf : fM_best N σ a1 a2 a3 = some (σ', r)) : MI l yX12_best cX12_best 10 .int 58 D (tyM cA cB) (wM q cA cB) A E [.ref (q 0), .int a1, .int a2, .int a3] σ σ' r := by
  refine MI_of (by decide) hF (Nat.le_of_ble_eq_true rfl) ?_
  intro p e s m args below meth c Q C hret hJ ls hl
  obtain ⟨hx, hb, hml, hown, hts, hK, hE, -⟩ := id C
  have hsb : ∀ z, A z → A z := fun _ h => h
  have l60 : ∀ (n : Nat) (σ : St) (a1 : Int32) (a2 : Int32) (a3 : Int32) (a5 : Int32) (a6 : Int32) (a7 : Int32) (H : Heap) (locs : List Loc) (ls : Array Slot), fM_best_l60 N  n σ a1 a2 a3 a5 a6 a7 = some (σ', r) → J D (wM q cA cB) A s σ H locs → lv_has ls 10 [(0, .ref (q 0)), (1, .int a1), (2, .int a2), (3, .int a3), (5, .int a5), (6, .int a6), (7, .int a7)] → W p l e (rmH 58) s m args below meth c H locs 0 0 Q (F0 m 60 ls []) := by
    intro n60
    induction n60 with
    | zero => intro σ a1 a2 a3 a5 a6 a7 H locs ls hf; rw [fM_best_l60] at hf; cases hf
    | succ n60 ih60 =>
      have j138 : ∀ (σ : St) (a1 : Int32) (a2 : Int32) (a3 : Int32) (a5 : Int32) (a6 : Int32) (a7 : Int32) (H : Heap) (locs : List Loc) (ls : Array Slot), fM_best_j138 N (fM_best_l60 N  n60) σ a1 a2 a3 a5 a6 a7 = some (σ', r) → J D (wM q cA cB) A s σ H locs → lv_has ls 10 [(0, .ref (q 0)), (1, .int a1), (2, .int a2), (3, .int a3), (5, .int a5), (6, .int a6), (7, .int a7)] → W p l e (rmH 58) s m args below meth c H locs 0 0 Q (F0 m 138 ls []) := by
        intro σ a1 a2 a3 a5 a6 a7 H locs ls hf hJ hl
        unfold fM_best_j138 at hf
        obtain ⟨x1, hx1⟩ : ∃ z : Int32, z = a7 + (1 : Int32) := ⟨_, rfl⟩
        have hf := bnd_at hf hx1
        refine lv_iinc (v := x1) (lv' := [(7, .int x1), (0, .ref (q 0)), (1, .int a1), (2, .int a2), (3, .int a3), (5, .int a5), (6, .int a6)]) hx hb dX12_best_138 hl (k := 6) rfl (by rw [hx1]; rfl) (by decide) rfl (fun ls hl => ?_)
        refine lv_goto (tgt := 60) hx hb dX12_best_141 (by decide) ?_
        exact ih60 σ a1 a2 a3 a5 a6 x1 _ _ _ hf hJ (lv_sub hl [1, 2, 3, 4, 5, 6, 0] rfl)
      have j130 : ∀ (σ : St) (a1 : Int32) (a2 : Int32) (a3 : Int32) (a7 : Int32) (a8 : Int32) (a9 : Int32) (H : Heap) (locs : List Loc) (ls : Array Slot), fM_best_j130 N (fM_best_l60 N  n60) σ a1 a2 a3 a7 a8 a9 = some (σ', r) → J D (wM q cA cB) A s σ H locs → lv_has ls 10 [(0, .ref (q 0)), (1, .int a1), (2, .int a2), (3, .int a3), (7, .int a7), (8, .int a8), (9, .int a9)] → W p l e (rmH 58) s m args below meth c H locs 0 0 Q (F0 m 130 ls []) := by
        intro σ a1 a2 a3 a7 a8 a9 H locs ls hf hJ hl
        unfold fM_best_j130 at hf
        refine lv_iload hx hb dX12_best_130 (lv_at hl 6 rfl) ?_
        refine lv_istore (lv' := [(6, .int a9), (0, .ref (q 0)), (1, .int a1), (2, .int a2), (3, .int a3), (7, .int a7), (8, .int a8), (9, .int a9)]) hx hb dX12_best_132 hl (by decide) rfl (fun ls hl => ?_)
        refine lv_iload hx hb dX12_best_134 (lv_at hl 6 rfl) ?_
        refine lv_istore (lv' := [(5, .int a8), (6, .int a9), (0, .ref (q 0)), (1, .int a1), (2, .int a2), (3, .int a3), (7, .int a7), (8, .int a8), (9, .int a9)]) hx hb dX12_best_136 hl (by decide) rfl (fun ls hl => ?_)
        exact j138 σ a1 a2 a3 a8 a9 a7 _ _ _ hf hJ (lv_sub hl [2, 3, 4, 5, 0, 1, 6] rfl)
      intro σ a1 a2 a3 a5 a6 a7 H locs ls hf hJ hl
      rw [fM_best_l60] at hf
      refine lv_iload hx hb dX12_best_60 (lv_at hl 6 rfl) ?_
      refine lv_aload_n hx hb dX12_best_62 rfl (lv_at hl 0 rfl) ?_
      refine gM_0_61 C hJ fl_RX12_108 dX12_best_63 ?_
      refine lv_iload_n hx hb dX12_best_66 rfl (lv_at hl 1 rfl) ?_
      obtain ⟨h2, hf⟩ := gi_some hf
      refine aM_32 C hJ h2 dX12_best_67 ?_
      refine lv_icmp_ge (tgt := 144) hx hb dX12_best_68 (by decide) (fun c3 => ?_) (fun c3 => ?_)
      · have hf := ite_t hf c3
        refine lv_iload hx hb dX12_best_144 (lv_at hl 4 rfl) ?_
        exact ret_I hret hJ hf rfl dX12_best_146
      · have hf := ite_f hf c3
        refine lv_aload_n hx hb dX12_best_71 rfl (lv_at hl 0 rfl) ?_
        refine gM_0_62 C hJ fl_RX12_111 dX12_best_72 ?_
        refine lv_bipush (v := 40) hx hb dX12_best_75 (by decide) ?_
        refine lv_iload_n hx hb dX12_best_77 rfl (lv_at hl 1 rfl) ?_
        refine lv_imul hx hb dX12_best_78 ?_
        refine lv_iload hx hb dX12_best_79 (lv_at hl 6 rfl) ?_
        refine lv_iadd hx hb dX12_best_81 ?_
        obtain ⟨h4, hf⟩ := gi_some hf
        refine aM_33 C hJ h4 dX12_best_82 ?_
        refine lv_topi (fun x5 hx5 => ?_)
        have hf := bnd_at hf hx5
        refine lv_istore (lv' := [(8, .int x5), (0, .ref (q 0)), (1, .int a1), (2, .int a2), (3, .int a3), (5, .int a5), (6, .int a6), (7, .int a7)]) hx hb dX12_best_83 hl (by decide) rfl (fun ls hl => ?_)
        refine lv_aload_n hx hb dX12_best_85 rfl (lv_at hl 1 rfl) ?_
        refine lv_iload_n hx hb dX12_best_86 rfl (lv_at hl 3 rfl) ?_
        refine lv_iload hx hb dX12_best_87 (lv_at hl 0 rfl) ?_
        refine lv_iconst (v := 0) hx hb dX12_best_89 (by decide) ?_
        obtain ⟨σ6, r7, hg8, hf⟩ := cal_some hf
        refine backI hsb hJ (runV (As := [.int a2, .int x5, .int (0 : Int32)]) (rest := []) C hJ lk_RX12_413 (cM_wrongs hF hg8) recM_0 rfl rfl (Nat.le_of_ble_eq_true rfl) hl.1 (hR_of (by omega) (by decide)) ⟨Nat.le_refl _, Nat.le_refl _⟩ dX12_best_90) (fun H locs hJ => ?_)
        refine lv_iload_n hx hb dX12_best_93 rfl (lv_at hl 4 rfl) ?_
        refine lv_bipush (v := 100) hx hb dX12_best_94 (by decide) ?_
        refine lv_idiv hx hb dX12_best_96 (by decide) ?_
        refine lv_imul hx hb dX12_best_97 ?_
        refine lv_aload_n hx hb dX12_best_98 rfl (lv_at hl 1 rfl) ?_
        refine lv_iload_n hx hb dX12_best_99 rfl (lv_at hl 3 rfl) ?_
        refine lv_iload hx hb dX12_best_100 (lv_at hl 0 rfl) ?_
        refine lv_iconst (v := 1) hx hb dX12_best_102 (by decide) ?_
        obtain ⟨σ9, r10, hg11, hf⟩ := cal_some hf
        refine backI hsb hJ (runV (As := [.int a2, .int x5, .int (1 : Int32)]) (rest := [.int (r7 * (a3 / (100 : Int32)))]) C hJ lk_RX12_413 (cM_wrongs hF hg11) recM_0 rfl rfl (Nat.le_of_ble_eq_true rfl) hl.1 (hR_of (by omega) (by decide)) ⟨Nat.le_refl _, Nat.le_refl _⟩ dX12_best_103) (fun H locs hJ => ?_)
        refine lv_iload_n hx hb dX12_best_106 rfl (lv_at hl 4 rfl) ?_
        refine lv_bipush (v := 100) hx hb dX12_best_107 (by decide) ?_
        refine lv_irem hx hb dX12_best_109 (by decide) ?_
        refine lv_imul hx hb dX12_best_110 ?_
        refine lv_iadd hx hb dX12_best_111 ?_
        refine lv_topi (fun x12 hx12 => ?_)
        have hf := bnd_at hf hx12
        refine lv_istore (lv' := [(9, .int x12), (8, .int x5), (0, .ref (q 0)), (1, .int a1), (2, .int a2), (3, .int a3), (5, .int a5), (6, .int a6), (7, .int a7)]) hx hb dX12_best_112 hl (by decide) rfl (fun ls hl => ?_)
        refine lv_iload hx hb dX12_best_114 (lv_at hl 7 rfl) ?_
        refine lv_iconst (v := -1) hx hb dX12_best_116 (by decide) ?_
        refine lv_icmp_eq (tgt := 130) hx hb dX12_best_117 (by decide) (fun c13 => ?_) (fun c13 => ?_)
        · have hf := ite_t hf c13
          exact j130 σ9 a1 a2 a3 a7 x5 x12 _ _ _ hf hJ (lv_sub hl [2, 3, 4, 5, 8, 1, 0] rfl)
        · have hf := ite_f hf c13
          refine lv_iload hx hb dX12_best_120 (lv_at hl 0 rfl) ?_
          refine lv_iload hx hb dX12_best_122 (lv_at hl 7 rfl) ?_
          refine lv_icmp_lt (tgt := 130) hx hb dX12_best_124 (by decide) (fun c14 => ?_) (fun c14 => ?_)
          · have hf := ite_t hf c14
            exact j130 σ9 a1 a2 a3 a7 x5 x12 _ _ _ hf hJ (lv_sub hl [2, 3, 4, 5, 8, 1, 0] rfl)
          · have hf := ite_f hf c14
            refine lv_goto (tgt := 138) hx hb dX12_best_127 (by decide) ?_
            exact j138 σ9 a1 a2 a3 a5 a6 a7 _ _ _ hf hJ (lv_sub hl [2, 3, 4, 5, 6, 7, 8] rfl)
  have hl : lv_has ls 10 [(0, .ref (q 0)), (1, .int a1), (2, .int a2), (3, .int a3)] := hl
  unfold fM_best at hf
  refine lv_iload_n hx hb dX12_best_0 rfl (lv_at hl 1 rfl) ?_
  obtain ⟨σ15, r16, hg17, hf⟩ := cal_some hf
  refine backI hsb hJ (runS (As := [.int a1]) (rest := []) C hJ lk_RX12_407 (cM_isSheet hF hg17) rfl rfl (Nat.le_of_ble_eq_true rfl) hl.1 (hR_of (by omega) (by decide)) ⟨Nat.le_refl _, Nat.le_refl _⟩ dX12_best_1) (fun H locs hJ => ?_)
  refine lv_if_eq (tgt := 33) hx hb dX12_best_4 (by decide) (fun c18 => ?_) (fun c18 => ?_)
  · have hf := ite_t hf c18
    refine lv_bipush (v := -2) hx hb dX12_best_33 (by decide) ?_
    exact ret_I hret hJ hf rfl dX12_best_35
  · have hf := ite_f hf c18
    refine lv_iload_n hx hb dX12_best_7 rfl (lv_at hl 2 rfl) ?_
    refine lv_i2l (v := a2.toInt64) hx hb dX12_best_8 rfl ?_
    refine lv_lconst (v := 0) hx hb dX12_best_9 (by decide) ?_
    refine lv_aload_n hx hb dX12_best_10 rfl (lv_at hl 0 rfl) ?_
    obtain ⟨σ19, r20, hg21, hf⟩ := cal_some hf
    refine backI hsb hJ (runV (As := []) (rest := [.long (0 : Int64), .long a2.toInt64]) C hJ lk_RX12_401 (cM_all hF hg21) recM_0 rfl rfl (Nat.le_of_ble_eq_true rfl) hl.1 (hR_of (by omega) (by decide)) ⟨Nat.le_refl _, Nat.le_refl _⟩ dX12_best_11) (fun H locs hJ => ?_)
    refine lv_i2l (v := r20.toInt64) hx hb dX12_best_14 rfl ?_
    obtain ⟨σ22, r23, hg24, hf⟩ := cal_some hf
    refine backI hsb hJ (runS (As := [.long a2.toInt64, .long (0 : Int64), .long r20.toInt64]) (rest := []) C hJ lk_RX12_138 (cM_in hF hg24) rfl rfl (Nat.le_of_ble_eq_true rfl) hl.1 (hR_of (by omega) (by decide)) ⟨Nat.le_refl _, Nat.le_refl _⟩ dX12_best_15) (fun H locs hJ => ?_)
    refine lv_if_eq (tgt := 33) hx hb dX12_best_18 (by decide) (fun c25 => ?_) (fun c25 => ?_)
    · have hf := ite_t hf c25
      refine lv_bipush (v := -2) hx hb dX12_best_33 (by decide) ?_
      exact ret_I hret hJ hf rfl dX12_best_35
    · have hf := ite_f hf c25
      refine lv_iload_n hx hb dX12_best_21 rfl (lv_at hl 3 rfl) ?_
      refine lv_i2l (v := a3.toInt64) hx hb dX12_best_22 rfl ?_
      refine lv_lconst (v := 0) hx hb dX12_best_23 (by decide) ?_
      refine lv_ldc2 (v := 9999) hx hb hown (hts _ kl_RX12_148) dX12_best_24 ?_
      obtain ⟨σ26, r27, hg28, hf⟩ := cal_some hf
      refine backI hsb hJ (runS (As := [.long a3.toInt64, .long (0 : Int64), .long (9999 : Int64)]) (rest := []) C hJ lk_RX12_138 (cM_in hF hg28) rfl rfl (Nat.le_of_ble_eq_true rfl) hl.1 (hR_of (by omega) (by decide)) ⟨Nat.le_refl _, Nat.le_refl _⟩ dX12_best_27) (fun H locs hJ => ?_)
      refine lv_if_ne (tgt := 36) hx hb dX12_best_30 (by decide) (fun c29 => ?_) (fun c29 => ?_)
      · have hf := ite_f hf c29
        refine lv_aload_n hx hb dX12_best_36 rfl (lv_at hl 0 rfl) ?_
        refine lv_iload_n hx hb dX12_best_37 rfl (lv_at hl 1 rfl) ?_
        obtain ⟨σ30, r31, hg32, hf⟩ := cal_some hf
        refine backI hsb hJ (runV (As := [.int a1]) (rest := []) C hJ lk_RX12_410 (cM_widths hF hg32) recM_0 rfl rfl (Nat.le_of_ble_eq_true rfl) hl.1 (hR_of (by omega) (by decide)) ⟨Nat.le_refl _, Nat.le_refl _⟩ dX12_best_38) (fun H locs hJ => ?_)
        refine lv_istore (lv' := [(4, .int r31), (0, .ref (q 0)), (1, .int a1), (2, .int a2), (3, .int a3)]) hx hb dX12_best_41 hl (by decide) rfl (fun ls hl => ?_)
        refine lv_iload hx hb dX12_best_43 (lv_at hl 0 rfl) ?_
        refine lv_if_eq (tgt := 51) hx hb dX12_best_45 (by decide) (fun c33 => ?_) (fun c33 => ?_)
        · have hf := ite_t hf c33
          refine lv_iconst (v := 0) hx hb dX12_best_51 (by decide) ?_
          refine lv_istore (lv' := [(5, .int (0 : Int32)), (4, .int r31), (0, .ref (q 0)), (1, .int a1), (2, .int a2), (3, .int a3)]) hx hb dX12_best_52 hl (by decide) rfl (fun ls hl => ?_)
          refine lv_iconst (v := -1) hx hb dX12_best_54 (by decide) ?_
          refine lv_istore (lv' := [(6, .int (-1 : Int32)), (5, .int (0 : Int32)), (4, .int r31), (0, .ref (q 0)), (1, .int a1), (2, .int a2), (3, .int a3)]) hx hb dX12_best_55 hl (by decide) rfl (fun ls hl => ?_)
          refine lv_iconst (v := 0) hx hb dX12_best_57 (by decide) ?_
          refine lv_istore (lv' := [(7, .int (0 : Int32)), (6, .int (-1 : Int32)), (5, .int (0 : Int32)), (4, .int r31), (0, .ref (q 0)), (1, .int a1), (2, .int a2), (3, .int a3)]) hx hb dX12_best_58 hl (by decide) rfl (fun ls hl => ?_)
          exact l60 N σ30 a1 a2 a3 (0 : Int32) (-1 : Int32) (0 : Int32) _ _ _ hf hJ (lv_sub hl [4, 5, 6, 7, 2, 1, 0] rfl)
        · have hf := ite_f hf c33
          refine lv_iload hx hb dX12_best_48 (lv_at hl 0 rfl) ?_
          exact ret_I hret hJ hf rfl dX12_best_50
      · have hf := ite_t hf c29
        refine lv_bipush (v := -2) hx hb dX12_best_33 (by decide) ?_
        exact ret_I hret hJ hf rfl dX12_best_35
set_option maxHeartbeats 4000000 in
set_option maxRecDepth 100000 in
theorem cM_match {l : Launch} {D : va_G} {cA cB : ClassId} {q : Nat → Nat} {A : Nat → Prop} {E : State → Prop} {N : Nat} {σ σ' : St} {r : Int32} {a1 : Int32} {a2 : Int32} {a3 : Int32} (hF : Fr (wM q cA cB) A E) (hf : fM_match N σ a1 a2 a3 = some (σ', r)) : MI l yX12_match cX12_match 4 .int 2 D (tyM cA cB) (wM q cA cB) A E [.ref (q 0), .int a1, .int a2, .int a3] σ σ' r := by
  refine MI_of (by decide) hF (Nat.le_of_ble_eq_true rfl) ?_
  intro p e s m args below meth c Q C hret hJ ls hl
  obtain ⟨hx, hb, hml, hown, hts, hK, hE, -⟩ := id C
  have hsb : ∀ z, A z → A z := fun _ h => h
  have hl : lv_has ls 4 [(0, .ref (q 0)), (1, .int a1), (2, .int a2), (3, .int a3)] := hl
  unfold fM_match at hf
  refine lv_iload_n hx hb dX12_match_0 rfl (lv_at hl 1 rfl) ?_
  refine lv_if_lt (tgt := 71) hx hb dX12_match_1 (by decide) (fun c1 => ?_) (fun c1 => ?_)
  · have hf := ite_t hf c1
    refine lv_bipush (v := -2) hx hb dX12_match_71 (by decide) ?_
    exact ret_I hret hJ hf rfl dX12_match_73
  · have hf := ite_f hf c1
    refine lv_iload_n hx hb dX12_match_4 rfl (lv_at hl 1 rfl) ?_
    refine lv_bipush (v := 10) hx hb dX12_match_5 (by decide) ?_
    refine lv_idiv hx hb dX12_match_7 (by decide) ?_
    refine lv_i2l (v := (a1 / (10 : Int32)).toInt64) hx hb dX12_match_8 rfl ?_
    refine lv_lconst (v := 0) hx hb dX12_match_9 (by decide) ?_
    refine lv_ldc2 (v := 3) hx hb hown (hts _ kl_RX12_146) dX12_match_10 ?_
    obtain ⟨σ2, r3, hg4, hf⟩ := cal_some hf
    refine backI hsb hJ (runS (As := [.long ((a1 / (10 : Int32)).toInt64), .long (0 : Int64), .long (3 : Int64)]) (rest := []) C hJ lk_RX12_138 (cM_in hF hg4) rfl rfl (Nat.le_of_ble_eq_true rfl) hl.1 (hR_of (by omega) (by decide)) ⟨Nat.le_refl _, Nat.le_refl _⟩ dX12_match_13) (fun H locs hJ => ?_)
    refine lv_if_eq (tgt := 71) hx hb dX12_match_16 (by decide) (fun c5 => ?_) (fun c5 => ?_)
    · have hf := ite_t hf c5
      refine lv_bipush (v := -2) hx hb dX12_match_71 (by decide) ?_
      exact ret_I hret hJ hf rfl dX12_match_73
    · have hf := ite_f hf c5
      refine lv_iload_n hx hb dX12_match_19 rfl (lv_at hl 1 rfl) ?_
      refine lv_bipush (v := 10) hx hb dX12_match_20 (by decide) ?_
      refine lv_irem hx hb dX12_match_22 (by decide) ?_
      refine lv_i2l (v := (a1 - a1 / (10 : Int32) * (10 : Int32)).toInt64) hx hb dX12_match_23 rfl ?_
      refine lv_lconst (v := 0) hx hb dX12_match_24 (by decide) ?_
      refine lv_ldc2 (v := 3) hx hb hown (hts _ kl_RX12_146) dX12_match_25 ?_
      obtain ⟨σ6, r7, hg8, hf⟩ := cal_some hf
      refine backI hsb hJ (runS (As := [.long ((a1 - a1 / (10 : Int32) * (10 : Int32)).toInt64), .long (0 : Int64), .long (3 : Int64)]) (rest := []) C hJ lk_RX12_138 (cM_in hF hg8) rfl rfl (Nat.le_of_ble_eq_true rfl) hl.1 (hR_of (by omega) (by decide)) ⟨Nat.le_refl _, Nat.le_refl _⟩ dX12_match_28) (fun H locs hJ => ?_)
      refine lv_if_eq (tgt := 71) hx hb dX12_match_31 (by decide) (fun c9 => ?_) (fun c9 => ?_)
      · have hf := ite_t hf c9
        refine lv_bipush (v := -2) hx hb dX12_match_71 (by decide) ?_
        exact ret_I hret hJ hf rfl dX12_match_73
      · have hf := ite_f hf c9
        refine lv_iload_n hx hb dX12_match_34 rfl (lv_at hl 1 rfl) ?_
        refine lv_bipush (v := 10) hx hb dX12_match_35 (by decide) ?_
        refine lv_idiv hx hb dX12_match_37 (by decide) ?_
        refine lv_iload_n hx hb dX12_match_38 rfl (lv_at hl 1 rfl) ?_
        refine lv_bipush (v := 10) hx hb dX12_match_39 (by decide) ?_
        refine lv_irem hx hb dX12_match_41 (by decide) ?_
        refine lv_icmp_eq (tgt := 71) hx hb dX12_match_42 (by decide) (fun c10 => ?_) (fun c10 => ?_)
        · have hf := ite_t hf c10
          refine lv_bipush (v := -2) hx hb dX12_match_71 (by decide) ?_
          exact ret_I hret hJ hf rfl dX12_match_73
        · have hf := ite_f hf c10
          refine lv_iload_n hx hb dX12_match_45 rfl (lv_at hl 2 rfl) ?_
          refine lv_i2l (v := a2.toInt64) hx hb dX12_match_46 rfl ?_
          refine lv_lconst (v := 0) hx hb dX12_match_47 (by decide) ?_
          refine lv_ldc2 (v := 99) hx hb hown (hts _ kl_RX12_152) dX12_match_48 ?_
          obtain ⟨σ11, r12, hg13, hf⟩ := cal_some hf
          refine backI hsb hJ (runS (As := [.long a2.toInt64, .long (0 : Int64), .long (99 : Int64)]) (rest := []) C hJ lk_RX12_138 (cM_in hF hg13) rfl rfl (Nat.le_of_ble_eq_true rfl) hl.1 (hR_of (by omega) (by decide)) ⟨Nat.le_refl _, Nat.le_refl _⟩ dX12_match_51) (fun H locs hJ => ?_)
          refine lv_if_eq (tgt := 71) hx hb dX12_match_54 (by decide) (fun c14 => ?_) (fun c14 => ?_)
          · have hf := ite_t hf c14
            refine lv_bipush (v := -2) hx hb dX12_match_71 (by decide) ?_
            exact ret_I hret hJ hf rfl dX12_match_73
          · have hf := ite_f hf c14
            refine lv_iload_n hx hb dX12_match_57 rfl (lv_at hl 3 rfl) ?_
            refine lv_i2l (v := a3.toInt64) hx hb dX12_match_58 rfl ?_
            refine lv_lconst (v := 0) hx hb dX12_match_59 (by decide) ?_
            refine lv_aload_n hx hb dX12_match_60 rfl (lv_at hl 0 rfl) ?_
            obtain ⟨σ15, r16, hg17, hf⟩ := cal_some hf
            refine backI hsb hJ (runV (As := []) (rest := [.long (0 : Int64), .long a3.toInt64]) C hJ lk_RX12_401 (cM_all hF hg17) recM_0 rfl rfl (Nat.le_of_ble_eq_true rfl) hl.1 (hR_of (by omega) (by decide)) ⟨Nat.le_refl _, Nat.le_refl _⟩ dX12_match_61) (fun H locs hJ => ?_)
            refine lv_i2l (v := r16.toInt64) hx hb dX12_match_64 rfl ?_
            obtain ⟨σ18, r19, hg20, hf⟩ := cal_some hf
            refine backI hsb hJ (runS (As := [.long a3.toInt64, .long (0 : Int64), .long r16.toInt64]) (rest := []) C hJ lk_RX12_138 (cM_in hF hg20) rfl rfl (Nat.le_of_ble_eq_true rfl) hl.1 (hR_of (by omega) (by decide)) ⟨Nat.le_refl _, Nat.le_refl _⟩ dX12_match_65) (fun H locs hJ => ?_)
            refine lv_if_ne (tgt := 74) hx hb dX12_match_68 (by decide) (fun c21 => ?_) (fun c21 => ?_)
            · have hf := ite_f hf c21
              refine lv_aload_n hx hb dX12_match_74 rfl (lv_at hl 0 rfl) ?_
              refine gM_0_47 C hJ fl_RX12_417 dX12_match_75 ?_
              refine lv_bipush (v := 12) hx hb dX12_match_78 (by decide) ?_
              refine lv_icmp_ne (tgt := 86) hx hb dX12_match_80 (by decide) (fun c22 => ?_) (fun c22 => ?_)
              · have hf := ite_f hf c22
                refine lv_aload_n hx hb dX12_match_86 rfl (lv_at hl 0 rfl) ?_
                refine gM_0_42 C hJ fl_RX12_68 dX12_match_87 ?_
                refine lv_aload_n hx hb dX12_match_90 rfl (lv_at hl 0 rfl) ?_
                refine gM_0_47 C hJ fl_RX12_417 dX12_match_91 ?_
                refine lv_iload_n hx hb dX12_match_94 rfl (lv_at hl 1 rfl) ?_
                refine lv_bipush (v := 10) hx hb dX12_match_95 (by decide) ?_
                refine lv_idiv hx hb dX12_match_97 (by decide) ?_
                obtain ⟨h23, hf⟩ := gi_some hf
                refine sM_19 C hJ h23 dX12_match_98 (fun σ24 H locs hs hJ => ?_)
                have hf := bnd_at hf hs
                refine lv_aload_n hx hb dX12_match_99 rfl (lv_at hl 0 rfl) ?_
                refine gM_0_43 C hJ fl_RX12_71 dX12_match_100 ?_
                refine lv_aload_n hx hb dX12_match_103 rfl (lv_at hl 0 rfl) ?_
                refine gM_0_47 C hJ fl_RX12_417 dX12_match_104 ?_
                refine lv_iload_n hx hb dX12_match_107 rfl (lv_at hl 1 rfl) ?_
                refine lv_bipush (v := 10) hx hb dX12_match_108 (by decide) ?_
                refine lv_irem hx hb dX12_match_110 (by decide) ?_
                obtain ⟨h25, hf⟩ := gi_some hf
                refine sM_20 C hJ h25 dX12_match_111 (fun σ26 H locs hs hJ => ?_)
                have hf := bnd_at hf hs
                refine lv_aload_n hx hb dX12_match_112 rfl (lv_at hl 0 rfl) ?_
                refine gM_0_44 C hJ fl_RX12_74 dX12_match_113 ?_
                refine lv_aload_n hx hb dX12_match_116 rfl (lv_at hl 0 rfl) ?_
                refine gM_0_47 C hJ fl_RX12_417 dX12_match_117 ?_
                refine lv_iload_n hx hb dX12_match_120 rfl (lv_at hl 2 rfl) ?_
                refine lv_bipush (v := 10) hx hb dX12_match_121 (by decide) ?_
                refine lv_idiv hx hb dX12_match_123 (by decide) ?_
                obtain ⟨h27, hf⟩ := gi_some hf
                refine sM_21 C hJ h27 dX12_match_124 (fun σ28 H locs hs hJ => ?_)
                have hf := bnd_at hf hs
                refine lv_aload_n hx hb dX12_match_125 rfl (lv_at hl 0 rfl) ?_
                refine gM_0_45 C hJ fl_RX12_77 dX12_match_126 ?_
                refine lv_aload_n hx hb dX12_match_129 rfl (lv_at hl 0 rfl) ?_
                refine gM_0_47 C hJ fl_RX12_417 dX12_match_130 ?_
                refine lv_iload_n hx hb dX12_match_133 rfl (lv_at hl 2 rfl) ?_
                refine lv_bipush (v := 10) hx hb dX12_match_134 (by decide) ?_
                refine lv_irem hx hb dX12_match_136 (by decide) ?_
                obtain ⟨h29, hf⟩ := gi_some hf
                refine sM_22 C hJ h29 dX12_match_137 (fun σ30 H locs hs hJ => ?_)
                have hf := bnd_at hf hs
                refine lv_aload_n hx hb dX12_match_138 rfl (lv_at hl 0 rfl) ?_
                refine gM_0_46 C hJ fl_RX12_80 dX12_match_139 ?_
                refine lv_aload_n hx hb dX12_match_142 rfl (lv_at hl 0 rfl) ?_
                refine gM_0_47 C hJ fl_RX12_417 dX12_match_143 ?_
                refine lv_iload_n hx hb dX12_match_146 rfl (lv_at hl 3 rfl) ?_
                obtain ⟨h31, hf⟩ := gi_some hf
                refine sM_23 C hJ h31 dX12_match_147 (fun σ32 H locs hs hJ => ?_)
                have hf := bnd_at hf hs
                refine lv_aload_n hx hb dX12_match_148 rfl (lv_at hl 0 rfl) ?_
                refine lv_dup hx hb dX12_match_149 rfl ?_
                refine gM_0_47 C hJ fl_RX12_417 dX12_match_150 ?_
                refine lv_iconst (v := 1) hx hb dX12_match_153 (by decide) ?_
                refine lv_iadd hx hb dX12_match_154 ?_
                refine pM_0_47 C hJ fl_RX12_417 dX12_match_155 (fun σ33 H locs hs hJ => ?_)
                have hf := bnd_at hf hs
                refine lv_aload_n hx hb dX12_match_158 rfl (lv_at hl 0 rfl) ?_
                refine gM_0_47 C hJ fl_RX12_417 dX12_match_159 ?_
                refine lv_iconst (v := 1) hx hb dX12_match_162 (by decide) ?_
                refine lv_isub hx hb dX12_match_163 ?_
                exact ret_I hret hJ hf rfl dX12_match_164
              · have hf := ite_t hf c22
                refine lv_bipush (v := -4) hx hb dX12_match_83 (by decide) ?_
                exact ret_I hret hJ hf rfl dX12_match_85
            · have hf := ite_t hf c21
              refine lv_bipush (v := -2) hx hb dX12_match_71 (by decide) ?_
              exact ret_I hret hJ hf rfl dX12_match_73
set_option maxHeartbeats 4000000 in
set_option maxRecDepth 100000 in
theorem cM_counts {l : Launch} {D : va_G} {cA cB : ClassId} {q : Nat → Nat} {A : Nat → Prop} {E : State → Prop} {N : Nat} {σ σ' : St} {a1 : Int32} {a2 : Int32} {a3 : Int32} (hF : Fr (wM q cA cB) A E) (hf : fM_counts N σ a1 a2 a3 = some (σ', ())) : MV l yX12_counts cX12_counts 4 1 D (tyM cA cB) (wM q cA cB) A E [.ref (q 0), .int a1, .int a2, .int a3] σ σ' := by
  refine MV_of (by decide) hF (Nat.le_of_ble_eq_true rfl) ?_
  intro p e s m args below meth c Q C hret hJ ls hl
  obtain ⟨hx, hb, hml, hown, hts, hK, hE, -⟩ := id C
  have hsb : ∀ z, A z → A z := fun _ h => h
  have j26 : ∀ (σ : St) (a1 : Int32) (a2 : Int32) (a3 : Int32) (t1 : Int32) (t2 : Int32) (t3 : Int32) (H : Heap) (locs : List Loc) (ls : Array Slot), fM_counts_j26 N  σ a1 a2 a3 t1 t2 t3 = some (σ', ()) → J D (wM q cA cB) A s σ H locs → lv_has ls 4 [(0, .ref (q 0)), (1, .int a1), (2, .int a2), (3, .int a3)] → W p l e (rmH 1) s m args below meth c H locs 0 0 Q (F0 m 26 ls [.int t3, .int t2, .int t1, .ref (q 24)]) := by
    intro σ a1 a2 a3 t1 t2 t3 H locs ls hf hJ hl
    unfold fM_counts_j26 at hf
    refine lv_iadd hx hb dX12_counts_26 ?_
    obtain ⟨h1, hf⟩ := gi_some hf
    refine sM_24 C hJ h1 dX12_counts_27 (fun σ2 H locs hs hJ => ?_)
    have hf := bnd_at hf hs
    refine lv_aload_n hx hb dX12_counts_28 rfl (lv_at hl 0 rfl) ?_
    refine gM_0_49 C hJ fl_RX12_86 dX12_counts_29 ?_
    refine lv_iload_n hx hb dX12_counts_32 rfl (lv_at hl 1 rfl) ?_
    refine lv_dup2_11 hx hb dX12_counts_33 rfl rfl ?_
    obtain ⟨h3, hf⟩ := gi_some hf
    refine aM_25 C hJ h3 dX12_counts_34 ?_
    refine lv_iload_n hx hb dX12_counts_35 rfl (lv_at hl 2 rfl) ?_
    refine lv_iadd hx hb dX12_counts_36 ?_
    obtain ⟨h4, hf⟩ := gi_some hf
    refine sM_25 C hJ h4 dX12_counts_37 (fun σ5 H locs hs hJ => ?_)
    have hf := bnd_at hf hs
    refine lv_aload_n hx hb dX12_counts_38 rfl (lv_at hl 0 rfl) ?_
    refine gM_0_50 C hJ fl_RX12_89 dX12_counts_39 ?_
    refine lv_iload_n hx hb dX12_counts_42 rfl (lv_at hl 1 rfl) ?_
    refine lv_dup2_11 hx hb dX12_counts_43 rfl rfl ?_
    obtain ⟨h6, hf⟩ := gi_some hf
    refine aM_26 C hJ h6 dX12_counts_44 ?_
    refine lv_iload_n hx hb dX12_counts_45 rfl (lv_at hl 3 rfl) ?_
    refine lv_iadd hx hb dX12_counts_46 ?_
    obtain ⟨h7, hf⟩ := gi_some hf
    refine sM_26 C hJ h7 dX12_counts_47 (fun σ8 H locs hs hJ => ?_)
    have hf := bnd_at hf hs
    exact ret_V hret hJ hf dX12_counts_48
  have hl : lv_has ls 4 [(0, .ref (q 0)), (1, .int a1), (2, .int a2), (3, .int a3)] := hl
  unfold fM_counts at hf
  refine lv_aload_n hx hb dX12_counts_0 rfl (lv_at hl 0 rfl) ?_
  refine gM_0_48 C hJ fl_RX12_83 dX12_counts_1 ?_
  refine lv_iload_n hx hb dX12_counts_4 rfl (lv_at hl 1 rfl) ?_
  refine lv_dup2_11 hx hb dX12_counts_5 rfl rfl ?_
  obtain ⟨h9, hf⟩ := gi_some hf
  refine aM_24 C hJ h9 dX12_counts_6 ?_
  refine lv_iload_n hx hb dX12_counts_7 rfl (lv_at hl 2 rfl) ?_
  refine lv_iload_n hx hb dX12_counts_8 rfl (lv_at hl 3 rfl) ?_
  refine lv_icmp_le (tgt := 16) hx hb dX12_counts_9 (by decide) (fun c10 => ?_) (fun c10 => ?_)
  · have hf := ite_t hf c10
    refine lv_iload_n hx hb dX12_counts_16 rfl (lv_at hl 2 rfl) ?_
    refine lv_iload_n hx hb dX12_counts_17 rfl (lv_at hl 3 rfl) ?_
    refine lv_icmp_ne (tgt := 25) hx hb dX12_counts_18 (by decide) (fun c11 => ?_) (fun c11 => ?_)
    · have hf := ite_f hf c11
      refine lv_iconst (v := 0) hx hb dX12_counts_25 (by decide) ?_
      exact j26 σ a1 a2 a3 a1 (σ.2.1 24 a1.toNatClampNeg) (0 : Int32) _ _ _ hf hJ (lv_sub hl [0, 1, 2, 3] rfl)
    · have hf := ite_t hf c11
      refine lv_iconst (v := 1) hx hb dX12_counts_21 (by decide) ?_
      refine lv_goto (tgt := 26) hx hb dX12_counts_22 (by decide) ?_
      exact j26 σ a1 a2 a3 a1 (σ.2.1 24 a1.toNatClampNeg) (1 : Int32) _ _ _ hf hJ (lv_sub hl [0, 1, 2, 3] rfl)
  · have hf := ite_f hf c10
    refine lv_iconst (v := 3) hx hb dX12_counts_12 (by decide) ?_
    refine lv_goto (tgt := 26) hx hb dX12_counts_13 (by decide) ?_
    exact j26 σ a1 a2 a3 a1 (σ.2.1 24 a1.toNatClampNeg) (3 : Int32) _ _ _ hf hJ (lv_sub hl [0, 1, 2, 3] rfl)
set_option maxHeartbeats 4000000 in
set_option maxRecDepth 100000 in
theorem cM_tables {l : Launch} {D : va_G} {cA cB : ClassId} {q : Nat → Nat} {A : Nat → Prop} {E : State → Prop} {N : Nat} {σ σ' : St} {a1 : Int32} (hF : Fr (wM q cA cB) A E) (hf : fM_tables N σ a1 = some (σ', ())) : MV l yX12_tables cX12_tables 9 58 D (tyM cA cB) (wM q cA cB) A E [.ref (q 0), .int a1] σ σ' := by
  refine MV_of (by decide) hF (Nat.le_of_ble_eq_true rfl) ?_
  intro p e s m args below meth c Q C hret hJ ls hl
  obtain ⟨hx, hb, hml, hown, hts, hK, hE, -⟩ := id C
  have hsb : ∀ z, A z → A z := fun _ h => h
  have j228 : ∀ (σ : St) (a2 : Int32) (H : Heap) (locs : List Loc) (ls : Array Slot), fM_tables_j228 N  σ a2 = some (σ', ()) → J D (wM q cA cB) A s σ H locs → lv_has ls 9 [(0, .ref (q 0)), (2, .int a2)] → W p l e (rmH 58) s m args below meth c H locs 0 0 Q (F0 m 228 ls []) := by
    intro σ a2 H locs ls hf hJ hl
    unfold fM_tables_j228 at hf
    refine lv_aload_n hx hb dX12_tables_228 rfl (lv_at hl 0 rfl) ?_
    refine lv_iload_n hx hb dX12_tables_229 rfl (lv_at hl 1 rfl) ?_
    refine pM_0_12 C hJ fl_RX12_247 dX12_tables_230 (fun σ1 H locs hs hJ => ?_)
    have hf := bnd_at hf hs
    exact ret_V hret hJ hf dX12_tables_233
  have l61 : ∀ (n : Nat) (σ : St) (a2 : Int32) (a3 : Int32) (a4 : Int32) (H : Heap) (locs : List Loc) (ls : Array Slot), fM_tables_l61 N  n σ a2 a3 a4 = some (σ', ()) → J D (wM q cA cB) A s σ H locs → lv_has ls 9 [(0, .ref (q 0)), (2, .int a2), (3, .int a3), (4, .int a4)] → W p l e (rmH 58) s m args below meth c H locs 0 0 Q (F0 m 61 ls []) := by
    intro n61
    induction n61 with
    | zero => intro σ a2 a3 a4 H locs ls hf; rw [fM_tables_l61] at hf; cases hf
    | succ n61 ih61 =>
      have j192 : ∀ (σ : St) (a2 : Int32) (a3 : Int32) (a4 : Int32) (a5 : Int32) (a6 : Int32) (H : Heap) (locs : List Loc) (ls : Array Slot), fM_tables_j192 N (fM_tables_l61 N  n61) σ a2 a3 a4 a5 a6 = some (σ', ()) → J D (wM q cA cB) A s σ H locs → lv_has ls 9 [(0, .ref (q 0)), (2, .int a2), (3, .int a3), (4, .int a4), (5, .int a5), (6, .int a6)] → W p l e (rmH 58) s m args below meth c H locs 0 0 Q (F0 m 192 ls []) := by
        intro σ a2 a3 a4 a5 a6 H locs ls hf hJ hl
        unfold fM_tables_j192 at hf
        refine lv_aload_n hx hb dX12_tables_192 rfl (lv_at hl 0 rfl) ?_
        refine lv_aload_n hx hb dX12_tables_193 rfl (lv_at hl 0 rfl) ?_
        refine gM_0_42 C hJ fl_RX12_68 dX12_tables_194 ?_
        refine lv_iload hx hb dX12_tables_197 (lv_at hl 3 rfl) ?_
        obtain ⟨h2, hf⟩ := gi_some hf
        refine aM_19 C hJ h2 dX12_tables_199 ?_
        refine lv_iload hx hb dX12_tables_200 (lv_at hl 4 rfl) ?_
        refine lv_iload hx hb dX12_tables_202 (lv_at hl 5 rfl) ?_
        obtain ⟨σ3, r4, hg5, hf⟩ := cal_some hf
        refine backV hsb hJ (runV (As := [.int (σ.2.1 19 a4.toNatClampNeg), .int a5, .int a6]) (rest := []) C hJ lk_RX12_420 (cM_counts hF hg5) recM_0 rfl rfl (Nat.le_of_ble_eq_true rfl) hl.1 (hR_of (by omega) (by decide)) ⟨Nat.le_refl _, Nat.le_refl _⟩ dX12_tables_204) (fun H locs hJ => ?_)
        refine lv_aload_n hx hb dX12_tables_207 rfl (lv_at hl 0 rfl) ?_
        refine lv_aload_n hx hb dX12_tables_208 rfl (lv_at hl 0 rfl) ?_
        refine gM_0_43 C hJ fl_RX12_71 dX12_tables_209 ?_
        refine lv_iload hx hb dX12_tables_212 (lv_at hl 3 rfl) ?_
        obtain ⟨h6, hf⟩ := gi_some hf
        refine aM_20 C hJ h6 dX12_tables_214 ?_
        refine lv_iload hx hb dX12_tables_215 (lv_at hl 5 rfl) ?_
        refine lv_iload hx hb dX12_tables_217 (lv_at hl 4 rfl) ?_
        obtain ⟨σ7, r8, hg9, hf⟩ := cal_some hf
        refine backV hsb hJ (runV (As := [.int (σ3.2.1 20 a4.toNatClampNeg), .int a6, .int a5]) (rest := []) C hJ lk_RX12_420 (cM_counts hF hg9) recM_0 rfl rfl (Nat.le_of_ble_eq_true rfl) hl.1 (hR_of (by omega) (by decide)) ⟨Nat.le_refl _, Nat.le_refl _⟩ dX12_tables_219) (fun H locs hJ => ?_)
        obtain ⟨x10, hx10⟩ : ∃ z : Int32, z = a4 + (1 : Int32) := ⟨_, rfl⟩
        have hf := bnd_at hf hx10
        refine lv_iinc (v := x10) (lv' := [(4, .int x10), (0, .ref (q 0)), (2, .int a2), (3, .int a3), (5, .int a5), (6, .int a6)]) hx hb dX12_tables_222 hl (k := 3) rfl (by rw [hx10]; rfl) (by decide) rfl (fun ls hl => ?_)
        refine lv_goto (tgt := 61) hx hb dX12_tables_225 (by decide) ?_
        exact ih61 σ7 a2 a3 x10 _ _ _ hf hJ (lv_sub hl [1, 2, 3, 0] rfl)
      have l91 : ∀ (n : Nat) (σ : St) (a2 : Int32) (a3 : Int32) (a4 : Int32) (a5 : Int32) (a6 : Int32) (a7 : Int32) (H : Heap) (locs : List Loc) (ls : Array Slot), fM_tables_l91 N (fM_tables_l61 N  n61) n σ a2 a3 a4 a5 a6 a7 = some (σ', ()) → J D (wM q cA cB) A s σ H locs → lv_has ls 9 [(0, .ref (q 0)), (2, .int a2), (3, .int a3), (4, .int a4), (5, .int a5), (6, .int a6), (7, .int a7)] → W p l e (rmH 58) s m args below meth c H locs 0 0 Q (F0 m 91 ls []) := by
        intro n91
        induction n91 with
        | zero => intro σ a2 a3 a4 a5 a6 a7 H locs ls hf; rw [fM_tables_l91] at hf; cases hf
        | succ n91 ih91 =>
          have j186 : ∀ (σ : St) (a2 : Int32) (a3 : Int32) (a4 : Int32) (a5 : Int32) (a6 : Int32) (a7 : Int32) (H : Heap) (locs : List Loc) (ls : Array Slot), fM_tables_j186 N (fM_tables_l61 N  n61) (fM_tables_l91 N (fM_tables_l61 N  n61) n91) σ a2 a3 a4 a5 a6 a7 = some (σ', ()) → J D (wM q cA cB) A s σ H locs → lv_has ls 9 [(0, .ref (q 0)), (2, .int a2), (3, .int a3), (4, .int a4), (5, .int a5), (6, .int a6), (7, .int a7)] → W p l e (rmH 58) s m args below meth c H locs 0 0 Q (F0 m 186 ls []) := by
            intro σ a2 a3 a4 a5 a6 a7 H locs ls hf hJ hl
            unfold fM_tables_j186 at hf
            obtain ⟨x11, hx11⟩ : ∃ z : Int32, z = a7 + (1 : Int32) := ⟨_, rfl⟩
            have hf := bnd_at hf hx11
            refine lv_iinc (v := x11) (lv' := [(7, .int x11), (0, .ref (q 0)), (2, .int a2), (3, .int a3), (4, .int a4), (5, .int a5), (6, .int a6)]) hx hb dX12_tables_186 hl (k := 6) rfl (by rw [hx11]; rfl) (by decide) rfl (fun ls hl => ?_)
            refine lv_goto (tgt := 91) hx hb dX12_tables_189 (by decide) ?_
            exact ih91 σ a2 a3 a4 a5 a6 x11 _ _ _ hf hJ (lv_sub hl [1, 2, 3, 4, 5, 6, 0] rfl)
          have j183 : ∀ (σ : St) (a2 : Int32) (a3 : Int32) (a4 : Int32) (a5 : Int32) (a7 : Int32) (t0 : Int32) (t1 : Int32) (H : Heap) (locs : List Loc) (ls : Array Slot), fM_tables_j183 N (fM_tables_l61 N  n61) (fM_tables_l91 N (fM_tables_l61 N  n61) n91) σ a2 a3 a4 a5 a7 t0 t1 = some (σ', ()) → J D (wM q cA cB) A s σ H locs → lv_has ls 9 [(0, .ref (q 0)), (2, .int a2), (3, .int a3), (4, .int a4), (5, .int a5), (7, .int a7)] → W p l e (rmH 58) s m args below meth c H locs 0 0 Q (F0 m 183 ls [.int t1, .int t0]) := by
            intro σ a2 a3 a4 a5 a7 t0 t1 H locs ls hf hJ hl
            unfold fM_tables_j183 at hf
            refine lv_iadd hx hb dX12_tables_183 ?_
            refine lv_topi (fun x12 hx12 => ?_)
            have hf := bnd_at hf hx12
            refine lv_istore (lv' := [(6, .int x12), (0, .ref (q 0)), (2, .int a2), (3, .int a3), (4, .int a4), (5, .int a5), (7, .int a7)]) hx hb dX12_tables_184 hl (by decide) rfl (fun ls hl => ?_)
            exact j186 σ a2 a3 a4 a5 x12 a7 _ _ _ hf hJ (lv_sub hl [1, 2, 3, 4, 5, 0, 6] rfl)
          have j161 : ∀ (σ : St) (a2 : Int32) (a3 : Int32) (a4 : Int32) (a6 : Int32) (a7 : Int32) (a8 : Int32) (t0 : Int32) (t1 : Int32) (H : Heap) (locs : List Loc) (ls : Array Slot), fM_tables_j161 N (fM_tables_l61 N  n61) (fM_tables_l91 N (fM_tables_l61 N  n61) n91) σ a2 a3 a4 a6 a7 a8 t0 t1 = some (σ', ()) → J D (wM q cA cB) A s σ H locs → lv_has ls 9 [(0, .ref (q 0)), (2, .int a2), (3, .int a3), (4, .int a4), (6, .int a6), (7, .int a7), (8, .int a8)] → W p l e (rmH 58) s m args below meth c H locs 0 0 Q (F0 m 161 ls [.int t1, .int t0]) := by
            intro σ a2 a3 a4 a6 a7 a8 t0 t1 H locs ls hf hJ hl
            unfold fM_tables_j161 at hf
            refine lv_iadd hx hb dX12_tables_161 ?_
            refine lv_topi (fun x13 hx13 => ?_)
            have hf := bnd_at hf hx13
            refine lv_istore (lv' := [(5, .int x13), (0, .ref (q 0)), (2, .int a2), (3, .int a3), (4, .int a4), (6, .int a6), (7, .int a7), (8, .int a8)]) hx hb dX12_tables_162 hl (by decide) rfl (fun ls hl => ?_)
            refine lv_iload hx hb dX12_tables_164 (lv_at hl 5 rfl) ?_
            refine lv_iload hx hb dX12_tables_166 (lv_at hl 7 rfl) ?_
            refine lv_aload_n hx hb dX12_tables_168 rfl (lv_at hl 1 rfl) ?_
            refine gM_0_43 C hJ fl_RX12_71 dX12_tables_169 ?_
            refine lv_iload hx hb dX12_tables_172 (lv_at hl 4 rfl) ?_
            obtain ⟨h14, hf⟩ := gi_some hf
            refine aM_20 C hJ h14 dX12_tables_174 ?_
            refine lv_icmp_ne (tgt := 182) hx hb dX12_tables_175 (by decide) (fun c15 => ?_) (fun c15 => ?_)
            · have hf := ite_f hf c15
              refine lv_iconst (v := 0) hx hb dX12_tables_182 (by decide) ?_
              exact j183 σ a2 a3 a4 x13 a7 a6 (0 : Int32) _ _ _ hf hJ (lv_sub hl [1, 2, 3, 4, 0, 6] rfl)
            · have hf := ite_t hf c15
              refine lv_iconst (v := 1) hx hb dX12_tables_178 (by decide) ?_
              refine lv_goto (tgt := 183) hx hb dX12_tables_179 (by decide) ?_
              exact j183 σ a2 a3 a4 x13 a7 a6 (1 : Int32) _ _ _ hf hJ (lv_sub hl [1, 2, 3, 4, 0, 6] rfl)
          intro σ a2 a3 a4 a5 a6 a7 H locs ls hf hJ hl
          rw [fM_tables_l91] at hf
          refine lv_iload hx hb dX12_tables_91 (lv_at hl 6 rfl) ?_
          refine lv_aload_n hx hb dX12_tables_93 rfl (lv_at hl 0 rfl) ?_
          refine gM_0_41 C hJ fl_RX12_363 dX12_tables_94 ?_
          refine lv_icmp_ge (tgt := 192) hx hb dX12_tables_97 (by decide) (fun c16 => ?_) (fun c16 => ?_)
          · have hf := ite_t hf c16
            exact j192 σ a2 a3 a4 a5 a6 _ _ _ hf hJ (lv_sub hl [0, 1, 2, 3, 4, 5] rfl)
          · have hf := ite_f hf c16
            refine lv_aload_n hx hb dX12_tables_100 rfl (lv_at hl 0 rfl) ?_
            refine gM_0_46 C hJ fl_RX12_80 dX12_tables_101 ?_
            refine lv_iload hx hb dX12_tables_104 (lv_at hl 3 rfl) ?_
            obtain ⟨h17, hf⟩ := gi_some hf
            refine aM_23 C hJ h17 dX12_tables_106 ?_
            refine lv_iload hx hb dX12_tables_107 (lv_at hl 6 rfl) ?_
            refine lv_ishr hx hb dX12_tables_109 ?_
            refine lv_iconst (v := 1) hx hb dX12_tables_110 (by decide) ?_
            refine lv_iand hx hb dX12_tables_111 ?_
            refine lv_if_eq (tgt := 186) hx hb dX12_tables_112 (by decide) (fun c18 => ?_) (fun c18 => ?_)
            · have hf := ite_t hf c18
              exact j186 σ a2 a3 a4 a5 a6 a7 _ _ _ hf hJ (lv_sub hl [0, 1, 2, 3, 4, 5, 6] rfl)
            · have hf := ite_f hf c18
              refine lv_iload_n hx hb dX12_tables_115 rfl (lv_at hl 2 rfl) ?_
              refine lv_iload hx hb dX12_tables_116 (lv_at hl 6 rfl) ?_
              refine lv_ishr hx hb dX12_tables_118 ?_
              refine lv_iconst (v := 1) hx hb dX12_tables_119 (by decide) ?_
              refine lv_iand hx hb dX12_tables_120 ?_
              refine lv_iconst (v := 1) hx hb dX12_tables_121 (by decide) ?_
              refine lv_icmp_ne (tgt := 128) hx hb dX12_tables_122 (by decide) (fun c19 => ?_) (fun c19 => ?_)
              · have hf := ite_f hf c19
                refine lv_aload_n hx hb dX12_tables_128 rfl (lv_at hl 0 rfl) ?_
                refine gM_0_7 C hJ fl_RX12_23 dX12_tables_129 ?_
                refine lv_aload_n hx hb dX12_tables_132 rfl (lv_at hl 0 rfl) ?_
                refine gM_0_36 C hJ fl_RX12_53 dX12_tables_133 ?_
                refine lv_iload hx hb dX12_tables_136 (lv_at hl 6 rfl) ?_
                obtain ⟨h20, hf⟩ := gi_some hf
                refine aM_14 C hJ h20 dX12_tables_138 ?_
                obtain ⟨h21, hf⟩ := gi_some hf
                refine aM_4 C hJ h21 dX12_tables_139 ?_
                refine lv_topi (fun x22 hx22 => ?_)
                have hf := bnd_at hf hx22
                refine lv_istore (lv' := [(8, .int x22), (0, .ref (q 0)), (2, .int a2), (3, .int a3), (4, .int a4), (5, .int a5), (6, .int a6), (7, .int a7)]) hx hb dX12_tables_140 hl (by decide) rfl (fun ls hl => ?_)
                refine lv_iload hx hb dX12_tables_142 (lv_at hl 5 rfl) ?_
                refine lv_iload hx hb dX12_tables_144 (lv_at hl 0 rfl) ?_
                refine lv_aload_n hx hb dX12_tables_146 rfl (lv_at hl 1 rfl) ?_
                refine gM_0_42 C hJ fl_RX12_68 dX12_tables_147 ?_
                refine lv_iload hx hb dX12_tables_150 (lv_at hl 4 rfl) ?_
                obtain ⟨h23, hf⟩ := gi_some hf
                refine aM_19 C hJ h23 dX12_tables_152 ?_
                refine lv_icmp_ne (tgt := 160) hx hb dX12_tables_153 (by decide) (fun c24 => ?_) (fun c24 => ?_)
                · have hf := ite_f hf c24
                  refine lv_iconst (v := 0) hx hb dX12_tables_160 (by decide) ?_
                  exact j161 σ a2 a3 a4 a6 a7 x22 a5 (0 : Int32) _ _ _ hf hJ (lv_sub hl [1, 2, 3, 4, 6, 7, 0] rfl)
                · have hf := ite_t hf c24
                  refine lv_iconst (v := 1) hx hb dX12_tables_156 (by decide) ?_
                  refine lv_goto (tgt := 161) hx hb dX12_tables_157 (by decide) ?_
                  exact j161 σ a2 a3 a4 a6 a7 x22 a5 (1 : Int32) _ _ _ hf hJ (lv_sub hl [1, 2, 3, 4, 6, 7, 0] rfl)
              · have hf := ite_t hf c19
                refine lv_goto (tgt := 186) hx hb dX12_tables_125 (by decide) ?_
                exact j186 σ a2 a3 a4 a5 a6 a7 _ _ _ hf hJ (lv_sub hl [0, 1, 2, 3, 4, 5, 6] rfl)
      intro σ a2 a3 a4 H locs ls hf hJ hl
      rw [fM_tables_l61] at hf
      refine lv_iload hx hb dX12_tables_61 (lv_at hl 3 rfl) ?_
      refine lv_aload_n hx hb dX12_tables_63 rfl (lv_at hl 0 rfl) ?_
      refine gM_0_47 C hJ fl_RX12_417 dX12_tables_64 ?_
      refine lv_icmp_ge (tgt := 228) hx hb dX12_tables_67 (by decide) (fun c25 => ?_) (fun c25 => ?_)
      · have hf := ite_t hf c25
        exact j228 σ a2 _ _ _ hf hJ (lv_sub hl [0, 1] rfl)
      · have hf := ite_f hf c25
        refine lv_aload_n hx hb dX12_tables_70 rfl (lv_at hl 0 rfl) ?_
        refine gM_0_44 C hJ fl_RX12_74 dX12_tables_71 ?_
        refine lv_iload hx hb dX12_tables_74 (lv_at hl 3 rfl) ?_
        obtain ⟨h26, hf⟩ := gi_some hf
        refine aM_21 C hJ h26 dX12_tables_76 ?_
        refine lv_topi (fun x27 hx27 => ?_)
        have hf := bnd_at hf hx27
        refine lv_istore (lv' := [(5, .int x27), (0, .ref (q 0)), (2, .int a2), (3, .int a3), (4, .int a4)]) hx hb dX12_tables_77 hl (by decide) rfl (fun ls hl => ?_)
        refine lv_aload_n hx hb dX12_tables_79 rfl (lv_at hl 1 rfl) ?_
        refine gM_0_45 C hJ fl_RX12_77 dX12_tables_80 ?_
        refine lv_iload hx hb dX12_tables_83 (lv_at hl 4 rfl) ?_
        obtain ⟨h28, hf⟩ := gi_some hf
        refine aM_22 C hJ h28 dX12_tables_85 ?_
        refine lv_topi (fun x29 hx29 => ?_)
        have hf := bnd_at hf hx29
        refine lv_istore (lv' := [(6, .int x29), (5, .int x27), (0, .ref (q 0)), (2, .int a2), (3, .int a3), (4, .int a4)]) hx hb dX12_tables_86 hl (by decide) rfl (fun ls hl => ?_)
        refine lv_iconst (v := 0) hx hb dX12_tables_88 (by decide) ?_
        refine lv_istore (lv' := [(7, .int (0 : Int32)), (6, .int x29), (5, .int x27), (0, .ref (q 0)), (2, .int a2), (3, .int a3), (4, .int a4)]) hx hb dX12_tables_89 hl (by decide) rfl (fun ls hl => ?_)
        exact l91 N σ a2 a3 a4 x27 x29 (0 : Int32) _ _ _ hf hJ (lv_sub hl [3, 4, 5, 6, 2, 1, 0] rfl)
  have j58 : ∀ (σ : St) (a2 : Int32) (a3 : Int32) (H : Heap) (locs : List Loc) (ls : Array Slot), fM_tables_j58 N  σ a2 a3 = some (σ', ()) → J D (wM q cA cB) A s σ H locs → lv_has ls 9 [(0, .ref (q 0)), (2, .int a2), (3, .int a3)] → W p l e (rmH 58) s m args below meth c H locs 0 0 Q (F0 m 58 ls []) := by
    intro σ a2 a3 H locs ls hf hJ hl
    unfold fM_tables_j58 at hf
    refine lv_iconst (v := 0) hx hb dX12_tables_58 (by decide) ?_
    refine lv_istore (lv' := [(4, .int (0 : Int32)), (0, .ref (q 0)), (2, .int a2), (3, .int a3)]) hx hb dX12_tables_59 hl (by decide) rfl (fun ls hl => ?_)
    exact l61 N σ a2 a3 (0 : Int32) _ _ _ hf hJ (lv_sub hl [1, 2, 3, 0] rfl)
  have l22 : ∀ (n : Nat) (σ : St) (a2 : Int32) (a3 : Int32) (a4 : Int32) (H : Heap) (locs : List Loc) (ls : Array Slot), fM_tables_l22 N  n σ a2 a3 a4 = some (σ', ()) → J D (wM q cA cB) A s σ H locs → lv_has ls 9 [(0, .ref (q 0)), (2, .int a2), (3, .int a3), (4, .int a4)] → W p l e (rmH 58) s m args below meth c H locs 0 0 Q (F0 m 22 ls []) := by
    intro n22
    induction n22 with
    | zero => intro σ a2 a3 a4 H locs ls hf; rw [fM_tables_l22] at hf; cases hf
    | succ n22 ih22 =>
      intro σ a2 a3 a4 H locs ls hf hJ hl
      rw [fM_tables_l22] at hf
      refine lv_iload hx hb dX12_tables_22 (lv_at hl 3 rfl) ?_
      refine lv_iconst (v := 4) hx hb dX12_tables_24 (by decide) ?_
      refine lv_icmp_ge (tgt := 58) hx hb dX12_tables_25 (by decide) (fun c30 => ?_) (fun c30 => ?_)
      · have hf := ite_t hf c30
        exact j58 σ a2 a3 _ _ _ hf hJ (lv_sub hl [0, 1, 2] rfl)
      · have hf := ite_f hf c30
        refine lv_aload_n hx hb dX12_tables_28 rfl (lv_at hl 0 rfl) ?_
        refine gM_0_48 C hJ fl_RX12_83 dX12_tables_29 ?_
        refine lv_iload hx hb dX12_tables_32 (lv_at hl 3 rfl) ?_
        refine lv_iconst (v := 0) hx hb dX12_tables_34 (by decide) ?_
        obtain ⟨h31, hf⟩ := gi_some hf
        refine sM_24 C hJ h31 dX12_tables_35 (fun σ32 H locs hs hJ => ?_)
        have hf := bnd_at hf hs
        refine lv_aload_n hx hb dX12_tables_36 rfl (lv_at hl 0 rfl) ?_
        refine gM_0_49 C hJ fl_RX12_86 dX12_tables_37 ?_
        refine lv_iload hx hb dX12_tables_40 (lv_at hl 3 rfl) ?_
        refine lv_iconst (v := 0) hx hb dX12_tables_42 (by decide) ?_
        obtain ⟨h33, hf⟩ := gi_some hf
        refine sM_25 C hJ h33 dX12_tables_43 (fun σ34 H locs hs hJ => ?_)
        have hf := bnd_at hf hs
        refine lv_aload_n hx hb dX12_tables_44 rfl (lv_at hl 0 rfl) ?_
        refine gM_0_50 C hJ fl_RX12_89 dX12_tables_45 ?_
        refine lv_iload hx hb dX12_tables_48 (lv_at hl 3 rfl) ?_
        refine lv_iconst (v := 0) hx hb dX12_tables_50 (by decide) ?_
        obtain ⟨h35, hf⟩ := gi_some hf
        refine sM_26 C hJ h35 dX12_tables_51 (fun σ36 H locs hs hJ => ?_)
        have hf := bnd_at hf hs
        obtain ⟨x37, hx37⟩ : ∃ z : Int32, z = a4 + (1 : Int32) := ⟨_, rfl⟩
        have hf := bnd_at hf hx37
        refine lv_iinc (v := x37) (lv' := [(4, .int x37), (0, .ref (q 0)), (2, .int a2), (3, .int a3)]) hx hb dX12_tables_52 hl (k := 3) rfl (by rw [hx37]; rfl) (by decide) rfl (fun ls hl => ?_)
        refine lv_goto (tgt := 22) hx hb dX12_tables_55 (by decide) ?_
        exact ih22 σ36 a2 a3 x37 _ _ _ hf hJ (lv_sub hl [1, 2, 3, 0] rfl)
  have hl : lv_has ls 9 [(0, .ref (q 0)), (1, .int a1)] := hl
  unfold fM_tables at hf
  refine lv_aload_n hx hb dX12_tables_0 rfl (lv_at hl 0 rfl) ?_
  refine gM_0_12 C hJ fl_RX12_247 dX12_tables_1 ?_
  refine lv_topi (fun x38 hx38 => ?_)
  have hf := bnd_at hf hx38
  refine lv_istore_n (lv' := [(2, .int x38), (0, .ref (q 0)), (1, .int a1)]) hx hb dX12_tables_4 rfl hl (by decide) rfl (fun ls hl => ?_)
  refine lv_aload_n hx hb dX12_tables_5 rfl (lv_at hl 1 rfl) ?_
  refine lv_iload_n hx hb dX12_tables_6 rfl (lv_at hl 2 rfl) ?_
  refine pM_0_12 C hJ fl_RX12_247 dX12_tables_7 (fun σ39 H locs hs hJ => ?_)
  have hf := bnd_at hf hs
  refine lv_aload_n hx hb dX12_tables_10 rfl (lv_at hl 1 rfl) ?_
  refine lv_aload_n hx hb dX12_tables_11 rfl (lv_at hl 1 rfl) ?_
  obtain ⟨σ40, r41, hg42, hf⟩ := cal_some hf
  refine backI hsb hJ (runV (As := []) (rest := [.ref (q 0)]) C hJ lk_RX12_401 (cM_all hF hg42) recM_0 rfl rfl (Nat.le_of_ble_eq_true rfl) hl.1 (hR_of (by omega) (by decide)) ⟨Nat.le_refl _, Nat.le_refl _⟩ dX12_tables_12) (fun H locs hJ => ?_)
  obtain ⟨σ43, r44, hg45, hf⟩ := cal_some hf
  refine backI hsb hJ (runV (As := [.int r41]) (rest := []) C hJ lk_RX12_404 (cM_offsides hF hg45) recM_0 rfl rfl (Nat.le_of_ble_eq_true rfl) hl.1 (hR_of (by omega) (by decide)) ⟨Nat.le_refl _, Nat.le_refl _⟩ dX12_tables_15) (fun H locs hJ => ?_)
  refine lv_istore_n (lv' := [(3, .int r44), (2, .int x38), (0, .ref (q 0)), (1, .int a1)]) hx hb dX12_tables_18 rfl hl (by decide) rfl (fun ls hl => ?_)
  refine lv_iconst (v := 0) hx hb dX12_tables_19 (by decide) ?_
  refine lv_istore (lv' := [(4, .int (0 : Int32)), (3, .int r44), (2, .int x38), (0, .ref (q 0)), (1, .int a1)]) hx hb dX12_tables_20 hl (by decide) rfl (fun ls hl => ?_)
  exact l22 N σ43 x38 r44 (0 : Int32) _ _ _ hf hJ (lv_sub hl [3, 2, 1, 0] rfl)
