set_option maxHeartbeats 4000000 in
set_option maxRecDepth 100000 in
theorem cC_told {l : Launch} {D : va_G} {cA cB : ClassId} {q : Nat → Nat} {x : Nat → Nat} {N : Nat} {σ σ' : St} {r : Int64} {a1 : Int32} {a2 : Int32} (hF : Fr (wC q cA cB) (aC q) (eC q x)) (hf : fC_told N σ a1 a2 = some (σ', r)) : ML l yX11_told cX11_told 4 .long 7 D (tyC cA cB) (wC q cA cB) (aC q) (eC q x) [.ref (q 0), .int a1, .int a2] σ σ' r := by
  refine ML_of (by decide) hF (Nat.le_of_ble_eq_true rfl) ?_
  intro p e s m args below meth c Q C hret hJ ls hl
  obtain ⟨hx, hb, hml, hown, hts, hK, hE, -⟩ := id C
  have hsb : ∀ z, (aC q) z → (aC q) z := fun _ h => h
  have hl : lv_has ls 4 [(0, .ref (q 0)), (1, .int a1), (2, .int a2)] := hl
  unfold fC_told at hf
  refine lv_aload_n hx hb dX11_told_0 rfl (lv_at hl 0 rfl) ?_
  refine gC_0_0 C hJ fl_RX11_12 dX11_told_1 ?_
  refine gC_1_4 C hJ fl_RX11_189 dX11_told_4 ?_
  refine lv_iload_n hx hb dX11_told_7 rfl (lv_at hl 1 rfl) ?_
  obtain ⟨σ1, r2, hg3, hf⟩ := cal_some hf
  refine backI hsb hJ (runV (As := [.int a1]) (rest := []) C hJ lk_RX11_201 (cC_F_has hF hg3) recC_11 rfl rfl (Nat.le_of_ble_eq_true rfl) hl.1 (hR_of (by omega) (by decide)) ⟨Nat.le_refl _, Nat.le_refl _⟩ dX11_told_8) (fun H locs hJ => ?_)
  refine lv_if_ne (tgt := 18) hx hb dX11_told_11 (by decide) (fun c4 => ?_) (fun c4 => ?_)
  · have hf := ite_f hf c4
    refine lv_aload_n hx hb dX11_told_18 rfl (lv_at hl 0 rfl) ?_
    refine gC_0_0 C hJ fl_RX11_12 dX11_told_19 ?_
    refine lv_aload_n hx hb dX11_told_22 rfl (lv_at hl 0 rfl) ?_
    refine gC_0_9 C hJ fl_RX11_129 dX11_told_23 ?_
    obtain ⟨σ5, r6, hg7, hf⟩ := cal_some hf
    refine backV hsb hJ (runV (As := [.int (σ1.1 3)]) (rest := []) C hJ lk_RX11_133 (cC_P_lookAs hF hg7) recC_1 rfl rfl (Nat.le_of_ble_eq_true rfl) hl.1 (hR_of (by omega) (by decide)) ⟨Nat.le_refl _, Nat.le_refl _⟩ dX11_told_26) (fun H locs hJ => ?_)
    refine lv_aload_n hx hb dX11_told_29 rfl (lv_at hl 0 rfl) ?_
    refine gC_0_0 C hJ fl_RX11_12 dX11_told_30 ?_
    refine gC_1_4 C hJ fl_RX11_189 dX11_told_33 ?_
    refine gC_11_0 C hJ fl_RX11_202 dX11_told_36 ?_
    refine lv_iload_n hx hb dX11_told_39 rfl (lv_at hl 1 rfl) ?_
    obtain ⟨h8, hf⟩ := gi_some hf
    refine aC_46 C hJ h8 dX11_told_40 ?_
    refine lv_topi (fun x9 hx9 => ?_)
    have hf := bnd_at hf hx9
    refine lv_istore_n (lv' := [(3, .int x9), (0, .ref (q 0)), (1, .int a1), (2, .int a2)]) hx hb dX11_told_41 rfl hl (by decide) rfl (fun ls hl => ?_)
    refine lv_iload_n hx hb dX11_told_42 rfl (lv_at hl 3 rfl) ?_
    by_cases c10 : a2 = (0 : Int32)
    · have hf := ite_t hf c10
      refine lv_tableIn (off := 53) (tgt := 96) hx hb dX11_told_43 (by rw [c10]; decide) (by rw [c10]; decide) (by rw [c10]; rfl) (by decide) ?_
      refine lv_iload_n hx hb dX11_told_96 rfl (lv_at hl 0 rfl) ?_
      refine lv_i2l (v := x9.toInt64) hx hb dX11_told_97 rfl ?_
      exact ret_L hret hJ hf dX11_told_98
    have hf := ite_f hf c10
    by_cases c11 : a2 = (1 : Int32)
    · have hf := ite_t hf c11
      refine lv_tableIn (off := 56) (tgt := 99) hx hb dX11_told_43 (by rw [c11]; decide) (by rw [c11]; decide) (by rw [c11]; rfl) (by decide) ?_
      refine lv_aload_n hx hb dX11_told_99 rfl (lv_at hl 1 rfl) ?_
      refine gC_0_0 C hJ fl_RX11_12 dX11_told_100 ?_
      refine lv_iload_n hx hb dX11_told_103 rfl (lv_at hl 0 rfl) ?_
      refine lv_iload_n hx hb dX11_told_104 rfl (lv_at hl 2 rfl) ?_
      obtain ⟨σ12, r13, hg14, hf⟩ := cal_some hf
      refine backI hsb hJ (runV (As := [.int x9, .int a1]) (rest := []) C hJ lk_RX11_205 (cC_P_marginOf hF hg14) recC_1 rfl rfl (Nat.le_of_ble_eq_true rfl) hl.1 (hR_of (by omega) (by decide)) ⟨Nat.le_refl _, Nat.le_refl _⟩ dX11_told_105) (fun H locs hJ => ?_)
      refine lv_i2l (v := r13.toInt64) hx hb dX11_told_108 rfl ?_
      exact ret_L hret hJ hf dX11_told_109
    have hf := ite_f hf c11
    by_cases c15 : a2 = (2 : Int32)
    · have hf := ite_t hf c15
      refine lv_tableIn (off := 67) (tgt := 110) hx hb dX11_told_43 (by rw [c15]; decide) (by rw [c15]; decide) (by rw [c15]; rfl) (by decide) ?_
      refine lv_aload_n hx hb dX11_told_110 rfl (lv_at hl 1 rfl) ?_
      refine gC_0_0 C hJ fl_RX11_12 dX11_told_111 ?_
      refine lv_iload_n hx hb dX11_told_114 rfl (lv_at hl 0 rfl) ?_
      refine lv_iload_n hx hb dX11_told_115 rfl (lv_at hl 2 rfl) ?_
      obtain ⟨σ16, r17, hg18, hf⟩ := cal_some hf
      refine backI hsb hJ (runV (As := [.int x9, .int a1]) (rest := []) C hJ lk_RX11_208 (cC_P_bandOf hF hg18) recC_1 rfl rfl (Nat.le_of_ble_eq_true rfl) hl.1 (hR_of (by omega) (by decide)) ⟨Nat.le_refl _, Nat.le_refl _⟩ dX11_told_116) (fun H locs hJ => ?_)
      refine lv_i2l (v := r17.toInt64) hx hb dX11_told_119 rfl ?_
      exact ret_L hret hJ hf dX11_told_120
    have hf := ite_f hf c15
    by_cases c19 : a2 = (3 : Int32)
    · have hf := ite_t hf c19
      refine lv_tableIn (off := 78) (tgt := 121) hx hb dX11_told_43 (by rw [c19]; decide) (by rw [c19]; decide) (by rw [c19]; rfl) (by decide) ?_
      refine lv_aload_n hx hb dX11_told_121 rfl (lv_at hl 1 rfl) ?_
      refine gC_0_0 C hJ fl_RX11_12 dX11_told_122 ?_
      refine lv_iload_n hx hb dX11_told_125 rfl (lv_at hl 0 rfl) ?_
      refine lv_iload_n hx hb dX11_told_126 rfl (lv_at hl 2 rfl) ?_
      obtain ⟨σ20, r21, hg22, hf⟩ := cal_some hf
      refine backI hsb hJ (runV (As := [.int x9, .int a1]) (rest := []) C hJ lk_RX11_205 (cC_P_marginOf hF hg22) recC_1 rfl rfl (Nat.le_of_ble_eq_true rfl) hl.1 (hR_of (by omega) (by decide)) ⟨Nat.le_refl _, Nat.le_refl _⟩ dX11_told_127) (fun H locs hJ => ?_)
      refine lv_aload_n hx hb dX11_told_130 rfl (lv_at hl 1 rfl) ?_
      refine gC_0_0 C hJ fl_RX11_12 dX11_told_131 ?_
      refine lv_iload_n hx hb dX11_told_134 rfl (lv_at hl 0 rfl) ?_
      refine lv_iload_n hx hb dX11_told_135 rfl (lv_at hl 2 rfl) ?_
      obtain ⟨σ23, r24, hg25, hf⟩ := cal_some hf
      refine backI hsb hJ (runV (As := [.int x9, .int a1]) (rest := [.int r21]) C hJ lk_RX11_208 (cC_P_bandOf hF hg25) recC_1 rfl rfl (Nat.le_of_ble_eq_true rfl) hl.1 (hR_of (by omega) (by decide)) ⟨Nat.le_refl _, Nat.le_refl _⟩ dX11_told_136) (fun H locs hJ => ?_)
      refine lv_icmp_le (tgt := 146) hx hb dX11_told_139 (by decide) (fun c26 => ?_) (fun c26 => ?_)
      · have hf := ite_t hf c26
        refine lv_lconst (v := 0) hx hb dX11_told_146 (by decide) ?_
        exact ret_L hret hJ hf dX11_told_147
      · have hf := ite_f hf c26
        refine lv_lconst (v := 1) hx hb dX11_told_142 (by decide) ?_
        refine lv_goto (tgt := 147) hx hb dX11_told_143 (by decide) ?_
        exact ret_L hret hJ hf dX11_told_147
    have hf := ite_f hf c19
    by_cases c27 : a2 = (4 : Int32)
    · have hf := ite_t hf c27
      refine lv_tableIn (off := 105) (tgt := 148) hx hb dX11_told_43 (by rw [c27]; decide) (by rw [c27]; decide) (by rw [c27]; rfl) (by decide) ?_
      refine lv_aload_n hx hb dX11_told_148 rfl (lv_at hl 1 rfl) ?_
      refine gC_0_0 C hJ fl_RX11_12 dX11_told_149 ?_
      refine lv_iload_n hx hb dX11_told_152 rfl (lv_at hl 0 rfl) ?_
      refine lv_iload_n hx hb dX11_told_153 rfl (lv_at hl 2 rfl) ?_
      obtain ⟨σ28, r29, hg30, hf⟩ := cal_some hf
      refine backI hsb hJ (runV (As := [.int x9, .int a1]) (rest := []) C hJ lk_RX11_211 (cC_P_isOffside hF hg30) recC_1 rfl rfl (Nat.le_of_ble_eq_true rfl) hl.1 (hR_of (by omega) (by decide)) ⟨Nat.le_refl _, Nat.le_refl _⟩ dX11_told_154) (fun H locs hJ => ?_)
      refine lv_if_eq (tgt := 164) hx hb dX11_told_157 (by decide) (fun c31 => ?_) (fun c31 => ?_)
      · have hf := ite_t hf c31
        refine lv_lconst (v := 0) hx hb dX11_told_164 (by decide) ?_
        exact ret_L hret hJ hf dX11_told_165
      · have hf := ite_f hf c31
        refine lv_lconst (v := 1) hx hb dX11_told_160 (by decide) ?_
        refine lv_goto (tgt := 165) hx hb dX11_told_161 (by decide) ?_
        exact ret_L hret hJ hf dX11_told_165
    have hf := ite_f hf c27
    by_cases c32 : a2 = (5 : Int32)
    · have hf := ite_t hf c32
      refine lv_tableIn (off := 123) (tgt := 166) hx hb dX11_told_43 (by rw [c32]; decide) (by rw [c32]; decide) (by rw [c32]; rfl) (by decide) ?_
      refine lv_aload_n hx hb dX11_told_166 rfl (lv_at hl 1 rfl) ?_
      refine gC_0_0 C hJ fl_RX11_12 dX11_told_167 ?_
      refine lv_iload_n hx hb dX11_told_170 rfl (lv_at hl 0 rfl) ?_
      refine lv_iload_n hx hb dX11_told_171 rfl (lv_at hl 2 rfl) ?_
      obtain ⟨σ33, r34, hg35, hf⟩ := cal_some hf
      refine backI hsb hJ (runV (As := [.int x9, .int a1]) (rest := []) C hJ lk_RX11_211 (cC_P_isOffside hF hg35) recC_1 rfl rfl (Nat.le_of_ble_eq_true rfl) hl.1 (hR_of (by omega) (by decide)) ⟨Nat.le_refl _, Nat.le_refl _⟩ dX11_told_172) (fun H locs hJ => ?_)
      refine lv_aload_n hx hb dX11_told_175 rfl (lv_at hl 1 rfl) ?_
      refine gC_0_0 C hJ fl_RX11_12 dX11_told_176 ?_
      refine lv_iconst (v := 0) hx hb dX11_told_179 (by decide) ?_
      refine lv_iload_n hx hb dX11_told_180 rfl (lv_at hl 2 rfl) ?_
      obtain ⟨σ36, r37, hg38, hf⟩ := cal_some hf
      refine backI hsb hJ (runV (As := [.int (0 : Int32), .int a1]) (rest := [.int r34]) C hJ lk_RX11_211 (cC_P_isOffside hF hg38) recC_1 rfl rfl (Nat.le_of_ble_eq_true rfl) hl.1 (hR_of (by omega) (by decide)) ⟨Nat.le_refl _, Nat.le_refl _⟩ dX11_told_181) (fun H locs hJ => ?_)
      refine lv_icmp_eq (tgt := 191) hx hb dX11_told_184 (by decide) (fun c39 => ?_) (fun c39 => ?_)
      · have hf := ite_t hf c39
        refine lv_lconst (v := 0) hx hb dX11_told_191 (by decide) ?_
        exact ret_L hret hJ hf dX11_told_192
      · have hf := ite_f hf c39
        refine lv_lconst (v := 1) hx hb dX11_told_187 (by decide) ?_
        refine lv_goto (tgt := 192) hx hb dX11_told_188 (by decide) ?_
        exact ret_L hret hJ hf dX11_told_192
    have hf := ite_f hf c32
    by_cases c40 : a2 = (6 : Int32)
    · have hf := ite_t hf c40
      refine lv_tableIn (off := 150) (tgt := 193) hx hb dX11_told_43 (by rw [c40]; decide) (by rw [c40]; decide) (by rw [c40]; rfl) (by decide) ?_
      refine lv_aload_n hx hb dX11_told_193 rfl (lv_at hl 1 rfl) ?_
      refine gC_0_0 C hJ fl_RX11_12 dX11_told_194 ?_
      refine lv_iload_n hx hb dX11_told_197 rfl (lv_at hl 2 rfl) ?_
      obtain ⟨σ41, r42, hg43, hf⟩ := cal_some hf
      refine backI hsb hJ (runV (As := [.int a1]) (rest := []) C hJ lk_RX11_215 (cC_P_waysOf hF hg43) recC_1 rfl rfl (Nat.le_of_ble_eq_true rfl) hl.1 (hR_of (by omega) (by decide)) ⟨Nat.le_refl _, Nat.le_refl _⟩ dX11_told_198) (fun H locs hJ => ?_)
      refine lv_i2l (v := r42.toInt64) hx hb dX11_told_201 rfl ?_
      exact ret_L hret hJ hf dX11_told_202
    have hf := ite_f hf c40
    by_cases c44 : a2 = (7 : Int32)
    · have hf := ite_t hf c44
      refine lv_tableIn (off := 160) (tgt := 203) hx hb dX11_told_43 (by rw [c44]; decide) (by rw [c44]; decide) (by rw [c44]; rfl) (by decide) ?_
      refine lv_aload_n hx hb dX11_told_203 rfl (lv_at hl 1 rfl) ?_
      refine gC_0_0 C hJ fl_RX11_12 dX11_told_204 ?_
      refine lv_iload_n hx hb dX11_told_207 rfl (lv_at hl 2 rfl) ?_
      obtain ⟨σ45, r46, hg47, hf⟩ := cal_some hf
      refine backI hsb hJ (runV (As := [.int a1]) (rest := []) C hJ lk_RX11_218 (cC_P_pairsOf hF hg47) recC_1 rfl rfl (Nat.le_of_ble_eq_true rfl) hl.1 (hR_of (by omega) (by decide)) ⟨Nat.le_refl _, Nat.le_refl _⟩ dX11_told_208) (fun H locs hJ => ?_)
      refine lv_i2l (v := r46.toInt64) hx hb dX11_told_211 rfl ?_
      exact ret_L hret hJ hf dX11_told_212
    have hf := ite_f hf c44
    by_cases c48 : a2 = (8 : Int32)
    · have hf := ite_t hf c48
      refine lv_tableIn (off := 170) (tgt := 213) hx hb dX11_told_43 (by rw [c48]; decide) (by rw [c48]; decide) (by rw [c48]; rfl) (by decide) ?_
      refine lv_aload_n hx hb dX11_told_213 rfl (lv_at hl 1 rfl) ?_
      refine gC_0_0 C hJ fl_RX11_12 dX11_told_214 ?_
      refine lv_iload_n hx hb dX11_told_217 rfl (lv_at hl 2 rfl) ?_
      obtain ⟨σ49, r50, hg51, hf⟩ := cal_some hf
      refine backI hsb hJ (runV (As := [.int a1]) (rest := []) C hJ lk_RX11_221 (cC_P_frameErrorOf hF hg51) recC_1 rfl rfl (Nat.le_of_ble_eq_true rfl) hl.1 (hR_of (by omega) (by decide)) ⟨Nat.le_refl _, Nat.le_refl _⟩ dX11_told_218) (fun H locs hJ => ?_)
      refine lv_i2l (v := r50.toInt64) hx hb dX11_told_221 rfl ?_
      exact ret_L hret hJ hf dX11_told_222
    have hf := ite_f hf c48
    by_cases c52 : a2 = (9 : Int32)
    · have hf := ite_t hf c52
      refine lv_tableIn (off := 180) (tgt := 223) hx hb dX11_told_43 (by rw [c52]; decide) (by rw [c52]; decide) (by rw [c52]; rfl) (by decide) ?_
      refine lv_aload_n hx hb dX11_told_223 rfl (lv_at hl 1 rfl) ?_
      refine gC_0_0 C hJ fl_RX11_12 dX11_told_224 ?_
      refine lv_iload_n hx hb dX11_told_227 rfl (lv_at hl 2 rfl) ?_
      obtain ⟨σ53, r54, hg55, hf⟩ := cal_some hf
      refine backI hsb hJ (runV (As := [.int a1]) (rest := []) C hJ lk_RX11_224 (cC_P_turnOf hF hg55) recC_1 rfl rfl (Nat.le_of_ble_eq_true rfl) hl.1 (hR_of (by omega) (by decide)) ⟨Nat.le_refl _, Nat.le_refl _⟩ dX11_told_228) (fun H locs hJ => ?_)
      refine lv_i2l (v := r54.toInt64) hx hb dX11_told_231 rfl ?_
      exact ret_L hret hJ hf dX11_told_232
    have hf := ite_f hf c52
    refine lv_tableOut (tgt := 233) hx hb dX11_told_43 (by have ec10 : a2.toInt ≠ 0 := fun h => c10 (Int32.toInt_inj.mp (h.trans (by decide))); have ec11 : a2.toInt ≠ 1 := fun h => c11 (Int32.toInt_inj.mp (h.trans (by decide))); have ec15 : a2.toInt ≠ 2 := fun h => c15 (Int32.toInt_inj.mp (h.trans (by decide))); have ec19 : a2.toInt ≠ 3 := fun h => c19 (Int32.toInt_inj.mp (h.trans (by decide))); have ec27 : a2.toInt ≠ 4 := fun h => c27 (Int32.toInt_inj.mp (h.trans (by decide))); have ec32 : a2.toInt ≠ 5 := fun h => c32 (Int32.toInt_inj.mp (h.trans (by decide))); have ec40 : a2.toInt ≠ 6 := fun h => c40 (Int32.toInt_inj.mp (h.trans (by decide))); have ec44 : a2.toInt ≠ 7 := fun h => c44 (Int32.toInt_inj.mp (h.trans (by decide))); have ec48 : a2.toInt ≠ 8 := fun h => c48 (Int32.toInt_inj.mp (h.trans (by decide))); have ec52 : a2.toInt ≠ 9 := fun h => c52 (Int32.toInt_inj.mp (h.trans (by decide))); omega) (by decide) ?_
    refine lv_ldc2 (v := -4611686018427387904) hx hb hown (hts _ kl_RX11_127) dX11_told_233 ?_
    exact ret_L hret hJ hf dX11_told_236
  · have hf := ite_t hf c4
    refine lv_ldc2 (v := -4611686018427387904) hx hb hown (hts _ kl_RX11_127) dX11_told_14 ?_
    exact ret_L hret hJ hf dX11_told_17
set_option maxHeartbeats 4000000 in
set_option maxRecDepth 100000 in
theorem cC_F_all {l : Launch} {D : va_G} {cA cB : ClassId} {q : Nat → Nat} {x : Nat → Nat} {N : Nat} {σ σ' : St} {r : Int32} (hF : Fr (wC q cA cB) (aC q) (eC q x)) (hf : fC_F_all N σ  = some (σ', r)) : MI l yX0_all cX0_all 1 .int 1 D (tyC cA cB) (wC q cA cB) (aC q) (eC q x) [.ref (q 11)] σ σ' r := by
  refine MI_of (by decide) hF (Nat.le_of_ble_eq_true rfl) ?_
  intro p e s m args below meth c Q C hret hJ ls hl
  obtain ⟨hx, hb, hml, hown, hts, hK, hE, -⟩ := id C
  have hsb : ∀ z, (aC q) z → (aC q) z := fun _ h => h
  have hl : lv_has ls 1 [(0, .ref (q 11))] := hl
  unfold fC_F_all at hf
  refine lv_iconst (v := 1) hx hb dX0_all_0 (by decide) ?_
  refine lv_aload_n hx hb dX0_all_1 rfl (lv_at hl 0 rfl) ?_
  refine gC_11_7 C hJ fl_RX0_33 dX0_all_2 ?_
  refine lv_ishl hx hb dX0_all_5 ?_
  refine lv_iconst (v := 1) hx hb dX0_all_6 (by decide) ?_
  refine lv_isub hx hb dX0_all_7 ?_
  exact ret_I hret hJ hf rfl dX0_all_8
set_option maxHeartbeats 4000000 in
set_option maxRecDepth 100000 in
theorem cC_P_offsideAmong {l : Launch} {D : va_G} {cA cB : ClassId} {q : Nat → Nat} {x : Nat → Nat} {N : Nat} {σ σ' : St} {r : Int32} {a1 : Int32} (hF : Fr (wC q cA cB) (aC q) (eC q x)) (hf : fC_P_offsideAmong N σ a1 = some (σ', r)) : MI l yX5_offsideAmong cX5_offsideAmong 4 .int 7 D (tyC cA cB) (wC q cA cB) (aC q) (eC q x) [.ref (q 1), .int a1] σ σ' r := by
  refine MI_of (by decide) hF (Nat.le_of_ble_eq_true rfl) ?_
  intro p e s m args below meth c Q C hret hJ ls hl
  obtain ⟨hx, hb, hml, hown, hts, hK, hE, -⟩ := id C
  have hsb : ∀ z, (aC q) z → (aC q) z := fun _ h => h
  have l4 : ∀ (n : Nat) (σ : St) (a1 : Int32) (a2 : Int32) (a3 : Int32) (H : Heap) (locs : List Loc) (ls : Array Slot), fC_P_offsideAmong_l4 N  n σ a1 a2 a3 = some (σ', r) → J D (wC q cA cB) (aC q) s σ H locs → lv_has ls 4 [(0, .ref (q 1)), (1, .int a1), (2, .int a2), (3, .int a3)] → W p l e (rmH 7) s m args below meth c H locs 0 0 Q (F0 m 4 ls []) := by
    intro n4
    induction n4 with
    | zero => intro σ a1 a2 a3 H locs ls hf; rw [fC_P_offsideAmong_l4] at hf; cases hf
    | succ n4 ih4 =>
      have j47 : ∀ (σ : St) (a1 : Int32) (a2 : Int32) (a3 : Int32) (H : Heap) (locs : List Loc) (ls : Array Slot), fC_P_offsideAmong_j47 N (fC_P_offsideAmong_l4 N  n4) σ a1 a2 a3 = some (σ', r) → J D (wC q cA cB) (aC q) s σ H locs → lv_has ls 4 [(0, .ref (q 1)), (1, .int a1), (2, .int a2), (3, .int a3)] → W p l e (rmH 7) s m args below meth c H locs 0 0 Q (F0 m 47 ls []) := by
        intro σ a1 a2 a3 H locs ls hf hJ hl
        unfold fC_P_offsideAmong_j47 at hf
        obtain ⟨x1, hx1⟩ : ∃ z : Int32, z = a3 + (1 : Int32) := ⟨_, rfl⟩
        have hf := bnd_at hf hx1
        refine lv_iinc (v := x1) (lv' := [(3, .int x1), (0, .ref (q 1)), (1, .int a1), (2, .int a2)]) hx hb dX5_offsideAmong_47 hl (k := 3) rfl (by rw [hx1]; rfl) (by decide) rfl (fun ls hl => ?_)
        refine lv_goto (tgt := 4) hx hb dX5_offsideAmong_50 (by decide) ?_
        exact ih4 σ a1 a2 x1 _ _ _ hf hJ (lv_sub hl [1, 2, 3, 0] rfl)
      intro σ a1 a2 a3 H locs ls hf hJ hl
      rw [fC_P_offsideAmong_l4] at hf
      refine lv_iload_n hx hb dX5_offsideAmong_4 rfl (lv_at hl 3 rfl) ?_
      refine lv_aload_n hx hb dX5_offsideAmong_5 rfl (lv_at hl 0 rfl) ?_
      refine gC_1_4 C hJ fl_RX5_42 dX5_offsideAmong_6 ?_
      refine gC_11_7 C hJ fl_RX5_147 dX5_offsideAmong_9 ?_
      refine lv_icmp_ge (tgt := 53) hx hb dX5_offsideAmong_12 (by decide) (fun c2 => ?_) (fun c2 => ?_)
      · have hf := ite_t hf c2
        refine lv_iload_n hx hb dX5_offsideAmong_53 rfl (lv_at hl 2 rfl) ?_
        exact ret_I hret hJ hf rfl dX5_offsideAmong_54
      · have hf := ite_f hf c2
        refine lv_iload_n hx hb dX5_offsideAmong_15 rfl (lv_at hl 1 rfl) ?_
        refine lv_iload_n hx hb dX5_offsideAmong_16 rfl (lv_at hl 3 rfl) ?_
        refine lv_ishr hx hb dX5_offsideAmong_17 ?_
        refine lv_iconst (v := 1) hx hb dX5_offsideAmong_18 (by decide) ?_
        refine lv_iand hx hb dX5_offsideAmong_19 ?_
        refine lv_iconst (v := 1) hx hb dX5_offsideAmong_20 (by decide) ?_
        refine lv_icmp_ne (tgt := 47) hx hb dX5_offsideAmong_21 (by decide) (fun c3 => ?_) (fun c3 => ?_)
        · have hf := ite_f hf c3
          exact j47 σ a1 a2 a3 _ _ _ hf hJ (lv_sub hl [0, 1, 2, 3] rfl)
        · have hf := ite_t hf c3
          refine lv_aload_n hx hb dX5_offsideAmong_24 rfl (lv_at hl 0 rfl) ?_
          refine lv_aload_n hx hb dX5_offsideAmong_25 rfl (lv_at hl 0 rfl) ?_
          refine gC_1_4 C hJ fl_RX5_42 dX5_offsideAmong_26 ?_
          refine gC_11_0 C hJ fl_RX5_150 dX5_offsideAmong_29 ?_
          refine lv_iload_n hx hb dX5_offsideAmong_32 rfl (lv_at hl 3 rfl) ?_
          obtain ⟨h4, hf⟩ := gi_some hf
          refine aC_46 C hJ h4 dX5_offsideAmong_33 ?_
          refine lv_iload_n hx hb dX5_offsideAmong_34 rfl (lv_at hl 3 rfl) ?_
          obtain ⟨σ5, r6, hg7, hf⟩ := cal_some hf
          refine backI hsb hJ (runV (As := [.int (σ.2.1 46 a3.toNatClampNeg), .int a3]) (rest := []) C hJ lk_RX5_153 (cC_P_isOffside hF hg7) recC_1 rfl rfl (Nat.le_of_ble_eq_true rfl) hl.1 (hR_of (by omega) (by decide)) ⟨Nat.le_refl _, Nat.le_refl _⟩ dX5_offsideAmong_35) (fun H locs hJ => ?_)
          refine lv_if_eq (tgt := 47) hx hb dX5_offsideAmong_38 (by decide) (fun c8 => ?_) (fun c8 => ?_)
          · have hf := ite_t hf c8
            exact j47 σ5 a1 a2 a3 _ _ _ hf hJ (lv_sub hl [0, 1, 2, 3] rfl)
          · have hf := ite_f hf c8
            refine lv_iload_n hx hb dX5_offsideAmong_41 rfl (lv_at hl 2 rfl) ?_
            refine lv_iconst (v := 1) hx hb dX5_offsideAmong_42 (by decide) ?_
            refine lv_iload_n hx hb dX5_offsideAmong_43 rfl (lv_at hl 3 rfl) ?_
            refine lv_ishl hx hb dX5_offsideAmong_44 ?_
            refine lv_ior hx hb dX5_offsideAmong_45 ?_
            refine lv_topi (fun x9 hx9 => ?_)
            have hf := bnd_at hf hx9
            refine lv_istore_n (lv' := [(2, .int x9), (0, .ref (q 1)), (1, .int a1), (3, .int a3)]) hx hb dX5_offsideAmong_46 rfl hl (by decide) rfl (fun ls hl => ?_)
            exact j47 σ5 a1 x9 a3 _ _ _ hf hJ (lv_sub hl [1, 2, 0, 3] rfl)
  have hl : lv_has ls 4 [(0, .ref (q 1)), (1, .int a1)] := hl
  unfold fC_P_offsideAmong at hf
  refine lv_iconst (v := 0) hx hb dX5_offsideAmong_0 (by decide) ?_
  refine lv_istore_n (lv' := [(2, .int (0 : Int32)), (0, .ref (q 1)), (1, .int a1)]) hx hb dX5_offsideAmong_1 rfl hl (by decide) rfl (fun ls hl => ?_)
  refine lv_iconst (v := 0) hx hb dX5_offsideAmong_2 (by decide) ?_
  refine lv_istore_n (lv' := [(3, .int (0 : Int32)), (2, .int (0 : Int32)), (0, .ref (q 1)), (1, .int a1)]) hx hb dX5_offsideAmong_3 rfl hl (by decide) rfl (fun ls hl => ?_)
  exact l4 N σ a1 (0 : Int32) (0 : Int32) _ _ _ hf hJ (lv_sub hl [2, 3, 1, 0] rfl)
set_option maxHeartbeats 4000000 in
set_option maxRecDepth 100000 in
theorem cC_offside {l : Launch} {D : va_G} {cA cB : ClassId} {q : Nat → Nat} {x : Nat → Nat} {N : Nat} {σ σ' : St} {r : Int32} (hF : Fr (wC q cA cB) (aC q) (eC q x)) (hf : fC_offside N σ  = some (σ', r)) : MI l yX11_offside cX11_offside 1 .int 8 D (tyC cA cB) (wC q cA cB) (aC q) (eC q x) [.ref (q 0)] σ σ' r := by
  refine MI_of (by decide) hF (Nat.le_of_ble_eq_true rfl) ?_
  intro p e s m args below meth c Q C hret hJ ls hl
  obtain ⟨hx, hb, hml, hown, hts, hK, hE, -⟩ := id C
  have hsb : ∀ z, (aC q) z → (aC q) z := fun _ h => h
  have hl : lv_has ls 1 [(0, .ref (q 0))] := hl
  unfold fC_offside at hf
  refine lv_aload_n hx hb dX11_offside_0 rfl (lv_at hl 0 rfl) ?_
  refine gC_0_0 C hJ fl_RX11_12 dX11_offside_1 ?_
  refine lv_aload_n hx hb dX11_offside_4 rfl (lv_at hl 0 rfl) ?_
  refine gC_0_9 C hJ fl_RX11_129 dX11_offside_5 ?_
  obtain ⟨σ1, r2, hg3, hf⟩ := cal_some hf
  refine backV hsb hJ (runV (As := [.int (σ.1 3)]) (rest := []) C hJ lk_RX11_133 (cC_P_lookAs hF hg3) recC_1 rfl rfl (Nat.le_of_ble_eq_true rfl) hl.1 (hR_of (by omega) (by decide)) ⟨Nat.le_refl _, Nat.le_refl _⟩ dX11_offside_8) (fun H locs hJ => ?_)
  refine lv_aload_n hx hb dX11_offside_11 rfl (lv_at hl 0 rfl) ?_
  refine gC_0_0 C hJ fl_RX11_12 dX11_offside_12 ?_
  refine lv_aload_n hx hb dX11_offside_15 rfl (lv_at hl 0 rfl) ?_
  refine gC_0_0 C hJ fl_RX11_12 dX11_offside_16 ?_
  refine gC_1_4 C hJ fl_RX11_189 dX11_offside_19 ?_
  obtain ⟨σ4, r5, hg6, hf⟩ := cal_some hf
  refine backI hsb hJ (runV (As := []) (rest := [.ref (q 1)]) C hJ lk_RX11_227 (cC_F_all hF hg6) recC_11 rfl rfl (Nat.le_of_ble_eq_true rfl) hl.1 (hR_of (by omega) (by decide)) ⟨Nat.le_refl _, Nat.le_refl _⟩ dX11_offside_22) (fun H locs hJ => ?_)
  obtain ⟨σ7, r8, hg9, hf⟩ := cal_some hf
  refine backI hsb hJ (runV (As := [.int r5]) (rest := []) C hJ lk_RX11_230 (cC_P_offsideAmong hF hg9) recC_1 rfl rfl (Nat.le_of_ble_eq_true rfl) hl.1 (hR_of (by omega) (by decide)) ⟨Nat.le_refl _, Nat.le_refl _⟩ dX11_offside_25) (fun H locs hJ => ?_)
  exact ret_I hret hJ hf rfl dX11_offside_28
set_option maxHeartbeats 4000000 in
set_option maxRecDepth 100000 in
theorem cC_isSheet {l : Launch} {D : va_G} {cA cB : ClassId} {q : Nat → Nat} {x : Nat → Nat} {N : Nat} {σ σ' : St} {r : Int32} {a0 : Int32} (hF : Fr (wC q cA cB) (aC q) (eC q x)) (hf : fC_isSheet N σ a0 = some (σ', r)) : MI l yX11_isSheet cX11_isSheet 1 .boolean 2 D (tyC cA cB) (wC q cA cB) (aC q) (eC q x) [.int a0] σ σ' r := by
  refine MI_of (by decide) hF (Nat.le_of_ble_eq_true rfl) ?_
  intro p e s m args below meth c Q C hret hJ ls hl
  obtain ⟨hx, hb, hml, hown, hts, hK, hE, -⟩ := id C
  have hsb : ∀ z, (aC q) z → (aC q) z := fun _ h => h
  have hl : lv_has ls 1 [(0, .int a0)] := hl
  unfold fC_isSheet at hf
  refine lv_iload_n hx hb dX11_isSheet_0 rfl (lv_at hl 0 rfl) ?_
  refine lv_iconst (v := 0) hx hb dX11_isSheet_1 (by decide) ?_
  refine lv_iconst (v := 3) hx hb dX11_isSheet_2 (by decide) ?_
  obtain ⟨σ1, r2, hg3, hf⟩ := cal_some hf
  refine backI hsb hJ (runS (As := [.int a0, .int (0 : Int32), .int (3 : Int32)]) (rest := []) C hJ lk_RX11_100 (cC_isWithin hF hg3) rfl rfl (Nat.le_of_ble_eq_true rfl) hl.1 (hR_of (by omega) (by decide)) ⟨Nat.le_refl _, Nat.le_refl _⟩ dX11_isSheet_3) (fun H locs hJ => ?_)
  obtain ⟨h4, hf⟩ := gd_some hf
  exact ret_I hret hJ hf (nar_z h4) dX11_isSheet_6
set_option maxHeartbeats 4000000 in
set_option maxRecDepth 100000 in
theorem cC_F_hasAll {l : Launch} {D : va_G} {cA cB : ClassId} {q : Nat → Nat} {x : Nat → Nat} {N : Nat} {σ σ' : St} {r : Int32} {a1 : Int32} (hF : Fr (wC q cA cB) (aC q) (eC q x)) (hf : fC_F_hasAll N σ a1 = some (σ', r)) : MI l yX0_hasAll cX0_hasAll 2 .boolean 2 D (tyC cA cB) (wC q cA cB) (aC q) (eC q x) [.ref (q 11), .int a1] σ σ' r := by
  refine MI_of (by decide) hF (Nat.le_of_ble_eq_true rfl) ?_
  intro p e s m args below meth c Q C hret hJ ls hl
  obtain ⟨hx, hb, hml, hown, hts, hK, hE, -⟩ := id C
  have hsb : ∀ z, (aC q) z → (aC q) z := fun _ h => h
  have hl : lv_has ls 2 [(0, .ref (q 11)), (1, .int a1)] := hl
  unfold fC_F_hasAll at hf
  refine lv_iload_n hx hb dX0_hasAll_0 rfl (lv_at hl 1 rfl) ?_
  refine lv_if_lt (tgt := 16) hx hb dX0_hasAll_1 (by decide) (fun c1 => ?_) (fun c1 => ?_)
  · have hf := ite_t hf c1
    refine lv_iconst (v := 0) hx hb dX0_hasAll_16 (by decide) ?_
    exact ret_I hret hJ hf (nar_z (by decide)) dX0_hasAll_17
  · have hf := ite_f hf c1
    refine lv_iload_n hx hb dX0_hasAll_4 rfl (lv_at hl 1 rfl) ?_
    refine lv_aload_n hx hb dX0_hasAll_5 rfl (lv_at hl 0 rfl) ?_
    obtain ⟨σ2, r3, hg4, hf⟩ := cal_some hf
    refine backI hsb hJ (runV (As := []) (rest := [.int a1]) C hJ lk_RX0_37 (cC_F_all hF hg4) recC_11 rfl rfl (Nat.le_of_ble_eq_true rfl) hl.1 (hR_of (by omega) (by decide)) ⟨Nat.le_refl _, Nat.le_refl _⟩ dX0_hasAll_6) (fun H locs hJ => ?_)
    refine lv_icmp_gt (tgt := 16) hx hb dX0_hasAll_9 (by decide) (fun c5 => ?_) (fun c5 => ?_)
    · have hf := ite_t hf c5
      refine lv_iconst (v := 0) hx hb dX0_hasAll_16 (by decide) ?_
      exact ret_I hret hJ hf (nar_z (by decide)) dX0_hasAll_17
    · have hf := ite_f hf c5
      refine lv_iconst (v := 1) hx hb dX0_hasAll_12 (by decide) ?_
      refine lv_goto (tgt := 17) hx hb dX0_hasAll_13 (by decide) ?_
      exact ret_I hret hJ hf (nar_z (by decide)) dX0_hasAll_17
set_option maxHeartbeats 4000000 in
set_option maxRecDepth 100000 in
theorem cC_H_has {l : Launch} {D : va_G} {cA cB : ClassId} {q : Nat → Nat} {x : Nat → Nat} {N : Nat} {σ σ' : St} {r : Int32} {a1 : Int32} {a2 : Int32} (hF : Fr (wC q cA cB) (aC q) (eC q x)) (hf : fC_H_has N σ a1 a2 = some (σ', r)) : MI l yX7_has cX7_has 3 .boolean 1 D (tyC cA cB) (wC q cA cB) (aC q) (eC q x) [.ref (q 5), .int a1, .int a2] σ σ' r := by
  refine MI_of (by decide) hF (Nat.le_of_ble_eq_true rfl) ?_
  intro p e s m args below meth c Q C hret hJ ls hl
  obtain ⟨hx, hb, hml, hown, hts, hK, hE, -⟩ := id C
  have hsb : ∀ z, (aC q) z → (aC q) z := fun _ h => h
  have hl : lv_has ls 3 [(0, .ref (q 5)), (1, .int a1), (2, .int a2)] := hl
  unfold fC_H_has at hf
  refine lv_iload_n hx hb dX7_has_0 rfl (lv_at hl 2 rfl) ?_
  refine lv_if_lt (tgt := 18) hx hb dX7_has_1 (by decide) (fun c1 => ?_) (fun c1 => ?_)
  · have hf := ite_t hf c1
    refine lv_iconst (v := 0) hx hb dX7_has_18 (by decide) ?_
    exact ret_I hret hJ hf (nar_z (by decide)) dX7_has_19
  · have hf := ite_f hf c1
    refine lv_iload_n hx hb dX7_has_4 rfl (lv_at hl 2 rfl) ?_
    refine lv_aload_n hx hb dX7_has_5 rfl (lv_at hl 0 rfl) ?_
    refine gC_5_1 C hJ fl_RX7_15 dX7_has_6 ?_
    refine lv_iload_n hx hb dX7_has_9 rfl (lv_at hl 1 rfl) ?_
    obtain ⟨h2, hf⟩ := gi_some hf
    refine aC_26 C hJ h2 dX7_has_10 ?_
    refine lv_icmp_ge (tgt := 18) hx hb dX7_has_11 (by decide) (fun c3 => ?_) (fun c3 => ?_)
    · have hf := ite_t hf c3
      refine lv_iconst (v := 0) hx hb dX7_has_18 (by decide) ?_
      exact ret_I hret hJ hf (nar_z (by decide)) dX7_has_19
    · have hf := ite_f hf c3
      refine lv_iconst (v := 1) hx hb dX7_has_14 (by decide) ?_
      refine lv_goto (tgt := 19) hx hb dX7_has_15 (by decide) ?_
      exact ret_I hret hJ hf (nar_z (by decide)) dX7_has_19
set_option maxHeartbeats 4000000 in
set_option maxRecDepth 100000 in
theorem cC_H_itemOf {l : Launch} {D : va_G} {cA cB : ClassId} {q : Nat → Nat} {x : Nat → Nat} {N : Nat} {σ σ' : St} {r : Int32} {a1 : Int32} {a2 : Int32} (hF : Fr (wC q cA cB) (aC q) (eC q x)) (hf : fC_H_itemOf N σ a1 a2 = some (σ', r)) : MI l yX7_itemOf cX7_itemOf 3 .int 2 D (tyC cA cB) (wC q cA cB) (aC q) (eC q x) [.ref (q 5), .int a1, .int a2] σ σ' r := by
  refine MI_of (by decide) hF (Nat.le_of_ble_eq_true rfl) ?_
  intro p e s m args below meth c Q C hret hJ ls hl
  obtain ⟨hx, hb, hml, hown, hts, hK, hE, -⟩ := id C
  have hsb : ∀ z, (aC q) z → (aC q) z := fun _ h => h
  have hl : lv_has ls 3 [(0, .ref (q 5)), (1, .int a1), (2, .int a2)] := hl
  unfold fC_H_itemOf at hf
  refine lv_aload_n hx hb dX7_itemOf_0 rfl (lv_at hl 0 rfl) ?_
  refine lv_iload_n hx hb dX7_itemOf_1 rfl (lv_at hl 1 rfl) ?_
  refine lv_iload_n hx hb dX7_itemOf_2 rfl (lv_at hl 2 rfl) ?_
  obtain ⟨σ1, r2, hg3, hf⟩ := cal_some hf
  refine backI hsb hJ (runV (As := [.int a1, .int a2]) (rest := []) C hJ lk_RX7_21 (cC_H_has hF hg3) recC_5 rfl rfl (Nat.le_of_ble_eq_true rfl) hl.1 (hR_of (by omega) (by decide)) ⟨Nat.le_refl _, Nat.le_refl _⟩ dX7_itemOf_3) (fun H locs hJ => ?_)
  refine lv_if_eq (tgt := 23) hx hb dX7_itemOf_6 (by decide) (fun c4 => ?_) (fun c4 => ?_)
  · have hf := ite_t hf c4
    refine lv_iconst (v := 0) hx hb dX7_itemOf_23 (by decide) ?_
    exact ret_I hret hJ hf rfl dX7_itemOf_24
  · have hf := ite_f hf c4
    refine lv_aload_n hx hb dX7_itemOf_9 rfl (lv_at hl 0 rfl) ?_
    refine gC_5_2 C hJ fl_RX7_18 dX7_itemOf_10 ?_
    refine lv_iload_n hx hb dX7_itemOf_13 rfl (lv_at hl 1 rfl) ?_
    refine lv_bipush (v := 40) hx hb dX7_itemOf_14 (by decide) ?_
    refine lv_imul hx hb dX7_itemOf_16 ?_
    refine lv_iload_n hx hb dX7_itemOf_17 rfl (lv_at hl 2 rfl) ?_
    refine lv_iadd hx hb dX7_itemOf_18 ?_
    obtain ⟨h5, hf⟩ := gi_some hf
    refine aC_27 C hJ h5 dX7_itemOf_19 ?_
    refine lv_goto (tgt := 24) hx hb dX7_itemOf_20 (by decide) ?_
    exact ret_I hret hJ hf rfl dX7_itemOf_24
set_option maxHeartbeats 4000000 in
set_option maxRecDepth 100000 in
theorem cC_H_isMissing {l : Launch} {D : va_G} {cA cB : ClassId} {q : Nat → Nat} {x : Nat → Nat} {N : Nat} {σ σ' : St} {r : Int32} {a1 : Int32} (hF : Fr (wC q cA cB) (aC q) (eC q x)) (hf : fC_H_isMissing N σ a1 = some (σ', r)) : MI l yX7_isMissing cX7_isMissing 2 .boolean 1 D (tyC cA cB) (wC q cA cB) (aC q) (eC q x) [.ref (q 5), .int a1] σ σ' r := by
  refine MI_of (by decide) hF (Nat.le_of_ble_eq_true rfl) ?_
  intro p e s m args below meth c Q C hret hJ ls hl
  obtain ⟨hx, hb, hml, hown, hts, hK, hE, -⟩ := id C
  have hsb : ∀ z, (aC q) z → (aC q) z := fun _ h => h
  have hl : lv_has ls 2 [(0, .ref (q 5)), (1, .int a1)] := hl
  unfold fC_H_isMissing at hf
  refine lv_aload_n hx hb dX7_isMissing_0 rfl (lv_at hl 0 rfl) ?_
  refine gC_5_0 C hJ fl_RX7_9 dX7_isMissing_1 ?_
  refine lv_iload_n hx hb dX7_isMissing_4 rfl (lv_at hl 1 rfl) ?_
  obtain ⟨h1, hf⟩ := gi_some hf
  refine aC_25 C hJ h1 dX7_isMissing_5 ?_
  refine lv_iconst (v := -1) hx hb dX7_isMissing_6 (by decide) ?_
  refine lv_icmp_ne (tgt := 14) hx hb dX7_isMissing_7 (by decide) (fun c2 => ?_) (fun c2 => ?_)
  · have hf := ite_f hf c2
    refine lv_iconst (v := 0) hx hb dX7_isMissing_14 (by decide) ?_
    exact ret_I hret hJ hf (nar_z (by decide)) dX7_isMissing_15
  · have hf := ite_t hf c2
    refine lv_iconst (v := 1) hx hb dX7_isMissing_10 (by decide) ?_
    refine lv_goto (tgt := 15) hx hb dX7_isMissing_11 (by decide) ?_
    exact ret_I hret hJ hf (nar_z (by decide)) dX7_isMissing_15
set_option maxHeartbeats 4000000 in
set_option maxRecDepth 100000 in
theorem cC_H_refusalAsWidths {l : Launch} {D : va_G} {cA cB : ClassId} {q : Nat → Nat} {x : Nat → Nat} {N : Nat} {σ σ' : St} {r : Int32} {a1 : Int32} (hF : Fr (wC q cA cB) (aC q) (eC q x)) (hf : fC_H_refusalAsWidths N σ a1 = some (σ', r)) : MI l yX7_refusalAsWidths cX7_refusalAsWidths 3 .int 3 D (tyC cA cB) (wC q cA cB) (aC q) (eC q x) [.ref (q 5), .int a1] σ σ' r := by
  refine MI_of (by decide) hF (Nat.le_of_ble_eq_true rfl) ?_
  intro p e s m args below meth c Q C hret hJ ls hl
  obtain ⟨hx, hb, hml, hown, hts, hK, hE, -⟩ := id C
  have hsb : ∀ z, (aC q) z → (aC q) z := fun _ h => h
  have l31 : ∀ (n : Nat) (σ : St) (a1 : Int32) (a2 : Int32) (H : Heap) (locs : List Loc) (ls : Array Slot), fC_H_refusalAsWidths_l31 N  n σ a1 a2 = some (σ', r) → J D (wC q cA cB) (aC q) s σ H locs → lv_has ls 3 [(0, .ref (q 5)), (1, .int a1), (2, .int a2)] → W p l e (rmH 3) s m args below meth c H locs 0 0 Q (F0 m 31 ls []) := by
    intro n31
    induction n31 with
    | zero => intro σ a1 a2 H locs ls hf; rw [fC_H_refusalAsWidths_l31] at hf; cases hf
    | succ n31 ih31 =>
      intro σ a1 a2 H locs ls hf hJ hl
      rw [fC_H_refusalAsWidths_l31] at hf
      refine lv_iload_n hx hb dX7_refusalAsWidths_31 rfl (lv_at hl 2 rfl) ?_
      refine lv_aload_n hx hb dX7_refusalAsWidths_32 rfl (lv_at hl 0 rfl) ?_
      refine gC_5_1 C hJ fl_RX7_15 dX7_refusalAsWidths_33 ?_
      refine lv_iload_n hx hb dX7_refusalAsWidths_36 rfl (lv_at hl 1 rfl) ?_
      obtain ⟨h1, hf⟩ := gi_some hf
      refine aC_26 C hJ h1 dX7_refusalAsWidths_37 ?_
      refine lv_icmp_ge (tgt := 62) hx hb dX7_refusalAsWidths_38 (by decide) (fun c2 => ?_) (fun c2 => ?_)
      · have hf := ite_t hf c2
        refine lv_iconst (v := 0) hx hb dX7_refusalAsWidths_62 (by decide) ?_
        exact ret_I hret hJ hf rfl dX7_refusalAsWidths_63
      · have hf := ite_f hf c2
        refine lv_aload_n hx hb dX7_refusalAsWidths_41 rfl (lv_at hl 0 rfl) ?_
        refine lv_iload_n hx hb dX7_refusalAsWidths_42 rfl (lv_at hl 1 rfl) ?_
        refine lv_iload_n hx hb dX7_refusalAsWidths_43 rfl (lv_at hl 2 rfl) ?_
        obtain ⟨σ3, r4, hg5, hf⟩ := cal_some hf
        refine backI hsb hJ (runV (As := [.int a1, .int a2]) (rest := []) C hJ lk_RX7_33 (cC_H_itemOf hF hg5) recC_5 rfl rfl (Nat.le_of_ble_eq_true rfl) hl.1 (hR_of (by omega) (by decide)) ⟨Nat.le_refl _, Nat.le_refl _⟩ dX7_refusalAsWidths_44) (fun H locs hJ => ?_)
        obtain ⟨σ6, r7, hg8, hf⟩ := cal_some hf
        refine backI hsb hJ (runN (As := [.int r4]) (rest := []) C hJ lkn_yX11_isWidth (hE.1 _ nl_RX7_37) (cC_isWidth hF hg8) rfl rfl (Nat.le_of_ble_eq_true rfl) hl.1 (hR_of (by omega) (by decide)) ⟨Nat.le_refl _, Nat.le_refl _⟩ dX7_refusalAsWidths_47) (fun H locs hJ => ?_)
        refine lv_if_ne (tgt := 56) hx hb dX7_refusalAsWidths_50 (by decide) (fun c9 => ?_) (fun c9 => ?_)
        · have hf := ite_f hf c9
          obtain ⟨x10, hx10⟩ : ∃ z : Int32, z = a2 + (1 : Int32) := ⟨_, rfl⟩
          have hf := bnd_at hf hx10
          refine lv_iinc (v := x10) (lv' := [(2, .int x10), (0, .ref (q 5)), (1, .int a1)]) hx hb dX7_refusalAsWidths_56 hl (k := 2) rfl (by rw [hx10]; rfl) (by decide) rfl (fun ls hl => ?_)
          refine lv_goto (tgt := 31) hx hb dX7_refusalAsWidths_59 (by decide) ?_
          exact ih31 σ6 a1 x10 _ _ _ hf hJ (lv_sub hl [1, 2, 0] rfl)
        · have hf := ite_t hf c9
          refine lv_bipush (v := -2) hx hb dX7_refusalAsWidths_53 (by decide) ?_
          exact ret_I hret hJ hf rfl dX7_refusalAsWidths_55
  have hl : lv_has ls 3 [(0, .ref (q 5)), (1, .int a1)] := hl
  unfold fC_H_refusalAsWidths at hf
  refine lv_aload_n hx hb dX7_refusalAsWidths_0 rfl (lv_at hl 0 rfl) ?_
  refine lv_iload_n hx hb dX7_refusalAsWidths_1 rfl (lv_at hl 1 rfl) ?_
  obtain ⟨σ11, r12, hg13, hf⟩ := cal_some hf
  refine backI hsb hJ (runV (As := [.int a1]) (rest := []) C hJ lk_RX7_25 (cC_H_isMissing hF hg13) recC_5 rfl rfl (Nat.le_of_ble_eq_true rfl) hl.1 (hR_of (by omega) (by decide)) ⟨Nat.le_refl _, Nat.le_refl _⟩ dX7_refusalAsWidths_2) (fun H locs hJ => ?_)
  refine lv_if_eq (tgt := 11) hx hb dX7_refusalAsWidths_5 (by decide) (fun c14 => ?_) (fun c14 => ?_)
  · have hf := ite_t hf c14
    refine lv_aload_n hx hb dX7_refusalAsWidths_11 rfl (lv_at hl 0 rfl) ?_
    refine gC_5_1 C hJ fl_RX7_15 dX7_refusalAsWidths_12 ?_
    refine lv_iload_n hx hb dX7_refusalAsWidths_15 rfl (lv_at hl 1 rfl) ?_
    obtain ⟨h15, hf⟩ := gi_some hf
    refine aC_26 C hJ h15 dX7_refusalAsWidths_16 ?_
    refine lv_iconst (v := 1) hx hb dX7_refusalAsWidths_17 (by decide) ?_
    refine lv_bipush (v := 8) hx hb dX7_refusalAsWidths_18 (by decide) ?_
    obtain ⟨σ16, r17, hg18, hf⟩ := cal_some hf
    refine backI hsb hJ (runN (As := [.int (σ11.2.1 26 a1.toNatClampNeg), .int (1 : Int32), .int (8 : Int32)]) (rest := []) C hJ lkn_yX11_isWithin (hE.1 _ nl_RX7_29) (cC_isWithin hF hg18) rfl rfl (Nat.le_of_ble_eq_true rfl) hl.1 (hR_of (by omega) (by decide)) ⟨Nat.le_refl _, Nat.le_refl _⟩ dX7_refusalAsWidths_20) (fun H locs hJ => ?_)
    refine lv_if_ne (tgt := 29) hx hb dX7_refusalAsWidths_23 (by decide) (fun c19 => ?_) (fun c19 => ?_)
    · have hf := ite_f hf c19
      refine lv_iconst (v := 0) hx hb dX7_refusalAsWidths_29 (by decide) ?_
      refine lv_istore_n (lv' := [(2, .int (0 : Int32)), (0, .ref (q 5)), (1, .int a1)]) hx hb dX7_refusalAsWidths_30 rfl hl (by decide) rfl (fun ls hl => ?_)
      exact l31 N σ16 a1 (0 : Int32) _ _ _ hf hJ (lv_sub hl [1, 2, 0] rfl)
    · have hf := ite_t hf c19
      refine lv_bipush (v := -2) hx hb dX7_refusalAsWidths_26 (by decide) ?_
      exact ret_I hret hJ hf rfl dX7_refusalAsWidths_28
  · have hf := ite_f hf c14
    refine lv_bipush (v := -11) hx hb dX7_refusalAsWidths_8 (by decide) ?_
    exact ret_I hret hJ hf rfl dX7_refusalAsWidths_10
set_option maxHeartbeats 4000000 in
set_option maxRecDepth 100000 in
theorem cC_P_weigh {l : Launch} {D : va_G} {cA cB : ClassId} {q : Nat → Nat} {x : Nat → Nat} {N : Nat} {σ σ' : St} {a1 : Int32} (hF : Fr (wC q cA cB) (aC q) (eC q x)) (hf : fC_P_weigh N σ a1 = some (σ', ())) : MV l yX5_weigh cX5_weigh 5 7 D (tyC cA cB) (wC q cA cB) (aC q) (eC q x) [.ref (q 1), .int a1] σ σ' := by
  refine MV_of (by decide) hF (Nat.le_of_ble_eq_true rfl) ?_
  intro p e s m args below meth c Q C hret hJ ls hl
  obtain ⟨hx, hb, hml, hown, hts, hK, hE, -⟩ := id C
  have hsb : ∀ z, (aC q) z → (aC q) z := fun _ h => h
  have l12 : ∀ (n : Nat) (σ : St) (a1 : Int32) (a2 : Int32) (H : Heap) (locs : List Loc) (ls : Array Slot), fC_P_weigh_l12 N  n σ a1 a2 = some (σ', ()) → J D (wC q cA cB) (aC q) s σ H locs → lv_has ls 5 [(0, .ref (q 1)), (1, .int a1), (2, .int a2)] → W p l e (rmH 7) s m args below meth c H locs 0 0 Q (F0 m 12 ls []) := by
    intro n12
    induction n12 with
    | zero => intro σ a1 a2 H locs ls hf; rw [fC_P_weigh_l12] at hf; cases hf
    | succ n12 ih12 =>
      have j101 : ∀ (σ : St) (a1 : Int32) (a2 : Int32) (H : Heap) (locs : List Loc) (ls : Array Slot), fC_P_weigh_j101 N (fC_P_weigh_l12 N  n12) σ a1 a2 = some (σ', ()) → J D (wC q cA cB) (aC q) s σ H locs → lv_has ls 5 [(0, .ref (q 1)), (1, .int a1), (2, .int a2)] → W p l e (rmH 7) s m args below meth c H locs 0 0 Q (F0 m 101 ls []) := by
        intro σ a1 a2 H locs ls hf hJ hl
        unfold fC_P_weigh_j101 at hf
        obtain ⟨x1, hx1⟩ : ∃ z : Int32, z = a2 + (1 : Int32) := ⟨_, rfl⟩
        have hf := bnd_at hf hx1
        refine lv_iinc (v := x1) (lv' := [(2, .int x1), (0, .ref (q 1)), (1, .int a1)]) hx hb dX5_weigh_101 hl (k := 2) rfl (by rw [hx1]; rfl) (by decide) rfl (fun ls hl => ?_)
        refine lv_goto (tgt := 12) hx hb dX5_weigh_104 (by decide) ?_
        exact ih12 σ a1 x1 _ _ _ hf hJ (lv_sub hl [1, 2, 0] rfl)
      have j97 : ∀ (σ : St) (a1 : Int32) (a2 : Int32) (t1 : Int32) (t2 : Int32) (H : Heap) (locs : List Loc) (ls : Array Slot), fC_P_weigh_j97 N (fC_P_weigh_l12 N  n12) σ a1 a2 t1 t2 = some (σ', ()) → J D (wC q cA cB) (aC q) s σ H locs → lv_has ls 5 [(0, .ref (q 1)), (1, .int a1), (2, .int a2)] → W p l e (rmH 7) s m args below meth c H locs 0 0 Q (F0 m 97 ls [.int t2, .int t1, .ref (q 1)]) := by
        intro σ a1 a2 t1 t2 H locs ls hf hJ hl
        unfold fC_P_weigh_j97 at hf
        refine lv_iadd hx hb dX5_weigh_97 ?_
        refine pC_1_9 C hJ fl_RX5_159 dX5_weigh_98 (fun σ2 H locs hs hJ => ?_)
        have hf := bnd_at hf hs
        exact j101 σ2 a1 a2 _ _ _ hf hJ (lv_sub hl [0, 1, 2] rfl)
      have j96 : ∀ (σ : St) (a1 : Int32) (a2 : Int32) (t1 : Int32) (H : Heap) (locs : List Loc) (ls : Array Slot), fC_P_weigh_j96 N (fC_P_weigh_l12 N  n12) σ a1 a2 t1 = some (σ', ()) → J D (wC q cA cB) (aC q) s σ H locs → lv_has ls 5 [(0, .ref (q 1)), (1, .int a1), (2, .int a2)] → W p l e (rmH 7) s m args below meth c H locs 0 0 Q (F0 m 96 ls [.int t1, .ref (q 1)]) := by
        intro σ a1 a2 t1 H locs ls hf hJ hl
        unfold fC_P_weigh_j96 at hf
        refine lv_iconst (v := 0) hx hb dX5_weigh_96 (by decide) ?_
        exact j97 σ a1 a2 t1 (0 : Int32) _ _ _ hf hJ (lv_sub hl [0, 1, 2] rfl)
      have j74 : ∀ (σ : St) (a1 : Int32) (a2 : Int32) (a3 : Int32) (a4 : Int32) (t1 : Int32) (t2 : Int32) (H : Heap) (locs : List Loc) (ls : Array Slot), fC_P_weigh_j74 N (fC_P_weigh_l12 N  n12) σ a1 a2 a3 a4 t1 t2 = some (σ', ()) → J D (wC q cA cB) (aC q) s σ H locs → lv_has ls 5 [(0, .ref (q 1)), (1, .int a1), (2, .int a2), (3, .int a3), (4, .int a4)] → W p l e (rmH 7) s m args below meth c H locs 0 0 Q (F0 m 74 ls [.int t2, .int t1, .ref (q 1)]) := by
        intro σ a1 a2 a3 a4 t1 t2 H locs ls hf hJ hl
        unfold fC_P_weigh_j74 at hf
        refine lv_iadd hx hb dX5_weigh_74 ?_
        refine pC_1_8 C hJ fl_RX5_156 dX5_weigh_75 (fun σ3 H locs hs hJ => ?_)
        have hf := bnd_at hf hs
        refine lv_aload_n hx hb dX5_weigh_78 rfl (lv_at hl 0 rfl) ?_
        refine lv_dup hx hb dX5_weigh_79 rfl ?_
        refine gC_1_9 C hJ fl_RX5_159 dX5_weigh_80 ?_
        refine lv_iload_n hx hb dX5_weigh_83 rfl (lv_at hl 3 rfl) ?_
        refine lv_if_eq (tgt := 96) hx hb dX5_weigh_84 (by decide) (fun c4 => ?_) (fun c4 => ?_)
        · have hf := ite_t hf c4
          exact j96 σ3 a1 a2 (σ3.1 8) _ _ _ hf hJ (lv_sub hl [0, 1, 2] rfl)
        · have hf := ite_f hf c4
          refine lv_iload hx hb dX5_weigh_87 (lv_at hl 4 rfl) ?_
          refine lv_if_ne (tgt := 96) hx hb dX5_weigh_89 (by decide) (fun c5 => ?_) (fun c5 => ?_)
          · have hf := ite_f hf c5
            exact j96 σ3 a1 a2 (σ3.1 8) _ _ _ hf hJ (lv_sub hl [0, 1, 2] rfl)
          · have hf := ite_t hf c5
            refine lv_iconst (v := 1) hx hb dX5_weigh_92 (by decide) ?_
            refine lv_goto (tgt := 97) hx hb dX5_weigh_93 (by decide) ?_
            exact j97 σ3 a1 a2 (σ3.1 8) (1 : Int32) _ _ _ hf hJ (lv_sub hl [0, 1, 2] rfl)
      have j73 : ∀ (σ : St) (a1 : Int32) (a2 : Int32) (a3 : Int32) (a4 : Int32) (t1 : Int32) (H : Heap) (locs : List Loc) (ls : Array Slot), fC_P_weigh_j73 N (fC_P_weigh_l12 N  n12) σ a1 a2 a3 a4 t1 = some (σ', ()) → J D (wC q cA cB) (aC q) s σ H locs → lv_has ls 5 [(0, .ref (q 1)), (1, .int a1), (2, .int a2), (3, .int a3), (4, .int a4)] → W p l e (rmH 7) s m args below meth c H locs 0 0 Q (F0 m 73 ls [.int t1, .ref (q 1)]) := by
        intro σ a1 a2 a3 a4 t1 H locs ls hf hJ hl
        unfold fC_P_weigh_j73 at hf
        refine lv_iconst (v := 0) hx hb dX5_weigh_73 (by decide) ?_
        exact j74 σ a1 a2 a3 a4 t1 (0 : Int32) _ _ _ hf hJ (lv_sub hl [0, 1, 2, 3, 4] rfl)
      intro σ a1 a2 H locs ls hf hJ hl
      rw [fC_P_weigh_l12] at hf
      refine lv_iload_n hx hb dX5_weigh_12 rfl (lv_at hl 2 rfl) ?_
      refine lv_aload_n hx hb dX5_weigh_13 rfl (lv_at hl 0 rfl) ?_
      refine gC_1_4 C hJ fl_RX5_42 dX5_weigh_14 ?_
      refine gC_11_7 C hJ fl_RX5_147 dX5_weigh_17 ?_
      refine lv_icmp_ge (tgt := 107) hx hb dX5_weigh_20 (by decide) (fun c6 => ?_) (fun c6 => ?_)
      · have hf := ite_t hf c6
        exact ret_V hret hJ hf dX5_weigh_107
      · have hf := ite_f hf c6
        refine lv_iload_n hx hb dX5_weigh_23 rfl (lv_at hl 1 rfl) ?_
        refine lv_iload_n hx hb dX5_weigh_24 rfl (lv_at hl 2 rfl) ?_
        refine lv_ishr hx hb dX5_weigh_25 ?_
        refine lv_iconst (v := 1) hx hb dX5_weigh_26 (by decide) ?_
        refine lv_iand hx hb dX5_weigh_27 ?_
        refine lv_iconst (v := 1) hx hb dX5_weigh_28 (by decide) ?_
        refine lv_icmp_ne (tgt := 101) hx hb dX5_weigh_29 (by decide) (fun c7 => ?_) (fun c7 => ?_)
        · have hf := ite_f hf c7
          exact j101 σ a1 a2 _ _ _ hf hJ (lv_sub hl [0, 1, 2] rfl)
        · have hf := ite_t hf c7
          refine lv_aload_n hx hb dX5_weigh_32 rfl (lv_at hl 0 rfl) ?_
          refine lv_aload_n hx hb dX5_weigh_33 rfl (lv_at hl 0 rfl) ?_
          refine gC_1_4 C hJ fl_RX5_42 dX5_weigh_34 ?_
          refine gC_11_0 C hJ fl_RX5_150 dX5_weigh_37 ?_
          refine lv_iload_n hx hb dX5_weigh_40 rfl (lv_at hl 2 rfl) ?_
          obtain ⟨h8, hf⟩ := gi_some hf
          refine aC_46 C hJ h8 dX5_weigh_41 ?_
          refine lv_iload_n hx hb dX5_weigh_42 rfl (lv_at hl 2 rfl) ?_
          obtain ⟨σ9, r10, hg11, hf⟩ := cal_some hf
          refine backI hsb hJ (runV (As := [.int (σ.2.1 46 a2.toNatClampNeg), .int a2]) (rest := []) C hJ lk_RX5_153 (cC_P_isOffside hF hg11) recC_1 rfl rfl (Nat.le_of_ble_eq_true rfl) hl.1 (hR_of (by omega) (by decide)) ⟨Nat.le_refl _, Nat.le_refl _⟩ dX5_weigh_43) (fun H locs hJ => ?_)
          refine lv_istore_n (lv' := [(3, .int r10), (0, .ref (q 1)), (1, .int a1), (2, .int a2)]) hx hb dX5_weigh_46 rfl hl (by decide) rfl (fun ls hl => ?_)
          refine lv_aload_n hx hb dX5_weigh_47 rfl (lv_at hl 1 rfl) ?_
          refine lv_iconst (v := 0) hx hb dX5_weigh_48 (by decide) ?_
          refine lv_iload_n hx hb dX5_weigh_49 rfl (lv_at hl 3 rfl) ?_
          obtain ⟨σ12, r13, hg14, hf⟩ := cal_some hf
          refine backI hsb hJ (runV (As := [.int (0 : Int32), .int a2]) (rest := []) C hJ lk_RX5_153 (cC_P_isOffside hF hg14) recC_1 rfl rfl (Nat.le_of_ble_eq_true rfl) hl.1 (hR_of (by omega) (by decide)) ⟨Nat.le_refl _, Nat.le_refl _⟩ dX5_weigh_50) (fun H locs hJ => ?_)
          refine lv_istore (lv' := [(4, .int r13), (3, .int r10), (0, .ref (q 1)), (1, .int a1), (2, .int a2)]) hx hb dX5_weigh_53 hl (by decide) rfl (fun ls hl => ?_)
          refine lv_aload_n hx hb dX5_weigh_55 rfl (lv_at hl 2 rfl) ?_
          refine lv_dup hx hb dX5_weigh_56 rfl ?_
          refine gC_1_8 C hJ fl_RX5_156 dX5_weigh_57 ?_
          refine lv_iload hx hb dX5_weigh_60 (lv_at hl 0 rfl) ?_
          refine lv_if_eq (tgt := 73) hx hb dX5_weigh_62 (by decide) (fun c15 => ?_) (fun c15 => ?_)
          · have hf := ite_t hf c15
            exact j73 σ12 a1 a2 r10 r13 (σ12.1 7) _ _ _ hf hJ (lv_sub hl [2, 3, 4, 1, 0] rfl)
          · have hf := ite_f hf c15
            refine lv_iload_n hx hb dX5_weigh_65 rfl (lv_at hl 1 rfl) ?_
            refine lv_if_ne (tgt := 73) hx hb dX5_weigh_66 (by decide) (fun c16 => ?_) (fun c16 => ?_)
            · have hf := ite_f hf c16
              exact j73 σ12 a1 a2 r10 r13 (σ12.1 7) _ _ _ hf hJ (lv_sub hl [2, 3, 4, 1, 0] rfl)
            · have hf := ite_t hf c16
              refine lv_iconst (v := 1) hx hb dX5_weigh_69 (by decide) ?_
              refine lv_goto (tgt := 74) hx hb dX5_weigh_70 (by decide) ?_
              exact j74 σ12 a1 a2 r10 r13 (σ12.1 7) (1 : Int32) _ _ _ hf hJ (lv_sub hl [2, 3, 4, 1, 0] rfl)
  have hl : lv_has ls 5 [(0, .ref (q 1)), (1, .int a1)] := hl
  unfold fC_P_weigh at hf
  refine lv_aload_n hx hb dX5_weigh_0 rfl (lv_at hl 0 rfl) ?_
  refine lv_iconst (v := 0) hx hb dX5_weigh_1 (by decide) ?_
  refine pC_1_8 C hJ fl_RX5_156 dX5_weigh_2 (fun σ17 H locs hs hJ => ?_)
  have hf := bnd_at hf hs
  refine lv_aload_n hx hb dX5_weigh_5 rfl (lv_at hl 0 rfl) ?_
  refine lv_iconst (v := 0) hx hb dX5_weigh_6 (by decide) ?_
  refine pC_1_9 C hJ fl_RX5_159 dX5_weigh_7 (fun σ18 H locs hs hJ => ?_)
  have hf := bnd_at hf hs
  refine lv_iconst (v := 0) hx hb dX5_weigh_10 (by decide) ?_
  refine lv_istore_n (lv' := [(2, .int (0 : Int32)), (0, .ref (q 1)), (1, .int a1)]) hx hb dX5_weigh_11 rfl hl (by decide) rfl (fun ls hl => ?_)
  exact l12 N σ18 a1 (0 : Int32) _ _ _ hf hJ (lv_sub hl [1, 2, 0] rfl)
set_option maxHeartbeats 4000000 in
set_option maxRecDepth 100000 in
theorem cC_wrong {l : Launch} {D : va_G} {cA cB : ClassId} {q : Nat → Nat} {x : Nat → Nat} {N : Nat} {σ σ' : St} {r : Int32} {a1 : Int32} {a2 : Int32} {a3 : Int32} {a4 : Int32} (hF : Fr (wC q cA cB) (aC q) (eC q x)) (hf : fC_wrong N σ a1 a2 a3 a4 = some (σ', r)) : MI l yX11_wrong cX11_wrong 6 .int 8 D (tyC cA cB) (wC q cA cB) (aC q) (eC q x) [.ref (q 0), .int a1, .int a2, .int a3, .int a4] σ σ' r := by
  refine MI_of (by decide) hF (Nat.le_of_ble_eq_true rfl) ?_
  intro p e s m args below meth c Q C hret hJ ls hl
  obtain ⟨hx, hb, hml, hown, hts, hK, hE, -⟩ := id C
  have hsb : ∀ z, (aC q) z → (aC q) z := fun _ h => h
  have hl : lv_has ls 6 [(0, .ref (q 0)), (1, .int a1), (2, .int a2), (3, .int a3), (4, .int a4)] := hl
  unfold fC_wrong at hf
  refine lv_iload_n hx hb dX11_wrong_0 rfl (lv_at hl 1 rfl) ?_
  obtain ⟨σ1, r2, hg3, hf⟩ := cal_some hf
  refine backI hsb hJ (runS (As := [.int a1]) (rest := []) C hJ lk_RX11_233 (cC_isSheet hF hg3) rfl rfl (Nat.le_of_ble_eq_true rfl) hl.1 (hR_of (by omega) (by decide)) ⟨Nat.le_refl _, Nat.le_refl _⟩ dX11_wrong_1) (fun H locs hJ => ?_)
  refine lv_if_eq (tgt := 31) hx hb dX11_wrong_4 (by decide) (fun c4 => ?_) (fun c4 => ?_)
  · have hf := ite_t hf c4
    refine lv_bipush (v := -2) hx hb dX11_wrong_31 (by decide) ?_
    exact ret_I hret hJ hf rfl dX11_wrong_33
  · have hf := ite_f hf c4
    refine lv_aload_n hx hb dX11_wrong_7 rfl (lv_at hl 0 rfl) ?_
    refine gC_0_0 C hJ fl_RX11_12 dX11_wrong_8 ?_
    refine gC_1_4 C hJ fl_RX11_189 dX11_wrong_11 ?_
    refine lv_iload_n hx hb dX11_wrong_14 rfl (lv_at hl 2 rfl) ?_
    obtain ⟨σ5, r6, hg7, hf⟩ := cal_some hf
    refine backI hsb hJ (runV (As := [.int a2]) (rest := []) C hJ lk_RX11_236 (cC_F_hasAll hF hg7) recC_11 rfl rfl (Nat.le_of_ble_eq_true rfl) hl.1 (hR_of (by omega) (by decide)) ⟨Nat.le_refl _, Nat.le_refl _⟩ dX11_wrong_15) (fun H locs hJ => ?_)
    refine lv_if_eq (tgt := 31) hx hb dX11_wrong_18 (by decide) (fun c8 => ?_) (fun c8 => ?_)
    · have hf := ite_t hf c8
      refine lv_bipush (v := -2) hx hb dX11_wrong_31 (by decide) ?_
      exact ret_I hret hJ hf rfl dX11_wrong_33
    · have hf := ite_f hf c8
      refine lv_iload hx hb dX11_wrong_21 (lv_at hl 4 rfl) ?_
      refine lv_iconst (v := 0) hx hb dX11_wrong_23 (by decide) ?_
      refine lv_iconst (v := 1) hx hb dX11_wrong_24 (by decide) ?_
      obtain ⟨σ9, r10, hg11, hf⟩ := cal_some hf
      refine backI hsb hJ (runS (As := [.int a4, .int (0 : Int32), .int (1 : Int32)]) (rest := []) C hJ lk_RX11_100 (cC_isWithin hF hg11) rfl rfl (Nat.le_of_ble_eq_true rfl) hl.1 (hR_of (by omega) (by decide)) ⟨Nat.le_refl _, Nat.le_refl _⟩ dX11_wrong_25) (fun H locs hJ => ?_)
      refine lv_if_ne (tgt := 34) hx hb dX11_wrong_28 (by decide) (fun c12 => ?_) (fun c12 => ?_)
      · have hf := ite_f hf c12
        refine lv_aload_n hx hb dX11_wrong_34 rfl (lv_at hl 0 rfl) ?_
        refine gC_0_4 C hJ fl_RX11_40 dX11_wrong_35 ?_
        refine lv_iload_n hx hb dX11_wrong_38 rfl (lv_at hl 1 rfl) ?_
        obtain ⟨σ13, r14, hg15, hf⟩ := cal_some hf
        refine backI hsb hJ (runV (As := [.int a1]) (rest := []) C hJ lk_RX11_239 (cC_H_refusalAsWidths hF hg15) recC_5 rfl rfl (Nat.le_of_ble_eq_true rfl) hl.1 (hR_of (by omega) (by decide)) ⟨Nat.le_refl _, Nat.le_refl _⟩ dX11_wrong_39) (fun H locs hJ => ?_)
        refine lv_istore (lv' := [(5, .int r14), (0, .ref (q 0)), (1, .int a1), (2, .int a2), (3, .int a3), (4, .int a4)]) hx hb dX11_wrong_42 hl (by decide) rfl (fun ls hl => ?_)
        refine lv_iload hx hb dX11_wrong_44 (lv_at hl 0 rfl) ?_
        refine lv_if_eq (tgt := 52) hx hb dX11_wrong_46 (by decide) (fun c16 => ?_) (fun c16 => ?_)
        · have hf := ite_t hf c16
          refine lv_aload_n hx hb dX11_wrong_52 rfl (lv_at hl 1 rfl) ?_
          refine gC_0_4 C hJ fl_RX11_40 dX11_wrong_53 ?_
          refine lv_iload_n hx hb dX11_wrong_56 rfl (lv_at hl 2 rfl) ?_
          refine lv_iload_n hx hb dX11_wrong_57 rfl (lv_at hl 4 rfl) ?_
          obtain ⟨σ17, r18, hg19, hf⟩ := cal_some hf
          refine backI hsb hJ (runV (As := [.int a1, .int a3]) (rest := []) C hJ lk_RX11_242 (cC_H_has hF hg19) recC_5 rfl rfl (Nat.le_of_ble_eq_true rfl) hl.1 (hR_of (by omega) (by decide)) ⟨Nat.le_refl _, Nat.le_refl _⟩ dX11_wrong_58) (fun H locs hJ => ?_)
          refine lv_if_ne (tgt := 66) hx hb dX11_wrong_61 (by decide) (fun c20 => ?_) (fun c20 => ?_)
          · have hf := ite_f hf c20
            refine lv_aload_n hx hb dX11_wrong_66 rfl (lv_at hl 1 rfl) ?_
            refine gC_0_0 C hJ fl_RX11_12 dX11_wrong_67 ?_
            refine lv_aload_n hx hb dX11_wrong_70 rfl (lv_at hl 1 rfl) ?_
            refine gC_0_4 C hJ fl_RX11_40 dX11_wrong_71 ?_
            refine lv_iload_n hx hb dX11_wrong_74 rfl (lv_at hl 2 rfl) ?_
            refine lv_iload_n hx hb dX11_wrong_75 rfl (lv_at hl 4 rfl) ?_
            obtain ⟨σ21, r22, hg23, hf⟩ := cal_some hf
            refine backI hsb hJ (runV (As := [.int a1, .int a3]) (rest := [.ref (q 1)]) C hJ lk_RX11_244 (cC_H_itemOf hF hg23) recC_5 rfl rfl (Nat.le_of_ble_eq_true rfl) hl.1 (hR_of (by omega) (by decide)) ⟨Nat.le_refl _, Nat.le_refl _⟩ dX11_wrong_76) (fun H locs hJ => ?_)
            obtain ⟨σ24, r25, hg26, hf⟩ := cal_some hf
            refine backV hsb hJ (runV (As := [.int r22]) (rest := []) C hJ lk_RX11_133 (cC_P_lookAs hF hg26) recC_1 rfl rfl (Nat.le_of_ble_eq_true rfl) hl.1 (hR_of (by omega) (by decide)) ⟨Nat.le_refl _, Nat.le_refl _⟩ dX11_wrong_79) (fun H locs hJ => ?_)
            refine lv_aload_n hx hb dX11_wrong_82 rfl (lv_at hl 1 rfl) ?_
            refine gC_0_0 C hJ fl_RX11_12 dX11_wrong_83 ?_
            refine lv_iload_n hx hb dX11_wrong_86 rfl (lv_at hl 3 rfl) ?_
            obtain ⟨σ27, r28, hg29, hf⟩ := cal_some hf
            refine backV hsb hJ (runV (As := [.int a2]) (rest := []) C hJ lk_RX11_247 (cC_P_weigh hF hg29) recC_1 rfl rfl (Nat.le_of_ble_eq_true rfl) hl.1 (hR_of (by omega) (by decide)) ⟨Nat.le_refl _, Nat.le_refl _⟩ dX11_wrong_87) (fun H locs hJ => ?_)
            refine lv_iload hx hb dX11_wrong_90 (lv_at hl 5 rfl) ?_
            refine lv_if_ne (tgt := 105) hx hb dX11_wrong_92 (by decide) (fun c30 => ?_) (fun c30 => ?_)
            · have hf := ite_f hf c30
              refine lv_aload_n hx hb dX11_wrong_105 rfl (lv_at hl 1 rfl) ?_
              refine gC_0_0 C hJ fl_RX11_12 dX11_wrong_106 ?_
              refine gC_1_9 C hJ fl_RX11_253 dX11_wrong_109 ?_
              exact ret_I hret hJ hf rfl dX11_wrong_112
            · have hf := ite_t hf c30
              refine lv_aload_n hx hb dX11_wrong_95 rfl (lv_at hl 1 rfl) ?_
              refine gC_0_0 C hJ fl_RX11_12 dX11_wrong_96 ?_
              refine gC_1_8 C hJ fl_RX11_250 dX11_wrong_99 ?_
              refine lv_goto (tgt := 112) hx hb dX11_wrong_102 (by decide) ?_
              exact ret_I hret hJ hf rfl dX11_wrong_112
          · have hf := ite_t hf c20
            refine lv_iconst (v := -1) hx hb dX11_wrong_64 (by decide) ?_
            exact ret_I hret hJ hf rfl dX11_wrong_65
        · have hf := ite_f hf c16
          refine lv_iload hx hb dX11_wrong_49 (lv_at hl 0 rfl) ?_
          exact ret_I hret hJ hf rfl dX11_wrong_51
      · have hf := ite_t hf c12
        refine lv_bipush (v := -2) hx hb dX11_wrong_31 (by decide) ?_
        exact ret_I hret hJ hf rfl dX11_wrong_33
set_option maxHeartbeats 4000000 in
set_option maxRecDepth 100000 in
theorem cC_best {l : Launch} {D : va_G} {cA cB : ClassId} {q : Nat → Nat} {x : Nat → Nat} {N : Nat} {σ σ' : St} {r : Int32} {a1 : Int32} {a2 : Int32} {a3 : Int32} (hF : Fr (wC q cA cB) (aC q) (eC q x)) (hf : fC_best N σ a1 a2 a3 = some (σ', r)) : MI l yX11_best cX11_best 10 .int 8 D (tyC cA cB) (wC q cA cB) (aC q) (eC q x) [.ref (q 0), .int a1, .int a2, .int a3] σ σ' r := by
  refine MI_of (by decide) hF (Nat.le_of_ble_eq_true rfl) ?_
  intro p e s m args below meth c Q C hret hJ ls hl
  obtain ⟨hx, hb, hml, hown, hts, hK, hE, -⟩ := id C
  have hsb : ∀ z, (aC q) z → (aC q) z := fun _ h => h
  have l70 : ∀ (n : Nat) (σ : St) (a1 : Int32) (a2 : Int32) (a3 : Int32) (a5 : Int32) (a6 : Int32) (a7 : Int32) (H : Heap) (locs : List Loc) (ls : Array Slot), fC_best_l70 N  n σ a1 a2 a3 a5 a6 a7 = some (σ', r) → J D (wC q cA cB) (aC q) s σ H locs → lv_has ls 10 [(0, .ref (q 0)), (1, .int a1), (2, .int a2), (3, .int a3), (5, .int a5), (6, .int a6), (7, .int a7)] → W p l e (rmH 8) s m args below meth c H locs 0 0 Q (F0 m 70 ls []) := by
    intro n70
    induction n70 with
    | zero => intro σ a1 a2 a3 a5 a6 a7 H locs ls hf; rw [fC_best_l70] at hf; cases hf
    | succ n70 ih70 =>
      have j160 : ∀ (σ : St) (a1 : Int32) (a2 : Int32) (a3 : Int32) (a5 : Int32) (a6 : Int32) (a7 : Int32) (H : Heap) (locs : List Loc) (ls : Array Slot), fC_best_j160 N (fC_best_l70 N  n70) σ a1 a2 a3 a5 a6 a7 = some (σ', r) → J D (wC q cA cB) (aC q) s σ H locs → lv_has ls 10 [(0, .ref (q 0)), (1, .int a1), (2, .int a2), (3, .int a3), (5, .int a5), (6, .int a6), (7, .int a7)] → W p l e (rmH 8) s m args below meth c H locs 0 0 Q (F0 m 160 ls []) := by
        intro σ a1 a2 a3 a5 a6 a7 H locs ls hf hJ hl
        unfold fC_best_j160 at hf
        obtain ⟨x1, hx1⟩ : ∃ z : Int32, z = a7 + (1 : Int32) := ⟨_, rfl⟩
        have hf := bnd_at hf hx1
        refine lv_iinc (v := x1) (lv' := [(7, .int x1), (0, .ref (q 0)), (1, .int a1), (2, .int a2), (3, .int a3), (5, .int a5), (6, .int a6)]) hx hb dX11_best_160 hl (k := 6) rfl (by rw [hx1]; rfl) (by decide) rfl (fun ls hl => ?_)
        refine lv_goto (tgt := 70) hx hb dX11_best_163 (by decide) ?_
        exact ih70 σ a1 a2 a3 a5 a6 x1 _ _ _ hf hJ (lv_sub hl [1, 2, 3, 4, 5, 6, 0] rfl)
      have j152 : ∀ (σ : St) (a1 : Int32) (a2 : Int32) (a3 : Int32) (a7 : Int32) (a8 : Int32) (a9 : Int32) (H : Heap) (locs : List Loc) (ls : Array Slot), fC_best_j152 N (fC_best_l70 N  n70) σ a1 a2 a3 a7 a8 a9 = some (σ', r) → J D (wC q cA cB) (aC q) s σ H locs → lv_has ls 10 [(0, .ref (q 0)), (1, .int a1), (2, .int a2), (3, .int a3), (7, .int a7), (8, .int a8), (9, .int a9)] → W p l e (rmH 8) s m args below meth c H locs 0 0 Q (F0 m 152 ls []) := by
        intro σ a1 a2 a3 a7 a8 a9 H locs ls hf hJ hl
        unfold fC_best_j152 at hf
        refine lv_iload hx hb dX11_best_152 (lv_at hl 6 rfl) ?_
        refine lv_istore (lv' := [(6, .int a9), (0, .ref (q 0)), (1, .int a1), (2, .int a2), (3, .int a3), (7, .int a7), (8, .int a8), (9, .int a9)]) hx hb dX11_best_154 hl (by decide) rfl (fun ls hl => ?_)
        refine lv_iload hx hb dX11_best_156 (lv_at hl 6 rfl) ?_
        refine lv_istore (lv' := [(5, .int a8), (6, .int a9), (0, .ref (q 0)), (1, .int a1), (2, .int a2), (3, .int a3), (7, .int a7), (8, .int a8), (9, .int a9)]) hx hb dX11_best_158 hl (by decide) rfl (fun ls hl => ?_)
        exact j160 σ a1 a2 a3 a8 a9 a7 _ _ _ hf hJ (lv_sub hl [2, 3, 4, 5, 0, 1, 6] rfl)
      intro σ a1 a2 a3 a5 a6 a7 H locs ls hf hJ hl
      rw [fC_best_l70] at hf
      refine lv_iload hx hb dX11_best_70 (lv_at hl 6 rfl) ?_
      refine lv_aload_n hx hb dX11_best_72 rfl (lv_at hl 0 rfl) ?_
      refine gC_0_4 C hJ fl_RX11_40 dX11_best_73 ?_
      refine gC_5_1 C hJ fl_RX11_256 dX11_best_76 ?_
      refine lv_iload_n hx hb dX11_best_79 rfl (lv_at hl 1 rfl) ?_
      obtain ⟨h2, hf⟩ := gi_some hf
      refine aC_26 C hJ h2 dX11_best_80 ?_
      refine lv_icmp_ge (tgt := 166) hx hb dX11_best_81 (by decide) (fun c3 => ?_) (fun c3 => ?_)
      · have hf := ite_t hf c3
        refine lv_iload hx hb dX11_best_166 (lv_at hl 4 rfl) ?_
        exact ret_I hret hJ hf rfl dX11_best_168
      · have hf := ite_f hf c3
        refine lv_aload_n hx hb dX11_best_84 rfl (lv_at hl 0 rfl) ?_
        refine gC_0_4 C hJ fl_RX11_40 dX11_best_85 ?_
        refine lv_iload_n hx hb dX11_best_88 rfl (lv_at hl 1 rfl) ?_
        refine lv_iload hx hb dX11_best_89 (lv_at hl 6 rfl) ?_
        obtain ⟨σ4, r5, hg6, hf⟩ := cal_some hf
        refine backI hsb hJ (runV (As := [.int a1, .int a7]) (rest := []) C hJ lk_RX11_244 (cC_H_itemOf hF hg6) recC_5 rfl rfl (Nat.le_of_ble_eq_true rfl) hl.1 (hR_of (by omega) (by decide)) ⟨Nat.le_refl _, Nat.le_refl _⟩ dX11_best_91) (fun H locs hJ => ?_)
        refine lv_istore (lv' := [(8, .int r5), (0, .ref (q 0)), (1, .int a1), (2, .int a2), (3, .int a3), (5, .int a5), (6, .int a6), (7, .int a7)]) hx hb dX11_best_94 hl (by decide) rfl (fun ls hl => ?_)
        refine lv_aload_n hx hb dX11_best_96 rfl (lv_at hl 1 rfl) ?_
        refine gC_0_0 C hJ fl_RX11_12 dX11_best_97 ?_
        refine lv_iload hx hb dX11_best_100 (lv_at hl 0 rfl) ?_
        obtain ⟨σ7, r8, hg9, hf⟩ := cal_some hf
        refine backV hsb hJ (runV (As := [.int r5]) (rest := []) C hJ lk_RX11_133 (cC_P_lookAs hF hg9) recC_1 rfl rfl (Nat.le_of_ble_eq_true rfl) hl.1 (hR_of (by omega) (by decide)) ⟨Nat.le_refl _, Nat.le_refl _⟩ dX11_best_102) (fun H locs hJ => ?_)
        refine lv_aload_n hx hb dX11_best_105 rfl (lv_at hl 1 rfl) ?_
        refine gC_0_0 C hJ fl_RX11_12 dX11_best_106 ?_
        refine lv_iload_n hx hb dX11_best_109 rfl (lv_at hl 3 rfl) ?_
        obtain ⟨σ10, r11, hg12, hf⟩ := cal_some hf
        refine backV hsb hJ (runV (As := [.int a2]) (rest := []) C hJ lk_RX11_247 (cC_P_weigh hF hg12) recC_1 rfl rfl (Nat.le_of_ble_eq_true rfl) hl.1 (hR_of (by omega) (by decide)) ⟨Nat.le_refl _, Nat.le_refl _⟩ dX11_best_110) (fun H locs hJ => ?_)
        refine lv_iload_n hx hb dX11_best_113 rfl (lv_at hl 4 rfl) ?_
        refine lv_bipush (v := 100) hx hb dX11_best_114 (by decide) ?_
        refine lv_idiv hx hb dX11_best_116 (by decide) ?_
        refine lv_aload_n hx hb dX11_best_117 rfl (lv_at hl 1 rfl) ?_
        refine gC_0_0 C hJ fl_RX11_12 dX11_best_118 ?_
        refine gC_1_8 C hJ fl_RX11_250 dX11_best_121 ?_
        refine lv_imul hx hb dX11_best_124 ?_
        refine lv_iload_n hx hb dX11_best_125 rfl (lv_at hl 4 rfl) ?_
        refine lv_bipush (v := 100) hx hb dX11_best_126 (by decide) ?_
        refine lv_irem hx hb dX11_best_128 (by decide) ?_
        refine lv_aload_n hx hb dX11_best_129 rfl (lv_at hl 1 rfl) ?_
        refine gC_0_0 C hJ fl_RX11_12 dX11_best_130 ?_
        refine gC_1_9 C hJ fl_RX11_253 dX11_best_133 ?_
        refine lv_imul hx hb dX11_best_136 ?_
        refine lv_iadd hx hb dX11_best_137 ?_
        refine lv_topi (fun x13 hx13 => ?_)
        have hf := bnd_at hf hx13
        refine lv_istore (lv' := [(9, .int x13), (8, .int r5), (0, .ref (q 0)), (1, .int a1), (2, .int a2), (3, .int a3), (5, .int a5), (6, .int a6), (7, .int a7)]) hx hb dX11_best_138 hl (by decide) rfl (fun ls hl => ?_)
        refine lv_iload hx hb dX11_best_140 (lv_at hl 8 rfl) ?_
        refine lv_if_eq (tgt := 152) hx hb dX11_best_142 (by decide) (fun c14 => ?_) (fun c14 => ?_)
        · have hf := ite_t hf c14
          exact j152 σ10 a1 a2 a3 a7 r5 x13 _ _ _ hf hJ (lv_sub hl [2, 3, 4, 5, 8, 1, 0] rfl)
        · have hf := ite_f hf c14
          refine lv_iload hx hb dX11_best_145 (lv_at hl 0 rfl) ?_
          refine lv_iload hx hb dX11_best_147 (lv_at hl 7 rfl) ?_
          refine lv_icmp_ge (tgt := 160) hx hb dX11_best_149 (by decide) (fun c15 => ?_) (fun c15 => ?_)
          · have hf := ite_t hf c15
            exact j160 σ10 a1 a2 a3 a5 a6 a7 _ _ _ hf hJ (lv_sub hl [2, 3, 4, 5, 6, 7, 8] rfl)
          · have hf := ite_f hf c15
            exact j152 σ10 a1 a2 a3 a7 r5 x13 _ _ _ hf hJ (lv_sub hl [2, 3, 4, 5, 8, 1, 0] rfl)
  have hl : lv_has ls 10 [(0, .ref (q 0)), (1, .int a1), (2, .int a2), (3, .int a3)] := hl
  unfold fC_best at hf
  refine lv_iload_n hx hb dX11_best_0 rfl (lv_at hl 1 rfl) ?_
  obtain ⟨σ16, r17, hg18, hf⟩ := cal_some hf
  refine backI hsb hJ (runS (As := [.int a1]) (rest := []) C hJ lk_RX11_233 (cC_isSheet hF hg18) rfl rfl (Nat.le_of_ble_eq_true rfl) hl.1 (hR_of (by omega) (by decide)) ⟨Nat.le_refl _, Nat.le_refl _⟩ dX11_best_1) (fun H locs hJ => ?_)
  refine lv_if_eq (tgt := 32) hx hb dX11_best_4 (by decide) (fun c19 => ?_) (fun c19 => ?_)
  · have hf := ite_t hf c19
    refine lv_bipush (v := -2) hx hb dX11_best_32 (by decide) ?_
    exact ret_I hret hJ hf rfl dX11_best_34
  · have hf := ite_f hf c19
    refine lv_aload_n hx hb dX11_best_7 rfl (lv_at hl 0 rfl) ?_
    refine gC_0_0 C hJ fl_RX11_12 dX11_best_8 ?_
    refine gC_1_4 C hJ fl_RX11_189 dX11_best_11 ?_
    refine lv_iload_n hx hb dX11_best_14 rfl (lv_at hl 2 rfl) ?_
    obtain ⟨σ20, r21, hg22, hf⟩ := cal_some hf
    refine backI hsb hJ (runV (As := [.int a2]) (rest := []) C hJ lk_RX11_236 (cC_F_hasAll hF hg22) recC_11 rfl rfl (Nat.le_of_ble_eq_true rfl) hl.1 (hR_of (by omega) (by decide)) ⟨Nat.le_refl _, Nat.le_refl _⟩ dX11_best_15) (fun H locs hJ => ?_)
    refine lv_if_eq (tgt := 32) hx hb dX11_best_18 (by decide) (fun c23 => ?_) (fun c23 => ?_)
    · have hf := ite_t hf c23
      refine lv_bipush (v := -2) hx hb dX11_best_32 (by decide) ?_
      exact ret_I hret hJ hf rfl dX11_best_34
    · have hf := ite_f hf c23
      refine lv_iload_n hx hb dX11_best_21 rfl (lv_at hl 3 rfl) ?_
      refine lv_iconst (v := 0) hx hb dX11_best_22 (by decide) ?_
      refine lv_sipush (v := 9999) hx hb dX11_best_23 (by decide) ?_
      obtain ⟨σ24, r25, hg26, hf⟩ := cal_some hf
      refine backI hsb hJ (runS (As := [.int a3, .int (0 : Int32), .int (9999 : Int32)]) (rest := []) C hJ lk_RX11_100 (cC_isWithin hF hg26) rfl rfl (Nat.le_of_ble_eq_true rfl) hl.1 (hR_of (by omega) (by decide)) ⟨Nat.le_refl _, Nat.le_refl _⟩ dX11_best_26) (fun H locs hJ => ?_)
      refine lv_if_ne (tgt := 35) hx hb dX11_best_29 (by decide) (fun c27 => ?_) (fun c27 => ?_)
      · have hf := ite_f hf c27
        refine lv_aload_n hx hb dX11_best_35 rfl (lv_at hl 0 rfl) ?_
        refine gC_0_4 C hJ fl_RX11_40 dX11_best_36 ?_
        refine lv_iload_n hx hb dX11_best_39 rfl (lv_at hl 1 rfl) ?_
        obtain ⟨σ28, r29, hg30, hf⟩ := cal_some hf
        refine backI hsb hJ (runV (As := [.int a1]) (rest := []) C hJ lk_RX11_239 (cC_H_refusalAsWidths hF hg30) recC_5 rfl rfl (Nat.le_of_ble_eq_true rfl) hl.1 (hR_of (by omega) (by decide)) ⟨Nat.le_refl _, Nat.le_refl _⟩ dX11_best_40) (fun H locs hJ => ?_)
        refine lv_istore (lv' := [(4, .int r29), (0, .ref (q 0)), (1, .int a1), (2, .int a2), (3, .int a3)]) hx hb dX11_best_43 hl (by decide) rfl (fun ls hl => ?_)
        refine lv_iload hx hb dX11_best_45 (lv_at hl 0 rfl) ?_
        refine lv_if_eq (tgt := 53) hx hb dX11_best_47 (by decide) (fun c31 => ?_) (fun c31 => ?_)
        · have hf := ite_t hf c31
          refine lv_aload_n hx hb dX11_best_53 rfl (lv_at hl 1 rfl) ?_
          refine gC_0_4 C hJ fl_RX11_40 dX11_best_54 ?_
          refine lv_iload_n hx hb dX11_best_57 rfl (lv_at hl 2 rfl) ?_
          refine lv_iconst (v := 0) hx hb dX11_best_58 (by decide) ?_
          obtain ⟨σ32, r33, hg34, hf⟩ := cal_some hf
          refine backI hsb hJ (runV (As := [.int a1, .int (0 : Int32)]) (rest := []) C hJ lk_RX11_244 (cC_H_itemOf hF hg34) recC_5 rfl rfl (Nat.le_of_ble_eq_true rfl) hl.1 (hR_of (by omega) (by decide)) ⟨Nat.le_refl _, Nat.le_refl _⟩ dX11_best_59) (fun H locs hJ => ?_)
          refine lv_istore (lv' := [(5, .int r33), (4, .int r29), (0, .ref (q 0)), (1, .int a1), (2, .int a2), (3, .int a3)]) hx hb dX11_best_62 hl (by decide) rfl (fun ls hl => ?_)
          refine lv_iconst (v := 0) hx hb dX11_best_64 (by decide) ?_
          refine lv_istore (lv' := [(6, .int (0 : Int32)), (5, .int r33), (4, .int r29), (0, .ref (q 0)), (1, .int a1), (2, .int a2), (3, .int a3)]) hx hb dX11_best_65 hl (by decide) rfl (fun ls hl => ?_)
          refine lv_iconst (v := 0) hx hb dX11_best_67 (by decide) ?_
          refine lv_istore (lv' := [(7, .int (0 : Int32)), (6, .int (0 : Int32)), (5, .int r33), (4, .int r29), (0, .ref (q 0)), (1, .int a1), (2, .int a2), (3, .int a3)]) hx hb dX11_best_68 hl (by decide) rfl (fun ls hl => ?_)
          exact l70 N σ32 a1 a2 a3 r33 (0 : Int32) (0 : Int32) _ _ _ hf hJ (lv_sub hl [4, 5, 6, 7, 2, 1, 0] rfl)
        · have hf := ite_f hf c31
          refine lv_iload hx hb dX11_best_50 (lv_at hl 0 rfl) ?_
          exact ret_I hret hJ hf rfl dX11_best_52
      · have hf := ite_t hf c27
        refine lv_bipush (v := -2) hx hb dX11_best_32 (by decide) ?_
        exact ret_I hret hJ hf rfl dX11_best_34
set_option maxHeartbeats 4000000 in
set_option maxRecDepth 100000 in
theorem cC_L_add {l : Launch} {D : va_G} {cA cB : ClassId} {q : Nat → Nat} {x : Nat → Nat} {N : Nat} {σ σ' : St} {r : Int32} {a1 : Int32} {a2 : Int32} {a3 : Int32} (hF : Fr (wC q cA cB) (aC q) (eC q x)) (hf : fC_L_add N σ a1 a2 a3 = some (σ', r)) : MI l yX4_add cX4_add 4 .int 1 D (tyC cA cB) (wC q cA cB) (aC q) (eC q x) [.ref (q 3), .int a1, .int a2, .int a3] σ σ' r := by
  refine MI_of (by decide) hF (Nat.le_of_ble_eq_true rfl) ?_
  intro p e s m args below meth c Q C hret hJ ls hl
  obtain ⟨hx, hb, hml, hown, hts, hK, hE, -⟩ := id C
  have hsb : ∀ z, (aC q) z → (aC q) z := fun _ h => h
  have hl : lv_has ls 4 [(0, .ref (q 3)), (1, .int a1), (2, .int a2), (3, .int a3)] := hl
  unfold fC_L_add at hf
  refine lv_aload_n hx hb dX4_add_0 rfl (lv_at hl 0 rfl) ?_
  refine gC_3_4 C hJ fl_RX4_33 dX4_add_1 ?_
  refine lv_bipush (v := 12) hx hb dX4_add_4 (by decide) ?_
  refine lv_icmp_lt (tgt := 12) hx hb dX4_add_6 (by decide) (fun c1 => ?_) (fun c1 => ?_)
  · have hf := ite_t hf c1
    refine lv_aload_n hx hb dX4_add_12 rfl (lv_at hl 0 rfl) ?_
    refine gC_3_0 C hJ fl_RX4_9 dX4_add_13 ?_
    refine lv_aload_n hx hb dX4_add_16 rfl (lv_at hl 0 rfl) ?_
    refine gC_3_4 C hJ fl_RX4_33 dX4_add_17 ?_
    refine lv_iload_n hx hb dX4_add_20 rfl (lv_at hl 1 rfl) ?_
    refine lv_bipush (v := 10) hx hb dX4_add_21 (by decide) ?_
    refine lv_idiv hx hb dX4_add_23 (by decide) ?_
    obtain ⟨h2, hf⟩ := gi_some hf
    refine sC_15 C hJ h2 dX4_add_24 (fun σ3 H locs hs hJ => ?_)
    have hf := bnd_at hf hs
    refine lv_aload_n hx hb dX4_add_25 rfl (lv_at hl 0 rfl) ?_
    refine gC_3_1 C hJ fl_RX4_15 dX4_add_26 ?_
    refine lv_aload_n hx hb dX4_add_29 rfl (lv_at hl 0 rfl) ?_
    refine gC_3_4 C hJ fl_RX4_33 dX4_add_30 ?_
    refine lv_iload_n hx hb dX4_add_33 rfl (lv_at hl 1 rfl) ?_
    refine lv_bipush (v := 10) hx hb dX4_add_34 (by decide) ?_
    refine lv_irem hx hb dX4_add_36 (by decide) ?_
    obtain ⟨h4, hf⟩ := gi_some hf
    refine sC_16 C hJ h4 dX4_add_37 (fun σ5 H locs hs hJ => ?_)
    have hf := bnd_at hf hs
    refine lv_aload_n hx hb dX4_add_38 rfl (lv_at hl 0 rfl) ?_
    refine gC_3_2 C hJ fl_RX4_18 dX4_add_39 ?_
    refine lv_aload_n hx hb dX4_add_42 rfl (lv_at hl 0 rfl) ?_
    refine gC_3_4 C hJ fl_RX4_33 dX4_add_43 ?_
    refine lv_iload_n hx hb dX4_add_46 rfl (lv_at hl 2 rfl) ?_
    obtain ⟨h6, hf⟩ := gi_some hf
    refine sC_17 C hJ h6 dX4_add_47 (fun σ7 H locs hs hJ => ?_)
    have hf := bnd_at hf hs
    refine lv_aload_n hx hb dX4_add_48 rfl (lv_at hl 0 rfl) ?_
    refine gC_3_3 C hJ fl_RX4_21 dX4_add_49 ?_
    refine lv_aload_n hx hb dX4_add_52 rfl (lv_at hl 0 rfl) ?_
    refine gC_3_4 C hJ fl_RX4_33 dX4_add_53 ?_
    refine lv_iload_n hx hb dX4_add_56 rfl (lv_at hl 3 rfl) ?_
    obtain ⟨h8, hf⟩ := gi_some hf
    refine sC_18 C hJ h8 dX4_add_57 (fun σ9 H locs hs hJ => ?_)
    have hf := bnd_at hf hs
    refine lv_aload_n hx hb dX4_add_58 rfl (lv_at hl 0 rfl) ?_
    refine lv_dup hx hb dX4_add_59 rfl ?_
    refine gC_3_4 C hJ fl_RX4_33 dX4_add_60 ?_
    refine lv_iconst (v := 1) hx hb dX4_add_63 (by decide) ?_
    refine lv_iadd hx hb dX4_add_64 ?_
    refine pC_3_4 C hJ fl_RX4_33 dX4_add_65 (fun σ10 H locs hs hJ => ?_)
    have hf := bnd_at hf hs
    refine lv_aload_n hx hb dX4_add_68 rfl (lv_at hl 0 rfl) ?_
    refine gC_3_4 C hJ fl_RX4_33 dX4_add_69 ?_
    refine lv_iconst (v := 1) hx hb dX4_add_72 (by decide) ?_
    refine lv_isub hx hb dX4_add_73 ?_
    exact ret_I hret hJ hf rfl dX4_add_74
  · have hf := ite_f hf c1
    refine lv_bipush (v := -4) hx hb dX4_add_9 (by decide) ?_
    exact ret_I hret hJ hf rfl dX4_add_11
