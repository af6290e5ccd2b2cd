theorem w_nat : Cond.native arraycopyName ∈ TB := TB_mem (List.mem_of_getElem? (i := 993) (by decide +kernel)) rfl
theorem w_stat : Cond.static arraycopyName ∈ TB := TB_mem (List.mem_of_getElem? (i := 992) (by decide +kernel)) rfl
theorem w_mcpy : Cond.methodLink RX11 329 arraycopyName ∈ TB := TB_mem (List.mem_of_getElem? (i := 991) (by decide +kernel)) rfl
/-- the sign at a place of a constant text -/
def nestW : List (String × Nat × MethodName) := [(RX11, 11, yX5_init), (RX5, 11, yX8_init), (RX5, 20, yX1_init), (RX5, 27, yX3_init), (RX5, 34, yX10_init), (RX5, 41, yX0_init), (RX11, 18, yX6_init), (RX6, 11, yX9_init), (RX11, 25, yX4_init), (RX11, 32, yX2_init), (RX11, 39, yX7_init), (RX11, 46, yX8_init), (RX9, 67, yX11_isWithin), (RX8, 28, yX11_isSide), (RX8, 32, yX11_isPlace), (RX8, 35, yX11_isSpeed), (RX1, 25, yX11_isWithin), (RX3, 22, yX11_isWithin), (RX5, 114, yX11_isUnder), (RX5, 88, yX11_footIfNone), (RX7, 29, yX11_isWithin), (RX7, 37, yX11_isWidth), (RX2, 21, yX11_isWithin)]
theorem nl_RX11_11 : (RX11, 11, yX5_init) ∈ nestW := List.mem_of_getElem? (i := 0) rfl
theorem nl_RX5_11 : (RX5, 11, yX8_init) ∈ nestW := List.mem_of_getElem? (i := 1) rfl
theorem nl_RX5_20 : (RX5, 20, yX1_init) ∈ nestW := List.mem_of_getElem? (i := 2) rfl
theorem nl_RX5_27 : (RX5, 27, yX3_init) ∈ nestW := List.mem_of_getElem? (i := 3) rfl
theorem nl_RX5_34 : (RX5, 34, yX10_init) ∈ nestW := List.mem_of_getElem? (i := 4) rfl
theorem nl_RX5_41 : (RX5, 41, yX0_init) ∈ nestW := List.mem_of_getElem? (i := 5) rfl
theorem nl_RX11_18 : (RX11, 18, yX6_init) ∈ nestW := List.mem_of_getElem? (i := 6) rfl
theorem nl_RX6_11 : (RX6, 11, yX9_init) ∈ nestW := List.mem_of_getElem? (i := 7) rfl
theorem nl_RX11_25 : (RX11, 25, yX4_init) ∈ nestW := List.mem_of_getElem? (i := 8) rfl
theorem nl_RX11_32 : (RX11, 32, yX2_init) ∈ nestW := List.mem_of_getElem? (i := 9) rfl
theorem nl_RX11_39 : (RX11, 39, yX7_init) ∈ nestW := List.mem_of_getElem? (i := 10) rfl
theorem nl_RX11_46 : (RX11, 46, yX8_init) ∈ nestW := List.mem_of_getElem? (i := 11) rfl
theorem nl_RX9_67 : (RX9, 67, yX11_isWithin) ∈ nestW := List.mem_of_getElem? (i := 12) rfl
theorem nl_RX8_28 : (RX8, 28, yX11_isSide) ∈ nestW := List.mem_of_getElem? (i := 13) rfl
theorem nl_RX8_32 : (RX8, 32, yX11_isPlace) ∈ nestW := List.mem_of_getElem? (i := 14) rfl
theorem nl_RX8_35 : (RX8, 35, yX11_isSpeed) ∈ nestW := List.mem_of_getElem? (i := 15) rfl
theorem nl_RX1_25 : (RX1, 25, yX11_isWithin) ∈ nestW := List.mem_of_getElem? (i := 16) rfl
theorem nl_RX3_22 : (RX3, 22, yX11_isWithin) ∈ nestW := List.mem_of_getElem? (i := 17) rfl
theorem nl_RX5_114 : (RX5, 114, yX11_isUnder) ∈ nestW := List.mem_of_getElem? (i := 18) rfl
theorem nl_RX5_88 : (RX5, 88, yX11_footIfNone) ∈ nestW := List.mem_of_getElem? (i := 19) rfl
theorem nl_RX7_29 : (RX7, 29, yX11_isWithin) ∈ nestW := List.mem_of_getElem? (i := 20) rfl
theorem nl_RX7_37 : (RX7, 37, yX11_isWidth) ∈ nestW := List.mem_of_getElem? (i := 21) rfl
theorem nl_RX2_21 : (RX2, 21, yX11_isWithin) ∈ nestW := List.mem_of_getElem? (i := 22) rfl
/-- what stays of the machine beside a region: nest mates' links, the kinds' row, the constant texts -/
def eR (A : Nat → Prop) (x : Nat → Nat) (U : State) : Prop := (∀ t ∈ nestW, va_Nw (.methodLinkNest t.1 t.2.1 t.2.2 "ArmpitLine") U) ∧ va_Z "ArmpitLine" "KIND_ABOVE" "[I" (.ref (x 0)) A U U.heap ∧ va_T .int (x 0) 6 (fun j => .int (kab j)) A U U.heap ∧ vk_R "ArmpitLine" 51 "count not part = 0 ; near width ; play 1 ;" (x 1) U ∧ vk_R "ArmpitLine$Tape" 59 "part  off   speed team  tick  width count near  play  or    and   not   " (x 2) U ∧ vk_S 2 lenS bytS (fun i => x (1 + i)) (fun i => x (3 + i)) A U U.heap ∧ va_Z "java/lang/String" "COMPACT_STRINGS" "Z" (.int 1) A U U.heap ∧ va_Zq "jdk/internal/util/Preconditions" "SIOOBE_FORMATTER" "Ljava/util/function/BiFunction;" A U U.heap
abbrev eC (q x : Nat → Nat) : State → Prop := eR (aC q) x
theorem eR_kept {A : Nat → Prop} {x : Nat → Nat} {s : State} {U : State} (h : eR A x s) (hS : ∀ a : Nat, a < s.heap.size → ¬ A a → U.heap[a]? = s.heap[a]?) (hW : s.WarmedH U.vm) : eR A x U := by
  obtain ⟨h1, h2, h3, h4, h5, h6, h7, h8⟩ := h
  have hv := hW.alike
  exact ⟨fun t ht => va_Nw.warmM hW (h1 t ht), va_Z.moved hv (h2.kept hS), va_T.moved hv (h3.kept hS), h4.warm hW, h5.warm hW, vk_S.moved hv (h6.kept hS), va_Z.moved hv (h7.kept hS), va_Zq.moved hv (h8.kept hS)⟩
theorem eR_narrow {A B : Nat → Prop} {x : Nat → Nat} {U : State} (h : eR A x U) (hAB : ∀ z, B z → A z) : eR B x U := by
  obtain ⟨h1, h2, h3, h4, h5, h6, h7, h8⟩ := h
  exact ⟨h1, h2.narrow hAB, h3.narrow hAB, h4, h5, h6.narrow hAB, h7.narrow hAB, h8.narrow hAB⟩
theorem eR_call {A : Nat → Prop} {x : Nat → Nat} {U : State} {g : JFrame} {mk : MethodId} {a : Array Value} (h : eR A x U) : eR A x (U.calling g mk a) := by
  obtain ⟨h1, h2, h3, h4, h5, h6, h7, h8⟩ := h
  have hv : U.vm.Alike (U.calling g mk a).vm := Vm.Alike.refl U.vm
  exact ⟨fun t ht => va_Nw.same rfl rfl (h1 t ht), va_Z.moved (U := U.calling g mk a) hv h2, va_T.moved (U := U.calling g mk a) hv h3, vk_R.same rfl h4, vk_R.same rfl h5, vk_S.moved (U := U.calling g mk a) hv h6, va_Z.moved (U := U.calling g mk a) hv h7, va_Zq.moved (U := U.calling g mk a) hv h8⟩
/-- the addresses are apart -/
abbrev qDM (q : Nat → Nat) : Prop := ∀ i j, i < 34 → j < 34 → q i = q j → i = j
theorem wM_adr (q : Nat → Nat) (cA cB : ClassId) (σ : St) : (wM q cA cB σ).map (fun c => c.1) = (List.range 34).map q := by rfl
theorem wM_D {q : Nat → Nat} {cA cB : ClassId} (h : qDM q) (σ : St) : va_D (aM q) (wM q cA cB σ) := by
  have key : ∀ (k : Nat) (c : Nat × va_E), (wM q cA cB σ)[k]? = some c → k < 34 ∧ c.1 = q k := by
    intro k c hk
    have h1 : ((wM q cA cB σ).map (fun c => c.1))[k]? = some c.1 := by rw [List.getElem?_map, hk]; rfl
    rw [wM_adr, List.getElem?_map] at h1
    by_cases hl : k < 34
    · rw [List.getElem?_range hl] at h1
      exact ⟨hl, (Option.some.inj h1).symm⟩
    · rw [List.getElem?_eq_none (by simp; omega)] at h1
      cases h1
  refine ⟨fun i j a b ha hb hab => ?_, fun k c hk => ?_⟩
  · obtain ⟨h1, h2⟩ := key i a ha
    obtain ⟨h3, h4⟩ := key j b hb
    exact h i j h1 h3 (by rw [← h2, ← h4]; exact hab)
  · obtain ⟨h1, h2⟩ := key k c hk
    exact ⟨k, h1, h2⟩
/-- the addresses are apart -/
abbrev qDC (q : Nat → Nat) : Prop := ∀ i j, i < 57 → j < 57 → q i = q j → i = j
theorem wC_adr (q : Nat → Nat) (cA cB : ClassId) (σ : St) : (wC q cA cB σ).map (fun c => c.1) = (List.range 57).map q := by rfl
theorem wC_D {q : Nat → Nat} {cA cB : ClassId} (h : qDC q) (σ : St) : va_D (aC q) (wC q cA cB σ) := by
  have key : ∀ (k : Nat) (c : Nat × va_E), (wC q cA cB σ)[k]? = some c → k < 57 ∧ c.1 = q k := by
    intro k c hk
    have h1 : ((wC q cA cB σ).map (fun c => c.1))[k]? = some c.1 := by rw [List.getElem?_map, hk]; rfl
    rw [wC_adr, List.getElem?_map] at h1
    by_cases hl : k < 57
    · rw [List.getElem?_range hl] at h1
      exact ⟨hl, (Option.some.inj h1).symm⟩
    · rw [List.getElem?_eq_none (by simp; omega)] at h1
      cases h1
  refine ⟨fun i j a b ha hb hab => ?_, fun k c hk => ?_⟩
  · obtain ⟨h1, h2⟩ := key i a ha
    obtain ⟨h3, h4⟩ := key j b hb
    exact h i j h1 h3 (by rw [← h2, ← h4]; exact hab)
  · obtain ⟨h1, h2⟩ := key k c hk
    exact ⟨k, h1, h2⟩
theorem frC {q x : Nat → Nat} {cA cB : ClassId} (h : qDC q) : Fr (wC q cA cB) (aC q) (eC q x) := ⟨wC_D h, fun s H locs U hE hS hU hW => eR_kept hE (by rw [hU]; exact hS.2.1) hW, fun U g mk a hE => eR_call hE⟩
theorem frM {q : Nat → Nat} {cA cB : ClassId} (h : qDM q) : Fr (wM q cA cB) (aM q) (fun _ => True) := ⟨wM_D h, fun s H locs U hE hS hU hW => trivial, fun U g mk a hE => trivial⟩
/-! a call whose receiver is no cell of the world -/
section ROWS3
variable {p : Program} {l : Launch} {e : Env} {R : Room} {s : State} {m : MethodId} {args : Array Value} {below : List Frame} {meth : Method} {c : Code} {H : Heap} {locs : List Loc} {cells slots : Nat} {Q : State → Prop}
variable {cc : ByteArray} {nL pc : Nat} {own : String} {D : va_G} {tys : List (ClassId × FieldType)} {wf : St → va_W} {A : Nat → Prop} {E : State → Prop} {ls : Array Slot} {rest st0 : List Value} {σ σ1 : St}
variable {idx n maxL h' b : Nat} {Cn : String} {y : MethodName} {bytes : ByteArray} {ret : Option FieldType} {ty : FieldType} {As av : List Value}
theorem runW {A' : Nat → Prop} {Qc : Array Value → State → Outcome → State → Prop} (C : CX p s m args c cc nL own D tys wf A E) (hJ : J D wf A s σ H locs) (lk : LkV own idx Cn y bytes maxL ret n) (hM : Met l y (.code y bytes maxL ret :: TB) (rmH h') (va_Pc (.ref b :: As) (inv D tys wf E σ)) Qc 0 0 A') (hr : ∃ cellB : Cell, H[b]? = some cellB ∧ cellB.vm.isStatics = false ∧ s.vm.findClass Cn = some cellB.cls) (hst : st0 = As.reverse ++ .ref b :: rest) (hn : As.length = n) (hrm : (rest.map fun v => v.category).sum ≤ 8) (hls : ls.size = nL) (hR : h' + 1 ≤ R.frames ∧ 8 + (maxL + 11) + 40 * h' ≤ R.locals) (hcs : cells ≤ R.cells ∧ slots ≤ R.slots) (hdg : decode cc pc = .ok (.invokevirtual idx, 3)) :
    va_Run p l e R s m args below meth c H locs cells slots 0 0 (F0 m pc ls st0) rest (Qc (Value.ref b :: As).toArray) A' := by
  have C0 := C
  obtain ⟨hx, hb, hml, hown, hts, hK, hE, hF⟩ := C
  obtain ⟨k1, k2, k3, k4⟩ := lk
  exact va_runV (b := b) (As := As) (rest := rest) ⟨hx, hb, hml, hown, hts⟩ hM ⟨lk_B C0 k1 k2 hR, hts _ k3, hts _ k4⟩ ⟨inv_blind hF, hr, fun U hU hW => ⟨rfl, inv_at C0 hJ hU hW⟩⟩ rfl hn hls hst (lv_room (rest := st0) hrm) hdg hcs
end ROWS3
/-! the JDK's own: texts -/
section STRS
variable {l : Launch} {D : va_G} {cA cB : ClassId} {q x : Nat → Nat} {σ : St} {i : Nat} {k : Int32}
abbrev hdM (l : Launch) (y : MethodName) (cc : ByteArray) (nL : Nat) (ty : FieldType) (h : Nat) (D : va_G) (cA cB : ClassId) (q x : Nat → Nat) (av : List Value) (σ : St) (r : Int32) : Prop := MI l y cc nL ty h D (tyC cA cB) (wC q cA cB) (aC q) (eC q x) av σ σ r
theorem cS_coder (hF : Fr (wC q cA cB) (aC q) (eC q x)) (hi : i < 2) : hdM l yJ0_coder_7d493 cJ0_coder_7d493 1 .byte 1 D cA cB q x [.ref (x (1 + i))] σ 0 := by
  refine MI_of (by decide) hF (Nat.le_of_ble_eq_true rfl) ?_
  intro p e s m args below meth c Q C hret hJ ls hl
  obtain ⟨hx, hb, hml, hown, hts, hK, hE, -⟩ := id C
  obtain ⟨e1, e2, e3, e4, e5, e6, e7, e8⟩ := hE
  have hl : lv_has ls 1 [(0, .ref (x (1 + i)))] := hl
  refine va_gets hx hb e7 hJ.2 hown (hts _ fl_RJ0_38) (fun _ h => h) dJ0_coder_7d493_0 ?_
  refine lv_if_eq (tgt := 13) hx hb dJ0_coder_7d493_3 (by decide) (fun c1 => absurd c1 (by decide)) (fun c1 => ?_)
  refine lv_aload_n hx hb dJ0_coder_7d493_6 rfl (lv_at hl 0 rfl) ?_
  refine vk_getf hx hb (e6.1 i hi).2.1 hJ.2 hown (hts _ fl_RJ0_15) (fun _ h => h) dJ0_coder_7d493_7 ?_
  refine lv_goto (tgt := 14) hx hb dJ0_coder_7d493_10 (by decide) ?_
  exact ret_I hret hJ rfl (by decide) dJ0_coder_7d493_14
theorem cS_isLatin1 (hF : Fr (wC q cA cB) (aC q) (eC q x)) (hi : i < 2) : hdM l yJ0_isLatin1_aae02 cJ0_isLatin1_aae02 1 .boolean 1 D cA cB q x [.ref (x (1 + i))] σ 1 := by
  refine MI_of (by decide) hF (Nat.le_of_ble_eq_true rfl) ?_
  intro p e s m args below meth c Q C hret hJ ls hl
  obtain ⟨hx, hb, hml, hown, hts, hK, hE, -⟩ := id C
  obtain ⟨e1, e2, e3, e4, e5, e6, e7, e8⟩ := hE
  have hl : lv_has ls 1 [(0, .ref (x (1 + i)))] := hl
  refine va_gets hx hb e7 hJ.2 hown (hts _ fl_RJ0_38) (fun _ h => h) dJ0_isLatin1_aae02_0 ?_
  refine lv_if_eq (tgt := 17) hx hb dJ0_isLatin1_aae02_3 (by decide) (fun c1 => absurd c1 (by decide)) (fun c1 => ?_)
  refine lv_aload_n hx hb dJ0_isLatin1_aae02_6 rfl (lv_at hl 0 rfl) ?_
  refine vk_getf hx hb (e6.1 i hi).2.1 hJ.2 hown (hts _ fl_RJ0_15) (fun _ h => h) dJ0_isLatin1_aae02_7 ?_
  refine lv_if_ne (tgt := 17) hx hb dJ0_isLatin1_aae02_10 (by decide) (fun c1 => absurd rfl c1) (fun c1 => ?_)
  refine lv_iconst (v := 1) hx hb dJ0_isLatin1_aae02_13 (by decide) ?_
  refine lv_goto (tgt := 18) hx hb dJ0_isLatin1_aae02_14 (by decide) ?_
  exact ret_I hret hJ rfl (by decide) dJ0_isLatin1_aae02_18
theorem cS_length (hF : Fr (wC q cA cB) (aC q) (eC q x)) : hdM l yJ0_length_8abf5 cJ0_length_8abf5 1 .int 2 D cA cB q x [.ref (x 1)] σ 42 := by
  refine MI_of (by decide) hF (Nat.le_of_ble_eq_true rfl) ?_
  intro p e s m args below meth c Q C hret hJ ls hl
  obtain ⟨hx, hb, hml, hown, hts, hK, hE, -⟩ := id C
  obtain ⟨e1, e2, e3, e4, e5, e6, e7, e8⟩ := hE
  have hl : lv_has ls 1 [(0, .ref (x 1))] := hl
  refine lv_aload_n hx hb dJ0_length_8abf5_0 rfl (lv_at hl 0 rfl) ?_
  refine vk_getf hx hb (e6.1 0 (by decide)).2.2.1 hJ.2 hown (hts _ fl_RJ0_9) (fun _ h => h) dJ0_length_8abf5_1 ?_
  refine va_tlen (v := 42) hx hb (e6.1 0 (by decide)).2.2.2 hJ.2 (by decide) dJ0_length_8abf5_4 ?_
  refine lv_aload_n hx hb dJ0_length_8abf5_5 rfl (lv_at hl 0 rfl) ?_
  refine backI (fun _ h => h) hJ (runW (As := []) (rest := [.int 42]) C hJ lk_RJ0_335 (cS_coder (i := 0) hF (by decide)) (vk_recv (i := 0) e6 (by decide) hJ.2) rfl rfl (Nat.le_of_ble_eq_true rfl) hl.1 (hR_of (by omega) (by decide)) ⟨Nat.le_refl _, Nat.le_refl _⟩ dJ0_length_8abf5_6) (fun H locs hJ => ?_)
  refine lv_ishr hx hb dJ0_length_8abf5_9 ?_
  exact ret_I hret hJ (congrArg (fun z => some (σ, z)) (by decide)) rfl dJ0_length_8abf5_10
theorem cS_pre {v : Value} (hF : Fr (wC q cA cB) (aC q) (eC q x)) (hv : v = .null ∨ ∃ t, v = .ref t) {n : Int32} (h1 : ¬ k < 0) (h2 : k < n) : hdM l yJ3_checkIndex_8e157 cJ3_checkIndex_8e157 3 .int 1 D cA cB q x [.int k, .int n, v] σ k := by
  have hav : (lg_sl [.int k, .int n, v]).length ≤ 3 := by
    rcases hv with rfl | ⟨t, rfl⟩ <;> exact Nat.le_of_ble_eq_true rfl
  refine MI_of (by decide) hF hav ?_
  intro p e s m args below meth c Q C hret hJ ls hl
  obtain ⟨hx, hb, hml, hown, hts, hK, hE, -⟩ := id C
  have hl : lv_has ls 3 [(0, .int k), (1, .int n)] := by
    rcases hv with rfl | ⟨t, rfl⟩
    · exact lv_sub hl [0, 1] rfl
    · exact lv_sub hl [0, 1] rfl
  refine lv_iload_n hx hb dJ3_checkIndex_8e157_0 rfl (lv_at hl 0 rfl) ?_
  refine lv_if_lt (tgt := 9) hx hb dJ3_checkIndex_8e157_1 (by decide) (fun c1 => absurd c1 h1) (fun c1 => ?_)
  refine lv_iload_n hx hb dJ3_checkIndex_8e157_4 rfl (lv_at hl 0 rfl) ?_
  refine lv_iload_n hx hb dJ3_checkIndex_8e157_5 rfl (lv_at hl 1 rfl) ?_
  refine lv_icmp_lt (tgt := 16) hx hb dJ3_checkIndex_8e157_6 (by decide) (fun c1 => ?_) (fun c1 => absurd h2 c1)
  refine lv_iload_n hx hb dJ3_checkIndex_8e157_16 rfl (lv_at hl 0 rfl) ?_
  exact ret_I hret hJ rfl rfl dJ3_checkIndex_8e157_17
theorem cS_check (hF : Fr (wC q cA cB) (aC q) (eC q x)) {n : Int32} (h1 : ¬ k < 0) (h2 : k < n) : MV l yJ0_checkIndex_df160 cJ0_checkIndex_df160 2 2 D (tyC cA cB) (wC q cA cB) (aC q) (eC q x) [.int k, .int n] σ σ := by
  refine MV_of (by decide) hF (Nat.le_of_ble_eq_true rfl) ?_
  intro p e s m args below meth c Q C hret hJ ls hl
  obtain ⟨hx, hb, hml, hown, hts, hK, hE, -⟩ := id C
  obtain ⟨e1, e2, e3, e4, e5, e6, e7, e8⟩ := hE
  have hl : lv_has ls 2 [(0, .int k), (1, .int n)] := hl
  obtain ⟨v, hv, hz⟩ : ∃ v : Value, (v = .null ∨ ∃ t, v = .ref t) ∧ va_Z "jdk/internal/util/Preconditions" "SIOOBE_FORMATTER" "Ljava/util/function/BiFunction;" v (aC q) s s.heap := by
    rcases e8 with h | ⟨t, h⟩
    · exact ⟨_, Or.inl rfl, h⟩
    · exact ⟨_, Or.inr ⟨t, rfl⟩, h⟩
  refine lv_iload_n hx hb dJ0_checkIndex_df160_0 rfl (lv_at hl 0 rfl) ?_
  refine lv_iload_n hx hb dJ0_checkIndex_df160_1 rfl (lv_at hl 1 rfl) ?_
  refine va_gets hx hb hz hJ.2 hown (hts _ fl_RJ0_1053) (fun _ h => h) dJ0_checkIndex_df160_2 ?_
  refine backI (fun _ h => h) hJ (runS (As := [.int k, .int n, v]) (rest := []) C hJ lk_RJ0_1059 (cS_pre hF hv h1 h2) rfl rfl (Nat.le_of_ble_eq_true rfl) hl.1 (hR_of (by omega) (by decide)) ⟨Nat.le_refl _, Nat.le_refl _⟩ dJ0_checkIndex_df160_5) (fun H locs hJ => ?_)
  refine lv_pop hx hb dJ0_checkIndex_df160_8 rfl ?_
  exact ret_V hret hJ rfl dJ0_checkIndex_df160_9
theorem sch_nar : ∀ i, i < 2 → ∀ j, j < lenS.getD i 0 → narrow .char (.int (sch i j)) = .int (sch i j) := by decide +kernel
theorem vp_in_lt {k : Int32} {n : Nat} (hn : n < 1000) (h : vp_in k n) : ¬ k < 0 ∧ k < Int32.ofNat n := by
  have h1 : ¬ k < 0 := fun z => h (Or.inl z)
  have h2 : k.toNatClampNeg < n := Nat.not_le.mp fun z => h (Or.inr z)
  refine ⟨h1, ?_⟩
  have h3 : k.toNatClampNeg = k.toInt.toNat := rfl
  have h4 : 0 ≤ k.toInt := by
    have := Int32.le_iff_toInt_le.mp (Int32.not_lt.mp h1)
    exact this
  rw [Int32.lt_iff_toInt_lt, Int32.toInt_ofNat_of_lt (by omega)]
  omega
theorem cS_lat (hF : Fr (wC q cA cB) (aC q) (eC q x)) (hi : i < 2) (hk : vp_in k (lenS.getD i 0)) : hdM l yJ1_charAt_3b067 cJ1_charAt_3b067 2 .char 3 D cA cB q x [.ref (x (3 + i)), .int k] σ (sch i k.toNatClampNeg) := by
  have hn : lenS.getD i 0 < 1000 := by
    rcases (show i = 0 ∨ i = 1 by omega) with rfl | rfl <;> decide
  obtain ⟨g1, g2⟩ := vp_in_lt hn hk
  refine MI_of (by decide) hF (Nat.le_of_ble_eq_true rfl) ?_
  intro p e s m args below meth c Q C hret hJ ls hl
  obtain ⟨hx, hb, hml, hown, hts, hK, hE, -⟩ := id C
  obtain ⟨e1, e2, e3, e4, e5, e6, e7, e8⟩ := hE
  have hl : lv_has ls 2 [(0, .ref (x (3 + i))), (1, .int k)] := hl
  refine lv_iload_n hx hb dJ1_charAt_3b067_0 rfl (lv_at hl 1 rfl) ?_
  refine lv_aload_n hx hb dJ1_charAt_3b067_1 rfl (lv_at hl 0 rfl) ?_
  refine va_tlen hx hb (e6.1 i hi).2.2.2 hJ.2 rfl dJ1_charAt_3b067_2 ?_
  refine backV (fun _ h => h) hJ (runS (As := [.int k, .int (Int32.ofNat (lenS.getD i 0))]) (rest := []) C hJ lk_RJ1_9 (cS_check hF g1 g2) rfl rfl (Nat.le_of_ble_eq_true rfl) hl.1 (hR_of (by omega) (by decide)) ⟨Nat.le_refl _, Nat.le_refl _⟩ dJ1_charAt_3b067_3) (fun H locs hJ => ?_)
  refine lv_aload_n hx hb dJ1_charAt_3b067_6 rfl (lv_at hl 0 rfl) ?_
  refine lv_iload_n hx hb dJ1_charAt_3b067_7 rfl (lv_at hl 1 rfl) ?_
  refine va_tb hx hb (e6.1 i hi).2.2.2 hJ.2 hk rfl dJ1_charAt_3b067_8 ?_
  refine lv_sipush (v := 255) hx hb dJ1_charAt_3b067_9 (by decide) ?_
  refine lv_iand hx hb dJ1_charAt_3b067_12 ?_
  refine lv_i2c hx hb dJ1_charAt_3b067_13 rfl ?_
  have hlt : k.toNatClampNeg < lenS.getD i 0 := Nat.not_le.mp fun z => hk (Or.inr z)
  exact ret_I hret hJ rfl (sch_nar i hi _ hlt) dJ1_charAt_3b067_14
theorem cS_charAt (hF : Fr (wC q cA cB) (aC q) (eC q x)) (hi : i < 2) (hk : vp_in k (lenS.getD i 0)) : hdM l yJ0_charAt_5068e cJ0_charAt_5068e 2 .char 4 D cA cB q x [.ref (x (1 + i)), .int k] σ (sch i k.toNatClampNeg) := by
  refine MI_of (by decide) hF (Nat.le_of_ble_eq_true rfl) ?_
  intro p e s m args below meth c Q C hret hJ ls hl
  obtain ⟨hx, hb, hml, hown, hts, hK, hE, -⟩ := id C
  obtain ⟨e1, e2, e3, e4, e5, e6, e7, e8⟩ := hE
  have hl : lv_has ls 2 [(0, .ref (x (1 + i))), (1, .int k)] := hl
  refine lv_aload_n hx hb dJ0_charAt_5068e_0 rfl (lv_at hl 0 rfl) ?_
  refine backI (fun _ h => h) hJ (runW (As := []) (rest := []) C hJ lk_RJ0_492 (cS_isLatin1 hF hi) (vk_recv (i := i) (N := 2) (adK := fun i => x (1 + i)) e6 hi hJ.2) rfl rfl (Nat.le_of_ble_eq_true rfl) hl.1 (hR_of (by omega) (by decide)) ⟨Nat.le_refl _, Nat.le_refl _⟩ dJ0_charAt_5068e_1) (fun H locs hJ => ?_)
  refine lv_if_eq (tgt := 16) hx hb dJ0_charAt_5068e_4 (by decide) (fun c1 => absurd c1 (by decide)) (fun c1 => ?_)
  refine lv_aload_n hx hb dJ0_charAt_5068e_7 rfl (lv_at hl 0 rfl) ?_
  refine vk_getf hx hb (e6.1 i hi).2.2.1 hJ.2 hown (hts _ fl_RJ0_9) (fun _ h => h) dJ0_charAt_5068e_8 ?_
  refine lv_iload_n hx hb dJ0_charAt_5068e_11 rfl (lv_at hl 1 rfl) ?_
  refine backI (fun _ h => h) hJ (runS (As := [.ref (x (3 + i)), .int k]) (rest := []) C hJ lk_RJ0_495 (cS_lat hF hi hk) rfl rfl (Nat.le_of_ble_eq_true rfl) hl.1 (hR_of (by omega) (by decide)) ⟨Nat.le_refl _, Nat.le_refl _⟩ dJ0_charAt_5068e_12) (fun H locs hJ => ?_)
  have hlt : k.toNatClampNeg < lenS.getD i 0 := Nat.not_le.mp fun z => hk (Or.inr z)
  exact ret_I hret hJ rfl (sch_nar i hi _ hlt) dJ0_charAt_5068e_15
end STRS
/-! System.arraycopy within the sheets' row -/
theorem gcp_some {α : Type} {m : Nat} {sp dp n : Int32} {k : Option α} {z : α} (h : gcp m sp dp n k = some z) : cpOk m sp dp n ∧ k = some z := by
  unfold gcp at h
  split at h
  · exact ⟨by assumption, h⟩
  · cases h
section CPY
variable {p : Program} {l : Launch} {e : Env} {h : Nat} {s : State} {m : MethodId} {args : Array Value} {below : List Frame} {meth : Method} {c : Code} {H : Heap} {locs : List Loc} {cells slots : Nat} {Q : State → Prop}
variable {cc : ByteArray} {nL pc index : Nat} {own : String} {D : va_G} {cA cB : ClassId} {q : Nat → Nat} {A : Nat → Prop} {E : State → Prop} {ls : Array Slot} {rest : List Value} {σ : St}
theorem cpyC (C : CX p s m args c cc nL own D (tyC cA cB) (wC q cA cB) A E) (hJ : J D (wC q cA cB) A s σ H locs) (hls : ls.size = nL) (hlink : Cond.methodLink own index arraycopyName ∈ TB) {sp dp n : Int32} (hc : cpOk 160 sp dp n) (hrest : (rest.map fun v => v.category).sum + (nativeFrameWords "java/lang/System" "arraycopy" 5 + 11) ≤ (rmH h).locals) (hh : 1 ≤ (rmH h).frames) (hdg : decode cc pc = .ok (.invokestatic index, 3))
    (kk : ∀ (σ2 : St) (H1 : Heap) (locs1 : List Loc), σ2 = sCp σ 27 sp dp n → J D (wC q cA cB) A s σ2 H1 locs1 → W p l e (rmH h) s m args below meth c H1 locs1 cells slots Q (F0 m (pc + 3) ls rest)) : W p l e (rmH h) s m args below meth c H locs cells slots Q (F0 m pc ls (.int n :: .int dp :: .ref (q 27) :: .int sp :: .ref (q 27) :: rest)) := by
  obtain ⟨hx, hb, hml, hown, hts, hK, hE, hF⟩ := C
  obtain ⟨⟨h1, h2, h3⟩, h4, h5⟩ := hc
  have e1 : sp.toNatClampNeg = sp.toInt.toNat := rfl
  have e2 : dp.toNatClampNeg = dp.toInt.toNat := rfl
  have e3 : n.toNatClampNeg = n.toInt.toNat := rfl
  refine va_copyi (ty := .int) hx hb (by rw [hml, hls]) hown (hts _ hlink) (hts _ w_nat) (hts _ w_stat) (hts _ wi_RJ10) hK hJ.1 (hF.1 σ) hJ.2 27 27 0 0 rfl rfl rfl rfl rfl (nn32 h1) (nn32 h2) (nn32 h3) (by omega) (by omega) (fun _ _ => rfl) hh hrest hdg (fun H1 locs1 hP1 hD1 hS1 => ?_)
  exact kk (sCp σ 27 sp dp n) H1 locs1 rfl ⟨hP1, hS1⟩
end CPY
