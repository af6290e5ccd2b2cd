def R_law : String := "ArmpitLineLaw"
def lw_P (b : Addr) (xs : List Int32) (args : Array Value) (s : State) : Prop := args = #[.ref b] ∧ s.IntsAt b xs ∧ xs.length ≤ 384 ∧ (Jvm.Cond.and given_1 narrow_1).before args s = true
def lw_Q (_ : Array Value) (s : State) (o : Outcome) (t : State) : Prop := o = .returned (some (.int 1)) ∧ Framed s o t [] 600000 7302250
def lw_Z (below : List Frame) (a : Array Value) (s : State) : State → Prop := fun t => ∃ o, t.status = .running ∧ Ended t below o ∧ lw_Q a s o t
/-- the law's own end, with 1 on the stack, nothing written that was there before, its room as the claim has it -/
theorem lw_ret {p : Program} {l : Launch} {e : Env} {s : State} {m : MethodId} {below : List Frame} {meth : Method} {c : Code} {b : Nat} (hx : p.tables.exec = Jvm.exec) (hb : c.code = code) (hr : meth.sig.returnType = ret) (hlocks : meth.locks = false) {pc : Nat} {H : Heap} {ls : Array Slot} (hdg : decode code pc = .ok (.ireturn, 1)) : W p l e room_1 s m #[Value.ref b] below meth c H [] 600000 7302250 (lw_Z below #[Value.ref b] s) (F0 m pc ls [.int 1]) := by
  intro T hT X
  obtain ⟨fs, hret, hrun, hended, hW, hframe⟩ := X.leave (v := some (.int 1)) (hlocks := hlocks) (fun h => by rw [hr] at h; cases h)
  have hmeth' : T.vm.method? m = some meth := X.method'
  refine ⟨T.setFrames fs, ?_, .returned (some (.int 1)), hrun, hended, rfl, ⟨_, rfl⟩, hW, hframe⟩
  jvm_step X.here [X.here.top, hx, hb, hdg, hmeth', hr, ret, narrow_b1]
  (try refine ⟨rfl, ?_⟩); (try refine ⟨rfl, ?_⟩)
  first | (intro acts; rw [hret _ acts rfl rfl rfl]) | rw [hret _ _ rfl rfl rfl]
  exact Steps.refl _
/-- what holds at the law's entry: the machine, the code, the tables' words (any of lw_tbl by 'hts w (by decide +kernel)'), the script of L ints xs at the cell b, what the Statement gives of the start (any of its parts by flat_of_before) -/
def lw_At (p : Program) (s : State) (m : MethodId) (meth : Method) (c : Code) (b L : Nat) (xs : Nat → Int32) : Prop :=
  p.tables.exec = Jvm.exec ∧ c.code = code ∧ meth.sig.returnType = ret ∧ c.maxLocals = 4 ∧ s.vm.findClass R_law = some m.cls ∧ (∀ w ∈ lw_tbl, w.before #[Value.ref b] s = true) ∧ va_X b L xs s s.heap ∧ b < s.heap.size ∧ meth.locks = false ∧ (Jvm.Cond.and given_1 narrow_1).before #[Value.ref b] s = true
/-! the law's own worlds: the class's cells and the reference's, side by side -/
def J2 (D : va_G) (q q' : Nat → Nat) (cA cB : ClassId) (A : Nat → Prop) (s : State) (σ τ : St) (H : Heap) (locs : List Loc) : Prop := va_P D vwCl (wC q cA cB σ) H ∧ va_P D vwCl (wM q' cA cB τ) H ∧ va_S A s.heap H locs
def LX (p : Program) (s : State) (m : MethodId) (args : Array Value) (c : Code) (D : va_G) (cA cB : ClassId) (q q' x : Nat → Nat) (A : Nat → Prop) : Prop :=
  CX p s m args c code 4 RL D (tyC cA cB) (wC q cA cB) A (eC q x) ∧ CX p s m args c code 4 RL D (tyM cA cB) (wM q' cA cB) A (fun _ => True) ∧ (∀ i, i < 57 → ∀ j, j < 34 → q i ≠ q' j) ∧ (∀ z, aC q z → A z) ∧ (∀ z, aM q' z → A z) ∧ qDC q ∧ qDM q'
theorem wM_at {q' : Nat → Nat} {cA cB : ClassId} {τ : St} {k : Nat} {c : Nat × va_E} (h : (wM q' cA cB τ)[k]? = some c) : aM q' c.1 := by
  have h1 : ((wM q' cA cB τ).map (fun c => c.1))[k]? = some c.1 := by rw [List.getElem?_map, h]; rfl
  rw [wM_adr, List.getElem?_map] at h1
  by_cases hl : k < 34
  · rw [List.getElem?_range hl] at h1
    exact ⟨k, hl, (Option.some.inj h1).symm⟩
  · rw [List.getElem?_eq_none (by simp; omega)] at h1
    cases h1
theorem wC_at {q : Nat → Nat} {cA cB : ClassId} {τ : St} {k : Nat} {c : Nat × va_E} (h : (wC q cA cB τ)[k]? = some c) : aC q c.1 := by
  have h1 : ((wC q cA cB τ).map (fun c => c.1))[k]? = some c.1 := by rw [List.getElem?_map, h]; rfl
  rw [wC_adr, List.getElem?_map] at h1
  by_cases hl : k < 57
  · rw [List.getElem?_range hl] at h1
    exact ⟨k, hl, (Option.some.inj h1).symm⟩
  · rw [List.getElem?_eq_none (by simp; omega)] at h1
    cases h1
section LAW1
variable {p : Program} {l : Launch} {e : Env} {R : Room} {s : State} {m : MethodId} {args : Array Value} {below : List Frame} {meth : Method} {c : Code} {H : Heap} {locs : List Loc} {cells slots : Nat} {Q : State → Prop}
variable {pc : Nat} {D : va_G} {cA cB : ClassId} {q q' x : Nat → Nat} {A : Nat → Prop} {ls : Array Slot} {rest st0 : List Value} {σ τ σ1 τ1 : St}
variable {idx n maxL h' : Nat} {y : MethodName} {bytes : ByteArray} {ty : FieldType} {As : List Value}
theorem lw_keepM (X : LX p s m args c D cA cB q q' x A) {H H1 : Heap} (hP : va_P D vwCl (wM q' cA cB τ) H) (hk : ∀ z : Nat, z < H.size → ¬ aC q z → H1[z]? = H[z]?) : va_P D vwCl (wM q' cA cB τ) H1 := by
  refine hP.kept (fun k c hc => hk _ (hP k c hc).lt (fun ha => ?_))
  obtain ⟨i, h1, h2⟩ := ha
  obtain ⟨j, h3, h4⟩ := wM_at hc
  exact X.2.2.1 i h1 j h3 (by rw [← h2, ← h4])
theorem lw_keepC (X : LX p s m args c D cA cB q q' x A) {H H1 : Heap} (hP : va_P D vwCl (wC q cA cB σ) H) (hk : ∀ z : Nat, z < H.size → ¬ aM q' z → H1[z]? = H[z]?) : va_P D vwCl (wC q cA cB σ) H1 := by
  refine hP.kept (fun k c hc => hk _ (hP k c hc).lt (fun ha => ?_))
  obtain ⟨j, h1, h2⟩ := ha
  obtain ⟨i, h3, h4⟩ := wC_at hc
  exact X.2.2.1 i h3 j h1 (by rw [← h2, ← h4])
theorem lwC_i (X : LX p s m args c D cA cB q q' x A) (hJ : J2 D q q' cA cB A s σ τ H locs) {r : Int32} (lk : LkV RL idx RX11 y bytes maxL (some ty) n) (hM : MI l y bytes maxL ty h' D (tyC cA cB) (wC q cA cB) (aC q) (eC q x) (.ref (q 0) :: As) σ σ1 r) (hst : st0 = As.reverse ++ .ref (q 0) :: rest) (hn : As.length = n) (hrm : (rest.map fun v => v.category).sum ≤ 8) (hls : ls.size = 4) (hR : h' + 1 ≤ R.frames ∧ 8 + (maxL + 11) + 40 * h' ≤ R.locals) (hcs : cells ≤ R.cells ∧ slots ≤ R.slots) (hdg : decode code pc = .ok (.invokevirtual idx, 3))
    (kk : ∀ (H1 : Heap) (locs1 : List Loc), J2 D q q' cA cB A s σ1 τ H1 locs1 → W p l e R s m args below meth c H1 locs1 cells slots Q (F0 m (pc + 3) ls (.int r :: rest))) : W p l e R s m args below meth c H locs cells slots Q (F0 m pc ls st0) := by
  obtain ⟨hPC, hPM, hS⟩ := hJ
  have hrun := runV (e := e) (below := below) (meth := meth) (locs := locs) (cells := cells) (slots := slots) (R := R) (rest := rest) X.1 ⟨hPC, hS⟩ lk hM recC_0 hst hn hrm hls hR hcs hdg
  refine va_calli hrun hS (fun z _ h => X.2.2.2.1 z h) X.2.2.2.1 (fun r1 u t H1 locs1 ht hvm hp hB hz hk hS1 => ?_)
  subst hp
  exact kk H1 locs1 ⟨by rw [← ht]; exact hB.1, lw_keepM X hPM hk, hS1⟩
theorem lwC_l (X : LX p s m args c D cA cB q q' x A) (hJ : J2 D q q' cA cB A s σ τ H locs) {r : Int64} (lk : LkV RL idx RX11 y bytes maxL (some ty) n) (hM : ML l y bytes maxL ty h' D (tyC cA cB) (wC q cA cB) (aC q) (eC q x) (.ref (q 0) :: As) σ σ1 r) (hst : st0 = As.reverse ++ .ref (q 0) :: rest) (hn : As.length = n) (hrm : (rest.map fun v => v.category).sum ≤ 8) (hls : ls.size = 4) (hR : h' + 1 ≤ R.frames ∧ 8 + (maxL + 11) + 40 * h' ≤ R.locals) (hcs : cells ≤ R.cells ∧ slots ≤ R.slots) (hdg : decode code pc = .ok (.invokevirtual idx, 3))
    (kk : ∀ (H1 : Heap) (locs1 : List Loc), J2 D q q' cA cB A s σ1 τ H1 locs1 → W p l e R s m args below meth c H1 locs1 cells slots Q (F0 m (pc + 3) ls (.long r :: rest))) : W p l e R s m args below meth c H locs cells slots Q (F0 m pc ls st0) := by
  obtain ⟨hPC, hPM, hS⟩ := hJ
  have hrun := runV (e := e) (below := below) (meth := meth) (locs := locs) (cells := cells) (slots := slots) (R := R) (rest := rest) X.1 ⟨hPC, hS⟩ lk hM recC_0 hst hn hrm hls hR hcs hdg
  refine va_calll hrun hS (fun z _ h => X.2.2.2.1 z h) X.2.2.2.1 (fun r1 u t H1 locs1 ht hvm hp hB hz hk hS1 => ?_)
  subst hp
  exact kk H1 locs1 ⟨by rw [← ht]; exact hB.1, lw_keepM X hPM hk, hS1⟩
theorem lwM_i (X : LX p s m args c D cA cB q q' x A) (hJ : J2 D q q' cA cB A s σ τ H locs) {r : Int32} (lk : LkV RL idx RX12 y bytes maxL (some ty) n) (hM : MI l y bytes maxL ty h' D (tyM cA cB) (wM q' cA cB) (aM q') (fun _ => True) (.ref (q' 0) :: As) τ τ1 r) (hst : st0 = As.reverse ++ .ref (q' 0) :: rest) (hn : As.length = n) (hrm : (rest.map fun v => v.category).sum ≤ 8) (hls : ls.size = 4) (hR : h' + 1 ≤ R.frames ∧ 8 + (maxL + 11) + 40 * h' ≤ R.locals) (hcs : cells ≤ R.cells ∧ slots ≤ R.slots) (hdg : decode code pc = .ok (.invokevirtual idx, 3))
    (kk : ∀ (H1 : Heap) (locs1 : List Loc), J2 D q q' cA cB A s σ τ1 H1 locs1 → W p l e R s m args below meth c H1 locs1 cells slots Q (F0 m (pc + 3) ls (.int r :: rest))) : W p l e R s m args below meth c H locs cells slots Q (F0 m pc ls st0) := by
  obtain ⟨hPC, hPM, hS⟩ := hJ
  have hrun := runV (e := e) (below := below) (meth := meth) (locs := locs) (cells := cells) (slots := slots) (R := R) (rest := rest) X.2.1 ⟨hPM, hS⟩ lk hM recM_0 hst hn hrm hls hR hcs hdg
  refine va_calli hrun hS (fun z _ h => X.2.2.2.2.1 z h) X.2.2.2.2.1 (fun r1 u t H1 locs1 ht hvm hp hB hz hk hS1 => ?_)
  subst hp
  exact kk H1 locs1 ⟨lw_keepC X hPC hk, by rw [← ht]; exact hB.1, hS1⟩
theorem lwM_l (X : LX p s m args c D cA cB q q' x A) (hJ : J2 D q q' cA cB A s σ τ H locs) {r : Int64} (lk : LkV RL idx RX12 y bytes maxL (some ty) n) (hM : ML l y bytes maxL ty h' D (tyM cA cB) (wM q' cA cB) (aM q') (fun _ => True) (.ref (q' 0) :: As) τ τ1 r) (hst : st0 = As.reverse ++ .ref (q' 0) :: rest) (hn : As.length = n) (hrm : (rest.map fun v => v.category).sum ≤ 8) (hls : ls.size = 4) (hR : h' + 1 ≤ R.frames ∧ 8 + (maxL + 11) + 40 * h' ≤ R.locals) (hcs : cells ≤ R.cells ∧ slots ≤ R.slots) (hdg : decode code pc = .ok (.invokevirtual idx, 3))
    (kk : ∀ (H1 : Heap) (locs1 : List Loc), J2 D q q' cA cB A s σ τ1 H1 locs1 → W p l e R s m args below meth c H1 locs1 cells slots Q (F0 m (pc + 3) ls (.long r :: rest))) : W p l e R s m args below meth c H locs cells slots Q (F0 m pc ls st0) := by
  obtain ⟨hPC, hPM, hS⟩ := hJ
  have hrun := runV (e := e) (below := below) (meth := meth) (locs := locs) (cells := cells) (slots := slots) (R := R) (rest := rest) X.2.1 ⟨hPM, hS⟩ lk hM recM_0 hst hn hrm hls hR hcs hdg
  refine va_calll hrun hS (fun z _ h => X.2.2.2.2.1 z h) X.2.2.2.2.1 (fun r1 u t H1 locs1 ht hvm hp hB hz hk hS1 => ?_)
  subst hp
  exact kk H1 locs1 ⟨lw_keepC X hPC hk, by rw [← ht]; exact hB.1, hS1⟩
theorem lw_sld (X : LX p s m args c D cA cB q q' x A) (hJ : J2 D q q' cA cB A s σ τ H locs) {b L : Nat} {xs : Nat → Int32} (hX : va_X b L xs s s.heap) (hbl : b < s.heap.size) (hbA : ¬ A b) {i a : Int32} (hin : vp_in i L) (hv : xs i.toNatClampNeg = a) (hdg : decode code pc = .ok (.iaload, 1))
    (kk : W p l e R s m args below meth c H locs cells slots Q (F0 m (pc + 1) ls (.int a :: rest))) : W p l e R s m args below meth c H locs cells slots Q (F0 m pc ls (.int i :: .ref b :: rest)) := by
  subst hv
  exact va_sld X.1.1 X.1.2.1 hX hbl hbA hJ.2.2 hin hdg kk
end LAW1
theorem lw_ix {i : Nat} {L : Nat} {x3 : Int32} (j : Nat) (c : Int32) (hc : c = nI j) (hx : x3 = nI i) (h : i + j < L) (hL : L ≤ 384) : vp_in (x3 + c) L := by
  rw [hx, hc, nI_add]
  exact vp_in_nI h (by omega)
theorem lw_cmp (r : Int64) : lg_cmp r r = 0 := by
  unfold lg_cmp
  simp
theorem lw_end {i L : Nat} (hL : L ≤ 384) (hi : i ≤ L) : nI L - 6 < nI i ↔ L < i + 6 := by
  have h6 : (6 : Int32) = nI 6 := rfl
  rw [Int32.lt_iff_toInt_lt, h6, pk_sub_toInt (by omega) (by omega), nI_toInt (by omega)]
  omega
set_option maxHeartbeats 8000000 in
set_option maxRecDepth 100000 in
theorem law_loop {p : Program} {l : Launch} {e : Env} {s : State} {m : MethodId} {below : List Frame} {meth : Method} {c : Code} {D : va_G} {cA cB : ClassId} {q q' x : Nat → Nat} {A : Nat → Prop} {b L : Nat} {xs : Nat → Int32} (hL : L ≤ 384) (C0 : lw_At p s m meth c b L xs) (X : LX p s m #[Value.ref b] c D cA cB q q' x A) (hAs : ∀ z : Nat, A z → s.heap.size ≤ z) : ∀ (n i : Nat) (x3 : Int32) (σ τ : St) (H : Heap) (locs : List Loc) (ls : Array Slot), i ≤ L → L < i + n → x3 = nI i → Rel σ τ → J2 D q q' cA cB A s σ τ H locs → lv_has ls 4 [(0, .ref b), (1, .ref (q 0)), (2, .ref (q' 0)), (3, .int x3)] → W p l e room_1 s m #[Value.ref b] below meth c H locs 91 4561 (lw_Z below #[Value.ref b] s) (F0 m 18 ls []) := by
  obtain ⟨hx, hb, hr, hml, hown, hts0, hX, hbl, hlocks, hgv⟩ := id C0
  obtain ⟨-, -, -, -, hts, -, -, -⟩ := id X.1
  have hbA : ¬ A b := fun h => absurd (hAs b h) (Nat.not_le.mpr hbl)
  have hFC : Fr (wC q cA cB) (aC q) (eC q x) := frC X.2.2.2.2.2.1
  have hFM : Fr (wM q' cA cB) (aM q') (fun _ => True) := frM X.2.2.2.2.2.2
  intro n
  induction n with
  | zero => intro i x3 σ τ H locs ls h1 h2; omega
  | succ n ih =>
    intro i x3 σ τ H locs ls hi hn hx3 hRel hJ hl
    refine lv_iload_n hx hb dL_law_18 rfl (lv_at hl 3 rfl) ?_
    refine lv_aload_n hx hb dL_law_19 rfl (lv_at hl 0 rfl) ?_
    refine va_slen hx hb hX hbl hbA hJ.2.2 dL_law_20 ?_
    refine lv_bipush (v := 6) hx hb dL_law_21 (by decide) ?_
    refine lv_isub hx hb dL_law_23 ?_
    refine lv_icmp_gt (tgt := 1362) hx hb dL_law_24 (by decide) (fun c1 => ?_) (fun c1 => ?_)
    · refine lv_iconst (v := 1) hx hb dL_law_1362 (by decide) ?_
      refine va_forget (fun z hz => hAs _ (hJ.2.2.2.2 z hz)) ?_
      refine W.widen (k := 600000) (n := 7302250) (Nat.le_of_ble_eq_true rfl) (Nat.le_of_ble_eq_true rfl) ?_
      exact lw_ret hx hb hr hlocks dL_law_1363
    have hlt : i + 6 ≤ L := by
      rw [hx3] at c1
      have := (not_congr (lw_end hL hi)).mp c1
      omega
    have hv0 : vp_in x3 L := by rw [hx3]; exact vp_in_nI (by omega) (by omega)
    have hv1 : vp_in (x3 + (1 : Int32)) L := lw_ix 1 _ rfl hx3 (by omega) hL
    have hv2 : vp_in (x3 + (2 : Int32)) L := lw_ix 2 _ rfl hx3 (by omega) hL
    have hv3 : vp_in (x3 + (3 : Int32)) L := lw_ix 3 _ rfl hx3 (by omega) hL
    have hv4 : vp_in (x3 + (4 : Int32)) L := lw_ix 4 _ rfl hx3 (by omega) hL
    have hv5 : vp_in (x3 + (5 : Int32)) L := lw_ix 5 _ rfl hx3 (by omega) hL
    have next : ∀ (σ τ : St) (H : Heap) (locs : List Loc) (ls : Array Slot), Rel σ τ → J2 D q q' cA cB A s σ τ H locs → lv_has ls 4 [(0, .ref b), (1, .ref (q 0)), (2, .ref (q' 0)), (3, .int x3)] → W p l e room_1 s m #[Value.ref b] below meth c H locs 91 4561 (lw_Z below #[Value.ref b] s) (F0 m 1356 ls []) := by
      intro σ τ H locs ls hRel hJ hl
      obtain ⟨x4, hx4⟩ : ∃ z : Int32, z = x3 + (6 : Int32) := ⟨_, rfl⟩
      refine lv_iinc (v := x4) (lv' := [(3, .int x4), (0, .ref b), (1, .ref (q 0)), (2, .ref (q' 0))]) hx hb dL_law_1356 hl (k := 3) rfl (by rw [hx4]; rfl) (by decide) rfl (fun ls hl => ?_)
      refine lv_goto (tgt := 18) hx hb dL_law_1359 (by decide) ?_
      exact ih (i + 6) x4 σ τ H locs ls (by omega) (by omega) (by rw [hx4, hx3]; exact nI_add i 6) hRel hJ (lv_sub hl [1, 2, 3, 0] rfl)
    refine lv_aload_n hx hb dL_law_27 rfl (lv_at hl 0 rfl) ?_
    refine lv_iload_n hx hb dL_law_28 rfl (lv_at hl 3 rfl) ?_
    refine lw_sld X hJ hX hbl hbA hv0 rfl dL_law_29 ?_
    refine lv_bipush (v := 31) hx hb dL_law_30 (by decide) ?_
    refine lv_iand hx hb dL_law_32 ?_
    refine lv_topi (fun sw hsw => ?_)
    obtain ⟨b1, hb1⟩ : ∃ z : Int32, z = xs (x3 + (1 : Int32)).toNatClampNeg := ⟨_, rfl⟩
    obtain ⟨b2, hb2⟩ : ∃ z : Int32, z = xs (x3 + (2 : Int32)).toNatClampNeg := ⟨_, rfl⟩
    obtain ⟨b3, hb3⟩ : ∃ z : Int32, z = xs (x3 + (3 : Int32)).toNatClampNeg := ⟨_, rfl⟩
    obtain ⟨b4, hb4⟩ : ∃ z : Int32, z = xs (x3 + (4 : Int32)).toNatClampNeg := ⟨_, rfl⟩
    obtain ⟨b5, hb5⟩ : ∃ z : Int32, z = xs (x3 + (5 : Int32)).toNatClampNeg := ⟨_, rfl⟩
    by_cases s0 : sw = (0 : Int32)
    · refine lv_tableIn (off := 143) (tgt := 176) hx hb dL_law_33 (by rw [s0]; decide) (by rw [s0]; decide) (by rw [s0]; rfl) (by decide) ?_
      obtain ⟨σ1, τ1, r, h1, h2, hRel1⟩ := e_man hRel b1 b2 b3
      refine lv_aload_n hx hb dL_law_176 rfl (lv_at hl 1 rfl) ?_
      refine lv_aload_n hx hb dL_law_177 rfl (lv_at hl 0 rfl) ?_
      refine lv_iload_n hx hb dL_law_178 rfl (lv_at hl 3 rfl) ?_
      refine lv_iconst (v := 1) hx hb dL_law_179 (by decide) ?_
      refine lv_iadd hx hb dL_law_180 ?_
      refine lw_sld X hJ hX hbl hbA hv1 hb1.symm dL_law_181 ?_
      refine lv_aload_n hx hb dL_law_182 rfl (lv_at hl 0 rfl) ?_
      refine lv_iload_n hx hb dL_law_183 rfl (lv_at hl 3 rfl) ?_
      refine lv_iconst (v := 2) hx hb dL_law_184 (by decide) ?_
      refine lv_iadd hx hb dL_law_185 ?_
      refine lw_sld X hJ hX hbl hbA hv2 hb2.symm dL_law_186 ?_
      refine lv_aload_n hx hb dL_law_187 rfl (lv_at hl 0 rfl) ?_
      refine lv_iload_n hx hb dL_law_188 rfl (lv_at hl 3 rfl) ?_
      refine lv_iconst (v := 3) hx hb dL_law_189 (by decide) ?_
      refine lv_iadd hx hb dL_law_190 ?_
      refine lw_sld X hJ hX hbl hbA hv3 hb3.symm dL_law_191 ?_
      refine lwC_i X hJ (As := [.int b1, .int b2, .int b3]) (rest := []) lk_RL_13 (cC_man hFC h1) rfl rfl (Nat.le_of_ble_eq_true rfl) hl.1 ⟨Nat.le_of_ble_eq_true rfl, Nat.le_of_ble_eq_true rfl⟩ ⟨Nat.le_of_ble_eq_true rfl, Nat.le_of_ble_eq_true rfl⟩ dL_law_192 (fun H locs hJ => ?_)
      refine lv_aload_n hx hb dL_law_195 rfl (lv_at hl 2 rfl) ?_
      refine lv_aload_n hx hb dL_law_196 rfl (lv_at hl 0 rfl) ?_
      refine lv_iload_n hx hb dL_law_197 rfl (lv_at hl 3 rfl) ?_
      refine lv_iconst (v := 1) hx hb dL_law_198 (by decide) ?_
      refine lv_iadd hx hb dL_law_199 ?_
      refine lw_sld X hJ hX hbl hbA hv1 hb1.symm dL_law_200 ?_
      refine lv_aload_n hx hb dL_law_201 rfl (lv_at hl 0 rfl) ?_
      refine lv_iload_n hx hb dL_law_202 rfl (lv_at hl 3 rfl) ?_
      refine lv_iconst (v := 2) hx hb dL_law_203 (by decide) ?_
      refine lv_iadd hx hb dL_law_204 ?_
      refine lw_sld X hJ hX hbl hbA hv2 hb2.symm dL_law_205 ?_
      refine lv_aload_n hx hb dL_law_206 rfl (lv_at hl 0 rfl) ?_
      refine lv_iload_n hx hb dL_law_207 rfl (lv_at hl 3 rfl) ?_
      refine lv_iconst (v := 3) hx hb dL_law_208 (by decide) ?_
      refine lv_iadd hx hb dL_law_209 ?_
      refine lw_sld X hJ hX hbl hbA hv3 hb3.symm dL_law_210 ?_
      refine lwM_i X hJ (As := [.int b1, .int b2, .int b3]) (rest := [.int r]) lk_RL_17 (cM_man hFM h2) rfl rfl (Nat.le_of_ble_eq_true rfl) hl.1 ⟨Nat.le_of_ble_eq_true rfl, Nat.le_of_ble_eq_true rfl⟩ ⟨Nat.le_of_ble_eq_true rfl, Nat.le_of_ble_eq_true rfl⟩ dL_law_211 (fun H locs hJ => ?_)
      refine lv_icmp_eq (tgt := 1356) hx hb dL_law_214 (by decide) (fun _ => ?_) (fun h => absurd rfl h)
      exact next σ1 τ1 _ _ _ hRel1 hJ hl
    by_cases s1 : sw = (1 : Int32)
    · refine lv_tableIn (off := 186) (tgt := 219) hx hb dL_law_33 (by rw [s1]; decide) (by rw [s1]; decide) (by rw [s1]; rfl) (by decide) ?_
      obtain ⟨σ1, τ1, r, h1, h2, hRel1⟩ := e_part hRel b1 b2 b3
      refine lv_aload_n hx hb dL_law_219 rfl (lv_at hl 1 rfl) ?_
      refine lv_aload_n hx hb dL_law_220 rfl (lv_at hl 0 rfl) ?_
      refine lv_iload_n hx hb dL_law_221 rfl (lv_at hl 3 rfl) ?_
      refine lv_iconst (v := 1) hx hb dL_law_222 (by decide) ?_
      refine lv_iadd hx hb dL_law_223 ?_
      refine lw_sld X hJ hX hbl hbA hv1 hb1.symm dL_law_224 ?_
      refine lv_aload_n hx hb dL_law_225 rfl (lv_at hl 0 rfl) ?_
      refine lv_iload_n hx hb dL_law_226 rfl (lv_at hl 3 rfl) ?_
      refine lv_iconst (v := 2) hx hb dL_law_227 (by decide) ?_
      refine lv_iadd hx hb dL_law_228 ?_
      refine lw_sld X hJ hX hbl hbA hv2 hb2.symm dL_law_229 ?_
      refine lv_aload_n hx hb dL_law_230 rfl (lv_at hl 0 rfl) ?_
      refine lv_iload_n hx hb dL_law_231 rfl (lv_at hl 3 rfl) ?_
      refine lv_iconst (v := 3) hx hb dL_law_232 (by decide) ?_
      refine lv_iadd hx hb dL_law_233 ?_
      refine lw_sld X hJ hX hbl hbA hv3 hb3.symm dL_law_234 ?_
      refine lwC_i X hJ (As := [.int b1, .int b2, .int b3]) (rest := []) lk_RL_18 (cC_part hFC h1) rfl rfl (Nat.le_of_ble_eq_true rfl) hl.1 ⟨Nat.le_of_ble_eq_true rfl, Nat.le_of_ble_eq_true rfl⟩ ⟨Nat.le_of_ble_eq_true rfl, Nat.le_of_ble_eq_true rfl⟩ dL_law_235 (fun H locs hJ => ?_)
      refine lv_aload_n hx hb dL_law_238 rfl (lv_at hl 2 rfl) ?_
      refine lv_aload_n hx hb dL_law_239 rfl (lv_at hl 0 rfl) ?_
      refine lv_iload_n hx hb dL_law_240 rfl (lv_at hl 3 rfl) ?_
      refine lv_iconst (v := 1) hx hb dL_law_241 (by decide) ?_
      refine lv_iadd hx hb dL_law_242 ?_
      refine lw_sld X hJ hX hbl hbA hv1 hb1.symm dL_law_243 ?_
      refine lv_aload_n hx hb dL_law_244 rfl (lv_at hl 0 rfl) ?_
      refine lv_iload_n hx hb dL_law_245 rfl (lv_at hl 3 rfl) ?_
      refine lv_iconst (v := 2) hx hb dL_law_246 (by decide) ?_
      refine lv_iadd hx hb dL_law_247 ?_
      refine lw_sld X hJ hX hbl hbA hv2 hb2.symm dL_law_248 ?_
      refine lv_aload_n hx hb dL_law_249 rfl (lv_at hl 0 rfl) ?_
      refine lv_iload_n hx hb dL_law_250 rfl (lv_at hl 3 rfl) ?_
      refine lv_iconst (v := 3) hx hb dL_law_251 (by decide) ?_
      refine lv_iadd hx hb dL_law_252 ?_
      refine lw_sld X hJ hX hbl hbA hv3 hb3.symm dL_law_253 ?_
      refine lwM_i X hJ (As := [.int b1, .int b2, .int b3]) (rest := [.int r]) lk_RL_21 (cM_part hFM h2) rfl rfl (Nat.le_of_ble_eq_true rfl) hl.1 ⟨Nat.le_of_ble_eq_true rfl, Nat.le_of_ble_eq_true rfl⟩ ⟨Nat.le_of_ble_eq_true rfl, Nat.le_of_ble_eq_true rfl⟩ dL_law_254 (fun H locs hJ => ?_)
      refine lv_icmp_eq (tgt := 1356) hx hb dL_law_257 (by decide) (fun _ => ?_) (fun h => absurd rfl h)
      exact next σ1 τ1 _ _ _ hRel1 hJ hl
    by_cases s2 : sw = (2 : Int32)
    · refine lv_tableIn (off := 229) (tgt := 262) hx hb dL_law_33 (by rw [s2]; decide) (by rw [s2]; decide) (by rw [s2]; rfl) (by decide) ?_
      obtain ⟨σ1, τ1, r, h1, h2, hRel1⟩ := e_move hRel b1 b2 b3
      refine lv_aload_n hx hb dL_law_262 rfl (lv_at hl 1 rfl) ?_
      refine lv_aload_n hx hb dL_law_263 rfl (lv_at hl 0 rfl) ?_
      refine lv_iload_n hx hb dL_law_264 rfl (lv_at hl 3 rfl) ?_
      refine lv_iconst (v := 1) hx hb dL_law_265 (by decide) ?_
      refine lv_iadd hx hb dL_law_266 ?_
      refine lw_sld X hJ hX hbl hbA hv1 hb1.symm dL_law_267 ?_
      refine lv_aload_n hx hb dL_law_268 rfl (lv_at hl 0 rfl) ?_
      refine lv_iload_n hx hb dL_law_269 rfl (lv_at hl 3 rfl) ?_
      refine lv_iconst (v := 2) hx hb dL_law_270 (by decide) ?_
      refine lv_iadd hx hb dL_law_271 ?_
      refine lw_sld X hJ hX hbl hbA hv2 hb2.symm dL_law_272 ?_
      refine lv_aload_n hx hb dL_law_273 rfl (lv_at hl 0 rfl) ?_
      refine lv_iload_n hx hb dL_law_274 rfl (lv_at hl 3 rfl) ?_
      refine lv_iconst (v := 3) hx hb dL_law_275 (by decide) ?_
      refine lv_iadd hx hb dL_law_276 ?_
      refine lw_sld X hJ hX hbl hbA hv3 hb3.symm dL_law_277 ?_
      refine lwC_i X hJ (As := [.int b1, .int b2, .int b3]) (rest := []) lk_RL_22 (cC_move hFC h1) rfl rfl (Nat.le_of_ble_eq_true rfl) hl.1 ⟨Nat.le_of_ble_eq_true rfl, Nat.le_of_ble_eq_true rfl⟩ ⟨Nat.le_of_ble_eq_true rfl, Nat.le_of_ble_eq_true rfl⟩ dL_law_278 (fun H locs hJ => ?_)
      refine lv_aload_n hx hb dL_law_281 rfl (lv_at hl 2 rfl) ?_
      refine lv_aload_n hx hb dL_law_282 rfl (lv_at hl 0 rfl) ?_
      refine lv_iload_n hx hb dL_law_283 rfl (lv_at hl 3 rfl) ?_
      refine lv_iconst (v := 1) hx hb dL_law_284 (by decide) ?_
      refine lv_iadd hx hb dL_law_285 ?_
      refine lw_sld X hJ hX hbl hbA hv1 hb1.symm dL_law_286 ?_
      refine lv_aload_n hx hb dL_law_287 rfl (lv_at hl 0 rfl) ?_
      refine lv_iload_n hx hb dL_law_288 rfl (lv_at hl 3 rfl) ?_
      refine lv_iconst (v := 2) hx hb dL_law_289 (by decide) ?_
      refine lv_iadd hx hb dL_law_290 ?_
      refine lw_sld X hJ hX hbl hbA hv2 hb2.symm dL_law_291 ?_
      refine lv_aload_n hx hb dL_law_292 rfl (lv_at hl 0 rfl) ?_
      refine lv_iload_n hx hb dL_law_293 rfl (lv_at hl 3 rfl) ?_
      refine lv_iconst (v := 3) hx hb dL_law_294 (by decide) ?_
      refine lv_iadd hx hb dL_law_295 ?_
      refine lw_sld X hJ hX hbl hbA hv3 hb3.symm dL_law_296 ?_
      refine lwM_i X hJ (As := [.int b1, .int b2, .int b3]) (rest := [.int r]) lk_RL_25 (cM_move hFM h2) rfl rfl (Nat.le_of_ble_eq_true rfl) hl.1 ⟨Nat.le_of_ble_eq_true rfl, Nat.le_of_ble_eq_true rfl⟩ ⟨Nat.le_of_ble_eq_true rfl, Nat.le_of_ble_eq_true rfl⟩ dL_law_297 (fun H locs hJ => ?_)
      refine lv_icmp_eq (tgt := 1356) hx hb dL_law_300 (by decide) (fun _ => ?_) (fun h => absurd rfl h)
      exact next σ1 τ1 _ _ _ hRel1 hJ hl
    by_cases s3 : sw = (3 : Int32)
    · refine lv_tableIn (off := 272) (tgt := 305) hx hb dL_law_33 (by rw [s3]; decide) (by rw [s3]; decide) (by rw [s3]; rfl) (by decide) ?_
      obtain ⟨σ1, τ1, r, h1, h2, hRel1⟩ := e_front hRel b1 b2 b3
      refine lv_aload_n hx hb dL_law_305 rfl (lv_at hl 1 rfl) ?_
      refine lv_aload_n hx hb dL_law_306 rfl (lv_at hl 0 rfl) ?_
      refine lv_iload_n hx hb dL_law_307 rfl (lv_at hl 3 rfl) ?_
      refine lv_iconst (v := 1) hx hb dL_law_308 (by decide) ?_
      refine lv_iadd hx hb dL_law_309 ?_
      refine lw_sld X hJ hX hbl hbA hv1 hb1.symm dL_law_310 ?_
      refine lv_aload_n hx hb dL_law_311 rfl (lv_at hl 0 rfl) ?_
      refine lv_iload_n hx hb dL_law_312 rfl (lv_at hl 3 rfl) ?_
      refine lv_iconst (v := 2) hx hb dL_law_313 (by decide) ?_
      refine lv_iadd hx hb dL_law_314 ?_
      refine lw_sld X hJ hX hbl hbA hv2 hb2.symm dL_law_315 ?_
      refine lv_aload_n hx hb dL_law_316 rfl (lv_at hl 0 rfl) ?_
      refine lv_iload_n hx hb dL_law_317 rfl (lv_at hl 3 rfl) ?_
      refine lv_iconst (v := 3) hx hb dL_law_318 (by decide) ?_
      refine lv_iadd hx hb dL_law_319 ?_
      refine lw_sld X hJ hX hbl hbA hv3 hb3.symm dL_law_320 ?_
      refine lwC_l X hJ (As := [.int b1, .int b2, .int b3]) (rest := []) lk_RL_26 (cC_front hFC h1) rfl rfl (Nat.le_of_ble_eq_true rfl) hl.1 ⟨Nat.le_of_ble_eq_true rfl, Nat.le_of_ble_eq_true rfl⟩ ⟨Nat.le_of_ble_eq_true rfl, Nat.le_of_ble_eq_true rfl⟩ dL_law_321 (fun H locs hJ => ?_)
      refine lv_aload_n hx hb dL_law_324 rfl (lv_at hl 2 rfl) ?_
      refine lv_aload_n hx hb dL_law_325 rfl (lv_at hl 0 rfl) ?_
      refine lv_iload_n hx hb dL_law_326 rfl (lv_at hl 3 rfl) ?_
      refine lv_iconst (v := 1) hx hb dL_law_327 (by decide) ?_
      refine lv_iadd hx hb dL_law_328 ?_
      refine lw_sld X hJ hX hbl hbA hv1 hb1.symm dL_law_329 ?_
      refine lv_aload_n hx hb dL_law_330 rfl (lv_at hl 0 rfl) ?_
      refine lv_iload_n hx hb dL_law_331 rfl (lv_at hl 3 rfl) ?_
      refine lv_iconst (v := 2) hx hb dL_law_332 (by decide) ?_
      refine lv_iadd hx hb dL_law_333 ?_
      refine lw_sld X hJ hX hbl hbA hv2 hb2.symm dL_law_334 ?_
      refine lv_aload_n hx hb dL_law_335 rfl (lv_at hl 0 rfl) ?_
      refine lv_iload_n hx hb dL_law_336 rfl (lv_at hl 3 rfl) ?_
      refine lv_iconst (v := 3) hx hb dL_law_337 (by decide) ?_
      refine lv_iadd hx hb dL_law_338 ?_
      refine lw_sld X hJ hX hbl hbA hv3 hb3.symm dL_law_339 ?_
      refine lwM_l X hJ (As := [.int b1, .int b2, .int b3]) (rest := [.long r]) lk_RL_30 (cM_front hFM h2) rfl rfl (Nat.le_of_ble_eq_true rfl) hl.1 ⟨Nat.le_of_ble_eq_true rfl, Nat.le_of_ble_eq_true rfl⟩ ⟨Nat.le_of_ble_eq_true rfl, Nat.le_of_ble_eq_true rfl⟩ dL_law_340 (fun H locs hJ => ?_)
      refine W.lcmp hx hb dL_law_343 ?_
      refine lv_if_eq (tgt := 1356) hx hb dL_law_344 (by decide) (fun _ => ?_) (fun h => absurd (lw_cmp r) h)
      exact next σ1 τ1 _ _ _ hRel1 hJ hl
    by_cases s4 : sw = (4 : Int32)
    · refine lv_tableIn (off := 316) (tgt := 349) hx hb dL_law_33 (by rw [s4]; decide) (by rw [s4]; decide) (by rw [s4]; rfl) (by decide) ?_
      obtain ⟨σ1, τ1, r, h1, h2, hRel1⟩ := e_camera hRel b1 b2 b3
      refine lv_aload_n hx hb dL_law_349 rfl (lv_at hl 1 rfl) ?_
      refine lv_aload_n hx hb dL_law_350 rfl (lv_at hl 0 rfl) ?_
      refine lv_iload_n hx hb dL_law_351 rfl (lv_at hl 3 rfl) ?_
      refine lv_iconst (v := 1) hx hb dL_law_352 (by decide) ?_
      refine lv_iadd hx hb dL_law_353 ?_
      refine lw_sld X hJ hX hbl hbA hv1 hb1.symm dL_law_354 ?_
      refine lv_aload_n hx hb dL_law_355 rfl (lv_at hl 0 rfl) ?_
      refine lv_iload_n hx hb dL_law_356 rfl (lv_at hl 3 rfl) ?_
      refine lv_iconst (v := 2) hx hb dL_law_357 (by decide) ?_
      refine lv_iadd hx hb dL_law_358 ?_
      refine lw_sld X hJ hX hbl hbA hv2 hb2.symm dL_law_359 ?_
      refine lv_aload_n hx hb dL_law_360 rfl (lv_at hl 0 rfl) ?_
      refine lv_iload_n hx hb dL_law_361 rfl (lv_at hl 3 rfl) ?_
      refine lv_iconst (v := 3) hx hb dL_law_362 (by decide) ?_
      refine lv_iadd hx hb dL_law_363 ?_
      refine lw_sld X hJ hX hbl hbA hv3 hb3.symm dL_law_364 ?_
      refine lwC_i X hJ (As := [.int b1, .int b2, .int b3]) (rest := []) lk_RL_31 (cC_camera hFC h1) rfl rfl (Nat.le_of_ble_eq_true rfl) hl.1 ⟨Nat.le_of_ble_eq_true rfl, Nat.le_of_ble_eq_true rfl⟩ ⟨Nat.le_of_ble_eq_true rfl, Nat.le_of_ble_eq_true rfl⟩ dL_law_365 (fun H locs hJ => ?_)
      refine lv_aload_n hx hb dL_law_368 rfl (lv_at hl 2 rfl) ?_
      refine lv_aload_n hx hb dL_law_369 rfl (lv_at hl 0 rfl) ?_
      refine lv_iload_n hx hb dL_law_370 rfl (lv_at hl 3 rfl) ?_
      refine lv_iconst (v := 1) hx hb dL_law_371 (by decide) ?_
      refine lv_iadd hx hb dL_law_372 ?_
      refine lw_sld X hJ hX hbl hbA hv1 hb1.symm dL_law_373 ?_
      refine lv_aload_n hx hb dL_law_374 rfl (lv_at hl 0 rfl) ?_
      refine lv_iload_n hx hb dL_law_375 rfl (lv_at hl 3 rfl) ?_
      refine lv_iconst (v := 2) hx hb dL_law_376 (by decide) ?_
      refine lv_iadd hx hb dL_law_377 ?_
      refine lw_sld X hJ hX hbl hbA hv2 hb2.symm dL_law_378 ?_
      refine lv_aload_n hx hb dL_law_379 rfl (lv_at hl 0 rfl) ?_
      refine lv_iload_n hx hb dL_law_380 rfl (lv_at hl 3 rfl) ?_
      refine lv_iconst (v := 3) hx hb dL_law_381 (by decide) ?_
      refine lv_iadd hx hb dL_law_382 ?_
      refine lw_sld X hJ hX hbl hbA hv3 hb3.symm dL_law_383 ?_
      refine lwM_i X hJ (As := [.int b1, .int b2, .int b3]) (rest := [.int r]) lk_RL_34 (cM_camera hFM h2) rfl rfl (Nat.le_of_ble_eq_true rfl) hl.1 ⟨Nat.le_of_ble_eq_true rfl, Nat.le_of_ble_eq_true rfl⟩ ⟨Nat.le_of_ble_eq_true rfl, Nat.le_of_ble_eq_true rfl⟩ dL_law_384 (fun H locs hJ => ?_)
      refine lv_icmp_eq (tgt := 1356) hx hb dL_law_387 (by decide) (fun _ => ?_) (fun h => absurd rfl h)
      exact next σ1 τ1 _ _ _ hRel1 hJ hl
    by_cases s5 : sw = (5 : Int32)
    · refine lv_tableIn (off := 359) (tgt := 392) hx hb dL_law_33 (by rw [s5]; decide) (by rw [s5]; decide) (by rw [s5]; rfl) (by decide) ?_
      obtain ⟨σ1, τ1, r, h1, h2, hRel1⟩ := e_frame hRel b1 b2
      refine lv_aload_n hx hb dL_law_392 rfl (lv_at hl 1 rfl) ?_
      refine lv_aload_n hx hb dL_law_393 rfl (lv_at hl 0 rfl) ?_
      refine lv_iload_n hx hb dL_law_394 rfl (lv_at hl 3 rfl) ?_
      refine lv_iconst (v := 1) hx hb dL_law_395 (by decide) ?_
      refine lv_iadd hx hb dL_law_396 ?_
      refine lw_sld X hJ hX hbl hbA hv1 hb1.symm dL_law_397 ?_
      refine lv_aload_n hx hb dL_law_398 rfl (lv_at hl 0 rfl) ?_
      refine lv_iload_n hx hb dL_law_399 rfl (lv_at hl 3 rfl) ?_
      refine lv_iconst (v := 2) hx hb dL_law_400 (by decide) ?_
      refine lv_iadd hx hb dL_law_401 ?_
      refine lw_sld X hJ hX hbl hbA hv2 hb2.symm dL_law_402 ?_
      refine lwC_i X hJ (As := [.int b1, .int b2]) (rest := []) lk_RL_35 (cC_frame hFC h1) rfl rfl (Nat.le_of_ble_eq_true rfl) hl.1 ⟨Nat.le_of_ble_eq_true rfl, Nat.le_of_ble_eq_true rfl⟩ ⟨Nat.le_of_ble_eq_true rfl, Nat.le_of_ble_eq_true rfl⟩ dL_law_403 (fun H locs hJ => ?_)
      refine lv_aload_n hx hb dL_law_406 rfl (lv_at hl 2 rfl) ?_
      refine lv_aload_n hx hb dL_law_407 rfl (lv_at hl 0 rfl) ?_
      refine lv_iload_n hx hb dL_law_408 rfl (lv_at hl 3 rfl) ?_
      refine lv_iconst (v := 1) hx hb dL_law_409 (by decide) ?_
      refine lv_iadd hx hb dL_law_410 ?_
      refine lw_sld X hJ hX hbl hbA hv1 hb1.symm dL_law_411 ?_
      refine lv_aload_n hx hb dL_law_412 rfl (lv_at hl 0 rfl) ?_
      refine lv_iload_n hx hb dL_law_413 rfl (lv_at hl 3 rfl) ?_
      refine lv_iconst (v := 2) hx hb dL_law_414 (by decide) ?_
      refine lv_iadd hx hb dL_law_415 ?_
      refine lw_sld X hJ hX hbl hbA hv2 hb2.symm dL_law_416 ?_
      refine lwM_i X hJ (As := [.int b1, .int b2]) (rest := [.int r]) lk_RL_39 (cM_frame hFM h2) rfl rfl (Nat.le_of_ble_eq_true rfl) hl.1 ⟨Nat.le_of_ble_eq_true rfl, Nat.le_of_ble_eq_true rfl⟩ ⟨Nat.le_of_ble_eq_true rfl, Nat.le_of_ble_eq_true rfl⟩ dL_law_417 (fun H locs hJ => ?_)
      refine lv_icmp_eq (tgt := 1356) hx hb dL_law_420 (by decide) (fun _ => ?_) (fun h => absurd rfl h)
      exact next σ1 τ1 _ _ _ hRel1 hJ hl
    by_cases s6 : sw = (6 : Int32)
    · refine lv_tableIn (off := 392) (tgt := 425) hx hb dL_law_33 (by rw [s6]; decide) (by rw [s6]; decide) (by rw [s6]; rfl) (by decide) ?_
      obtain ⟨σ1, τ1, r, h1, h2, hRel1⟩ := e_sees hRel b1 b2
      refine lv_aload_n hx hb dL_law_425 rfl (lv_at hl 1 rfl) ?_
      refine lv_aload_n hx hb dL_law_426 rfl (lv_at hl 0 rfl) ?_
      refine lv_iload_n hx hb dL_law_427 rfl (lv_at hl 3 rfl) ?_
      refine lv_iconst (v := 1) hx hb dL_law_428 (by decide) ?_
      refine lv_iadd hx hb dL_law_429 ?_
      refine lw_sld X hJ hX hbl hbA hv1 hb1.symm dL_law_430 ?_
      refine lv_aload_n hx hb dL_law_431 rfl (lv_at hl 0 rfl) ?_
      refine lv_iload_n hx hb dL_law_432 rfl (lv_at hl 3 rfl) ?_
      refine lv_iconst (v := 2) hx hb dL_law_433 (by decide) ?_
      refine lv_iadd hx hb dL_law_434 ?_
      refine lw_sld X hJ hX hbl hbA hv2 hb2.symm dL_law_435 ?_
      refine lwC_l X hJ (As := [.int b1, .int b2]) (rest := []) lk_RL_40 (cC_sees hFC h1) rfl rfl (Nat.le_of_ble_eq_true rfl) hl.1 ⟨Nat.le_of_ble_eq_true rfl, Nat.le_of_ble_eq_true rfl⟩ ⟨Nat.le_of_ble_eq_true rfl, Nat.le_of_ble_eq_true rfl⟩ dL_law_436 (fun H locs hJ => ?_)
      refine lv_aload_n hx hb dL_law_439 rfl (lv_at hl 2 rfl) ?_
      refine lv_aload_n hx hb dL_law_440 rfl (lv_at hl 0 rfl) ?_
      refine lv_iload_n hx hb dL_law_441 rfl (lv_at hl 3 rfl) ?_
      refine lv_iconst (v := 1) hx hb dL_law_442 (by decide) ?_
      refine lv_iadd hx hb dL_law_443 ?_
      refine lw_sld X hJ hX hbl hbA hv1 hb1.symm dL_law_444 ?_
      refine lv_aload_n hx hb dL_law_445 rfl (lv_at hl 0 rfl) ?_
      refine lv_iload_n hx hb dL_law_446 rfl (lv_at hl 3 rfl) ?_
      refine lv_iconst (v := 2) hx hb dL_law_447 (by decide) ?_
      refine lv_iadd hx hb dL_law_448 ?_
      refine lw_sld X hJ hX hbl hbA hv2 hb2.symm dL_law_449 ?_
      refine lwM_l X hJ (As := [.int b1, .int b2]) (rest := [.long r]) lk_RL_44 (cM_sees hFM h2) rfl rfl (Nat.le_of_ble_eq_true rfl) hl.1 ⟨Nat.le_of_ble_eq_true rfl, Nat.le_of_ble_eq_true rfl⟩ ⟨Nat.le_of_ble_eq_true rfl, Nat.le_of_ble_eq_true rfl⟩ dL_law_450 (fun H locs hJ => ?_)
      refine W.lcmp hx hb dL_law_453 ?_
      refine lv_if_eq (tgt := 1356) hx hb dL_law_454 (by decide) (fun _ => ?_) (fun h => absurd (lw_cmp r) h)
      exact next σ1 τ1 _ _ _ hRel1 hJ hl
    by_cases s7 : sw = (7 : Int32)
    · refine lv_tableIn (off := 426) (tgt := 459) hx hb dL_law_33 (by rw [s7]; decide) (by rw [s7]; decide) (by rw [s7]; rfl) (by decide) ?_
      obtain ⟨σ1, τ1, r, h1, h2, hRel1⟩ := e_crosser hRel b1 b2
      refine lv_aload_n hx hb dL_law_459 rfl (lv_at hl 1 rfl) ?_
      refine lv_aload_n hx hb dL_law_460 rfl (lv_at hl 0 rfl) ?_
      refine lv_iload_n hx hb dL_law_461 rfl (lv_at hl 3 rfl) ?_
      refine lv_iconst (v := 1) hx hb dL_law_462 (by decide) ?_
      refine lv_iadd hx hb dL_law_463 ?_
      refine lw_sld X hJ hX hbl hbA hv1 hb1.symm dL_law_464 ?_
      refine lv_aload_n hx hb dL_law_465 rfl (lv_at hl 0 rfl) ?_
      refine lv_iload_n hx hb dL_law_466 rfl (lv_at hl 3 rfl) ?_
      refine lv_iconst (v := 2) hx hb dL_law_467 (by decide) ?_
      refine lv_iadd hx hb dL_law_468 ?_
      refine lw_sld X hJ hX hbl hbA hv2 hb2.symm dL_law_469 ?_
      refine lwC_i X hJ (As := [.int b1, .int b2]) (rest := []) lk_RL_45 (cC_crosser hFC h1) rfl rfl (Nat.le_of_ble_eq_true rfl) hl.1 ⟨Nat.le_of_ble_eq_true rfl, Nat.le_of_ble_eq_true rfl⟩ ⟨Nat.le_of_ble_eq_true rfl, Nat.le_of_ble_eq_true rfl⟩ dL_law_470 (fun H locs hJ => ?_)
      refine lv_aload_n hx hb dL_law_473 rfl (lv_at hl 2 rfl) ?_
      refine lv_aload_n hx hb dL_law_474 rfl (lv_at hl 0 rfl) ?_
      refine lv_iload_n hx hb dL_law_475 rfl (lv_at hl 3 rfl) ?_
      refine lv_iconst (v := 1) hx hb dL_law_476 (by decide) ?_
      refine lv_iadd hx hb dL_law_477 ?_
      refine lw_sld X hJ hX hbl hbA hv1 hb1.symm dL_law_478 ?_
      refine lv_aload_n hx hb dL_law_479 rfl (lv_at hl 0 rfl) ?_
      refine lv_iload_n hx hb dL_law_480 rfl (lv_at hl 3 rfl) ?_
      refine lv_iconst (v := 2) hx hb dL_law_481 (by decide) ?_
      refine lv_iadd hx hb dL_law_482 ?_
      refine lw_sld X hJ hX hbl hbA hv2 hb2.symm dL_law_483 ?_
      refine lwM_i X hJ (As := [.int b1, .int b2]) (rest := [.int r]) lk_RL_48 (cM_crosser hFM h2) rfl rfl (Nat.le_of_ble_eq_true rfl) hl.1 ⟨Nat.le_of_ble_eq_true rfl, Nat.le_of_ble_eq_true rfl⟩ ⟨Nat.le_of_ble_eq_true rfl, Nat.le_of_ble_eq_true rfl⟩ dL_law_484 (fun H locs hJ => ?_)
      refine lv_icmp_eq (tgt := 1356) hx hb dL_law_487 (by decide) (fun _ => ?_) (fun h => absurd rfl h)
      exact next σ1 τ1 _ _ _ hRel1 hJ hl
    by_cases s8 : sw = (8 : Int32)
    · refine lv_tableIn (off := 459) (tgt := 492) hx hb dL_law_33 (by rw [s8]; decide) (by rw [s8]; decide) (by rw [s8]; rfl) (by decide) ?_
      obtain ⟨σ1, τ1, r, h1, h2, hRel1⟩ := e_feed hRel b1 ((b2.toInt64 <<< ((32 : Int32).toInt64 &&& 63)) ||| (b3.toInt64 &&& (4294967295 : Int64)))
      refine lv_aload_n hx hb dL_law_492 rfl (lv_at hl 1 rfl) ?_
      refine lv_aload_n hx hb dL_law_493 rfl (lv_at hl 0 rfl) ?_
      refine lv_iload_n hx hb dL_law_494 rfl (lv_at hl 3 rfl) ?_
      refine lv_iconst (v := 1) hx hb dL_law_495 (by decide) ?_
      refine lv_iadd hx hb dL_law_496 ?_
      refine lw_sld X hJ hX hbl hbA hv1 hb1.symm dL_law_497 ?_
      refine lv_aload_n hx hb dL_law_498 rfl (lv_at hl 0 rfl) ?_
      refine lv_iload_n hx hb dL_law_499 rfl (lv_at hl 3 rfl) ?_
      refine lv_iconst (v := 2) hx hb dL_law_500 (by decide) ?_
      refine lv_iadd hx hb dL_law_501 ?_
      refine lw_sld X hJ hX hbl hbA hv2 hb2.symm dL_law_502 ?_
      refine lv_i2l (v := b2.toInt64) hx hb dL_law_503 rfl ?_
      refine lv_bipush (v := 32) hx hb dL_law_504 (by decide) ?_
      refine lv_lshl (v := b2.toInt64 <<< ((32 : Int32).toInt64 &&& 63)) hx hb dL_law_506 rfl ?_
      refine lv_aload_n hx hb dL_law_507 rfl (lv_at hl 0 rfl) ?_
      refine lv_iload_n hx hb dL_law_508 rfl (lv_at hl 3 rfl) ?_
      refine lv_iconst (v := 3) hx hb dL_law_509 (by decide) ?_
      refine lv_iadd hx hb dL_law_510 ?_
      refine lw_sld X hJ hX hbl hbA hv3 hb3.symm dL_law_511 ?_
      refine lv_i2l (v := b3.toInt64) hx hb dL_law_512 rfl ?_
      refine lv_ldc2 (v := 4294967295) hx hb hown (hts _ kl_RL_49) dL_law_513 ?_
      refine lv_land hx hb dL_law_516 ?_
      refine lv_lor hx hb dL_law_517 ?_
      refine lwC_i X hJ (As := [.int b1, .long ((b2.toInt64 <<< ((32 : Int32).toInt64 &&& 63)) ||| (b3.toInt64 &&& (4294967295 : Int64)))]) (rest := []) lk_RL_51 (cC_feed hFC h1) rfl rfl (Nat.le_of_ble_eq_true rfl) hl.1 ⟨Nat.le_of_ble_eq_true rfl, Nat.le_of_ble_eq_true rfl⟩ ⟨Nat.le_of_ble_eq_true rfl, Nat.le_of_ble_eq_true rfl⟩ dL_law_518 (fun H locs hJ => ?_)
      refine lv_aload_n hx hb dL_law_521 rfl (lv_at hl 2 rfl) ?_
      refine lv_aload_n hx hb dL_law_522 rfl (lv_at hl 0 rfl) ?_
      refine lv_iload_n hx hb dL_law_523 rfl (lv_at hl 3 rfl) ?_
      refine lv_iconst (v := 1) hx hb dL_law_524 (by decide) ?_
      refine lv_iadd hx hb dL_law_525 ?_
      refine lw_sld X hJ hX hbl hbA hv1 hb1.symm dL_law_526 ?_
      refine lv_aload_n hx hb dL_law_527 rfl (lv_at hl 0 rfl) ?_
      refine lv_iload_n hx hb dL_law_528 rfl (lv_at hl 3 rfl) ?_
      refine lv_iconst (v := 2) hx hb dL_law_529 (by decide) ?_
      refine lv_iadd hx hb dL_law_530 ?_
      refine lw_sld X hJ hX hbl hbA hv2 hb2.symm dL_law_531 ?_
      refine lv_i2l (v := b2.toInt64) hx hb dL_law_532 rfl ?_
      refine lv_bipush (v := 32) hx hb dL_law_533 (by decide) ?_
      refine lv_lshl (v := b2.toInt64 <<< ((32 : Int32).toInt64 &&& 63)) hx hb dL_law_535 rfl ?_
      refine lv_aload_n hx hb dL_law_536 rfl (lv_at hl 0 rfl) ?_
      refine lv_iload_n hx hb dL_law_537 rfl (lv_at hl 3 rfl) ?_
      refine lv_iconst (v := 3) hx hb dL_law_538 (by decide) ?_
      refine lv_iadd hx hb dL_law_539 ?_
      refine lw_sld X hJ hX hbl hbA hv3 hb3.symm dL_law_540 ?_
      refine lv_i2l (v := b3.toInt64) hx hb dL_law_541 rfl ?_
      refine lv_ldc2 (v := 4294967295) hx hb hown (hts _ kl_RL_49) dL_law_542 ?_
      refine lv_land hx hb dL_law_545 ?_
      refine lv_lor hx hb dL_law_546 ?_
      refine lwM_i X hJ (As := [.int b1, .long ((b2.toInt64 <<< ((32 : Int32).toInt64 &&& 63)) ||| (b3.toInt64 &&& (4294967295 : Int64)))]) (rest := [.int r]) lk_RL_55 (cM_feed hFM h2) rfl rfl (Nat.le_of_ble_eq_true rfl) hl.1 ⟨Nat.le_of_ble_eq_true rfl, Nat.le_of_ble_eq_true rfl⟩ ⟨Nat.le_of_ble_eq_true rfl, Nat.le_of_ble_eq_true rfl⟩ dL_law_547 (fun H locs hJ => ?_)
      refine lv_icmp_eq (tgt := 1356) hx hb dL_law_550 (by decide) (fun _ => ?_) (fun h => absurd rfl h)
      exact next σ1 τ1 _ _ _ hRel1 hJ hl
    by_cases s9 : sw = (9 : Int32)
    · refine lv_tableIn (off := 522) (tgt := 555) hx hb dL_law_33 (by rw [s9]; decide) (by rw [s9]; decide) (by rw [s9]; rfl) (by decide) ?_
      obtain ⟨σ1, τ1, r, h1, h2, hRel1⟩ := e_text hRel
      refine lv_aload_n hx hb dL_law_555 rfl (lv_at hl 1 rfl) ?_
      refine lwC_i X hJ (As := []) (rest := []) lk_RL_56 (cC_text hFC h1) rfl rfl (Nat.le_of_ble_eq_true rfl) hl.1 ⟨Nat.le_of_ble_eq_true rfl, Nat.le_of_ble_eq_true rfl⟩ ⟨Nat.le_of_ble_eq_true rfl, Nat.le_of_ble_eq_true rfl⟩ dL_law_556 (fun H locs hJ => ?_)
      refine lv_aload_n hx hb dL_law_559 rfl (lv_at hl 2 rfl) ?_
      refine lwM_i X hJ (As := []) (rest := [.int r]) lk_RL_60 (cM_text hFM h2) rfl rfl (Nat.le_of_ble_eq_true rfl) hl.1 ⟨Nat.le_of_ble_eq_true rfl, Nat.le_of_ble_eq_true rfl⟩ ⟨Nat.le_of_ble_eq_true rfl, Nat.le_of_ble_eq_true rfl⟩ dL_law_560 (fun H locs hJ => ?_)
      refine lv_icmp_eq (tgt := 1356) hx hb dL_law_563 (by decide) (fun _ => ?_) (fun h => absurd rfl h)
      exact next σ1 τ1 _ _ _ hRel1 hJ hl
    by_cases s10 : sw = (10 : Int32)
    · refine lv_tableIn (off := 535) (tgt := 568) hx hb dL_law_33 (by rw [s10]; decide) (by rw [s10]; decide) (by rw [s10]; rfl) (by decide) ?_
      obtain ⟨σ1, τ1, r, h1, h2, hRel1⟩ := e_force hRel b1
      refine lv_aload_n hx hb dL_law_568 rfl (lv_at hl 1 rfl) ?_
      refine lv_aload_n hx hb dL_law_569 rfl (lv_at hl 0 rfl) ?_
      refine lv_iload_n hx hb dL_law_570 rfl (lv_at hl 3 rfl) ?_
      refine lv_iconst (v := 1) hx hb dL_law_571 (by decide) ?_
      refine lv_iadd hx hb dL_law_572 ?_
      refine lw_sld X hJ hX hbl hbA hv1 hb1.symm dL_law_573 ?_
      refine lwC_i X hJ (As := [.int b1]) (rest := []) lk_RL_61 (cC_force hFC h1) rfl rfl (Nat.le_of_ble_eq_true rfl) hl.1 ⟨Nat.le_of_ble_eq_true rfl, Nat.le_of_ble_eq_true rfl⟩ ⟨Nat.le_of_ble_eq_true rfl, Nat.le_of_ble_eq_true rfl⟩ dL_law_574 (fun H locs hJ => ?_)
      refine lv_aload_n hx hb dL_law_577 rfl (lv_at hl 2 rfl) ?_
      refine lv_aload_n hx hb dL_law_578 rfl (lv_at hl 0 rfl) ?_
      refine lv_iload_n hx hb dL_law_579 rfl (lv_at hl 3 rfl) ?_
      refine lv_iconst (v := 1) hx hb dL_law_580 (by decide) ?_
      refine lv_iadd hx hb dL_law_581 ?_
      refine lw_sld X hJ hX hbl hbA hv1 hb1.symm dL_law_582 ?_
      refine lwM_i X hJ (As := [.int b1]) (rest := [.int r]) lk_RL_65 (cM_force hFM h2) rfl rfl (Nat.le_of_ble_eq_true rfl) hl.1 ⟨Nat.le_of_ble_eq_true rfl, Nat.le_of_ble_eq_true rfl⟩ ⟨Nat.le_of_ble_eq_true rfl, Nat.le_of_ble_eq_true rfl⟩ dL_law_583 (fun H locs hJ => ?_)
      refine lv_icmp_eq (tgt := 1356) hx hb dL_law_586 (by decide) (fun _ => ?_) (fun h => absurd rfl h)
      exact next σ1 τ1 _ _ _ hRel1 hJ hl
    by_cases s11 : sw = (11 : Int32)
    · refine lv_tableIn (off := 558) (tgt := 591) hx hb dL_law_33 (by rw [s11]; decide) (by rw [s11]; decide) (by rw [s11]; rfl) (by decide) ?_
      obtain ⟨σ1, τ1, r, h1, h2, hRel1⟩ := e_says hRel b1 b2 b3 b4
      refine lv_aload_n hx hb dL_law_591 rfl (lv_at hl 1 rfl) ?_
      refine lv_aload_n hx hb dL_law_592 rfl (lv_at hl 0 rfl) ?_
      refine lv_iload_n hx hb dL_law_593 rfl (lv_at hl 3 rfl) ?_
      refine lv_iconst (v := 1) hx hb dL_law_594 (by decide) ?_
      refine lv_iadd hx hb dL_law_595 ?_
      refine lw_sld X hJ hX hbl hbA hv1 hb1.symm dL_law_596 ?_
      refine lv_aload_n hx hb dL_law_597 rfl (lv_at hl 0 rfl) ?_
      refine lv_iload_n hx hb dL_law_598 rfl (lv_at hl 3 rfl) ?_
      refine lv_iconst (v := 2) hx hb dL_law_599 (by decide) ?_
      refine lv_iadd hx hb dL_law_600 ?_
      refine lw_sld X hJ hX hbl hbA hv2 hb2.symm dL_law_601 ?_
      refine lv_aload_n hx hb dL_law_602 rfl (lv_at hl 0 rfl) ?_
      refine lv_iload_n hx hb dL_law_603 rfl (lv_at hl 3 rfl) ?_
      refine lv_iconst (v := 3) hx hb dL_law_604 (by decide) ?_
      refine lv_iadd hx hb dL_law_605 ?_
      refine lw_sld X hJ hX hbl hbA hv3 hb3.symm dL_law_606 ?_
      refine lv_aload_n hx hb dL_law_607 rfl (lv_at hl 0 rfl) ?_
      refine lv_iload_n hx hb dL_law_608 rfl (lv_at hl 3 rfl) ?_
      refine lv_iconst (v := 4) hx hb dL_law_609 (by decide) ?_
      refine lv_iadd hx hb dL_law_610 ?_
      refine lw_sld X hJ hX hbl hbA hv4 hb4.symm dL_law_611 ?_
      refine lwC_l X hJ (As := [.int b1, .int b2, .int b3, .int b4]) (rest := []) lk_RL_66 (cC_says hFC h1) rfl rfl (Nat.le_of_ble_eq_true rfl) hl.1 ⟨Nat.le_of_ble_eq_true rfl, Nat.le_of_ble_eq_true rfl⟩ ⟨Nat.le_of_ble_eq_true rfl, Nat.le_of_ble_eq_true rfl⟩ dL_law_612 (fun H locs hJ => ?_)
      refine lv_aload_n hx hb dL_law_615 rfl (lv_at hl 2 rfl) ?_
      refine lv_aload_n hx hb dL_law_616 rfl (lv_at hl 0 rfl) ?_
      refine lv_iload_n hx hb dL_law_617 rfl (lv_at hl 3 rfl) ?_
      refine lv_iconst (v := 1) hx hb dL_law_618 (by decide) ?_
      refine lv_iadd hx hb dL_law_619 ?_
      refine lw_sld X hJ hX hbl hbA hv1 hb1.symm dL_law_620 ?_
      refine lv_aload_n hx hb dL_law_621 rfl (lv_at hl 0 rfl) ?_
      refine lv_iload_n hx hb dL_law_622 rfl (lv_at hl 3 rfl) ?_
      refine lv_iconst (v := 2) hx hb dL_law_623 (by decide) ?_
      refine lv_iadd hx hb dL_law_624 ?_
      refine lw_sld X hJ hX hbl hbA hv2 hb2.symm dL_law_625 ?_
      refine lv_aload_n hx hb dL_law_626 rfl (lv_at hl 0 rfl) ?_
      refine lv_iload_n hx hb dL_law_627 rfl (lv_at hl 3 rfl) ?_
      refine lv_iconst (v := 3) hx hb dL_law_628 (by decide) ?_
      refine lv_iadd hx hb dL_law_629 ?_
      refine lw_sld X hJ hX hbl hbA hv3 hb3.symm dL_law_630 ?_
      refine lv_aload_n hx hb dL_law_631 rfl (lv_at hl 0 rfl) ?_
      refine lv_iload_n hx hb dL_law_632 rfl (lv_at hl 3 rfl) ?_
      refine lv_iconst (v := 4) hx hb dL_law_633 (by decide) ?_
      refine lv_iadd hx hb dL_law_634 ?_
      refine lw_sld X hJ hX hbl hbA hv4 hb4.symm dL_law_635 ?_
      refine lwM_l X hJ (As := [.int b1, .int b2, .int b3, .int b4]) (rest := [.long r]) lk_RL_70 (cM_says hFM h2) rfl rfl (Nat.le_of_ble_eq_true rfl) hl.1 ⟨Nat.le_of_ble_eq_true rfl, Nat.le_of_ble_eq_true rfl⟩ ⟨Nat.le_of_ble_eq_true rfl, Nat.le_of_ble_eq_true rfl⟩ dL_law_636 (fun H locs hJ => ?_)
      refine W.lcmp hx hb dL_law_639 ?_
      refine lv_if_eq (tgt := 1356) hx hb dL_law_640 (by decide) (fun _ => ?_) (fun h => absurd (lw_cmp r) h)
      exact next σ1 τ1 _ _ _ hRel1 hJ hl
    by_cases s12 : sw = (12 : Int32)
    · refine lv_tableIn (off := 612) (tgt := 645) hx hb dL_law_33 (by rw [s12]; decide) (by rw [s12]; decide) (by rw [s12]; rfl) (by decide) ?_
      obtain ⟨σ1, τ1, r, h1, h2, hRel1⟩ := e_width hRel b1
      refine lv_aload_n hx hb dL_law_645 rfl (lv_at hl 1 rfl) ?_
      refine lv_aload_n hx hb dL_law_646 rfl (lv_at hl 0 rfl) ?_
      refine lv_iload_n hx hb dL_law_647 rfl (lv_at hl 3 rfl) ?_
      refine lv_iconst (v := 1) hx hb dL_law_648 (by decide) ?_
      refine lv_iadd hx hb dL_law_649 ?_
      refine lw_sld X hJ hX hbl hbA hv1 hb1.symm dL_law_650 ?_
      refine lwC_i X hJ (As := [.int b1]) (rest := []) lk_RL_71 (cC_width hFC h1) rfl rfl (Nat.le_of_ble_eq_true rfl) hl.1 ⟨Nat.le_of_ble_eq_true rfl, Nat.le_of_ble_eq_true rfl⟩ ⟨Nat.le_of_ble_eq_true rfl, Nat.le_of_ble_eq_true rfl⟩ dL_law_651 (fun H locs hJ => ?_)
      refine lv_aload_n hx hb dL_law_654 rfl (lv_at hl 2 rfl) ?_
      refine lv_aload_n hx hb dL_law_655 rfl (lv_at hl 0 rfl) ?_
      refine lv_iload_n hx hb dL_law_656 rfl (lv_at hl 3 rfl) ?_
      refine lv_iconst (v := 1) hx hb dL_law_657 (by decide) ?_
      refine lv_iadd hx hb dL_law_658 ?_
      refine lw_sld X hJ hX hbl hbA hv1 hb1.symm dL_law_659 ?_
      refine lwM_i X hJ (As := [.int b1]) (rest := [.int r]) lk_RL_74 (cM_width hFM h2) rfl rfl (Nat.le_of_ble_eq_true rfl) hl.1 ⟨Nat.le_of_ble_eq_true rfl, Nat.le_of_ble_eq_true rfl⟩ ⟨Nat.le_of_ble_eq_true rfl, Nat.le_of_ble_eq_true rfl⟩ dL_law_660 (fun H locs hJ => ?_)
      refine lv_icmp_eq (tgt := 1356) hx hb dL_law_663 (by decide) (fun _ => ?_) (fun h => absurd rfl h)
      exact next σ1 τ1 _ _ _ hRel1 hJ hl
    by_cases s13 : sw = (13 : Int32)
    · refine lv_tableIn (off := 635) (tgt := 668) hx hb dL_law_33 (by rw [s13]; decide) (by rw [s13]; decide) (by rw [s13]; rfl) (by decide) ?_
      obtain ⟨σ1, τ1, r, h1, h2, hRel1⟩ := e_call hRel b1 b2 b3 b4 b5
      refine lv_aload_n hx hb dL_law_668 rfl (lv_at hl 1 rfl) ?_
      refine lv_aload_n hx hb dL_law_669 rfl (lv_at hl 0 rfl) ?_
      refine lv_iload_n hx hb dL_law_670 rfl (lv_at hl 3 rfl) ?_
      refine lv_iconst (v := 1) hx hb dL_law_671 (by decide) ?_
      refine lv_iadd hx hb dL_law_672 ?_
      refine lw_sld X hJ hX hbl hbA hv1 hb1.symm dL_law_673 ?_
      refine lv_aload_n hx hb dL_law_674 rfl (lv_at hl 0 rfl) ?_
      refine lv_iload_n hx hb dL_law_675 rfl (lv_at hl 3 rfl) ?_
      refine lv_iconst (v := 2) hx hb dL_law_676 (by decide) ?_
      refine lv_iadd hx hb dL_law_677 ?_
      refine lw_sld X hJ hX hbl hbA hv2 hb2.symm dL_law_678 ?_
      refine lv_aload_n hx hb dL_law_679 rfl (lv_at hl 0 rfl) ?_
      refine lv_iload_n hx hb dL_law_680 rfl (lv_at hl 3 rfl) ?_
      refine lv_iconst (v := 3) hx hb dL_law_681 (by decide) ?_
      refine lv_iadd hx hb dL_law_682 ?_
      refine lw_sld X hJ hX hbl hbA hv3 hb3.symm dL_law_683 ?_
      refine lv_aload_n hx hb dL_law_684 rfl (lv_at hl 0 rfl) ?_
      refine lv_iload_n hx hb dL_law_685 rfl (lv_at hl 3 rfl) ?_
      refine lv_iconst (v := 4) hx hb dL_law_686 (by decide) ?_
      refine lv_iadd hx hb dL_law_687 ?_
      refine lw_sld X hJ hX hbl hbA hv4 hb4.symm dL_law_688 ?_
      refine lv_aload_n hx hb dL_law_689 rfl (lv_at hl 0 rfl) ?_
      refine lv_iload_n hx hb dL_law_690 rfl (lv_at hl 3 rfl) ?_
      refine lv_iconst (v := 5) hx hb dL_law_691 (by decide) ?_
      refine lv_iadd hx hb dL_law_692 ?_
      refine lw_sld X hJ hX hbl hbA hv5 hb5.symm dL_law_693 ?_
      refine lwC_i X hJ (As := [.int b1, .int b2, .int b3, .int b4, .int b5]) (rest := []) lk_RL_75 (cC_call hFC h1) rfl rfl (Nat.le_of_ble_eq_true rfl) hl.1 ⟨Nat.le_of_ble_eq_true rfl, Nat.le_of_ble_eq_true rfl⟩ ⟨Nat.le_of_ble_eq_true rfl, Nat.le_of_ble_eq_true rfl⟩ dL_law_694 (fun H locs hJ => ?_)
      refine lv_aload_n hx hb dL_law_697 rfl (lv_at hl 2 rfl) ?_
      refine lv_aload_n hx hb dL_law_698 rfl (lv_at hl 0 rfl) ?_
      refine lv_iload_n hx hb dL_law_699 rfl (lv_at hl 3 rfl) ?_
      refine lv_iconst (v := 1) hx hb dL_law_700 (by decide) ?_
      refine lv_iadd hx hb dL_law_701 ?_
      refine lw_sld X hJ hX hbl hbA hv1 hb1.symm dL_law_702 ?_
      refine lv_aload_n hx hb dL_law_703 rfl (lv_at hl 0 rfl) ?_
      refine lv_iload_n hx hb dL_law_704 rfl (lv_at hl 3 rfl) ?_
      refine lv_iconst (v := 2) hx hb dL_law_705 (by decide) ?_
      refine lv_iadd hx hb dL_law_706 ?_
      refine lw_sld X hJ hX hbl hbA hv2 hb2.symm dL_law_707 ?_
      refine lv_aload_n hx hb dL_law_708 rfl (lv_at hl 0 rfl) ?_
      refine lv_iload_n hx hb dL_law_709 rfl (lv_at hl 3 rfl) ?_
      refine lv_iconst (v := 3) hx hb dL_law_710 (by decide) ?_
      refine lv_iadd hx hb dL_law_711 ?_
      refine lw_sld X hJ hX hbl hbA hv3 hb3.symm dL_law_712 ?_
      refine lv_aload_n hx hb dL_law_713 rfl (lv_at hl 0 rfl) ?_
      refine lv_iload_n hx hb dL_law_714 rfl (lv_at hl 3 rfl) ?_
      refine lv_iconst (v := 4) hx hb dL_law_715 (by decide) ?_
      refine lv_iadd hx hb dL_law_716 ?_
      refine lw_sld X hJ hX hbl hbA hv4 hb4.symm dL_law_717 ?_
      refine lv_aload_n hx hb dL_law_718 rfl (lv_at hl 0 rfl) ?_
      refine lv_iload_n hx hb dL_law_719 rfl (lv_at hl 3 rfl) ?_
      refine lv_iconst (v := 5) hx hb dL_law_720 (by decide) ?_
      refine lv_iadd hx hb dL_law_721 ?_
      refine lw_sld X hJ hX hbl hbA hv5 hb5.symm dL_law_722 ?_
      refine lwM_i X hJ (As := [.int b1, .int b2, .int b3, .int b4, .int b5]) (rest := [.int r]) lk_RL_79 (cM_call hFM h2) rfl rfl (Nat.le_of_ble_eq_true rfl) hl.1 ⟨Nat.le_of_ble_eq_true rfl, Nat.le_of_ble_eq_true rfl⟩ ⟨Nat.le_of_ble_eq_true rfl, Nat.le_of_ble_eq_true rfl⟩ dL_law_723 (fun H locs hJ => ?_)
      refine lv_icmp_eq (tgt := 1356) hx hb dL_law_726 (by decide) (fun _ => ?_) (fun h => absurd rfl h)
      exact next σ1 τ1 _ _ _ hRel1 hJ hl
    by_cases s14 : sw = (14 : Int32)
    · refine lv_tableIn (off := 698) (tgt := 731) hx hb dL_law_33 (by rw [s14]; decide) (by rw [s14]; decide) (by rw [s14]; rfl) (by decide) ?_
      obtain ⟨σ1, τ1, r, h1, h2, hRel1⟩ := e_told hRel b1 b2
      refine lv_aload_n hx hb dL_law_731 rfl (lv_at hl 1 rfl) ?_
      refine lv_aload_n hx hb dL_law_732 rfl (lv_at hl 0 rfl) ?_
      refine lv_iload_n hx hb dL_law_733 rfl (lv_at hl 3 rfl) ?_
      refine lv_iconst (v := 1) hx hb dL_law_734 (by decide) ?_
      refine lv_iadd hx hb dL_law_735 ?_
      refine lw_sld X hJ hX hbl hbA hv1 hb1.symm dL_law_736 ?_
      refine lv_aload_n hx hb dL_law_737 rfl (lv_at hl 0 rfl) ?_
      refine lv_iload_n hx hb dL_law_738 rfl (lv_at hl 3 rfl) ?_
      refine lv_iconst (v := 2) hx hb dL_law_739 (by decide) ?_
      refine lv_iadd hx hb dL_law_740 ?_
      refine lw_sld X hJ hX hbl hbA hv2 hb2.symm dL_law_741 ?_
      refine lwC_l X hJ (As := [.int b1, .int b2]) (rest := []) lk_RL_80 (cC_told hFC h1) rfl rfl (Nat.le_of_ble_eq_true rfl) hl.1 ⟨Nat.le_of_ble_eq_true rfl, Nat.le_of_ble_eq_true rfl⟩ ⟨Nat.le_of_ble_eq_true rfl, Nat.le_of_ble_eq_true rfl⟩ dL_law_742 (fun H locs hJ => ?_)
      refine lv_aload_n hx hb dL_law_745 rfl (lv_at hl 2 rfl) ?_
      refine lv_aload_n hx hb dL_law_746 rfl (lv_at hl 0 rfl) ?_
      refine lv_iload_n hx hb dL_law_747 rfl (lv_at hl 3 rfl) ?_
      refine lv_iconst (v := 1) hx hb dL_law_748 (by decide) ?_
      refine lv_iadd hx hb dL_law_749 ?_
      refine lw_sld X hJ hX hbl hbA hv1 hb1.symm dL_law_750 ?_
      refine lv_aload_n hx hb dL_law_751 rfl (lv_at hl 0 rfl) ?_
      refine lv_iload_n hx hb dL_law_752 rfl (lv_at hl 3 rfl) ?_
      refine lv_iconst (v := 2) hx hb dL_law_753 (by decide) ?_
      refine lv_iadd hx hb dL_law_754 ?_
      refine lw_sld X hJ hX hbl hbA hv2 hb2.symm dL_law_755 ?_
      refine lwM_l X hJ (As := [.int b1, .int b2]) (rest := [.long r]) lk_RL_83 (cM_told hFM h2) rfl rfl (Nat.le_of_ble_eq_true rfl) hl.1 ⟨Nat.le_of_ble_eq_true rfl, Nat.le_of_ble_eq_true rfl⟩ ⟨Nat.le_of_ble_eq_true rfl, Nat.le_of_ble_eq_true rfl⟩ dL_law_756 (fun H locs hJ => ?_)
      refine W.lcmp hx hb dL_law_759 ?_
      refine lv_if_eq (tgt := 1356) hx hb dL_law_760 (by decide) (fun _ => ?_) (fun h => absurd (lw_cmp r) h)
      exact next σ1 τ1 _ _ _ hRel1 hJ hl
    by_cases s15 : sw = (15 : Int32)
    · refine lv_tableIn (off := 732) (tgt := 765) hx hb dL_law_33 (by rw [s15]; decide) (by rw [s15]; decide) (by rw [s15]; rfl) (by decide) ?_
      obtain ⟨σ1, τ1, r, h1, h2, hRel1⟩ := e_offside hRel
      refine lv_aload_n hx hb dL_law_765 rfl (lv_at hl 1 rfl) ?_
      refine lwC_i X hJ (As := []) (rest := []) lk_RL_84 (cC_offside hFC h1) rfl rfl (Nat.le_of_ble_eq_true rfl) hl.1 ⟨Nat.le_of_ble_eq_true rfl, Nat.le_of_ble_eq_true rfl⟩ ⟨Nat.le_of_ble_eq_true rfl, Nat.le_of_ble_eq_true rfl⟩ dL_law_766 (fun H locs hJ => ?_)
      refine lv_aload_n hx hb dL_law_769 rfl (lv_at hl 2 rfl) ?_
      refine lwM_i X hJ (As := []) (rest := [.int r]) lk_RL_87 (cM_offside hFM h2) rfl rfl (Nat.le_of_ble_eq_true rfl) hl.1 ⟨Nat.le_of_ble_eq_true rfl, Nat.le_of_ble_eq_true rfl⟩ ⟨Nat.le_of_ble_eq_true rfl, Nat.le_of_ble_eq_true rfl⟩ dL_law_770 (fun H locs hJ => ?_)
      refine lv_icmp_eq (tgt := 1356) hx hb dL_law_773 (by decide) (fun _ => ?_) (fun h => absurd rfl h)
      exact next σ1 τ1 _ _ _ hRel1 hJ hl
    by_cases s16 : sw = (16 : Int32)
    · refine lv_tableIn (off := 745) (tgt := 778) hx hb dL_law_33 (by rw [s16]; decide) (by rw [s16]; decide) (by rw [s16]; rfl) (by decide) ?_
      obtain ⟨σ1, τ1, r, h1, h2, hRel1⟩ := e_wrong hRel b1 b2 b3 b4
      refine lv_aload_n hx hb dL_law_778 rfl (lv_at hl 1 rfl) ?_
      refine lv_aload_n hx hb dL_law_779 rfl (lv_at hl 0 rfl) ?_
      refine lv_iload_n hx hb dL_law_780 rfl (lv_at hl 3 rfl) ?_
      refine lv_iconst (v := 1) hx hb dL_law_781 (by decide) ?_
      refine lv_iadd hx hb dL_law_782 ?_
      refine lw_sld X hJ hX hbl hbA hv1 hb1.symm dL_law_783 ?_
      refine lv_aload_n hx hb dL_law_784 rfl (lv_at hl 0 rfl) ?_
      refine lv_iload_n hx hb dL_law_785 rfl (lv_at hl 3 rfl) ?_
      refine lv_iconst (v := 2) hx hb dL_law_786 (by decide) ?_
      refine lv_iadd hx hb dL_law_787 ?_
      refine lw_sld X hJ hX hbl hbA hv2 hb2.symm dL_law_788 ?_
      refine lv_aload_n hx hb dL_law_789 rfl (lv_at hl 0 rfl) ?_
      refine lv_iload_n hx hb dL_law_790 rfl (lv_at hl 3 rfl) ?_
      refine lv_iconst (v := 3) hx hb dL_law_791 (by decide) ?_
      refine lv_iadd hx hb dL_law_792 ?_
      refine lw_sld X hJ hX hbl hbA hv3 hb3.symm dL_law_793 ?_
      refine lv_aload_n hx hb dL_law_794 rfl (lv_at hl 0 rfl) ?_
      refine lv_iload_n hx hb dL_law_795 rfl (lv_at hl 3 rfl) ?_
      refine lv_iconst (v := 4) hx hb dL_law_796 (by decide) ?_
      refine lv_iadd hx hb dL_law_797 ?_
      refine lw_sld X hJ hX hbl hbA hv4 hb4.symm dL_law_798 ?_
      refine lwC_i X hJ (As := [.int b1, .int b2, .int b3, .int b4]) (rest := []) lk_RL_88 (cC_wrong hFC h1) rfl rfl (Nat.le_of_ble_eq_true rfl) hl.1 ⟨Nat.le_of_ble_eq_true rfl, Nat.le_of_ble_eq_true rfl⟩ ⟨Nat.le_of_ble_eq_true rfl, Nat.le_of_ble_eq_true rfl⟩ dL_law_799 (fun H locs hJ => ?_)
      refine lv_aload_n hx hb dL_law_802 rfl (lv_at hl 2 rfl) ?_
      refine lv_aload_n hx hb dL_law_803 rfl (lv_at hl 0 rfl) ?_
      refine lv_iload_n hx hb dL_law_804 rfl (lv_at hl 3 rfl) ?_
      refine lv_iconst (v := 1) hx hb dL_law_805 (by decide) ?_
      refine lv_iadd hx hb dL_law_806 ?_
      refine lw_sld X hJ hX hbl hbA hv1 hb1.symm dL_law_807 ?_
      refine lv_aload_n hx hb dL_law_808 rfl (lv_at hl 0 rfl) ?_
      refine lv_iload_n hx hb dL_law_809 rfl (lv_at hl 3 rfl) ?_
      refine lv_iconst (v := 2) hx hb dL_law_810 (by decide) ?_
      refine lv_iadd hx hb dL_law_811 ?_
      refine lw_sld X hJ hX hbl hbA hv2 hb2.symm dL_law_812 ?_
      refine lv_aload_n hx hb dL_law_813 rfl (lv_at hl 0 rfl) ?_
      refine lv_iload_n hx hb dL_law_814 rfl (lv_at hl 3 rfl) ?_
      refine lv_iconst (v := 3) hx hb dL_law_815 (by decide) ?_
      refine lv_iadd hx hb dL_law_816 ?_
      refine lw_sld X hJ hX hbl hbA hv3 hb3.symm dL_law_817 ?_
      refine lv_aload_n hx hb dL_law_818 rfl (lv_at hl 0 rfl) ?_
      refine lv_iload_n hx hb dL_law_819 rfl (lv_at hl 3 rfl) ?_
      refine lv_iconst (v := 4) hx hb dL_law_820 (by decide) ?_
      refine lv_iadd hx hb dL_law_821 ?_
      refine lw_sld X hJ hX hbl hbA hv4 hb4.symm dL_law_822 ?_
      refine lwM_i X hJ (As := [.int b1, .int b2, .int b3, .int b4]) (rest := [.int r]) lk_RL_92 (cM_wrong hFM h2) rfl rfl (Nat.le_of_ble_eq_true rfl) hl.1 ⟨Nat.le_of_ble_eq_true rfl, Nat.le_of_ble_eq_true rfl⟩ ⟨Nat.le_of_ble_eq_true rfl, Nat.le_of_ble_eq_true rfl⟩ dL_law_823 (fun H locs hJ => ?_)
      refine lv_icmp_eq (tgt := 1356) hx hb dL_law_826 (by decide) (fun _ => ?_) (fun h => absurd rfl h)
      exact next σ1 τ1 _ _ _ hRel1 hJ hl
    by_cases s17 : sw = (17 : Int32)
    · refine lv_tableIn (off := 798) (tgt := 831) hx hb dL_law_33 (by rw [s17]; decide) (by rw [s17]; decide) (by rw [s17]; rfl) (by decide) ?_
      obtain ⟨σ1, τ1, r, h1, h2, hRel1⟩ := e_best hRel b1 b2 b3
      refine lv_aload_n hx hb dL_law_831 rfl (lv_at hl 1 rfl) ?_
      refine lv_aload_n hx hb dL_law_832 rfl (lv_at hl 0 rfl) ?_
      refine lv_iload_n hx hb dL_law_833 rfl (lv_at hl 3 rfl) ?_
      refine lv_iconst (v := 1) hx hb dL_law_834 (by decide) ?_
      refine lv_iadd hx hb dL_law_835 ?_
      refine lw_sld X hJ hX hbl hbA hv1 hb1.symm dL_law_836 ?_
      refine lv_aload_n hx hb dL_law_837 rfl (lv_at hl 0 rfl) ?_
      refine lv_iload_n hx hb dL_law_838 rfl (lv_at hl 3 rfl) ?_
      refine lv_iconst (v := 2) hx hb dL_law_839 (by decide) ?_
      refine lv_iadd hx hb dL_law_840 ?_
      refine lw_sld X hJ hX hbl hbA hv2 hb2.symm dL_law_841 ?_
      refine lv_aload_n hx hb dL_law_842 rfl (lv_at hl 0 rfl) ?_
      refine lv_iload_n hx hb dL_law_843 rfl (lv_at hl 3 rfl) ?_
      refine lv_iconst (v := 3) hx hb dL_law_844 (by decide) ?_
      refine lv_iadd hx hb dL_law_845 ?_
      refine lw_sld X hJ hX hbl hbA hv3 hb3.symm dL_law_846 ?_
      refine lwC_i X hJ (As := [.int b1, .int b2, .int b3]) (rest := []) lk_RL_93 (cC_best hFC h1) rfl rfl (Nat.le_of_ble_eq_true rfl) hl.1 ⟨Nat.le_of_ble_eq_true rfl, Nat.le_of_ble_eq_true rfl⟩ ⟨Nat.le_of_ble_eq_true rfl, Nat.le_of_ble_eq_true rfl⟩ dL_law_847 (fun H locs hJ => ?_)
      refine lv_aload_n hx hb dL_law_850 rfl (lv_at hl 2 rfl) ?_
      refine lv_aload_n hx hb dL_law_851 rfl (lv_at hl 0 rfl) ?_
      refine lv_iload_n hx hb dL_law_852 rfl (lv_at hl 3 rfl) ?_
      refine lv_iconst (v := 1) hx hb dL_law_853 (by decide) ?_
      refine lv_iadd hx hb dL_law_854 ?_
      refine lw_sld X hJ hX hbl hbA hv1 hb1.symm dL_law_855 ?_
      refine lv_aload_n hx hb dL_law_856 rfl (lv_at hl 0 rfl) ?_
      refine lv_iload_n hx hb dL_law_857 rfl (lv_at hl 3 rfl) ?_
      refine lv_iconst (v := 2) hx hb dL_law_858 (by decide) ?_
      refine lv_iadd hx hb dL_law_859 ?_
      refine lw_sld X hJ hX hbl hbA hv2 hb2.symm dL_law_860 ?_
      refine lv_aload_n hx hb dL_law_861 rfl (lv_at hl 0 rfl) ?_
      refine lv_iload_n hx hb dL_law_862 rfl (lv_at hl 3 rfl) ?_
      refine lv_iconst (v := 3) hx hb dL_law_863 (by decide) ?_
      refine lv_iadd hx hb dL_law_864 ?_
      refine lw_sld X hJ hX hbl hbA hv3 hb3.symm dL_law_865 ?_
      refine lwM_i X hJ (As := [.int b1, .int b2, .int b3]) (rest := [.int r]) lk_RL_96 (cM_best hFM h2) rfl rfl (Nat.le_of_ble_eq_true rfl) hl.1 ⟨Nat.le_of_ble_eq_true rfl, Nat.le_of_ble_eq_true rfl⟩ ⟨Nat.le_of_ble_eq_true rfl, Nat.le_of_ble_eq_true rfl⟩ dL_law_866 (fun H locs hJ => ?_)
      refine lv_icmp_eq (tgt := 1356) hx hb dL_law_869 (by decide) (fun _ => ?_) (fun h => absurd rfl h)
      exact next σ1 τ1 _ _ _ hRel1 hJ hl
    by_cases s18 : sw = (18 : Int32)
    · refine lv_tableIn (off := 841) (tgt := 874) hx hb dL_law_33 (by rw [s18]; decide) (by rw [s18]; decide) (by rw [s18]; rfl) (by decide) ?_
      obtain ⟨σ1, τ1, r, h1, h2, hRel1⟩ := e_match hRel b1 b2 b3
      refine lv_aload_n hx hb dL_law_874 rfl (lv_at hl 1 rfl) ?_
      refine lv_aload_n hx hb dL_law_875 rfl (lv_at hl 0 rfl) ?_
      refine lv_iload_n hx hb dL_law_876 rfl (lv_at hl 3 rfl) ?_
      refine lv_iconst (v := 1) hx hb dL_law_877 (by decide) ?_
      refine lv_iadd hx hb dL_law_878 ?_
      refine lw_sld X hJ hX hbl hbA hv1 hb1.symm dL_law_879 ?_
      refine lv_aload_n hx hb dL_law_880 rfl (lv_at hl 0 rfl) ?_
      refine lv_iload_n hx hb dL_law_881 rfl (lv_at hl 3 rfl) ?_
      refine lv_iconst (v := 2) hx hb dL_law_882 (by decide) ?_
      refine lv_iadd hx hb dL_law_883 ?_
      refine lw_sld X hJ hX hbl hbA hv2 hb2.symm dL_law_884 ?_
      refine lv_aload_n hx hb dL_law_885 rfl (lv_at hl 0 rfl) ?_
      refine lv_iload_n hx hb dL_law_886 rfl (lv_at hl 3 rfl) ?_
      refine lv_iconst (v := 3) hx hb dL_law_887 (by decide) ?_
      refine lv_iadd hx hb dL_law_888 ?_
      refine lw_sld X hJ hX hbl hbA hv3 hb3.symm dL_law_889 ?_
      refine lwC_i X hJ (As := [.int b1, .int b2, .int b3]) (rest := []) lk_RL_97 (cC_match hFC h1) rfl rfl (Nat.le_of_ble_eq_true rfl) hl.1 ⟨Nat.le_of_ble_eq_true rfl, Nat.le_of_ble_eq_true rfl⟩ ⟨Nat.le_of_ble_eq_true rfl, Nat.le_of_ble_eq_true rfl⟩ dL_law_890 (fun H locs hJ => ?_)
      refine lv_aload_n hx hb dL_law_893 rfl (lv_at hl 2 rfl) ?_
      refine lv_aload_n hx hb dL_law_894 rfl (lv_at hl 0 rfl) ?_
      refine lv_iload_n hx hb dL_law_895 rfl (lv_at hl 3 rfl) ?_
      refine lv_iconst (v := 1) hx hb dL_law_896 (by decide) ?_
      refine lv_iadd hx hb dL_law_897 ?_
      refine lw_sld X hJ hX hbl hbA hv1 hb1.symm dL_law_898 ?_
      refine lv_aload_n hx hb dL_law_899 rfl (lv_at hl 0 rfl) ?_
      refine lv_iload_n hx hb dL_law_900 rfl (lv_at hl 3 rfl) ?_
      refine lv_iconst (v := 2) hx hb dL_law_901 (by decide) ?_
      refine lv_iadd hx hb dL_law_902 ?_
      refine lw_sld X hJ hX hbl hbA hv2 hb2.symm dL_law_903 ?_
      refine lv_aload_n hx hb dL_law_904 rfl (lv_at hl 0 rfl) ?_
      refine lv_iload_n hx hb dL_law_905 rfl (lv_at hl 3 rfl) ?_
      refine lv_iconst (v := 3) hx hb dL_law_906 (by decide) ?_
      refine lv_iadd hx hb dL_law_907 ?_
      refine lw_sld X hJ hX hbl hbA hv3 hb3.symm dL_law_908 ?_
      refine lwM_i X hJ (As := [.int b1, .int b2, .int b3]) (rest := [.int r]) lk_RL_100 (cM_match hFM h2) rfl rfl (Nat.le_of_ble_eq_true rfl) hl.1 ⟨Nat.le_of_ble_eq_true rfl, Nat.le_of_ble_eq_true rfl⟩ ⟨Nat.le_of_ble_eq_true rfl, Nat.le_of_ble_eq_true rfl⟩ dL_law_909 (fun H locs hJ => ?_)
      refine lv_icmp_eq (tgt := 1356) hx hb dL_law_912 (by decide) (fun _ => ?_) (fun h => absurd rfl h)
      exact next σ1 τ1 _ _ _ hRel1 hJ hl
    by_cases s19 : sw = (19 : Int32)
    · refine lv_tableIn (off := 884) (tgt := 917) hx hb dL_law_33 (by rw [s19]; decide) (by rw [s19]; decide) (by rw [s19]; rfl) (by decide) ?_
      obtain ⟨σ1, τ1, r, h1, h2, hRel1⟩ := e_table hRel b1 b2 b3
      refine lv_aload_n hx hb dL_law_917 rfl (lv_at hl 1 rfl) ?_
      refine lv_aload_n hx hb dL_law_918 rfl (lv_at hl 0 rfl) ?_
      refine lv_iload_n hx hb dL_law_919 rfl (lv_at hl 3 rfl) ?_
      refine lv_iconst (v := 1) hx hb dL_law_920 (by decide) ?_
      refine lv_iadd hx hb dL_law_921 ?_
      refine lw_sld X hJ hX hbl hbA hv1 hb1.symm dL_law_922 ?_
      refine lv_aload_n hx hb dL_law_923 rfl (lv_at hl 0 rfl) ?_
      refine lv_iload_n hx hb dL_law_924 rfl (lv_at hl 3 rfl) ?_
      refine lv_iconst (v := 2) hx hb dL_law_925 (by decide) ?_
      refine lv_iadd hx hb dL_law_926 ?_
      refine lw_sld X hJ hX hbl hbA hv2 hb2.symm dL_law_927 ?_
      refine lv_aload_n hx hb dL_law_928 rfl (lv_at hl 0 rfl) ?_
      refine lv_iload_n hx hb dL_law_929 rfl (lv_at hl 3 rfl) ?_
      refine lv_iconst (v := 3) hx hb dL_law_930 (by decide) ?_
      refine lv_iadd hx hb dL_law_931 ?_
      refine lw_sld X hJ hX hbl hbA hv3 hb3.symm dL_law_932 ?_
      refine lwC_i X hJ (As := [.int b1, .int b2, .int b3]) (rest := []) lk_RL_101 (cC_table hFC h1) rfl rfl (Nat.le_of_ble_eq_true rfl) hl.1 ⟨Nat.le_of_ble_eq_true rfl, Nat.le_of_ble_eq_true rfl⟩ ⟨Nat.le_of_ble_eq_true rfl, Nat.le_of_ble_eq_true rfl⟩ dL_law_933 (fun H locs hJ => ?_)
      refine lv_aload_n hx hb dL_law_936 rfl (lv_at hl 2 rfl) ?_
      refine lv_aload_n hx hb dL_law_937 rfl (lv_at hl 0 rfl) ?_
      refine lv_iload_n hx hb dL_law_938 rfl (lv_at hl 3 rfl) ?_
      refine lv_iconst (v := 1) hx hb dL_law_939 (by decide) ?_
      refine lv_iadd hx hb dL_law_940 ?_
      refine lw_sld X hJ hX hbl hbA hv1 hb1.symm dL_law_941 ?_
      refine lv_aload_n hx hb dL_law_942 rfl (lv_at hl 0 rfl) ?_
      refine lv_iload_n hx hb dL_law_943 rfl (lv_at hl 3 rfl) ?_
      refine lv_iconst (v := 2) hx hb dL_law_944 (by decide) ?_
      refine lv_iadd hx hb dL_law_945 ?_
      refine lw_sld X hJ hX hbl hbA hv2 hb2.symm dL_law_946 ?_
      refine lv_aload_n hx hb dL_law_947 rfl (lv_at hl 0 rfl) ?_
      refine lv_iload_n hx hb dL_law_948 rfl (lv_at hl 3 rfl) ?_
      refine lv_iconst (v := 3) hx hb dL_law_949 (by decide) ?_
      refine lv_iadd hx hb dL_law_950 ?_
      refine lw_sld X hJ hX hbl hbA hv3 hb3.symm dL_law_951 ?_
      refine lwM_i X hJ (As := [.int b1, .int b2, .int b3]) (rest := [.int r]) lk_RL_104 (cM_table hFM h2) rfl rfl (Nat.le_of_ble_eq_true rfl) hl.1 ⟨Nat.le_of_ble_eq_true rfl, Nat.le_of_ble_eq_true rfl⟩ ⟨Nat.le_of_ble_eq_true rfl, Nat.le_of_ble_eq_true rfl⟩ dL_law_952 (fun H locs hJ => ?_)
      refine lv_icmp_eq (tgt := 1356) hx hb dL_law_955 (by decide) (fun _ => ?_) (fun h => absurd rfl h)
      exact next σ1 τ1 _ _ _ hRel1 hJ hl
    by_cases s20 : sw = (20 : Int32)
    · refine lv_tableIn (off := 927) (tgt := 960) hx hb dL_law_33 (by rw [s20]; decide) (by rw [s20]; decide) (by rw [s20]; rfl) (by decide) ?_
      obtain ⟨σ1, τ1, r, h1, h2, hRel1⟩ := e_season hRel b1
      refine lv_aload_n hx hb dL_law_960 rfl (lv_at hl 1 rfl) ?_
      refine lv_aload_n hx hb dL_law_961 rfl (lv_at hl 0 rfl) ?_
      refine lv_iload_n hx hb dL_law_962 rfl (lv_at hl 3 rfl) ?_
      refine lv_iconst (v := 1) hx hb dL_law_963 (by decide) ?_
      refine lv_iadd hx hb dL_law_964 ?_
      refine lw_sld X hJ hX hbl hbA hv1 hb1.symm dL_law_965 ?_
      refine lwC_i X hJ (As := [.int b1]) (rest := []) lk_RL_105 (cC_season hFC h1) rfl rfl (Nat.le_of_ble_eq_true rfl) hl.1 ⟨Nat.le_of_ble_eq_true rfl, Nat.le_of_ble_eq_true rfl⟩ ⟨Nat.le_of_ble_eq_true rfl, Nat.le_of_ble_eq_true rfl⟩ dL_law_966 (fun H locs hJ => ?_)
      refine lv_aload_n hx hb dL_law_969 rfl (lv_at hl 2 rfl) ?_
      refine lv_aload_n hx hb dL_law_970 rfl (lv_at hl 0 rfl) ?_
      refine lv_iload_n hx hb dL_law_971 rfl (lv_at hl 3 rfl) ?_
      refine lv_iconst (v := 1) hx hb dL_law_972 (by decide) ?_
      refine lv_iadd hx hb dL_law_973 ?_
      refine lw_sld X hJ hX hbl hbA hv1 hb1.symm dL_law_974 ?_
      refine lwM_i X hJ (As := [.int b1]) (rest := [.int r]) lk_RL_108 (cM_season hFM h2) rfl rfl (Nat.le_of_ble_eq_true rfl) hl.1 ⟨Nat.le_of_ble_eq_true rfl, Nat.le_of_ble_eq_true rfl⟩ ⟨Nat.le_of_ble_eq_true rfl, Nat.le_of_ble_eq_true rfl⟩ dL_law_975 (fun H locs hJ => ?_)
      refine lv_icmp_eq (tgt := 1356) hx hb dL_law_978 (by decide) (fun _ => ?_) (fun h => absurd rfl h)
      exact next σ1 τ1 _ _ _ hRel1 hJ hl
    by_cases s21 : sw = (21 : Int32)
    · refine lv_tableIn (off := 950) (tgt := 983) hx hb dL_law_33 (by rw [s21]; decide) (by rw [s21]; decide) (by rw [s21]; rfl) (by decide) ?_
      obtain ⟨σ1, τ1, r, h1, h2, hRel1⟩ := e_stand hRel b1 b2 b3
      refine lv_aload_n hx hb dL_law_983 rfl (lv_at hl 1 rfl) ?_
      refine lv_aload_n hx hb dL_law_984 rfl (lv_at hl 0 rfl) ?_
      refine lv_iload_n hx hb dL_law_985 rfl (lv_at hl 3 rfl) ?_
      refine lv_iconst (v := 1) hx hb dL_law_986 (by decide) ?_
      refine lv_iadd hx hb dL_law_987 ?_
      refine lw_sld X hJ hX hbl hbA hv1 hb1.symm dL_law_988 ?_
      refine lv_aload_n hx hb dL_law_989 rfl (lv_at hl 0 rfl) ?_
      refine lv_iload_n hx hb dL_law_990 rfl (lv_at hl 3 rfl) ?_
      refine lv_iconst (v := 2) hx hb dL_law_991 (by decide) ?_
      refine lv_iadd hx hb dL_law_992 ?_
      refine lw_sld X hJ hX hbl hbA hv2 hb2.symm dL_law_993 ?_
      refine lv_aload_n hx hb dL_law_994 rfl (lv_at hl 0 rfl) ?_
      refine lv_iload_n hx hb dL_law_995 rfl (lv_at hl 3 rfl) ?_
      refine lv_iconst (v := 3) hx hb dL_law_996 (by decide) ?_
      refine lv_iadd hx hb dL_law_997 ?_
      refine lw_sld X hJ hX hbl hbA hv3 hb3.symm dL_law_998 ?_
      refine lwC_i X hJ (As := [.int b1, .int b2, .int b3]) (rest := []) lk_RL_109 (cC_stand hFC h1) rfl rfl (Nat.le_of_ble_eq_true rfl) hl.1 ⟨Nat.le_of_ble_eq_true rfl, Nat.le_of_ble_eq_true rfl⟩ ⟨Nat.le_of_ble_eq_true rfl, Nat.le_of_ble_eq_true rfl⟩ dL_law_999 (fun H locs hJ => ?_)
      refine lv_aload_n hx hb dL_law_1002 rfl (lv_at hl 2 rfl) ?_
      refine lv_aload_n hx hb dL_law_1003 rfl (lv_at hl 0 rfl) ?_
      refine lv_iload_n hx hb dL_law_1004 rfl (lv_at hl 3 rfl) ?_
      refine lv_iconst (v := 1) hx hb dL_law_1005 (by decide) ?_
      refine lv_iadd hx hb dL_law_1006 ?_
      refine lw_sld X hJ hX hbl hbA hv1 hb1.symm dL_law_1007 ?_
      refine lv_aload_n hx hb dL_law_1008 rfl (lv_at hl 0 rfl) ?_
      refine lv_iload_n hx hb dL_law_1009 rfl (lv_at hl 3 rfl) ?_
      refine lv_iconst (v := 2) hx hb dL_law_1010 (by decide) ?_
      refine lv_iadd hx hb dL_law_1011 ?_
      refine lw_sld X hJ hX hbl hbA hv2 hb2.symm dL_law_1012 ?_
      refine lv_aload_n hx hb dL_law_1013 rfl (lv_at hl 0 rfl) ?_
      refine lv_iload_n hx hb dL_law_1014 rfl (lv_at hl 3 rfl) ?_
      refine lv_iconst (v := 3) hx hb dL_law_1015 (by decide) ?_
      refine lv_iadd hx hb dL_law_1016 ?_
      refine lw_sld X hJ hX hbl hbA hv3 hb3.symm dL_law_1017 ?_
      refine lwM_i X hJ (As := [.int b1, .int b2, .int b3]) (rest := [.int r]) lk_RL_112 (cM_stand hFM h2) rfl rfl (Nat.le_of_ble_eq_true rfl) hl.1 ⟨Nat.le_of_ble_eq_true rfl, Nat.le_of_ble_eq_true rfl⟩ ⟨Nat.le_of_ble_eq_true rfl, Nat.le_of_ble_eq_true rfl⟩ dL_law_1018 (fun H locs hJ => ?_)
      refine lv_icmp_eq (tgt := 1356) hx hb dL_law_1021 (by decide) (fun _ => ?_) (fun h => absurd rfl h)
      exact next σ1 τ1 _ _ _ hRel1 hJ hl
    by_cases s22 : sw = (22 : Int32)
    · refine lv_tableIn (off := 993) (tgt := 1026) hx hb dL_law_33 (by rw [s22]; decide) (by rw [s22]; decide) (by rw [s22]; rfl) (by decide) ?_
      obtain ⟨σ1, τ1, r, h1, h2, hRel1⟩ := e_shown hRel b1 b2
      refine lv_aload_n hx hb dL_law_1026 rfl (lv_at hl 1 rfl) ?_
      refine lv_aload_n hx hb dL_law_1027 rfl (lv_at hl 0 rfl) ?_
      refine lv_iload_n hx hb dL_law_1028 rfl (lv_at hl 3 rfl) ?_
      refine lv_iconst (v := 1) hx hb dL_law_1029 (by decide) ?_
      refine lv_iadd hx hb dL_law_1030 ?_
      refine lw_sld X hJ hX hbl hbA hv1 hb1.symm dL_law_1031 ?_
      refine lv_aload_n hx hb dL_law_1032 rfl (lv_at hl 0 rfl) ?_
      refine lv_iload_n hx hb dL_law_1033 rfl (lv_at hl 3 rfl) ?_
      refine lv_iconst (v := 2) hx hb dL_law_1034 (by decide) ?_
      refine lv_iadd hx hb dL_law_1035 ?_
      refine lw_sld X hJ hX hbl hbA hv2 hb2.symm dL_law_1036 ?_
      refine lwC_i X hJ (As := [.int b1, .int b2]) (rest := []) lk_RL_113 (cC_shown hFC h1) rfl rfl (Nat.le_of_ble_eq_true rfl) hl.1 ⟨Nat.le_of_ble_eq_true rfl, Nat.le_of_ble_eq_true rfl⟩ ⟨Nat.le_of_ble_eq_true rfl, Nat.le_of_ble_eq_true rfl⟩ dL_law_1037 (fun H locs hJ => ?_)
      refine lv_aload_n hx hb dL_law_1040 rfl (lv_at hl 2 rfl) ?_
      refine lv_aload_n hx hb dL_law_1041 rfl (lv_at hl 0 rfl) ?_
      refine lv_iload_n hx hb dL_law_1042 rfl (lv_at hl 3 rfl) ?_
      refine lv_iconst (v := 1) hx hb dL_law_1043 (by decide) ?_
      refine lv_iadd hx hb dL_law_1044 ?_
      refine lw_sld X hJ hX hbl hbA hv1 hb1.symm dL_law_1045 ?_
      refine lv_aload_n hx hb dL_law_1046 rfl (lv_at hl 0 rfl) ?_
      refine lv_iload_n hx hb dL_law_1047 rfl (lv_at hl 3 rfl) ?_
      refine lv_iconst (v := 2) hx hb dL_law_1048 (by decide) ?_
      refine lv_iadd hx hb dL_law_1049 ?_
      refine lw_sld X hJ hX hbl hbA hv2 hb2.symm dL_law_1050 ?_
      refine lwM_i X hJ (As := [.int b1, .int b2]) (rest := [.int r]) lk_RL_116 (cM_shown hFM h2) rfl rfl (Nat.le_of_ble_eq_true rfl) hl.1 ⟨Nat.le_of_ble_eq_true rfl, Nat.le_of_ble_eq_true rfl⟩ ⟨Nat.le_of_ble_eq_true rfl, Nat.le_of_ble_eq_true rfl⟩ dL_law_1051 (fun H locs hJ => ?_)
      refine lv_icmp_eq (tgt := 1356) hx hb dL_law_1054 (by decide) (fun _ => ?_) (fun h => absurd rfl h)
      exact next σ1 τ1 _ _ _ hRel1 hJ hl
    by_cases s23 : sw = (23 : Int32)
    · refine lv_tableIn (off := 1026) (tgt := 1059) hx hb dL_law_33 (by rw [s23]; decide) (by rw [s23]; decide) (by rw [s23]; rfl) (by decide) ?_
      obtain ⟨σ1, τ1, r, h1, h2, hRel1⟩ := e_split hRel
      refine lv_aload_n hx hb dL_law_1059 rfl (lv_at hl 1 rfl) ?_
      refine lwC_i X hJ (As := []) (rest := []) lk_RL_117 (cC_split hFC h1) rfl rfl (Nat.le_of_ble_eq_true rfl) hl.1 ⟨Nat.le_of_ble_eq_true rfl, Nat.le_of_ble_eq_true rfl⟩ ⟨Nat.le_of_ble_eq_true rfl, Nat.le_of_ble_eq_true rfl⟩ dL_law_1060 (fun H locs hJ => ?_)
      refine lv_aload_n hx hb dL_law_1063 rfl (lv_at hl 2 rfl) ?_
      refine lwM_i X hJ (As := []) (rest := [.int r]) lk_RL_120 (cM_split hFM h2) rfl rfl (Nat.le_of_ble_eq_true rfl) hl.1 ⟨Nat.le_of_ble_eq_true rfl, Nat.le_of_ble_eq_true rfl⟩ ⟨Nat.le_of_ble_eq_true rfl, Nat.le_of_ble_eq_true rfl⟩ dL_law_1064 (fun H locs hJ => ?_)
      refine lv_icmp_eq (tgt := 1356) hx hb dL_law_1067 (by decide) (fun _ => ?_) (fun h => absurd rfl h)
      exact next σ1 τ1 _ _ _ hRel1 hJ hl
    by_cases s24 : sw = (24 : Int32)
    · refine lv_tableIn (off := 1039) (tgt := 1072) hx hb dL_law_33 (by rw [s24]; decide) (by rw [s24]; decide) (by rw [s24]; rfl) (by decide) ?_
      obtain ⟨σ1, τ1, r, h1, h2, hRel1⟩ := e_image hRel
      refine lv_aload_n hx hb dL_law_1072 rfl (lv_at hl 1 rfl) ?_
      refine lwC_i X hJ (As := []) (rest := []) lk_RL_121 (cC_image hFC h1) rfl rfl (Nat.le_of_ble_eq_true rfl) hl.1 ⟨Nat.le_of_ble_eq_true rfl, Nat.le_of_ble_eq_true rfl⟩ ⟨Nat.le_of_ble_eq_true rfl, Nat.le_of_ble_eq_true rfl⟩ dL_law_1073 (fun H locs hJ => ?_)
      refine lv_aload_n hx hb dL_law_1076 rfl (lv_at hl 2 rfl) ?_
      refine lwM_i X hJ (As := []) (rest := [.int r]) lk_RL_124 (cM_image hFM h2) rfl rfl (Nat.le_of_ble_eq_true rfl) hl.1 ⟨Nat.le_of_ble_eq_true rfl, Nat.le_of_ble_eq_true rfl⟩ ⟨Nat.le_of_ble_eq_true rfl, Nat.le_of_ble_eq_true rfl⟩ dL_law_1077 (fun H locs hJ => ?_)
      refine lv_icmp_eq (tgt := 1356) hx hb dL_law_1080 (by decide) (fun _ => ?_) (fun h => absurd rfl h)
      exact next σ1 τ1 _ _ _ hRel1 hJ hl
    by_cases s25 : sw = (25 : Int32)
    · refine lv_tableIn (off := 1052) (tgt := 1085) hx hb dL_law_33 (by rw [s25]; decide) (by rw [s25]; decide) (by rw [s25]; rfl) (by decide) ?_
      obtain ⟨σ1, τ1, r, h1, h2, hRel1⟩ := e_back hRel
      refine lv_aload_n hx hb dL_law_1085 rfl (lv_at hl 1 rfl) ?_
      refine lwC_i X hJ (As := []) (rest := []) lk_RL_125 (cC_back hFC h1) rfl rfl (Nat.le_of_ble_eq_true rfl) hl.1 ⟨Nat.le_of_ble_eq_true rfl, Nat.le_of_ble_eq_true rfl⟩ ⟨Nat.le_of_ble_eq_true rfl, Nat.le_of_ble_eq_true rfl⟩ dL_law_1086 (fun H locs hJ => ?_)
      refine lv_aload_n hx hb dL_law_1089 rfl (lv_at hl 2 rfl) ?_
      refine lwM_i X hJ (As := []) (rest := [.int r]) lk_RL_128 (cM_back hFM h2) rfl rfl (Nat.le_of_ble_eq_true rfl) hl.1 ⟨Nat.le_of_ble_eq_true rfl, Nat.le_of_ble_eq_true rfl⟩ ⟨Nat.le_of_ble_eq_true rfl, Nat.le_of_ble_eq_true rfl⟩ dL_law_1090 (fun H locs hJ => ?_)
      refine lv_icmp_eq (tgt := 1356) hx hb dL_law_1093 (by decide) (fun _ => ?_) (fun h => absurd rfl h)
      exact next σ1 τ1 _ _ _ hRel1 hJ hl
    by_cases s26 : sw = (26 : Int32)
    · refine lv_tableIn (off := 1065) (tgt := 1098) hx hb dL_law_33 (by rw [s26]; decide) (by rw [s26]; decide) (by rw [s26]; rfl) (by decide) ?_
      obtain ⟨σ1, τ1, r, h1, h2, hRel1⟩ := e_count hRel b1
      refine lv_aload_n hx hb dL_law_1098 rfl (lv_at hl 1 rfl) ?_
      refine lv_aload_n hx hb dL_law_1099 rfl (lv_at hl 0 rfl) ?_
      refine lv_iload_n hx hb dL_law_1100 rfl (lv_at hl 3 rfl) ?_
      refine lv_iconst (v := 1) hx hb dL_law_1101 (by decide) ?_
      refine lv_iadd hx hb dL_law_1102 ?_
      refine lw_sld X hJ hX hbl hbA hv1 hb1.symm dL_law_1103 ?_
      refine lwC_i X hJ (As := [.int b1]) (rest := []) lk_RL_129 (cC_count hFC h1) rfl rfl (Nat.le_of_ble_eq_true rfl) hl.1 ⟨Nat.le_of_ble_eq_true rfl, Nat.le_of_ble_eq_true rfl⟩ ⟨Nat.le_of_ble_eq_true rfl, Nat.le_of_ble_eq_true rfl⟩ dL_law_1104 (fun H locs hJ => ?_)
      refine lv_aload_n hx hb dL_law_1107 rfl (lv_at hl 2 rfl) ?_
      refine lv_aload_n hx hb dL_law_1108 rfl (lv_at hl 0 rfl) ?_
      refine lv_iload_n hx hb dL_law_1109 rfl (lv_at hl 3 rfl) ?_
      refine lv_iconst (v := 1) hx hb dL_law_1110 (by decide) ?_
      refine lv_iadd hx hb dL_law_1111 ?_
      refine lw_sld X hJ hX hbl hbA hv1 hb1.symm dL_law_1112 ?_
      refine lwM_i X hJ (As := [.int b1]) (rest := [.int r]) lk_RL_132 (cM_count hFM h2) rfl rfl (Nat.le_of_ble_eq_true rfl) hl.1 ⟨Nat.le_of_ble_eq_true rfl, Nat.le_of_ble_eq_true rfl⟩ ⟨Nat.le_of_ble_eq_true rfl, Nat.le_of_ble_eq_true rfl⟩ dL_law_1113 (fun H locs hJ => ?_)
      refine lv_icmp_eq (tgt := 1356) hx hb dL_law_1116 (by decide) (fun _ => ?_) (fun h => absurd rfl h)
      exact next σ1 τ1 _ _ _ hRel1 hJ hl
    by_cases s27 : sw = (27 : Int32)
    · refine lv_tableIn (off := 1088) (tgt := 1121) hx hb dL_law_33 (by rw [s27]; decide) (by rw [s27]; decide) (by rw [s27]; rfl) (by decide) ?_
      obtain ⟨σ1, τ1, r, h1, h2, hRel1⟩ := e_sheet hRel b1 b2 b3
      refine lv_aload_n hx hb dL_law_1121 rfl (lv_at hl 1 rfl) ?_
      refine lv_aload_n hx hb dL_law_1122 rfl (lv_at hl 0 rfl) ?_
      refine lv_iload_n hx hb dL_law_1123 rfl (lv_at hl 3 rfl) ?_
      refine lv_iconst (v := 1) hx hb dL_law_1124 (by decide) ?_
      refine lv_iadd hx hb dL_law_1125 ?_
      refine lw_sld X hJ hX hbl hbA hv1 hb1.symm dL_law_1126 ?_
      refine lv_aload_n hx hb dL_law_1127 rfl (lv_at hl 0 rfl) ?_
      refine lv_iload_n hx hb dL_law_1128 rfl (lv_at hl 3 rfl) ?_
      refine lv_iconst (v := 2) hx hb dL_law_1129 (by decide) ?_
      refine lv_iadd hx hb dL_law_1130 ?_
      refine lw_sld X hJ hX hbl hbA hv2 hb2.symm dL_law_1131 ?_
      refine lv_aload_n hx hb dL_law_1132 rfl (lv_at hl 0 rfl) ?_
      refine lv_iload_n hx hb dL_law_1133 rfl (lv_at hl 3 rfl) ?_
      refine lv_iconst (v := 3) hx hb dL_law_1134 (by decide) ?_
      refine lv_iadd hx hb dL_law_1135 ?_
      refine lw_sld X hJ hX hbl hbA hv3 hb3.symm dL_law_1136 ?_
      refine lwC_i X hJ (As := [.int b1, .int b2, .int b3]) (rest := []) lk_RL_133 (cC_sheet hFC h1) rfl rfl (Nat.le_of_ble_eq_true rfl) hl.1 ⟨Nat.le_of_ble_eq_true rfl, Nat.le_of_ble_eq_true rfl⟩ ⟨Nat.le_of_ble_eq_true rfl, Nat.le_of_ble_eq_true rfl⟩ dL_law_1137 (fun H locs hJ => ?_)
      refine lv_aload_n hx hb dL_law_1140 rfl (lv_at hl 2 rfl) ?_
      refine lv_aload_n hx hb dL_law_1141 rfl (lv_at hl 0 rfl) ?_
      refine lv_iload_n hx hb dL_law_1142 rfl (lv_at hl 3 rfl) ?_
      refine lv_iconst (v := 1) hx hb dL_law_1143 (by decide) ?_
      refine lv_iadd hx hb dL_law_1144 ?_
      refine lw_sld X hJ hX hbl hbA hv1 hb1.symm dL_law_1145 ?_
      refine lv_aload_n hx hb dL_law_1146 rfl (lv_at hl 0 rfl) ?_
      refine lv_iload_n hx hb dL_law_1147 rfl (lv_at hl 3 rfl) ?_
      refine lv_iconst (v := 2) hx hb dL_law_1148 (by decide) ?_
      refine lv_iadd hx hb dL_law_1149 ?_
      refine lw_sld X hJ hX hbl hbA hv2 hb2.symm dL_law_1150 ?_
      refine lv_aload_n hx hb dL_law_1151 rfl (lv_at hl 0 rfl) ?_
      refine lv_iload_n hx hb dL_law_1152 rfl (lv_at hl 3 rfl) ?_
      refine lv_iconst (v := 3) hx hb dL_law_1153 (by decide) ?_
      refine lv_iadd hx hb dL_law_1154 ?_
      refine lw_sld X hJ hX hbl hbA hv3 hb3.symm dL_law_1155 ?_
      refine lwM_i X hJ (As := [.int b1, .int b2, .int b3]) (rest := [.int r]) lk_RL_136 (cM_sheet hFM h2) rfl rfl (Nat.le_of_ble_eq_true rfl) hl.1 ⟨Nat.le_of_ble_eq_true rfl, Nat.le_of_ble_eq_true rfl⟩ ⟨Nat.le_of_ble_eq_true rfl, Nat.le_of_ble_eq_true rfl⟩ dL_law_1156 (fun H locs hJ => ?_)
      refine lv_icmp_eq (tgt := 1356) hx hb dL_law_1159 (by decide) (fun _ => ?_) (fun h => absurd rfl h)
      exact next σ1 τ1 _ _ _ hRel1 hJ hl
    by_cases s28 : sw = (28 : Int32)
    · refine lv_tableIn (off := 1131) (tgt := 1164) hx hb dL_law_33 (by rw [s28]; decide) (by rw [s28]; decide) (by rw [s28]; rfl) (by decide) ?_
      obtain ⟨σ1, τ1, r, h1, h2, hRel1⟩ := e_cell hRel b1 b2 b3
      refine lv_aload_n hx hb dL_law_1164 rfl (lv_at hl 1 rfl) ?_
      refine lv_aload_n hx hb dL_law_1165 rfl (lv_at hl 0 rfl) ?_
      refine lv_iload_n hx hb dL_law_1166 rfl (lv_at hl 3 rfl) ?_
      refine lv_iconst (v := 1) hx hb dL_law_1167 (by decide) ?_
      refine lv_iadd hx hb dL_law_1168 ?_
      refine lw_sld X hJ hX hbl hbA hv1 hb1.symm dL_law_1169 ?_
      refine lv_aload_n hx hb dL_law_1170 rfl (lv_at hl 0 rfl) ?_
      refine lv_iload_n hx hb dL_law_1171 rfl (lv_at hl 3 rfl) ?_
      refine lv_iconst (v := 2) hx hb dL_law_1172 (by decide) ?_
      refine lv_iadd hx hb dL_law_1173 ?_
      refine lw_sld X hJ hX hbl hbA hv2 hb2.symm dL_law_1174 ?_
      refine lv_aload_n hx hb dL_law_1175 rfl (lv_at hl 0 rfl) ?_
      refine lv_iload_n hx hb dL_law_1176 rfl (lv_at hl 3 rfl) ?_
      refine lv_iconst (v := 3) hx hb dL_law_1177 (by decide) ?_
      refine lv_iadd hx hb dL_law_1178 ?_
      refine lw_sld X hJ hX hbl hbA hv3 hb3.symm dL_law_1179 ?_
      refine lwC_i X hJ (As := [.int b1, .int b2, .int b3]) (rest := []) lk_RL_137 (cC_cell hFC h1) rfl rfl (Nat.le_of_ble_eq_true rfl) hl.1 ⟨Nat.le_of_ble_eq_true rfl, Nat.le_of_ble_eq_true rfl⟩ ⟨Nat.le_of_ble_eq_true rfl, Nat.le_of_ble_eq_true rfl⟩ dL_law_1180 (fun H locs hJ => ?_)
      refine lv_aload_n hx hb dL_law_1183 rfl (lv_at hl 2 rfl) ?_
      refine lv_aload_n hx hb dL_law_1184 rfl (lv_at hl 0 rfl) ?_
      refine lv_iload_n hx hb dL_law_1185 rfl (lv_at hl 3 rfl) ?_
      refine lv_iconst (v := 1) hx hb dL_law_1186 (by decide) ?_
      refine lv_iadd hx hb dL_law_1187 ?_
      refine lw_sld X hJ hX hbl hbA hv1 hb1.symm dL_law_1188 ?_
      refine lv_aload_n hx hb dL_law_1189 rfl (lv_at hl 0 rfl) ?_
      refine lv_iload_n hx hb dL_law_1190 rfl (lv_at hl 3 rfl) ?_
      refine lv_iconst (v := 2) hx hb dL_law_1191 (by decide) ?_
      refine lv_iadd hx hb dL_law_1192 ?_
      refine lw_sld X hJ hX hbl hbA hv2 hb2.symm dL_law_1193 ?_
      refine lv_aload_n hx hb dL_law_1194 rfl (lv_at hl 0 rfl) ?_
      refine lv_iload_n hx hb dL_law_1195 rfl (lv_at hl 3 rfl) ?_
      refine lv_iconst (v := 3) hx hb dL_law_1196 (by decide) ?_
      refine lv_iadd hx hb dL_law_1197 ?_
      refine lw_sld X hJ hX hbl hbA hv3 hb3.symm dL_law_1198 ?_
      refine lwM_i X hJ (As := [.int b1, .int b2, .int b3]) (rest := [.int r]) lk_RL_140 (cM_cell hFM h2) rfl rfl (Nat.le_of_ble_eq_true rfl) hl.1 ⟨Nat.le_of_ble_eq_true rfl, Nat.le_of_ble_eq_true rfl⟩ ⟨Nat.le_of_ble_eq_true rfl, Nat.le_of_ble_eq_true rfl⟩ dL_law_1199 (fun H locs hJ => ?_)
      refine lv_icmp_eq (tgt := 1356) hx hb dL_law_1202 (by decide) (fun _ => ?_) (fun h => absurd rfl h)
      exact next σ1 τ1 _ _ _ hRel1 hJ hl
    by_cases s29 : sw = (29 : Int32)
    · refine lv_tableIn (off := 1174) (tgt := 1207) hx hb dL_law_33 (by rw [s29]; decide) (by rw [s29]; decide) (by rw [s29]; rfl) (by decide) ?_
      obtain ⟨σ1, τ1, r, h1, h2, hRel1⟩ := e_copy hRel b1 b2 b3 b4 b5
      refine lv_aload_n hx hb dL_law_1207 rfl (lv_at hl 1 rfl) ?_
      refine lv_aload_n hx hb dL_law_1208 rfl (lv_at hl 0 rfl) ?_
      refine lv_iload_n hx hb dL_law_1209 rfl (lv_at hl 3 rfl) ?_
      refine lv_iconst (v := 1) hx hb dL_law_1210 (by decide) ?_
      refine lv_iadd hx hb dL_law_1211 ?_
      refine lw_sld X hJ hX hbl hbA hv1 hb1.symm dL_law_1212 ?_
      refine lv_aload_n hx hb dL_law_1213 rfl (lv_at hl 0 rfl) ?_
      refine lv_iload_n hx hb dL_law_1214 rfl (lv_at hl 3 rfl) ?_
      refine lv_iconst (v := 2) hx hb dL_law_1215 (by decide) ?_
      refine lv_iadd hx hb dL_law_1216 ?_
      refine lw_sld X hJ hX hbl hbA hv2 hb2.symm dL_law_1217 ?_
      refine lv_aload_n hx hb dL_law_1218 rfl (lv_at hl 0 rfl) ?_
      refine lv_iload_n hx hb dL_law_1219 rfl (lv_at hl 3 rfl) ?_
      refine lv_iconst (v := 3) hx hb dL_law_1220 (by decide) ?_
      refine lv_iadd hx hb dL_law_1221 ?_
      refine lw_sld X hJ hX hbl hbA hv3 hb3.symm dL_law_1222 ?_
      refine lv_aload_n hx hb dL_law_1223 rfl (lv_at hl 0 rfl) ?_
      refine lv_iload_n hx hb dL_law_1224 rfl (lv_at hl 3 rfl) ?_
      refine lv_iconst (v := 4) hx hb dL_law_1225 (by decide) ?_
      refine lv_iadd hx hb dL_law_1226 ?_
      refine lw_sld X hJ hX hbl hbA hv4 hb4.symm dL_law_1227 ?_
      refine lv_aload_n hx hb dL_law_1228 rfl (lv_at hl 0 rfl) ?_
      refine lv_iload_n hx hb dL_law_1229 rfl (lv_at hl 3 rfl) ?_
      refine lv_iconst (v := 5) hx hb dL_law_1230 (by decide) ?_
      refine lv_iadd hx hb dL_law_1231 ?_
      refine lw_sld X hJ hX hbl hbA hv5 hb5.symm dL_law_1232 ?_
      refine lwC_i X hJ (As := [.int b1, .int b2, .int b3, .int b4, .int b5]) (rest := []) lk_RL_141 (cC_copy hFC h1) rfl rfl (Nat.le_of_ble_eq_true rfl) hl.1 ⟨Nat.le_of_ble_eq_true rfl, Nat.le_of_ble_eq_true rfl⟩ ⟨Nat.le_of_ble_eq_true rfl, Nat.le_of_ble_eq_true rfl⟩ dL_law_1233 (fun H locs hJ => ?_)
      refine lv_aload_n hx hb dL_law_1236 rfl (lv_at hl 2 rfl) ?_
      refine lv_aload_n hx hb dL_law_1237 rfl (lv_at hl 0 rfl) ?_
      refine lv_iload_n hx hb dL_law_1238 rfl (lv_at hl 3 rfl) ?_
      refine lv_iconst (v := 1) hx hb dL_law_1239 (by decide) ?_
      refine lv_iadd hx hb dL_law_1240 ?_
      refine lw_sld X hJ hX hbl hbA hv1 hb1.symm dL_law_1241 ?_
      refine lv_aload_n hx hb dL_law_1242 rfl (lv_at hl 0 rfl) ?_
      refine lv_iload_n hx hb dL_law_1243 rfl (lv_at hl 3 rfl) ?_
      refine lv_iconst (v := 2) hx hb dL_law_1244 (by decide) ?_
      refine lv_iadd hx hb dL_law_1245 ?_
      refine lw_sld X hJ hX hbl hbA hv2 hb2.symm dL_law_1246 ?_
      refine lv_aload_n hx hb dL_law_1247 rfl (lv_at hl 0 rfl) ?_
      refine lv_iload_n hx hb dL_law_1248 rfl (lv_at hl 3 rfl) ?_
      refine lv_iconst (v := 3) hx hb dL_law_1249 (by decide) ?_
      refine lv_iadd hx hb dL_law_1250 ?_
      refine lw_sld X hJ hX hbl hbA hv3 hb3.symm dL_law_1251 ?_
      refine lv_aload_n hx hb dL_law_1252 rfl (lv_at hl 0 rfl) ?_
      refine lv_iload_n hx hb dL_law_1253 rfl (lv_at hl 3 rfl) ?_
      refine lv_iconst (v := 4) hx hb dL_law_1254 (by decide) ?_
      refine lv_iadd hx hb dL_law_1255 ?_
      refine lw_sld X hJ hX hbl hbA hv4 hb4.symm dL_law_1256 ?_
      refine lv_aload_n hx hb dL_law_1257 rfl (lv_at hl 0 rfl) ?_
      refine lv_iload_n hx hb dL_law_1258 rfl (lv_at hl 3 rfl) ?_
      refine lv_iconst (v := 5) hx hb dL_law_1259 (by decide) ?_
      refine lv_iadd hx hb dL_law_1260 ?_
      refine lw_sld X hJ hX hbl hbA hv5 hb5.symm dL_law_1261 ?_
      refine lwM_i X hJ (As := [.int b1, .int b2, .int b3, .int b4, .int b5]) (rest := [.int r]) lk_RL_144 (cM_copy hFM h2) rfl rfl (Nat.le_of_ble_eq_true rfl) hl.1 ⟨Nat.le_of_ble_eq_true rfl, Nat.le_of_ble_eq_true rfl⟩ ⟨Nat.le_of_ble_eq_true rfl, Nat.le_of_ble_eq_true rfl⟩ dL_law_1262 (fun H locs hJ => ?_)
      refine lv_icmp_eq (tgt := 1356) hx hb dL_law_1265 (by decide) (fun _ => ?_) (fun h => absurd rfl h)
      exact next σ1 τ1 _ _ _ hRel1 hJ hl
    by_cases s30 : sw = (30 : Int32)
    · refine lv_tableIn (off := 1237) (tgt := 1270) hx hb dL_law_33 (by rw [s30]; decide) (by rw [s30]; decide) (by rw [s30]; rfl) (by decide) ?_
      obtain ⟨σ1, τ1, r, h1, h2, hRel1⟩ := e_men hRel b1 b2 b3 b4
      refine lv_aload_n hx hb dL_law_1270 rfl (lv_at hl 1 rfl) ?_
      refine lv_aload_n hx hb dL_law_1271 rfl (lv_at hl 0 rfl) ?_
      refine lv_iload_n hx hb dL_law_1272 rfl (lv_at hl 3 rfl) ?_
      refine lv_iconst (v := 1) hx hb dL_law_1273 (by decide) ?_
      refine lv_iadd hx hb dL_law_1274 ?_
      refine lw_sld X hJ hX hbl hbA hv1 hb1.symm dL_law_1275 ?_
      refine lv_aload_n hx hb dL_law_1276 rfl (lv_at hl 0 rfl) ?_
      refine lv_iload_n hx hb dL_law_1277 rfl (lv_at hl 3 rfl) ?_
      refine lv_iconst (v := 2) hx hb dL_law_1278 (by decide) ?_
      refine lv_iadd hx hb dL_law_1279 ?_
      refine lw_sld X hJ hX hbl hbA hv2 hb2.symm dL_law_1280 ?_
      refine lv_aload_n hx hb dL_law_1281 rfl (lv_at hl 0 rfl) ?_
      refine lv_iload_n hx hb dL_law_1282 rfl (lv_at hl 3 rfl) ?_
      refine lv_iconst (v := 3) hx hb dL_law_1283 (by decide) ?_
      refine lv_iadd hx hb dL_law_1284 ?_
      refine lw_sld X hJ hX hbl hbA hv3 hb3.symm dL_law_1285 ?_
      refine lv_aload_n hx hb dL_law_1286 rfl (lv_at hl 0 rfl) ?_
      refine lv_iload_n hx hb dL_law_1287 rfl (lv_at hl 3 rfl) ?_
      refine lv_iconst (v := 4) hx hb dL_law_1288 (by decide) ?_
      refine lv_iadd hx hb dL_law_1289 ?_
      refine lw_sld X hJ hX hbl hbA hv4 hb4.symm dL_law_1290 ?_
      refine lwC_i X hJ (As := [.int b1, .int b2, .int b3, .int b4]) (rest := []) lk_RL_145 (cC_men hFC h1) rfl rfl (Nat.le_of_ble_eq_true rfl) hl.1 ⟨Nat.le_of_ble_eq_true rfl, Nat.le_of_ble_eq_true rfl⟩ ⟨Nat.le_of_ble_eq_true rfl, Nat.le_of_ble_eq_true rfl⟩ dL_law_1291 (fun H locs hJ => ?_)
      refine lv_aload_n hx hb dL_law_1294 rfl (lv_at hl 2 rfl) ?_
      refine lv_aload_n hx hb dL_law_1295 rfl (lv_at hl 0 rfl) ?_
      refine lv_iload_n hx hb dL_law_1296 rfl (lv_at hl 3 rfl) ?_
      refine lv_iconst (v := 1) hx hb dL_law_1297 (by decide) ?_
      refine lv_iadd hx hb dL_law_1298 ?_
      refine lw_sld X hJ hX hbl hbA hv1 hb1.symm dL_law_1299 ?_
      refine lv_aload_n hx hb dL_law_1300 rfl (lv_at hl 0 rfl) ?_
      refine lv_iload_n hx hb dL_law_1301 rfl (lv_at hl 3 rfl) ?_
      refine lv_iconst (v := 2) hx hb dL_law_1302 (by decide) ?_
      refine lv_iadd hx hb dL_law_1303 ?_
      refine lw_sld X hJ hX hbl hbA hv2 hb2.symm dL_law_1304 ?_
      refine lv_aload_n hx hb dL_law_1305 rfl (lv_at hl 0 rfl) ?_
      refine lv_iload_n hx hb dL_law_1306 rfl (lv_at hl 3 rfl) ?_
      refine lv_iconst (v := 3) hx hb dL_law_1307 (by decide) ?_
      refine lv_iadd hx hb dL_law_1308 ?_
      refine lw_sld X hJ hX hbl hbA hv3 hb3.symm dL_law_1309 ?_
      refine lv_aload_n hx hb dL_law_1310 rfl (lv_at hl 0 rfl) ?_
      refine lv_iload_n hx hb dL_law_1311 rfl (lv_at hl 3 rfl) ?_
      refine lv_iconst (v := 4) hx hb dL_law_1312 (by decide) ?_
      refine lv_iadd hx hb dL_law_1313 ?_
      refine lw_sld X hJ hX hbl hbA hv4 hb4.symm dL_law_1314 ?_
      refine lwM_i X hJ (As := [.int b1, .int b2, .int b3, .int b4]) (rest := [.int r]) lk_RL_148 (cM_men hFM h2) rfl rfl (Nat.le_of_ble_eq_true rfl) hl.1 ⟨Nat.le_of_ble_eq_true rfl, Nat.le_of_ble_eq_true rfl⟩ ⟨Nat.le_of_ble_eq_true rfl, Nat.le_of_ble_eq_true rfl⟩ dL_law_1315 (fun H locs hJ => ?_)
      refine lv_icmp_eq (tgt := 1356) hx hb dL_law_1318 (by decide) (fun _ => ?_) (fun h => absurd rfl h)
      exact next σ1 τ1 _ _ _ hRel1 hJ hl
    by_cases s31 : sw = (31 : Int32)
    · refine lv_tableIn (off := 1290) (tgt := 1323) hx hb dL_law_33 (by rw [s31]; decide) (by rw [s31]; decide) (by rw [s31]; rfl) (by decide) ?_
      obtain ⟨σ1, τ1, r, h1, h2, hRel1⟩ := e_taken hRel b1 b2
      refine lv_aload_n hx hb dL_law_1323 rfl (lv_at hl 1 rfl) ?_
      refine lv_aload_n hx hb dL_law_1324 rfl (lv_at hl 0 rfl) ?_
      refine lv_iload_n hx hb dL_law_1325 rfl (lv_at hl 3 rfl) ?_
      refine lv_iconst (v := 1) hx hb dL_law_1326 (by decide) ?_
      refine lv_iadd hx hb dL_law_1327 ?_
      refine lw_sld X hJ hX hbl hbA hv1 hb1.symm dL_law_1328 ?_
      refine lv_aload_n hx hb dL_law_1329 rfl (lv_at hl 0 rfl) ?_
      refine lv_iload_n hx hb dL_law_1330 rfl (lv_at hl 3 rfl) ?_
      refine lv_iconst (v := 2) hx hb dL_law_1331 (by decide) ?_
      refine lv_iadd hx hb dL_law_1332 ?_
      refine lw_sld X hJ hX hbl hbA hv2 hb2.symm dL_law_1333 ?_
      refine lwC_i X hJ (As := [.int b1, .int b2]) (rest := []) lk_RL_149 (cC_taken hFC h1) rfl rfl (Nat.le_of_ble_eq_true rfl) hl.1 ⟨Nat.le_of_ble_eq_true rfl, Nat.le_of_ble_eq_true rfl⟩ ⟨Nat.le_of_ble_eq_true rfl, Nat.le_of_ble_eq_true rfl⟩ dL_law_1334 (fun H locs hJ => ?_)
      refine lv_aload_n hx hb dL_law_1337 rfl (lv_at hl 2 rfl) ?_
      refine lv_aload_n hx hb dL_law_1338 rfl (lv_at hl 0 rfl) ?_
      refine lv_iload_n hx hb dL_law_1339 rfl (lv_at hl 3 rfl) ?_
      refine lv_iconst (v := 1) hx hb dL_law_1340 (by decide) ?_
      refine lv_iadd hx hb dL_law_1341 ?_
      refine lw_sld X hJ hX hbl hbA hv1 hb1.symm dL_law_1342 ?_
      refine lv_aload_n hx hb dL_law_1343 rfl (lv_at hl 0 rfl) ?_
      refine lv_iload_n hx hb dL_law_1344 rfl (lv_at hl 3 rfl) ?_
      refine lv_iconst (v := 2) hx hb dL_law_1345 (by decide) ?_
      refine lv_iadd hx hb dL_law_1346 ?_
      refine lw_sld X hJ hX hbl hbA hv2 hb2.symm dL_law_1347 ?_
      refine lwM_i X hJ (As := [.int b1, .int b2]) (rest := [.int r]) lk_RL_152 (cM_taken hFM h2) rfl rfl (Nat.le_of_ble_eq_true rfl) hl.1 ⟨Nat.le_of_ble_eq_true rfl, Nat.le_of_ble_eq_true rfl⟩ ⟨Nat.le_of_ble_eq_true rfl, Nat.le_of_ble_eq_true rfl⟩ dL_law_1348 (fun H locs hJ => ?_)
      refine lv_icmp_eq (tgt := 1356) hx hb dL_law_1351 (by decide) (fun _ => ?_) (fun h => absurd rfl h)
      exact next σ1 τ1 _ _ _ hRel1 hJ hl
    refine lv_tableOut (tgt := 1356) hx hb dL_law_33 (by have e0 : sw.toInt ≠ 0 := fun h => s0 (Int32.toInt_inj.mp (h.trans (by decide))); have e1 : sw.toInt ≠ 1 := fun h => s1 (Int32.toInt_inj.mp (h.trans (by decide))); have e2 : sw.toInt ≠ 2 := fun h => s2 (Int32.toInt_inj.mp (h.trans (by decide))); have e3 : sw.toInt ≠ 3 := fun h => s3 (Int32.toInt_inj.mp (h.trans (by decide))); have e4 : sw.toInt ≠ 4 := fun h => s4 (Int32.toInt_inj.mp (h.trans (by decide))); have e5 : sw.toInt ≠ 5 := fun h => s5 (Int32.toInt_inj.mp (h.trans (by decide))); have e6 : sw.toInt ≠ 6 := fun h => s6 (Int32.toInt_inj.mp (h.trans (by decide))); have e7 : sw.toInt ≠ 7 := fun h => s7 (Int32.toInt_inj.mp (h.trans (by decide))); have e8 : sw.toInt ≠ 8 := fun h => s8 (Int32.toInt_inj.mp (h.trans (by decide))); have e9 : sw.toInt ≠ 9 := fun h => s9 (Int32.toInt_inj.mp (h.trans (by decide))); have e10 : sw.toInt ≠ 10 := fun h => s10 (Int32.toInt_inj.mp (h.trans (by decide))); have e11 : sw.toInt ≠ 11 := fun h => s11 (Int32.toInt_inj.mp (h.trans (by decide))); have e12 : sw.toInt ≠ 12 := fun h => s12 (Int32.toInt_inj.mp (h.trans (by decide))); have e13 : sw.toInt ≠ 13 := fun h => s13 (Int32.toInt_inj.mp (h.trans (by decide))); have e14 : sw.toInt ≠ 14 := fun h => s14 (Int32.toInt_inj.mp (h.trans (by decide))); have e15 : sw.toInt ≠ 15 := fun h => s15 (Int32.toInt_inj.mp (h.trans (by decide))); have e16 : sw.toInt ≠ 16 := fun h => s16 (Int32.toInt_inj.mp (h.trans (by decide))); have e17 : sw.toInt ≠ 17 := fun h => s17 (Int32.toInt_inj.mp (h.trans (by decide))); have e18 : sw.toInt ≠ 18 := fun h => s18 (Int32.toInt_inj.mp (h.trans (by decide))); have e19 : sw.toInt ≠ 19 := fun h => s19 (Int32.toInt_inj.mp (h.trans (by decide))); have e20 : sw.toInt ≠ 20 := fun h => s20 (Int32.toInt_inj.mp (h.trans (by decide))); have e21 : sw.toInt ≠ 21 := fun h => s21 (Int32.toInt_inj.mp (h.trans (by decide))); have e22 : sw.toInt ≠ 22 := fun h => s22 (Int32.toInt_inj.mp (h.trans (by decide))); have e23 : sw.toInt ≠ 23 := fun h => s23 (Int32.toInt_inj.mp (h.trans (by decide))); have e24 : sw.toInt ≠ 24 := fun h => s24 (Int32.toInt_inj.mp (h.trans (by decide))); have e25 : sw.toInt ≠ 25 := fun h => s25 (Int32.toInt_inj.mp (h.trans (by decide))); have e26 : sw.toInt ≠ 26 := fun h => s26 (Int32.toInt_inj.mp (h.trans (by decide))); have e27 : sw.toInt ≠ 27 := fun h => s27 (Int32.toInt_inj.mp (h.trans (by decide))); have e28 : sw.toInt ≠ 28 := fun h => s28 (Int32.toInt_inj.mp (h.trans (by decide))); have e29 : sw.toInt ≠ 29 := fun h => s29 (Int32.toInt_inj.mp (h.trans (by decide))); have e30 : sw.toInt ≠ 30 := fun h => s30 (Int32.toInt_inj.mp (h.trans (by decide))); have e31 : sw.toInt ≠ 31 := fun h => s31 (Int32.toInt_inj.mp (h.trans (by decide))); omega) (by decide) ?_
    exact next σ τ H locs ls hRel hJ hl
def tmS (i : Nat) : Term := ([.string "ArmpitLine" 51, .string "ArmpitLine$Tape" 59] : List Term).getD i (.int 0)
theorem tm_el : ∀ i, i < 2 → ∀ j, j < lenS.getD i 0 → Cond.eq (.elem (.field (tmS i) "java/lang/String" "value" "[B") (.int (Int32.ofNat j))) (.int ((bytS.getD i []).getD j 0)) ∈ flatC (Jvm.Cond.and given_1 narrow_1) := by decide +kernel
theorem tm_oth : ∀ i, i < 2 → Cond.exactly (tmS i) "java/lang/String" ∈ flatC (Jvm.Cond.and given_1 narrow_1) ∧ Cond.eq (.field (tmS i) "java/lang/String" "coder" "B") (.int 0) ∈ flatC (Jvm.Cond.and given_1 narrow_1) ∧ Cond.arrayOf (.field (tmS i) "java/lang/String" "value" "[B") .byte ∈ flatC (Jvm.Cond.and given_1 narrow_1) ∧ Cond.eq (.length (.field (tmS i) "java/lang/String" "value" "[B")) (.int (Int32.ofNat (lenS.getD i 0))) ∈ flatC (Jvm.Cond.and given_1 narrow_1) := by decide +kernel
theorem tm_ne : Cond.not (Cond.eq (tmS 0) (tmS 1)) ∈ flatC (Jvm.Cond.and given_1 narrow_1) ∨ Cond.not (Cond.eq (tmS 1) (tmS 0)) ∈ flatC (Jvm.Cond.and given_1 narrow_1) := by decide +kernel
theorem tm_kab : ∀ j, j < 6 → Cond.eq (.elem (.static "ArmpitLine" "KIND_ABOVE" "[I") (.int (Int32.ofNat j))) (.int (kab j)) ∈ flatC (Jvm.Cond.and given_1 narrow_1) := by decide +kernel
theorem nest_in : ∀ t ∈ nestW, Cond.methodLinkNest t.1 t.2.1 t.2.2 "ArmpitLine" ∈ lw_tbl := by
  have h : nestW.map (fun t => Cond.methodLinkNest t.1 t.2.1 t.2.2 "ArmpitLine") = ([90, 96, 127, 147, 166, 196, 275, 281, 331, 366, 386, 404, 473, 584, 588, 591, 671, 702, 758, 778, 854, 863, 936] : List Nat).filterMap (fun i => lw_tbl[i]?) := by decide +kernel
  intro t ht
  have h1 : Cond.methodLinkNest t.1 t.2.1 t.2.2 "ArmpitLine" ∈ nestW.map (fun t => Cond.methodLinkNest t.1 t.2.1 t.2.2 "ArmpitLine") := List.mem_map.mpr ⟨t, ht, rfl⟩
  rw [h] at h1
  obtain ⟨i, -, hi⟩ := List.mem_filterMap.mp h1
  exact List.mem_of_getElem? hi
theorem sr_0 : Cond.stringRef "ArmpitLine" 51 "count not part = 0 ; near width ; play 1 ;" ∈ lw_tbl := List.mem_of_getElem? (i := 405) (by decide +kernel)
theorem sr_1 : Cond.stringRef "ArmpitLine$Tape" 59 "part  off   speed team  tick  width count near  play  or    and   not   " ∈ lw_tbl := List.mem_of_getElem? (i := 484) (by decide +kernel)
theorem ls_COMPACT_STRINGS : Cond.laysStatic "java/lang/String" "COMPACT_STRINGS" "Z" ∈ lw_tbl := List.mem_of_getElem? (i := 415) (by decide +kernel)
theorem ls_SIOOBE_FORMATTER : Cond.laysStatic "jdk/internal/util/Preconditions" "SIOOBE_FORMATTER" "Ljava/util/function/BiFunction;" ∈ lw_tbl := List.mem_of_getElem? (i := 431) (by decide +kernel)
theorem ls_KIND_ABOVE : Cond.laysStatic "ArmpitLine" "KIND_ABOVE" "[I" ∈ lw_tbl := List.mem_of_getElem? (i := 762) (by decide +kernel)
theorem law_env {s : State} {b : Nat} (hts : ∀ w ∈ lw_tbl, w.before #[Value.ref b] s = true) (hgv : (Jvm.Cond.and given_1 narrow_1).before #[Value.ref b] s = true) : ∃ x : Nat → Nat, eR (fun z => s.heap.size ≤ z) x s := by
  have hs := flat_of_before _ hgv
  have hA : ∀ a : Nat, a < s.heap.size → ¬ (fun z => s.heap.size ≤ z) a := fun a h => Nat.not_le.mpr h
  obtain ⟨kt, hkt, hT⟩ := va_Tof (tm := .static "ArmpitLine" "KIND_ABOVE" "[I") (ty := .int) (N := 6) (f := fun j => .int (kab j)) (A := fun z => s.heap.size ≤ z) (by decide) (hs _ (by decide +kernel)) (va_eqt (hs _ (by decide +kernel))) (fun j hj => va_eqt (hs _ (tm_kab j hj))) hA
  have hZ := va_Zof (A := fun z => s.heap.size ≤ z) (hts _ ls_KIND_ABOVE) (hts _ (List.mem_filter.mp wi_RX11).1) hkt hA
  have hC := va_Zof (A := fun z => s.heap.size ≤ z) (hts _ ls_COMPACT_STRINGS) (hts _ (List.mem_filter.mp wi_RJ0).1) (va_eqt (z := 1) (hs _ (by decide +kernel))) hA
  have hQ := va_Zqof (A := fun z => s.heap.size ≤ z) (hts _ ls_SIOOBE_FORMATTER) (hts _ (List.mem_filter.mp wi_RJ3).1) (hs _ (by decide +kernel)) hA
  obtain ⟨adK, adV, hS, hev⟩ := vk_Sof (N := 2) (tm := tmS) (len := lenS) (byt := bytS) (A := fun z => s.heap.size ≤ z) (by decide) (fun i hi => hs _ (tm_oth i hi).1) (fun i hi => hs _ (tm_oth i hi).2.1) (fun i hi => hs _ (tm_oth i hi).2.2.1) (fun i hi => hs _ (tm_oth i hi).2.2.2) (fun i hi j hj => hs _ (tm_el i hi j hj)) (fun i j hi hj hij => by
    rcases (show (i = 0 ∧ j = 1) ∨ (i = 1 ∧ j = 0) by omega) with ⟨rfl, rfl⟩ | ⟨rfl, rfl⟩
    · rcases tm_ne with h | h
      · exact Or.inl (hs _ h)
      · exact Or.inr (hs _ h)
    · rcases tm_ne with h | h
      · exact Or.inr (hs _ h)
      · exact Or.inl (hs _ h)) hA
  refine ⟨fun k => if k = 0 then kt else if k = 1 then adK 0 else if k = 2 then adK 1 else if k = 3 then adV 0 else adV 1, fun t ht => va_Nw.of rfl (hts _ (nest_in t ht)), hZ, hT, vk_R.of (hts _ sr_0) (hev 0 (by decide)), vk_R.of (hts _ sr_1) (hev 1 (by decide)), ⟨fun i hi => ?_, fun i j hi hj e => ?_⟩, hC, hQ⟩
  · rcases (show i = 0 ∨ i = 1 by omega) with rfl | rfl
    · exact hS.1 0 (by decide)
    · exact hS.1 1 (by decide)
  · rcases (show i = 0 ∨ i = 1 by omega) with rfl | rfl <;> rcases (show j = 0 ∨ j = 1 by omega) with rfl | rfl
    · rfl
    · exact hS.2 0 1 (by decide) (by decide) e
    · exact hS.2 1 0 (by decide) (by decide) e
    · rfl
theorem law_arr {s : State} {args : Array Value} {ty : FieldType} (h : (Cond.arrayClass ty).before args s = true) : ∃ cA : ClassId, ArrOfT s cA ty ∧ s.vm.findClass ("[" ++ ty.toString) = some cA := by
  obtain ⟨cA, kA, comp, h1, h2, h3⟩ := Cond.arrayClass_spec h
  exact ⟨cA, fun n z => ⟨fun k h => (by cases h), kA, h2, comp, h3⟩, h1⟩
section LAW2
variable {p : Program} {l : Launch} {e : Env} {R : Room} {s : State} {m : MethodId} {args : Array Value} {below : List Frame} {meth : Method} {c : Code} {H : Heap} {locs : List Loc} {cells slots : Nat} {Q : State → Prop}
variable {cc : ByteArray} {nL pc : Nat} {own : String} {D : va_G} {cA cB : ClassId} {A : Nat → Prop} {ls : Array Slot} {rest : List Value} {ws : va_W} {H0 : Heap}
/-- a public constructor, from the law -/
theorem lw_init {X' : State → Prop} (hx : p.tables.exec = Jvm.exec) (hb : c.code = cc) (hml : c.maxLocals = nL) (hown : s.vm.findClass own = some m.cls) (hts : ∀ w ∈ TB, w.before args s = true) (hK : va_K D vwCl (tyI cA cB) s) (hP : va_P D vwCl ws H) (hD : va_D A ws) (hS : va_S A H0 H locs) (hA : ∀ q, H0.size ≤ q → A q) {idx b h' mc ms mL : Nat} {y : MethodName} {bytes : ByteArray} {e0 : va_E} {Post : Heap → Prop} (k : Nat) (hk : [k].map (fun i => ws[i]?) = [(b, e0)].map some) (hM : CI l y bytes mL h' mc ms D cA cB X' b H.size e0 Post) (lk : LkB y bytes mL none 0) (hinst : Cond.instanceMethod y ∈ TB) (hlink : Cond.methodLink own idx y ∈ TB) (hyn : y.name = "<init>")
    (hXb : ∀ (U : State) (g : JFrame) (mk : MethodId) (a : Array Value), X' U → X' (U.calling g mk a)) (hXw : ∀ U : State, U.heap = H → s.WarmedH U.vm → X' U)
    (hls : ls.size = nL) (hrm : (rest.map fun v => v.category).sum ≤ 8) (hRm : h' + 1 ≤ R.frames ∧ 8 + (mL + 11) + 40 * h' ≤ R.locals) (hf : cells + mc ≤ R.cells ∧ slots + ms ≤ R.slots) (hdg : decode cc pc = .ok (.invokespecial idx, 3))
    (kk : ∀ (H1 : Heap) (locs1 : List Loc), Post H1 → H.size ≤ H1.size → (∀ z : Nat, z < H.size → ¬ va_A [(b, e0)] H.size z → H1[z]? = H[z]?) → va_S A H0 H1 locs1 → W p l e R s m args below meth c H1 locs1 (cells + mc) (slots + ms) Q (F0 m (pc + 3) ls rest)) : W p l e R s m args below meth c H locs cells slots Q (F0 m pc ls (.ref b :: rest)) := by
  have hk0 : ws[k]? = some (b, e0) := by simpa using hk
  have hPc : va_P D vwCl [(b, e0)] H := hP.sub (ws' := [(b, e0)]) [k] (by simp [hk0])
  have hDc : va_D A [(b, e0)] := hD.sub [k] rfl hk
  have hFc := va_free (wc := [(b, e0)]) hD hS hA [k] hk
  refine va_callv (va_runI (b := b) (As := []) (rest := rest) ⟨hx, hb, hml, hown, hts⟩ hM ⟨callB_of 0 hts (TB_good lk.2.1) rfl rfl rfl (hts _ lk.1) (hts _ hlink) lk.2.2 hRm, hyn, hts _ hinst⟩ ⟨PI_blind hXb, fun U hU hW => ⟨rfl, by rw [hU], by rw [hU]; exact hPc, va_K.moved hW.alike hK, hDc.weaken (fun _ _ _ _ => trivial), hXw U hU hW⟩⟩ rfl rfl hls rfl (lv_room (rest := .ref b :: rest) hrm) hdg hf) hS (fun q _ h => hFc q h) hFc (fun u t H1 locs1 ht hvm hw hB hz1 hk1 hS1 => ?_)
  rw [ht] at hB
  exact kk H1 locs1 hB hz1 hk1 hS1
end LAW2
set_option maxHeartbeats 8000000 in
set_option maxRecDepth 100000 in
theorem whole_start {p : Program} {e : Env} {s : State} {m : MethodId} {below : List Frame} {meth : Method} {c : Code} (l : Launch) (hflags : l.flags = flags0) {b L : Nat} {xs : Nat → Int32} (hL : L ≤ 384) (C0 : lw_At p s m meth c b L xs) : W p l e room_1 s m #[Value.ref b] below meth c s.heap [] 0 0 (lw_Z below #[Value.ref b] s) (entryFrame m ([Value.ref b] : List Value).toArray 4) := by
  obtain ⟨hx, hb, hr, hml, hown, hts0, hX, hbl, hlocks, hgv⟩ := id C0
  have hown : s.vm.findClass RL = some m.cls := hown
  have hts : ∀ w ∈ TB, w.before #[Value.ref b] s = true := fun w hw => hts0 w (List.mem_filter.mp hw).1
  have hA : ∀ q : Nat, s.heap.size ≤ q → (fun q : Nat => s.heap.size ≤ q) q := fun _ h => h
  obtain ⟨c0, i0, hk0⟩ := u_known (C := RX0) (T := TX0) (N := 8) (n := 8) hts inTX0 (hts _ in_RX0)
  obtain ⟨c1, i1, hk1⟩ := u_known (C := RX1) (T := TX1) (N := 4) (n := 4) hts inTX1 (hts _ in_RX1)
  obtain ⟨c2, i2, hk2⟩ := u_known (C := RX2) (T := TX2) (N := 4) (n := 4) hts inTX2 (hts _ in_RX2)
  obtain ⟨c3, i3, hk3⟩ := u_known (C := RX3) (T := TX3) (N := 3) (n := 3) hts inTX3 (hts _ in_RX3)
  obtain ⟨c4, i4, hk4⟩ := u_known (C := RX4) (T := TX4) (N := 8) (n := 8) hts inTX4 (hts _ in_RX4)
  obtain ⟨c5, i5, hk5⟩ := u_known (C := RX5) (T := TX5) (N := 10) (n := 10) hts inTX5 (hts _ in_RX5)
  obtain ⟨c6, i6, hk6⟩ := u_known (C := RX6) (T := TX6) (N := 5) (n := 5) hts inTX6 (hts _ in_RX6)
  obtain ⟨c7, i7, hk7⟩ := u_known (C := RX7) (T := TX7) (N := 3) (n := 3) hts inTX7 (hts _ in_RX7)
  obtain ⟨c8, i8, hk8⟩ := u_known (C := RX8) (T := TX8) (N := 5) (n := 5) hts inTX8 (hts _ in_RX8)
  obtain ⟨c9, i9, hk9⟩ := u_known (C := RX9) (T := TX9) (N := 6) (n := 6) hts inTX9 (hts _ in_RX9)
  obtain ⟨c10, i10, hk10⟩ := u_known (C := RX10) (T := TX10) (N := 7) (n := 7) hts inTX10 (hts _ in_RX10)
  obtain ⟨c11, i11, hk11⟩ := u_known (C := RX11) (T := TX11) (N := 10) (n := 10) hts inTX11 (hts _ in_RX11)
  obtain ⟨c12, i12, hk12⟩ := u_known (C := RX12) (T := TX12) (N := 63) (n := 63) hts inTX12 (hts _ in_RX12)
  obtain ⟨dC, dI, hKc⟩ : ∃ (dC : Nat → ClassId) (dI : Nat → Nat → Nat), ∀ (k : Nat) (q : vw_C), vwCl[k]? = some q → u_Kn s q.1 q.2.1 q.2.2 (dC k) (dI k) := by
    refine ⟨fun k => if k = 0 then c0 else if k = 1 then c1 else if k = 2 then c2 else if k = 3 then c3 else if k = 4 then c4 else if k = 5 then c5 else if k = 6 then c6 else if k = 7 then c7 else if k = 8 then c8 else if k = 9 then c9 else if k = 10 then c10 else if k = 11 then c11 else c12, fun k => if k = 0 then i0 else if k = 1 then i1 else if k = 2 then i2 else if k = 3 then i3 else if k = 4 then i4 else if k = 5 then i5 else if k = 6 then i6 else if k = 7 then i7 else if k = 8 then i8 else if k = 9 then i9 else if k = 10 then i10 else if k = 11 then i11 else i12, ?_⟩
    intro k q hq
    match k, hq with
    | 0, hq => cases hq; exact hk0
    | 1, hq => cases hq; exact hk1
    | 2, hq => cases hq; exact hk2
    | 3, hq => cases hq; exact hk3
    | 4, hq => cases hq; exact hk4
    | 5, hq => cases hq; exact hk5
    | 6, hq => cases hq; exact hk6
    | 7, hq => cases hq; exact hk7
    | 8, hq => cases hq; exact hk8
    | 9, hq => cases hq; exact hk9
    | 10, hq => cases hq; exact hk10
    | 11, hq => cases hq; exact hk11
    | 12, hq => cases hq; exact hk12
    | k + 13, hq => simp [vwCl] at hq
  obtain ⟨cA, hcA, hcA2⟩ := law_arr (hts _ w_arrI)
  obtain ⟨cB, hcB, hcB2⟩ := law_arr (hts _ w_arrZ)
  have hK : va_K (dC, dI) vwCl (tyI cA cB) s := ⟨hKc, fun k q h => by
    match k, h with
    | 0, h => cases h; exact ⟨hcA, hcA2⟩
    | 1, h => cases h; exact ⟨hcB, hcB2⟩
    | k + 2, h => simp at h⟩
  obtain ⟨x, hE⟩ := law_env hts0 hgv
  obtain ⟨σ0, τ0, hi1, hi2, hRel⟩ := e_init
  have hS : va_S (fun q : Nat => s.heap.size ≤ q) s.heap s.heap [] := va_S.rf
  have hP : va_P (dC, dI) vwCl [] s.heap := fun k q h => by simp at h
  have hD : va_D (fun q : Nat => s.heap.size ≤ q) [] := ⟨fun i j p q h => by simp at h, fun k q h => by simp at h⟩
  have hl := lv_entry ([.ref b]) (n := 4) (Nat.le_of_ble_eq_true rfl)
  rw [lg_entry_eq]
  generalize (lg_sl ([.ref b]) ++ List.replicate (4 - (lg_sl ([.ref b])).length) Slot.unset).toArray = ls at hl ⊢
  have hl : lv_has ls 4 [(0, .ref b)] := hl
  refine va_new (ci := 11) (fs := [.null, .null, .null, .null, .null, .null, .int 0, .int 0, .int 0, .int 0]) hx hb hts inTX11 tyX11 tyX11_ok hown (hts _ cl_RL_7) (hts _ in_RX11) (hts _ wi_RX11) hK hP hD hS hA rfl (by decide +kernel) (Nat.le_of_ble_eq_true rfl) (Nat.le_of_ble_eq_true rfl) dL_law_0 (fun h0 H hP hD hS => ?_)
  have hP : va_P (dC, dI) vwCl [(h0, .inr (11, [.null, .null, .null, .null, .null, .null, .int 0, .int 0, .int 0, .int 0]))] H := hP
  have hD : va_D (fun q : Nat => s.heap.size ≤ q) [(h0, .inr (11, [.null, .null, .null, .null, .null, .null, .int 0, .int 0, .int 0, .int 0]))] := hD
  refine W.widen (k := 1) (n := 10) (Nat.le_of_ble_eq_true rfl) (Nat.le_of_ble_eq_true rfl) ?_
  refine lv_dup hx hb dL_law_3 rfl ?_
  have hsubA : ∀ z, va_A [(h0, .inr (11, [.null, .null, .null, .null, .null, .null, .int 0, .int 0, .int 0, .int 0]))] H.size z → s.heap.size ≤ z := fun z hz => va_free (wc := [(h0, .inr (11, [.null, .null, .null, .null, .null, .null, .int 0, .int 0, .int 0, .int 0]))]) hD hS hA [0] rfl z hz
  refine lw_init (rest := [.ref h0]) hx hb hml hown hts hK hP hD hS hA 0 rfl (cI_RX11 (x := x) hi1) ⟨wi_RX11, wc_yX11_init, by decide, by decide, by decide +kernel⟩ wn_yX11_init ml_RL_9 rfl (fun U g mk a h => eR_call h) (fun U hU hW => eR_narrow (eR_kept hE (by rw [hU]; exact hS.2.1) hW) hsubA) hl.1 (Nat.le_of_ble_eq_true rfl) ⟨Nat.le_of_ble_eq_true rfl, Nat.le_of_ble_eq_true rfl⟩ ⟨Nat.le_of_ble_eq_true rfl, Nat.le_of_ble_eq_true rfl⟩ dL_law_4 (fun H1 locs hB hz hk hS => ?_)
  obtain ⟨q, hq0, hqD, hqA, hP⟩ := hB
  have hqs : ∀ k, k < 57 → s.heap.size ≤ q k := fun k hk => hsubA _ (hqA k hk)
  refine W.widen (k := 57) (n := 2750) (Nat.le_of_ble_eq_true rfl) (Nat.le_of_ble_eq_true rfl) ?_
  refine lv_astore_n (lv' := [(1, .ref h0), (0, .ref b)]) hx hb dL_law_7 rfl hl (by decide) rfl (fun ls hl => ?_)
  have hD : va_D (fun q : Nat => s.heap.size ≤ q) (wC q cA cB σ0) := wC_DA hqD hqs σ0
  refine va_new (ci := 12) (fs := [.int 0, .null, .null, .int 0, .int 0, .null, .int 0, .null, .null, .null, .null, .int 0, .int 0, .int 0, .int 0, .int 0, .int 0, .long 0, .int 0, .int 0, .int 0, .int 0, .int 0, .int 0, .int 0, .int 0, .int 0, .int 0, .null, .null, .null, .int 0, .null, .null, .int 0, .null, .null, .null, .null, .null, .null, .int 0, .null, .null, .null, .null, .null, .int 0, .null, .null, .null, .null, .null, .int 0, .null, .int 0, .int 0, .int 0, .int 0, .null, .null, .null, .null]) hx hb hts inTX12 tyX12 tyX12_ok hown (hts _ cl_RL_10) (hts _ in_RX12) (hts _ wi_RX12) hK hP hD hS hA rfl (by decide +kernel) (Nat.le_of_ble_eq_true rfl) (Nat.le_of_ble_eq_true rfl) dL_law_8 (fun h1 H hP hD hS => ?_)
  refine W.widen (k := 58) (n := 2813) (Nat.le_of_ble_eq_true rfl) (Nat.le_of_ble_eq_true rfl) ?_
  refine lv_dup hx hb dL_law_11 rfl ?_
  have hPl : va_P (dC, dI) vwCl (wC q cA cB σ0) H := fun k c hc => hP k c (by rw [List.getElem?_append_left (List.getElem?_eq_some_iff.mp hc).1]; exact hc)
  have hlast : (wC q cA cB σ0 ++ [(h1, .inr (12, [.int 0, .null, .null, .int 0, .int 0, .null, .int 0, .null, .null, .null, .null, .int 0, .int 0, .int 0, .int 0, .int 0, .int 0, .long 0, .int 0, .int 0, .int 0, .int 0, .int 0, .int 0, .int 0, .int 0, .int 0, .int 0, .null, .null, .null, .int 0, .null, .null, .int 0, .null, .null, .null, .null, .null, .null, .int 0, .null, .null, .null, .null, .null, .int 0, .null, .null, .null, .null, .null, .int 0, .null, .int 0, .int 0, .int 0, .int 0, .null, .null, .null, .null]))])[57]? = some (h1, .inr (12, [.int 0, .null, .null, .int 0, .int 0, .null, .int 0, .null, .null, .null, .null, .int 0, .int 0, .int 0, .int 0, .int 0, .int 0, .long 0, .int 0, .int 0, .int 0, .int 0, .int 0, .int 0, .int 0, .int 0, .int 0, .int 0, .null, .null, .null, .int 0, .null, .null, .int 0, .null, .null, .null, .null, .null, .null, .int 0, .null, .null, .null, .null, .null, .int 0, .null, .null, .null, .null, .null, .int 0, .null, .int 0, .int 0, .int 0, .int 0, .null, .null, .null, .null])) := rfl
  have hne : ∀ i, i < 57 → q i ≠ h1 := fun i hi he => by
    obtain ⟨ee, hee⟩ : ∃ ee, (wC q cA cB σ0)[i]? = some (q i, ee) := by
      have h2 : ((wC q cA cB σ0).map (fun c => c.1))[i]? = some (q i) := by rw [wC_adr, List.getElem?_map, List.getElem?_range hi]; rfl
      rw [List.getElem?_map] at h2
      cases hc : (wC q cA cB σ0)[i]? with
      | none => rw [hc] at h2; cases h2
      | some c => rw [hc] at h2; exact ⟨c.2, by rw [← Option.some.inj h2]⟩
    have h3 := hD.1 i 57 _ _ (by rw [List.getElem?_append_left (List.getElem?_eq_some_iff.mp hee).1]; exact hee) hlast he
    omega
  have hsubB : ∀ z, va_A [(h1, .inr (12, [.int 0, .null, .null, .int 0, .int 0, .null, .int 0, .null, .null, .null, .null, .int 0, .int 0, .int 0, .int 0, .int 0, .int 0, .long 0, .int 0, .int 0, .int 0, .int 0, .int 0, .int 0, .int 0, .int 0, .int 0, .int 0, .null, .null, .null, .int 0, .null, .null, .int 0, .null, .null, .null, .null, .null, .null, .int 0, .null, .null, .null, .null, .null, .int 0, .null, .null, .null, .null, .null, .int 0, .null, .int 0, .int 0, .int 0, .int 0, .null, .null, .null, .null]))] H.size z → s.heap.size ≤ z := fun z hz => va_free (wc := [(h1, .inr (12, [.int 0, .null, .null, .int 0, .int 0, .null, .int 0, .null, .null, .null, .null, .int 0, .int 0, .int 0, .int 0, .int 0, .int 0, .long 0, .int 0, .int 0, .int 0, .int 0, .int 0, .int 0, .int 0, .int 0, .int 0, .int 0, .null, .null, .null, .int 0, .null, .null, .int 0, .null, .null, .null, .null, .null, .null, .int 0, .null, .null, .null, .null, .null, .int 0, .null, .null, .null, .null, .null, .int 0, .null, .int 0, .int 0, .int 0, .int 0, .null, .null, .null, .null]))]) hD hS hA [57] rfl z hz
  refine lw_init (rest := [.ref h1]) hx hb hml hown hts hK hP hD hS hA 57 rfl (cI_RX12 (x := x) hi2) ⟨wi_RX12, wc_yX12_init, by decide, by decide, by decide +kernel⟩ wn_yX12_init ml_RL_12 rfl (fun U g mk a h => trivial) (fun U hU hW => trivial) hl.1 (Nat.le_of_ble_eq_true rfl) ⟨Nat.le_of_ble_eq_true rfl, Nat.le_of_ble_eq_true rfl⟩ ⟨Nat.le_of_ble_eq_true rfl, Nat.le_of_ble_eq_true rfl⟩ dL_law_12 (fun H2 locs hB hz2 hk2 hS => ?_)
  obtain ⟨q', hq0', hqD', hqA', hPM⟩ := hB
  have hqs' : ∀ k, k < 34 → s.heap.size ≤ q' k := fun k hk => hsubB _ (hqA' k hk)
  have hnA : ∀ i, i < 57 → ¬ va_A [(h1, .inr (12, [.int 0, .null, .null, .int 0, .int 0, .null, .int 0, .null, .null, .null, .null, .int 0, .int 0, .int 0, .int 0, .int 0, .int 0, .long 0, .int 0, .int 0, .int 0, .int 0, .int 0, .int 0, .int 0, .int 0, .int 0, .int 0, .null, .null, .null, .int 0, .null, .null, .int 0, .null, .null, .null, .null, .null, .null, .int 0, .null, .null, .null, .null, .null, .int 0, .null, .null, .null, .null, .null, .int 0, .null, .int 0, .int 0, .int 0, .int 0, .null, .null, .null, .null]))] H.size (q i) := fun i hi ha => by
    rcases ha with ⟨k, ee, hk⟩ | ha
    · match k, hk with
      | 0, hk => exact hne i hi (congrArg Prod.fst (Option.some.inj hk)).symm
      | k + 1, hk => simp at hk
    · obtain ⟨ee, hee⟩ : ∃ ee, (wC q cA cB σ0)[i]? = some (q i, ee) := by
        have h2 : ((wC q cA cB σ0).map (fun c => c.1))[i]? = some (q i) := by rw [wC_adr, List.getElem?_map, List.getElem?_range hi]; rfl
        rw [List.getElem?_map] at h2
        cases hc : (wC q cA cB σ0)[i]? with
        | none => rw [hc] at h2; cases h2
        | some c => rw [hc] at h2; exact ⟨c.2, by rw [← Option.some.inj h2]⟩
      exact absurd (hPl i _ hee).lt (Nat.not_lt.mpr ha)
  have hPC : va_P (dC, dI) vwCl (wC q cA cB σ0) H2 := hPl.kept (fun k c hc => by
    obtain ⟨i, hi, hci⟩ := wC_at hc
    exact hk2 _ (hPl k c hc).lt (by rw [hci]; exact hnA i hi))
  have hdj : ∀ i, i < 57 → ∀ j, j < 34 → q i ≠ q' j := fun i hi j hj he => hnA i hi (he ▸ hqA' j hj)
  refine W.widen (k := 91) (n := 4561) (Nat.le_of_ble_eq_true rfl) (Nat.le_of_ble_eq_true rfl) ?_
  refine lv_astore_n (lv' := [(2, .ref h1), (1, .ref h0), (0, .ref b)]) hx hb dL_law_15 rfl hl (by decide) rfl (fun ls hl => ?_)
  refine lv_iconst (v := 0) hx hb dL_law_16 (by decide) ?_
  refine lv_istore_n (lv' := [(3, .int 0), (2, .ref h1), (1, .ref h0), (0, .ref b)]) hx hb dL_law_17 rfl hl (by decide) rfl (fun ls hl => ?_)
  have hsC : ∀ z, aC q z → s.heap.size ≤ z := fun z ⟨k, h1, h2⟩ => h2 ▸ hqs k h1
  have hsM : ∀ z, aM q' z → s.heap.size ≤ z := fun z ⟨k, h1, h2⟩ => h2 ▸ hqs' k h1
  have X : LX p s m #[Value.ref b] c (dC, dI) cA cB q q' x (fun q : Nat => s.heap.size ≤ q) := ⟨⟨hx, hb, hml, hown, hts, hK, eR_narrow hE hsC, wC_DA hqD hqs, fun H locs U hS hU hW => eR_narrow (eR_kept hE (by rw [hU]; exact hS.2.1) hW) hsC, fun U g mk a h => eR_call h⟩, ⟨hx, hb, hml, hown, hts, hK, trivial, wM_DA hqD' hqs', fun H locs U hS hU hW => trivial, fun U g mk a h => trivial⟩, hdj, hsC, hsM, hqD, hqD'⟩
  exact law_loop hL C0 X (fun z h => h) (L + 1) 0 0 σ0 τ0 _ _ ls (Nat.zero_le L) (by omega) nI_0.symm hRel ⟨hPC, hPM, hS⟩ (by rw [hq0, hq0']; exact lv_sub hl [3, 2, 1, 0] rfl)
