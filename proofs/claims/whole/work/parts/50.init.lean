theorem wn_obj : Cond.instanceMethod objectInit ∈ TB := TB_mem (List.mem_of_getElem? (i := 86) (by decide +kernel)) rfl
theorem wc_obj : Cond.code objectInit ⟨#[0xb1]⟩ 1 none ∈ TB := TB_mem (List.mem_of_getElem? (i := 87) (by decide +kernel)) rfl
theorem mo_RX11 : Cond.methodLink RX11 3 objectInit ∈ TB := TB_mem (List.mem_of_getElem? (i := 85) (by decide +kernel)) rfl
theorem mo_RX5 : Cond.methodLink RX5 3 objectInit ∈ TB := TB_mem (List.mem_of_getElem? (i := 93) (by decide +kernel)) rfl
theorem mo_RX8 : Cond.methodLink RX8 3 objectInit ∈ TB := TB_mem (List.mem_of_getElem? (i := 99) (by decide +kernel)) rfl
theorem mo_RX1 : Cond.methodLink RX1 3 objectInit ∈ TB := TB_mem (List.mem_of_getElem? (i := 130) (by decide +kernel)) rfl
theorem mo_RX3 : Cond.methodLink RX3 3 objectInit ∈ TB := TB_mem (List.mem_of_getElem? (i := 150) (by decide +kernel)) rfl
theorem mo_RX10 : Cond.methodLink RX10 3 objectInit ∈ TB := TB_mem (List.mem_of_getElem? (i := 169) (by decide +kernel)) rfl
theorem mo_RX0 : Cond.methodLink RX0 3 objectInit ∈ TB := TB_mem (List.mem_of_getElem? (i := 199) (by decide +kernel)) rfl
theorem mo_RX6 : Cond.methodLink RX6 3 objectInit ∈ TB := TB_mem (List.mem_of_getElem? (i := 278) (by decide +kernel)) rfl
theorem mo_RX9 : Cond.methodLink RX9 3 objectInit ∈ TB := TB_mem (List.mem_of_getElem? (i := 284) (by decide +kernel)) rfl
theorem mo_RX4 : Cond.methodLink RX4 3 objectInit ∈ TB := TB_mem (List.mem_of_getElem? (i := 334) (by decide +kernel)) rfl
theorem mo_RX2 : Cond.methodLink RX2 3 objectInit ∈ TB := TB_mem (List.mem_of_getElem? (i := 369) (by decide +kernel)) rfl
theorem mo_RX7 : Cond.methodLink RX7 3 objectInit ∈ TB := TB_mem (List.mem_of_getElem? (i := 389) (by decide +kernel)) rfl
theorem mo_RX12 : Cond.methodLink RX12 7 objectInit ∈ TB := TB_mem (List.mem_of_getElem? (i := 1008) (by decide +kernel)) rfl
theorem cl_RL_7 : Cond.classLink RL 7 RX11 ∈ TB := TB_mem (List.mem_of_getElem? (i := 80) (by decide +kernel)) rfl
theorem cl_RX11_9 : Cond.classLink RX11 9 RX5 ∈ TB := TB_mem (List.mem_of_getElem? (i := 88) (by decide +kernel)) rfl
theorem cl_RX5_9 : Cond.classLink RX5 9 RX8 ∈ TB := TB_mem (List.mem_of_getElem? (i := 94) (by decide +kernel)) rfl
theorem cl_RX5_18 : Cond.classLink RX5 18 RX1 ∈ TB := TB_mem (List.mem_of_getElem? (i := 125) (by decide +kernel)) rfl
theorem cl_RX5_25 : Cond.classLink RX5 25 RX3 ∈ TB := TB_mem (List.mem_of_getElem? (i := 145) (by decide +kernel)) rfl
theorem cl_RX5_32 : Cond.classLink RX5 32 RX10 ∈ TB := TB_mem (List.mem_of_getElem? (i := 164) (by decide +kernel)) rfl
theorem cl_RX5_39 : Cond.classLink RX5 39 RX0 ∈ TB := TB_mem (List.mem_of_getElem? (i := 194) (by decide +kernel)) rfl
theorem cl_RX11_16 : Cond.classLink RX11 16 RX6 ∈ TB := TB_mem (List.mem_of_getElem? (i := 273) (by decide +kernel)) rfl
theorem cl_RX6_9 : Cond.classLink RX6 9 RX9 ∈ TB := TB_mem (List.mem_of_getElem? (i := 279) (by decide +kernel)) rfl
theorem cl_RX11_23 : Cond.classLink RX11 23 RX4 ∈ TB := TB_mem (List.mem_of_getElem? (i := 329) (by decide +kernel)) rfl
theorem cl_RX11_30 : Cond.classLink RX11 30 RX2 ∈ TB := TB_mem (List.mem_of_getElem? (i := 364) (by decide +kernel)) rfl
theorem cl_RX11_37 : Cond.classLink RX11 37 RX7 ∈ TB := TB_mem (List.mem_of_getElem? (i := 384) (by decide +kernel)) rfl
theorem cl_RX11_44 : Cond.classLink RX11 44 RX8 ∈ TB := TB_mem (List.mem_of_getElem? (i := 403) (by decide +kernel)) rfl
theorem cl_RL_10 : Cond.classLink RL 10 RX12 ∈ TB := TB_mem (List.mem_of_getElem? (i := 1003) (by decide +kernel)) rfl
theorem in_RX11 : Cond.instantiable RX11 10 ∈ TB := TB_mem (List.mem_of_getElem? (i := 81) (by decide +kernel)) rfl
theorem in_RX5 : Cond.instantiable RX5 10 ∈ TB := TB_mem (List.mem_of_getElem? (i := 89) (by decide +kernel)) rfl
theorem in_RX8 : Cond.instantiable RX8 5 ∈ TB := TB_mem (List.mem_of_getElem? (i := 95) (by decide +kernel)) rfl
theorem in_RX1 : Cond.instantiable RX1 4 ∈ TB := TB_mem (List.mem_of_getElem? (i := 126) (by decide +kernel)) rfl
theorem in_RX3 : Cond.instantiable RX3 3 ∈ TB := TB_mem (List.mem_of_getElem? (i := 146) (by decide +kernel)) rfl
theorem in_RX10 : Cond.instantiable RX10 7 ∈ TB := TB_mem (List.mem_of_getElem? (i := 165) (by decide +kernel)) rfl
theorem in_RX0 : Cond.instantiable RX0 8 ∈ TB := TB_mem (List.mem_of_getElem? (i := 195) (by decide +kernel)) rfl
theorem in_RX6 : Cond.instantiable RX6 5 ∈ TB := TB_mem (List.mem_of_getElem? (i := 274) (by decide +kernel)) rfl
theorem in_RX9 : Cond.instantiable RX9 6 ∈ TB := TB_mem (List.mem_of_getElem? (i := 280) (by decide +kernel)) rfl
theorem in_RX4 : Cond.instantiable RX4 8 ∈ TB := TB_mem (List.mem_of_getElem? (i := 330) (by decide +kernel)) rfl
theorem in_RX2 : Cond.instantiable RX2 4 ∈ TB := TB_mem (List.mem_of_getElem? (i := 365) (by decide +kernel)) rfl
theorem in_RX7 : Cond.instantiable RX7 3 ∈ TB := TB_mem (List.mem_of_getElem? (i := 385) (by decide +kernel)) rfl
theorem in_RX12 : Cond.instantiable RX12 63 ∈ TB := TB_mem (List.mem_of_getElem? (i := 1004) (by decide +kernel)) rfl
theorem w_arrI : Cond.arrayClass .int ∈ TB := TB_mem (List.mem_of_getElem? (i := 124) (by decide +kernel)) rfl
theorem w_arrZ : Cond.arrayClass .boolean ∈ TB := TB_mem (List.mem_of_getElem? (i := 1209) (by decide +kernel)) rfl
/-! constructors: new cells at addresses that are variables -/
def NW (U : State) : Prop := ∀ t ∈ nestW, va_Nw (.methodLinkNest t.1 t.2.1 t.2.2 "ArmpitLine") U
abbrev tyI (cA cB : ClassId) : List (ClassId × FieldType) := [(cA, .int), (cB, .boolean)]
abbrev rmI (h mc ms : Nat) : Room := { frames := h, cells := mc, slots := ms, locals := 40 * h }
def PI (D : va_G) (cA cB : ClassId) (X : State → Prop) (h0 sz : Nat) (e0 : va_E) (U : State) : Prop := U.heap.size = sz ∧ va_P D vwCl [(h0, e0)] U.heap ∧ va_K D vwCl (tyI cA cB) U ∧ va_D (fun _ => True) [(h0, e0)] ∧ X U
def CI (l : Launch) (y : MethodName) (cc : ByteArray) (nL h mc ms : Nat) (D : va_G) (cA cB : ClassId) (X : State → Prop) (h0 sz : Nat) (e0 : va_E) (Post : Heap → Prop) : Prop :=
  Met l y (.code y cc nL none :: TB) (rmI h mc ms) (va_Pc [.ref h0] (PI D cA cB X h0 sz e0)) (va_Qv (fun (_ : Unit) => True) (fun _ t => Post t.heap) (va_A [(h0, e0)] sz)) mc ms (va_A [(h0, e0)] sz)
def IX (p : Program) (s : State) (m : MethodId) (args : Array Value) (meth : Method) (c : Code) (cc : ByteArray) (nL : Nat) (own : String) (D : va_G) (cA cB : ClassId) (X : State → Prop) : Prop :=
  p.tables.exec = Jvm.exec ∧ c.code = cc ∧ c.maxLocals = nL ∧ s.vm.findClass own = some m.cls ∧ (∀ w ∈ TB, w.before args s = true) ∧ va_K D vwCl (tyI cA cB) s ∧ X s ∧ meth.name = "<init>"
theorem CI_of {l : Launch} {y : MethodName} {cc : ByteArray} {nL h mc ms : Nat} {D : va_G} {cA cB : ClassId} {X : State → Prop} {h0 sz : Nat} {e0 : va_E} {Post : Heap → Prop} (hy : plainName y.cls = true) (hyn : y.name = "<init>") (hav : (lg_sl [Value.ref h0]).length ≤ nL)
    (body : ∀ (p : Program) (e : Env) (s : State) (m : MethodId) (args : Array Value) (below : List Frame) (meth : Method) (c : Code) (Q : State → Prop) (A : Nat → Prop), IX p s m args meth c cc nL y.cls D cA cB X → s.heap.size = sz →
      (∀ (H : Heap) (locs : List Loc) (pc : Nat) (ls : Array Slot), Post H → va_S A s.heap H locs → decode cc pc = .ok (.return_, 1) → W p l e (rmI h mc ms) s m args below meth c H locs mc ms Q (F0 m pc ls [])) →
      A = va_A [(h0, e0)] s.heap.size → va_P D vwCl [(h0, e0)] s.heap → va_D A [(h0, e0)] → va_S A s.heap s.heap [] → (∀ q : Nat, s.heap.size ≤ q → A q) → ∀ ls : Array Slot, lv_has ls nL [(0, .ref h0)] → W p l e (rmI h mc ms) s m args below meth c s.heap [] 0 0 Q (F0 m 0 ls [])) : CI l y cc nL h mc ms D cA cB X h0 sz e0 Post := by
  refine Met.ofW (cc := cc) (maxL := nL) (ret := none) hy rfl ?_
  intro p e s m args below meth c s₁ B hml hv
  obtain ⟨rfl, hsz, hP, hK, hD0, hX⟩ := hv
  have hlocks := B.notSynchronized
  have hts := atoms_spec (ws := .code y cc nL none :: TB) B.pre
  have hown : s.vm.findClass y.cls = some m.cls := findClass_of_methodNamed B.named
  have hr := B.returns
  have hin : meth.name = "<init>" := (name_of_methodNamed B.named B.method).1.trans hyn
  subst hsz
  have hD := hD0.self (sz := s.heap.size)
  rw [lg_entry_eq]
  have hx := B.exec
  have hb := B.bytes
  refine body p e s m [Value.ref h0].toArray below meth c _ _ ⟨hx, hb, hml, hown, fun w hw => hts w (List.mem_cons_of_mem _ hw), hK, hX, hin⟩ rfl (fun H locs pc ls hPo hS hd => ?_) rfl hP hD va_S.rf (fun q h => Or.inr h) _ (lv_entry [Value.ref h0] hav)
  exact W.vret hx hb hr (fun t ht hW => ⟨⟨(), rfl, trivial, by show Post t.heap; rw [ht]; exact hPo⟩, hS.F ht⟩) hS.2.2 hd
theorem PI_blind {D : va_G} {cA cB : ClassId} {X : State → Prop} {h0 sz : Nat} {e0 : va_E} (hX : ∀ (U : State) (g : JFrame) (mk : MethodId) (a : Array Value), X U → X (U.calling g mk a)) : FrameBlind (va_Pc [.ref h0] (PI D cA cB X h0 sz e0)) := by
  intro a U g mk q
  obtain ⟨q0, q1, qP, qK, qD, qX⟩ := q
  exact ⟨q0, q1, qP, va_K.moved (u := U) (U := U.calling g mk a) (Vm.Alike.refl U.vm) qK, qD, hX U g mk a qX⟩
theorem NW_call (U : State) (g : JFrame) (mk : MethodId) (a : Array Value) (h : NW U) : NW (U.calling g mk a) := fun t ht => va_Nw.same rfl rfl (h t ht)
theorem NW_warm {s U : State} (hW : s.WarmedH U.vm) (h : NW s) : NW U := fun t ht => va_Nw.warmM hW (h t ht)
section INI
variable {p : Program} {l : Launch} {e : Env} {R : Room} {s : State} {m : MethodId} {args : Array Value} {below : List Frame} {meth : Method} {c : Code} {H : Heap} {locs : List Loc} {cells slots : Nat} {Q : State → Prop}
variable {cc : ByteArray} {nL pc : Nat} {own : String} {D : va_G} {cA cB : ClassId} {X : State → Prop} {A : Nat → Prop} {ls : Array Slot} {rest : List Value} {ws : va_W} {H0 : Heap}
theorem iv_cls (hK : va_K D vwCl (tyI cA cB) s) {cA' : ClassId} (hK' : va_K D vwCl (tyI cA cB ++ [(cA', .int)]) s) : cA' = cA := by
  have h1 : s.vm.findClass ("[" ++ FieldType.int.toString) = some cA := (hK.2 0 _ rfl).2
  have h2 : s.vm.findClass ("[" ++ FieldType.int.toString) = some cA' := (hK'.2 2 _ rfl).2
  rw [h1] at h2
  exact (Option.some.inj h2).symm
theorem iv_clsz (hK : va_K D vwCl (tyI cA cB) s) {cA' : ClassId} (hK' : va_K D vwCl (tyI cA cB ++ [(cA', .boolean)]) s) : cA' = cB := by
  have h1 : s.vm.findClass ("[" ++ FieldType.boolean.toString) = some cB := (hK.2 1 _ rfl).2
  have h2 : s.vm.findClass ("[" ++ FieldType.boolean.toString) = some cA' := (hK'.2 2 _ rfl).2
  rw [h1] at h2
  exact (Option.some.inj h2).symm
theorem iv_newI (I : IX p s m args meth c cc nL own D cA cB X) (hP : va_P D vwCl ws H) (hD : va_D A ws) (hS : va_S A H0 H locs) (hA : ∀ q, H0.size ≤ q → A q) {n : Int32} (N' : Nat) (hn : ¬ n < 0) (hN : n.toNatClampNeg = N') (hbytes : N' * componentBytes .int ≤ 536870912) (hcells : cells + 1 ≤ R.cells) (hslots : slots + N' ≤ R.slots) (hdg : decode cc pc = .ok (.newarray .int, 2))
    (kk : ∀ (q : Nat) (H1 : Heap), va_P D vwCl (ws ++ [(q, .inl (cA, N', .inl (fun _ => 0)))]) H1 → va_D A (ws ++ [(q, .inl (cA, N', .inl (fun _ => 0)))]) → va_S A H0 H1 locs → W p l e R s m args below meth c H1 locs (cells + 1) (slots + N') Q (F0 m (pc + 2) ls (.ref q :: rest))) : W p l e R s m args below meth c H locs cells slots Q (F0 m pc ls (.int n :: rest)) := by
  obtain ⟨hx, hb, hml, hown, hts, hK, hX, hin⟩ := I
  refine va_newa (atype := .int) (ty := .int) (a0 := (N', .inl (fun _ => 0))) hx hb (hts _ w_arrI) rfl hK hP hD hS hA (fun cA => rfl) hn hN hbytes hcells hslots hdg (fun q cA' H1 hK' hP' hD' hS' => ?_)
  have e1 := iv_cls hK hK'
  subst e1
  exact kk q H1 hP' hD' hS'
theorem iv_newZ (I : IX p s m args meth c cc nL own D cA cB X) (hP : va_P D vwCl ws H) (hD : va_D A ws) (hS : va_S A H0 H locs) (hA : ∀ q, H0.size ≤ q → A q) {n : Int32} (N' : Nat) (hn : ¬ n < 0) (hN : n.toNatClampNeg = N') (hbytes : N' * componentBytes .boolean ≤ 536870912) (hcells : cells + 1 ≤ R.cells) (hslots : slots + N' ≤ R.slots) (hdg : decode cc pc = .ok (.newarray .boolean, 2))
    (kk : ∀ (q : Nat) (H1 : Heap), va_P D vwCl (ws ++ [(q, .inl (cB, N', .inl (fun _ => 0)))]) H1 → va_D A (ws ++ [(q, .inl (cB, N', .inl (fun _ => 0)))]) → va_S A H0 H1 locs → W p l e R s m args below meth c H1 locs (cells + 1) (slots + N') Q (F0 m (pc + 2) ls (.ref q :: rest))) : W p l e R s m args below meth c H locs cells slots Q (F0 m pc ls (.int n :: rest)) := by
  obtain ⟨hx, hb, hml, hown, hts, hK, hX, hin⟩ := I
  refine va_newa (atype := .boolean) (ty := .boolean) (a0 := (N', .inl (fun _ => 0))) hx hb (hts _ w_arrZ) rfl hK hP hD hS hA (fun cA => rfl) hn hN hbytes hcells hslots hdg (fun q cA' H1 hK' hP' hD' hS' => ?_)
  have e1 := iv_clsz hK hK'
  subst e1
  exact kk q H1 hP' hD' hS'
theorem iv_obj (I : IX p s m args meth c cc nL own D cA cB X) {idx a : Nat} (hlink : Cond.methodLink own idx objectInit ∈ TB) (hls : ls.size = nL) (hR : 1 ≤ R.frames ∧ (rest.map fun v => v.category).sum + 12 ≤ R.locals) (hdg : decode cc pc = .ok (.invokespecial idx, 3))
    (kk : W p l e R s m args below meth c H locs cells slots Q (F0 m (pc + 3) ls rest)) : W p l e R s m args below meth c H locs cells slots Q (F0 m pc ls (.ref a :: rest)) := by
  obtain ⟨hx, hb, hml, hown, hts, hK, hX, hin⟩ := I
  exact W.objInit hx hb hown (hts _ hlink) (hts _ wn_obj) (hts _ wc_obj) rfl (by rw [hml]; exact hls) rfl hdg hR.1 (by show 2 * 0 + _ + 12 ≤ _; omega) kk
theorem iv_putF (I : IX p s m args meth c cc nL own D cA cB X) (hP : va_P D vwCl ws H) (hD : va_D A ws) (hS : va_S A H0 H locs) {Cn : String} {T : u_T} {N ci index a : Nat} {fs : List Value} {v : Value} {ty : FieldType} (q0 k : Nat) (hin : ∀ w ∈ u_ws Cn T N, w ∈ TB) (ty0 : Nat → FieldType) (hty : ∀ k, k < N → parseFieldDescriptor (T k).2.2.1 = some (ty0 k)) (hnm : ∀ a, a < N → ∀ b, b < N → a ≠ b → (T a).2.1 ≠ (T b).2.1) (he : ws[q0]? = some (a, .inr (ci, fs))) (hc : vwCl[ci]? = some (Cn, T, N)) (hk : k < N) (hlink : Cond.fieldLink own index (T k).1 (T k).2.1 (T k).2.2.1 ∈ TB) (hfin : (T k).2.2.2 = true) (hdecl : (T k).1 = own) (hd : parseFieldDescriptor (T k).2.2.1 = some ty) (hn : narrow ty v = v) (hfit : fits ty v = true) (hl : k < fs.length) (hdg : decode cc pc = .ok (.putfield index, 3))
    (kk : ∀ (H1 : Heap) (locs1 : List Loc), va_P D vwCl (ws.set q0 (a, .inr (ci, fs.set k v))) H1 → va_D A (ws.set q0 (a, .inr (ci, fs.set k v))) → va_S A H0 H1 locs1 → W p l e R s m args below meth c H1 locs1 cells slots Q (F0 m (pc + 3) ls rest)) : W p l e R s m args below meth c H locs cells slots Q (F0 m pc ls (v :: .ref a :: rest)) := by
  obtain ⟨hx, hb, hml, hown, hts, hK, hX, hi⟩ := I
  exact va_putF hx hb hts hin ty0 hty hnm hown hK hP hD hS q0 he hc k hk (hts _ hlink) (fun _ h => h) hfin hi hdecl hd hn hfit hl hdg kk
theorem iv_put (I : IX p s m args meth c cc nL own D cA cB X) (hP : va_P D vwCl ws H) (hD : va_D A ws) (hS : va_S A H0 H locs) {Cn : String} {T : u_T} {N ci index a : Nat} {fs : List Value} {v : Value} {ty : FieldType} (q0 k : Nat) (hin : ∀ w ∈ u_ws Cn T N, w ∈ TB) (ty0 : Nat → FieldType) (hty : ∀ k, k < N → parseFieldDescriptor (T k).2.2.1 = some (ty0 k)) (hnm : ∀ a, a < N → ∀ b, b < N → a ≠ b → (T a).2.1 ≠ (T b).2.1) (he : ws[q0]? = some (a, .inr (ci, fs))) (hc : vwCl[ci]? = some (Cn, T, N)) (hk : k < N) (hlink : Cond.fieldLink own index (T k).1 (T k).2.1 (T k).2.2.1 ∈ TB) (hfin : (T k).2.2.2 = false) (hd : parseFieldDescriptor (T k).2.2.1 = some ty) (hn : narrow ty v = v) (hfit : fits ty v = true) (hl : k < fs.length) (hdg : decode cc pc = .ok (.putfield index, 3))
    (kk : ∀ (H1 : Heap) (locs1 : List Loc), va_P D vwCl (ws.set q0 (a, .inr (ci, fs.set k v))) H1 → va_D A (ws.set q0 (a, .inr (ci, fs.set k v))) → va_S A H0 H1 locs1 → W p l e R s m args below meth c H1 locs1 cells slots Q (F0 m (pc + 3) ls rest)) : W p l e R s m args below meth c H locs cells slots Q (F0 m pc ls (v :: .ref a :: rest)) := by
  obtain ⟨hx, hb, hml, hown, hts, hK, hX, hi⟩ := I
  exact va_put hx hb hts hin ty0 hty hnm hown hK hP hD hS q0 he hc k hk (hts _ hlink) (fun _ h => h) hfin hd hn hfit hl hdg kk
theorem iv_new (I : IX p s m args meth c cc nL own D cA cB X) (hP : va_P D vwCl ws H) (hD : va_D A ws) (hS : va_S A H0 H locs) (hA : ∀ q, H0.size ≤ q → A q) {Cn : String} {T : u_T} {N index : Nat} (ci : Nat) (fs : List Value) (hin : ∀ w ∈ u_ws Cn T N, w ∈ TB) (ty0 : Nat → FieldType) (hty : ∀ k, k < N → parseFieldDescriptor (T k).2.2.1 = some (ty0 k)) (hcl : Cond.classLink own index Cn ∈ TB) (hinst : Cond.instantiable Cn N ∈ TB) (hini : Cond.initialized Cn ∈ TB) (hc : vwCl[ci]? = some (Cn, T, N)) (hfs : ∀ j, j < N → defaultValue (ty0 j) = vp_V fs j) (hcells : cells + 1 ≤ R.cells) (hslots : slots + N ≤ R.slots) (hdg : decode cc pc = .ok (.new index, 3))
    (kk : ∀ (q : Nat) (H1 : Heap), va_P D vwCl (ws ++ [(q, .inr (ci, fs))]) H1 → va_D A (ws ++ [(q, .inr (ci, fs))]) → va_S A H0 H1 locs → W p l e R s m args below meth c H1 locs (cells + 1) (slots + N) Q (F0 m (pc + 3) ls (.ref q :: rest))) : W p l e R s m args below meth c H locs cells slots Q (F0 m pc ls rest) := by
  obtain ⟨hx, hb, hml, hown, hts, hK, hX, hi⟩ := I
  exact va_new hx hb hts hin ty0 hty hown (hts _ hcl) (hts _ hinst) (hts _ hini) hK hP hD hS hA hc hfs hcells hslots hdg kk
theorem iv_call {X' : State → Prop} (I : IX p s m args meth c cc nL own D cA cB X) (hP : va_P D vwCl ws H) (hD : va_D A ws) (hS : va_S A H0 H locs) (hA : ∀ q, H0.size ≤ q → A q) {idx b h' mc ms : Nat} {y : MethodName} {bytes : ByteArray} {e0 : va_E} {Post : Nat → Heap → Prop} (k : Nat) (isR : List Nat) (wr : va_W) (hk : [k].map (fun i => ws[i]?) = [(b, e0)].map some) (hR : isR.map (fun i => ws[i]?) = wr.map some) (hnd : va_nd isR = true) (hdis : ∀ i ∈ isR, i ∉ [k]) (hM : ∀ sz, CI l y bytes 1 h' mc ms D cA cB X' b sz e0 (Post sz)) (lk : LkB y bytes 1 none 0) (hinst : Cond.instanceMethod y ∈ TB) (hyn : y.name = "<init>") (hnl : va_Nw (.methodLinkNest own idx y "ArmpitLine") s)
    (hXb : ∀ (U : State) (g : JFrame) (mk : MethodId) (a : Array Value), X' U → X' (U.calling g mk a)) (hXw : ∀ U : State, U.heap = H → s.WarmedH U.vm → X' U)
    (hls : ls.size = nL) (hrm : (rest.map fun v => v.category).sum ≤ 8) (hRm : h' + 1 ≤ R.frames ∧ 8 + (1 + 11) + 40 * h' ≤ R.locals) (hf : cells + mc ≤ R.cells ∧ slots + ms ≤ R.slots) (hdg : decode cc pc = .ok (.invokespecial idx, 3))
    (kk : ∀ (H1 : Heap) (locs1 : List Loc), Post H.size H1 → (∀ w1, va_P D vwCl w1 H1 → va_D (va_A [(b, e0)] H.size) w1 → va_P D vwCl (wr ++ w1) H1 ∧ va_D A (wr ++ w1)) → va_S A H0 H1 locs1 → W p l e R s m args below meth c H1 locs1 (cells + mc) (slots + ms) Q (F0 m (pc + 3) ls rest)) : W p l e R s m args below meth c H locs cells slots Q (F0 m pc ls (.ref b :: rest)) := by
  obtain ⟨hx, hb, hml, hown, hts, hK, hX, hi⟩ := I
  have hk0 : ws[k]? = some (b, e0) := by simpa using hk
  have hPc : va_P D vwCl [(b, e0)] H := hP.sub (ws' := [(b, e0)]) [k] (by simp [hk0])
  have hDc : va_D A [(b, e0)] := hD.sub [k] rfl hk
  have hFc := va_free (wc := [(b, e0)]) hD hS hA [k] hk
  refine va_callv (va_runIN (b := b) (As := []) (rest := rest) ⟨hx, hb, hml, hown, hts⟩ (hM H.size) ⟨va_cnB 0 hts (TB_good lk.2.1) rfl rfl rfl hnl (hts _ lk.1) lk.2.2 hRm, hyn, hts _ hinst⟩ ⟨PI_blind hXb, fun U hU hW => ⟨rfl, by rw [hU], by rw [hU]; exact hPc, va_K.moved hW.alike hK, hDc.weaken (fun _ _ _ _ => trivial), hXw U hU hW⟩⟩ rfl rfl hls rfl (lv_room (rest := .ref b :: rest) hrm) hdg hf) hS (fun q _ h => hFc q h) hFc (fun u t H1 locs1 ht hvm hw hB hz1 hk1 hS1 => ?_)
  rw [ht] at hB
  exact kk H1 locs1 hB (fun w1 hP1 hD1 => va_join hP hD [k] isR hk hR hnd hdis hk1 hFc hP1 hD1) hS1
end INI
set_option maxHeartbeats 4000000 in
set_option maxRecDepth 100000 in
theorem cI_RX0 {l : Launch} {D : va_G} {cA cB : ClassId} {h0 sz : Nat} : CI l yX0_init cX0_init 1 1 7 168 D cA cB NW h0 sz (.inr (0, [.null, .null, .null, .null, .null, .null, .null, .int 0])) (fun H => ∃ q1 q2 q3 q4 q5 q6 q7 : Nat, va_P D vwCl [(h0, .inr (0, [.ref q1, .ref q2, .ref q3, .ref q4, .ref q5, .ref q6, .ref q7, .int 0])), (q1, .inl (cA, 24, .inl (fun _ => 0))), (q2, .inl (cA, 24, .inl (fun _ => 0))), (q3, .inl (cA, 24, .inl (fun _ => 0))), (q4, .inl (cA, 24, .inl (fun _ => 0))), (q5, .inl (cA, 24, .inl (fun _ => 0))), (q6, .inl (cA, 24, .inl (fun _ => 0))), (q7, .inl (cA, 24, .inl (fun _ => 0)))] H ∧ va_D (va_A [(h0, .inr (0, [.null, .null, .null, .null, .null, .null, .null, .int 0]))] sz) [(h0, .inr (0, [.ref q1, .ref q2, .ref q3, .ref q4, .ref q5, .ref q6, .ref q7, .int 0])), (q1, .inl (cA, 24, .inl (fun _ => 0))), (q2, .inl (cA, 24, .inl (fun _ => 0))), (q3, .inl (cA, 24, .inl (fun _ => 0))), (q4, .inl (cA, 24, .inl (fun _ => 0))), (q5, .inl (cA, 24, .inl (fun _ => 0))), (q6, .inl (cA, 24, .inl (fun _ => 0))), (q7, .inl (cA, 24, .inl (fun _ => 0)))]) := by
  refine CI_of (by decide) rfl (Nat.le_of_ble_eq_true rfl) ?_
  intro p e s m args below meth c Q A I hsz hret hAe hP hD hS hA ls hl
  obtain ⟨hx, hb, hml, hown, hts, hK, hX, hin⟩ := id I
  have hae : A = va_A [(h0, .inr (0, [.null, .null, .null, .null, .null, .null, .null, .int 0]))] sz := by rw [hAe, hsz]
  refine lv_aload_n hx hb dX0_init_0 rfl (lv_at hl 0 rfl) ?_
  refine iv_obj I mo_RX0 hl.1 ⟨Nat.le_of_ble_eq_true rfl, Nat.le_of_ble_eq_true rfl⟩ dX0_init_1 ?_
  refine lv_aload_n hx hb dX0_init_4 rfl (lv_at hl 0 rfl) ?_
  refine lv_bipush (v := 24) hx hb dX0_init_5 (by decide) ?_
  refine iv_newI I hP hD hS hA 24 (by decide) (by decide) (by decide) (Nat.le_of_ble_eq_true rfl) (Nat.le_of_ble_eq_true rfl) dX0_init_7 (fun q1 H hP hD hS => ?_)
  have hP : va_P D vwCl [(h0, .inr (0, [.null, .null, .null, .null, .null, .null, .null, .int 0])), (q1, .inl (cA, 24, .inl (fun _ => 0)))] H := hP
  have hD : va_D A [(h0, .inr (0, [.null, .null, .null, .null, .null, .null, .null, .int 0])), (q1, .inl (cA, 24, .inl (fun _ => 0)))] := hD
  refine W.widen (k := 1) (n := 24) (Nat.le_of_ble_eq_true rfl) (Nat.le_of_ble_eq_true rfl) ?_
  refine iv_putF (v := .ref q1) (ty := .array .int) I hP hD hS 0 0 inTX0 tyX0 tyX0_ok nmX0 rfl rfl (by decide) fl_RX0_9 rfl rfl (by decide +kernel) rfl rfl (Nat.le_of_ble_eq_true rfl) dX0_init_9 (fun H locs hP hD hS => ?_)
  have hP : va_P D vwCl [(h0, .inr (0, [.ref q1, .null, .null, .null, .null, .null, .null, .int 0])), (q1, .inl (cA, 24, .inl (fun _ => 0)))] H := hP
  have hD : va_D A [(h0, .inr (0, [.ref q1, .null, .null, .null, .null, .null, .null, .int 0])), (q1, .inl (cA, 24, .inl (fun _ => 0)))] := hD
  refine lv_aload_n hx hb dX0_init_12 rfl (lv_at hl 0 rfl) ?_
  refine lv_bipush (v := 24) hx hb dX0_init_13 (by decide) ?_
  refine iv_newI I hP hD hS hA 24 (by decide) (by decide) (by decide) (Nat.le_of_ble_eq_true rfl) (Nat.le_of_ble_eq_true rfl) dX0_init_15 (fun q2 H hP hD hS => ?_)
  have hP : va_P D vwCl [(h0, .inr (0, [.ref q1, .null, .null, .null, .null, .null, .null, .int 0])), (q1, .inl (cA, 24, .inl (fun _ => 0))), (q2, .inl (cA, 24, .inl (fun _ => 0)))] H := hP
  have hD : va_D A [(h0, .inr (0, [.ref q1, .null, .null, .null, .null, .null, .null, .int 0])), (q1, .inl (cA, 24, .inl (fun _ => 0))), (q2, .inl (cA, 24, .inl (fun _ => 0)))] := hD
  refine W.widen (k := 2) (n := 48) (Nat.le_of_ble_eq_true rfl) (Nat.le_of_ble_eq_true rfl) ?_
  refine iv_putF (v := .ref q2) (ty := .array .int) I hP hD hS 0 1 inTX0 tyX0 tyX0_ok nmX0 rfl rfl (by decide) fl_RX0_15 rfl rfl (by decide +kernel) rfl rfl (Nat.le_of_ble_eq_true rfl) dX0_init_17 (fun H locs hP hD hS => ?_)
  have hP : va_P D vwCl [(h0, .inr (0, [.ref q1, .ref q2, .null, .null, .null, .null, .null, .int 0])), (q1, .inl (cA, 24, .inl (fun _ => 0))), (q2, .inl (cA, 24, .inl (fun _ => 0)))] H := hP
  have hD : va_D A [(h0, .inr (0, [.ref q1, .ref q2, .null, .null, .null, .null, .null, .int 0])), (q1, .inl (cA, 24, .inl (fun _ => 0))), (q2, .inl (cA, 24, .inl (fun _ => 0)))] := hD
  refine lv_aload_n hx hb dX0_init_20 rfl (lv_at hl 0 rfl) ?_
  refine lv_bipush (v := 24) hx hb dX0_init_21 (by decide) ?_
  refine iv_newI I hP hD hS hA 24 (by decide) (by decide) (by decide) (Nat.le_of_ble_eq_true rfl) (Nat.le_of_ble_eq_true rfl) dX0_init_23 (fun q3 H hP hD hS => ?_)
  have hP : va_P D vwCl [(h0, .inr (0, [.ref q1, .ref q2, .null, .null, .null, .null, .null, .int 0])), (q1, .inl (cA, 24, .inl (fun _ => 0))), (q2, .inl (cA, 24, .inl (fun _ => 0))), (q3, .inl (cA, 24, .inl (fun _ => 0)))] H := hP
  have hD : va_D A [(h0, .inr (0, [.ref q1, .ref q2, .null, .null, .null, .null, .null, .int 0])), (q1, .inl (cA, 24, .inl (fun _ => 0))), (q2, .inl (cA, 24, .inl (fun _ => 0))), (q3, .inl (cA, 24, .inl (fun _ => 0)))] := hD
  refine W.widen (k := 3) (n := 72) (Nat.le_of_ble_eq_true rfl) (Nat.le_of_ble_eq_true rfl) ?_
  refine iv_putF (v := .ref q3) (ty := .array .int) I hP hD hS 0 2 inTX0 tyX0 tyX0_ok nmX0 rfl rfl (by decide) fl_RX0_18 rfl rfl (by decide +kernel) rfl rfl (Nat.le_of_ble_eq_true rfl) dX0_init_25 (fun H locs hP hD hS => ?_)
  have hP : va_P D vwCl [(h0, .inr (0, [.ref q1, .ref q2, .ref q3, .null, .null, .null, .null, .int 0])), (q1, .inl (cA, 24, .inl (fun _ => 0))), (q2, .inl (cA, 24, .inl (fun _ => 0))), (q3, .inl (cA, 24, .inl (fun _ => 0)))] H := hP
  have hD : va_D A [(h0, .inr (0, [.ref q1, .ref q2, .ref q3, .null, .null, .null, .null, .int 0])), (q1, .inl (cA, 24, .inl (fun _ => 0))), (q2, .inl (cA, 24, .inl (fun _ => 0))), (q3, .inl (cA, 24, .inl (fun _ => 0)))] := hD
  refine lv_aload_n hx hb dX0_init_28 rfl (lv_at hl 0 rfl) ?_
  refine lv_bipush (v := 24) hx hb dX0_init_29 (by decide) ?_
  refine iv_newI I hP hD hS hA 24 (by decide) (by decide) (by decide) (Nat.le_of_ble_eq_true rfl) (Nat.le_of_ble_eq_true rfl) dX0_init_31 (fun q4 H hP hD hS => ?_)
  have hP : va_P D vwCl [(h0, .inr (0, [.ref q1, .ref q2, .ref q3, .null, .null, .null, .null, .int 0])), (q1, .inl (cA, 24, .inl (fun _ => 0))), (q2, .inl (cA, 24, .inl (fun _ => 0))), (q3, .inl (cA, 24, .inl (fun _ => 0))), (q4, .inl (cA, 24, .inl (fun _ => 0)))] H := hP
  have hD : va_D A [(h0, .inr (0, [.ref q1, .ref q2, .ref q3, .null, .null, .null, .null, .int 0])), (q1, .inl (cA, 24, .inl (fun _ => 0))), (q2, .inl (cA, 24, .inl (fun _ => 0))), (q3, .inl (cA, 24, .inl (fun _ => 0))), (q4, .inl (cA, 24, .inl (fun _ => 0)))] := hD
  refine W.widen (k := 4) (n := 96) (Nat.le_of_ble_eq_true rfl) (Nat.le_of_ble_eq_true rfl) ?_
  refine iv_putF (v := .ref q4) (ty := .array .int) I hP hD hS 0 3 inTX0 tyX0 tyX0_ok nmX0 rfl rfl (by decide) fl_RX0_21 rfl rfl (by decide +kernel) rfl rfl (Nat.le_of_ble_eq_true rfl) dX0_init_33 (fun H locs hP hD hS => ?_)
  have hP : va_P D vwCl [(h0, .inr (0, [.ref q1, .ref q2, .ref q3, .ref q4, .null, .null, .null, .int 0])), (q1, .inl (cA, 24, .inl (fun _ => 0))), (q2, .inl (cA, 24, .inl (fun _ => 0))), (q3, .inl (cA, 24, .inl (fun _ => 0))), (q4, .inl (cA, 24, .inl (fun _ => 0)))] H := hP
  have hD : va_D A [(h0, .inr (0, [.ref q1, .ref q2, .ref q3, .ref q4, .null, .null, .null, .int 0])), (q1, .inl (cA, 24, .inl (fun _ => 0))), (q2, .inl (cA, 24, .inl (fun _ => 0))), (q3, .inl (cA, 24, .inl (fun _ => 0))), (q4, .inl (cA, 24, .inl (fun _ => 0)))] := hD
  refine lv_aload_n hx hb dX0_init_36 rfl (lv_at hl 0 rfl) ?_
  refine lv_bipush (v := 24) hx hb dX0_init_37 (by decide) ?_
  refine iv_newI I hP hD hS hA 24 (by decide) (by decide) (by decide) (Nat.le_of_ble_eq_true rfl) (Nat.le_of_ble_eq_true rfl) dX0_init_39 (fun q5 H hP hD hS => ?_)
  have hP : va_P D vwCl [(h0, .inr (0, [.ref q1, .ref q2, .ref q3, .ref q4, .null, .null, .null, .int 0])), (q1, .inl (cA, 24, .inl (fun _ => 0))), (q2, .inl (cA, 24, .inl (fun _ => 0))), (q3, .inl (cA, 24, .inl (fun _ => 0))), (q4, .inl (cA, 24, .inl (fun _ => 0))), (q5, .inl (cA, 24, .inl (fun _ => 0)))] H := hP
  have hD : va_D A [(h0, .inr (0, [.ref q1, .ref q2, .ref q3, .ref q4, .null, .null, .null, .int 0])), (q1, .inl (cA, 24, .inl (fun _ => 0))), (q2, .inl (cA, 24, .inl (fun _ => 0))), (q3, .inl (cA, 24, .inl (fun _ => 0))), (q4, .inl (cA, 24, .inl (fun _ => 0))), (q5, .inl (cA, 24, .inl (fun _ => 0)))] := hD
  refine W.widen (k := 5) (n := 120) (Nat.le_of_ble_eq_true rfl) (Nat.le_of_ble_eq_true rfl) ?_
  refine iv_putF (v := .ref q5) (ty := .array .int) I hP hD hS 0 4 inTX0 tyX0 tyX0_ok nmX0 rfl rfl (by decide) fl_RX0_24 rfl rfl (by decide +kernel) rfl rfl (Nat.le_of_ble_eq_true rfl) dX0_init_41 (fun H locs hP hD hS => ?_)
  have hP : va_P D vwCl [(h0, .inr (0, [.ref q1, .ref q2, .ref q3, .ref q4, .ref q5, .null, .null, .int 0])), (q1, .inl (cA, 24, .inl (fun _ => 0))), (q2, .inl (cA, 24, .inl (fun _ => 0))), (q3, .inl (cA, 24, .inl (fun _ => 0))), (q4, .inl (cA, 24, .inl (fun _ => 0))), (q5, .inl (cA, 24, .inl (fun _ => 0)))] H := hP
  have hD : va_D A [(h0, .inr (0, [.ref q1, .ref q2, .ref q3, .ref q4, .ref q5, .null, .null, .int 0])), (q1, .inl (cA, 24, .inl (fun _ => 0))), (q2, .inl (cA, 24, .inl (fun _ => 0))), (q3, .inl (cA, 24, .inl (fun _ => 0))), (q4, .inl (cA, 24, .inl (fun _ => 0))), (q5, .inl (cA, 24, .inl (fun _ => 0)))] := hD
  refine lv_aload_n hx hb dX0_init_44 rfl (lv_at hl 0 rfl) ?_
  refine lv_bipush (v := 24) hx hb dX0_init_45 (by decide) ?_
  refine iv_newI I hP hD hS hA 24 (by decide) (by decide) (by decide) (Nat.le_of_ble_eq_true rfl) (Nat.le_of_ble_eq_true rfl) dX0_init_47 (fun q6 H hP hD hS => ?_)
  have hP : va_P D vwCl [(h0, .inr (0, [.ref q1, .ref q2, .ref q3, .ref q4, .ref q5, .null, .null, .int 0])), (q1, .inl (cA, 24, .inl (fun _ => 0))), (q2, .inl (cA, 24, .inl (fun _ => 0))), (q3, .inl (cA, 24, .inl (fun _ => 0))), (q4, .inl (cA, 24, .inl (fun _ => 0))), (q5, .inl (cA, 24, .inl (fun _ => 0))), (q6, .inl (cA, 24, .inl (fun _ => 0)))] H := hP
  have hD : va_D A [(h0, .inr (0, [.ref q1, .ref q2, .ref q3, .ref q4, .ref q5, .null, .null, .int 0])), (q1, .inl (cA, 24, .inl (fun _ => 0))), (q2, .inl (cA, 24, .inl (fun _ => 0))), (q3, .inl (cA, 24, .inl (fun _ => 0))), (q4, .inl (cA, 24, .inl (fun _ => 0))), (q5, .inl (cA, 24, .inl (fun _ => 0))), (q6, .inl (cA, 24, .inl (fun _ => 0)))] := hD
  refine W.widen (k := 6) (n := 144) (Nat.le_of_ble_eq_true rfl) (Nat.le_of_ble_eq_true rfl) ?_
  refine iv_putF (v := .ref q6) (ty := .array .int) I hP hD hS 0 5 inTX0 tyX0 tyX0_ok nmX0 rfl rfl (by decide) fl_RX0_27 rfl rfl (by decide +kernel) rfl rfl (Nat.le_of_ble_eq_true rfl) dX0_init_49 (fun H locs hP hD hS => ?_)
  have hP : va_P D vwCl [(h0, .inr (0, [.ref q1, .ref q2, .ref q3, .ref q4, .ref q5, .ref q6, .null, .int 0])), (q1, .inl (cA, 24, .inl (fun _ => 0))), (q2, .inl (cA, 24, .inl (fun _ => 0))), (q3, .inl (cA, 24, .inl (fun _ => 0))), (q4, .inl (cA, 24, .inl (fun _ => 0))), (q5, .inl (cA, 24, .inl (fun _ => 0))), (q6, .inl (cA, 24, .inl (fun _ => 0)))] H := hP
  have hD : va_D A [(h0, .inr (0, [.ref q1, .ref q2, .ref q3, .ref q4, .ref q5, .ref q6, .null, .int 0])), (q1, .inl (cA, 24, .inl (fun _ => 0))), (q2, .inl (cA, 24, .inl (fun _ => 0))), (q3, .inl (cA, 24, .inl (fun _ => 0))), (q4, .inl (cA, 24, .inl (fun _ => 0))), (q5, .inl (cA, 24, .inl (fun _ => 0))), (q6, .inl (cA, 24, .inl (fun _ => 0)))] := hD
  refine lv_aload_n hx hb dX0_init_52 rfl (lv_at hl 0 rfl) ?_
  refine lv_bipush (v := 24) hx hb dX0_init_53 (by decide) ?_
  refine iv_newI I hP hD hS hA 24 (by decide) (by decide) (by decide) (Nat.le_of_ble_eq_true rfl) (Nat.le_of_ble_eq_true rfl) dX0_init_55 (fun q7 H hP hD hS => ?_)
  have hP : va_P D vwCl [(h0, .inr (0, [.ref q1, .ref q2, .ref q3, .ref q4, .ref q5, .ref q6, .null, .int 0])), (q1, .inl (cA, 24, .inl (fun _ => 0))), (q2, .inl (cA, 24, .inl (fun _ => 0))), (q3, .inl (cA, 24, .inl (fun _ => 0))), (q4, .inl (cA, 24, .inl (fun _ => 0))), (q5, .inl (cA, 24, .inl (fun _ => 0))), (q6, .inl (cA, 24, .inl (fun _ => 0))), (q7, .inl (cA, 24, .inl (fun _ => 0)))] H := hP
  have hD : va_D A [(h0, .inr (0, [.ref q1, .ref q2, .ref q3, .ref q4, .ref q5, .ref q6, .null, .int 0])), (q1, .inl (cA, 24, .inl (fun _ => 0))), (q2, .inl (cA, 24, .inl (fun _ => 0))), (q3, .inl (cA, 24, .inl (fun _ => 0))), (q4, .inl (cA, 24, .inl (fun _ => 0))), (q5, .inl (cA, 24, .inl (fun _ => 0))), (q6, .inl (cA, 24, .inl (fun _ => 0))), (q7, .inl (cA, 24, .inl (fun _ => 0)))] := hD
  refine W.widen (k := 7) (n := 168) (Nat.le_of_ble_eq_true rfl) (Nat.le_of_ble_eq_true rfl) ?_
  refine iv_putF (v := .ref q7) (ty := .array .int) I hP hD hS 0 6 inTX0 tyX0 tyX0_ok nmX0 rfl rfl (by decide) fl_RX0_30 rfl rfl (by decide +kernel) rfl rfl (Nat.le_of_ble_eq_true rfl) dX0_init_57 (fun H locs hP hD hS => ?_)
  have hP : va_P D vwCl [(h0, .inr (0, [.ref q1, .ref q2, .ref q3, .ref q4, .ref q5, .ref q6, .ref q7, .int 0])), (q1, .inl (cA, 24, .inl (fun _ => 0))), (q2, .inl (cA, 24, .inl (fun _ => 0))), (q3, .inl (cA, 24, .inl (fun _ => 0))), (q4, .inl (cA, 24, .inl (fun _ => 0))), (q5, .inl (cA, 24, .inl (fun _ => 0))), (q6, .inl (cA, 24, .inl (fun _ => 0))), (q7, .inl (cA, 24, .inl (fun _ => 0)))] H := hP
  have hD : va_D A [(h0, .inr (0, [.ref q1, .ref q2, .ref q3, .ref q4, .ref q5, .ref q6, .ref q7, .int 0])), (q1, .inl (cA, 24, .inl (fun _ => 0))), (q2, .inl (cA, 24, .inl (fun _ => 0))), (q3, .inl (cA, 24, .inl (fun _ => 0))), (q4, .inl (cA, 24, .inl (fun _ => 0))), (q5, .inl (cA, 24, .inl (fun _ => 0))), (q6, .inl (cA, 24, .inl (fun _ => 0))), (q7, .inl (cA, 24, .inl (fun _ => 0)))] := hD
  exact hret _ _ _ _ ⟨q1, q2, q3, q4, q5, q6, q7, hP, hae ▸ hD⟩ hS dX0_init_60
set_option maxHeartbeats 4000000 in
set_option maxRecDepth 100000 in
theorem cI_RX1 {l : Launch} {D : va_G} {cA cB : ClassId} {h0 sz : Nat} : CI l yX1_init cX1_init 1 1 3 12 D cA cB NW h0 sz (.inr (1, [.null, .null, .null, .int 0])) (fun H => ∃ q1 q2 q3 : Nat, va_P D vwCl [(h0, .inr (1, [.ref q1, .ref q2, .ref q3, .int 0])), (q1, .inl (cA, 4, .inl (fun _ => 0))), (q2, .inl (cA, 4, .inl (fun _ => 0))), (q3, .inl (cA, 4, .inl (fun _ => 0)))] H ∧ va_D (va_A [(h0, .inr (1, [.null, .null, .null, .int 0]))] sz) [(h0, .inr (1, [.ref q1, .ref q2, .ref q3, .int 0])), (q1, .inl (cA, 4, .inl (fun _ => 0))), (q2, .inl (cA, 4, .inl (fun _ => 0))), (q3, .inl (cA, 4, .inl (fun _ => 0)))]) := by
  refine CI_of (by decide) rfl (Nat.le_of_ble_eq_true rfl) ?_
  intro p e s m args below meth c Q A I hsz hret hAe hP hD hS hA ls hl
  obtain ⟨hx, hb, hml, hown, hts, hK, hX, hin⟩ := id I
  have hae : A = va_A [(h0, .inr (1, [.null, .null, .null, .int 0]))] sz := by rw [hAe, hsz]
  refine lv_aload_n hx hb dX1_init_0 rfl (lv_at hl 0 rfl) ?_
  refine iv_obj I mo_RX1 hl.1 ⟨Nat.le_of_ble_eq_true rfl, Nat.le_of_ble_eq_true rfl⟩ dX1_init_1 ?_
  refine lv_aload_n hx hb dX1_init_4 rfl (lv_at hl 0 rfl) ?_
  refine lv_iconst (v := 4) hx hb dX1_init_5 (by decide) ?_
  refine iv_newI I hP hD hS hA 4 (by decide) (by decide) (by decide) (Nat.le_of_ble_eq_true rfl) (Nat.le_of_ble_eq_true rfl) dX1_init_6 (fun q1 H hP hD hS => ?_)
  have hP : va_P D vwCl [(h0, .inr (1, [.null, .null, .null, .int 0])), (q1, .inl (cA, 4, .inl (fun _ => 0)))] H := hP
  have hD : va_D A [(h0, .inr (1, [.null, .null, .null, .int 0])), (q1, .inl (cA, 4, .inl (fun _ => 0)))] := hD
  refine W.widen (k := 1) (n := 4) (Nat.le_of_ble_eq_true rfl) (Nat.le_of_ble_eq_true rfl) ?_
  refine iv_putF (v := .ref q1) (ty := .array .int) I hP hD hS 0 0 inTX1 tyX1 tyX1_ok nmX1 rfl rfl (by decide) fl_RX1_9 rfl rfl (by decide +kernel) rfl rfl (Nat.le_of_ble_eq_true rfl) dX1_init_8 (fun H locs hP hD hS => ?_)
  have hP : va_P D vwCl [(h0, .inr (1, [.ref q1, .null, .null, .int 0])), (q1, .inl (cA, 4, .inl (fun _ => 0)))] H := hP
  have hD : va_D A [(h0, .inr (1, [.ref q1, .null, .null, .int 0])), (q1, .inl (cA, 4, .inl (fun _ => 0)))] := hD
  refine lv_aload_n hx hb dX1_init_11 rfl (lv_at hl 0 rfl) ?_
  refine lv_iconst (v := 4) hx hb dX1_init_12 (by decide) ?_
  refine iv_newI I hP hD hS hA 4 (by decide) (by decide) (by decide) (Nat.le_of_ble_eq_true rfl) (Nat.le_of_ble_eq_true rfl) dX1_init_13 (fun q2 H hP hD hS => ?_)
  have hP : va_P D vwCl [(h0, .inr (1, [.ref q1, .null, .null, .int 0])), (q1, .inl (cA, 4, .inl (fun _ => 0))), (q2, .inl (cA, 4, .inl (fun _ => 0)))] H := hP
  have hD : va_D A [(h0, .inr (1, [.ref q1, .null, .null, .int 0])), (q1, .inl (cA, 4, .inl (fun _ => 0))), (q2, .inl (cA, 4, .inl (fun _ => 0)))] := hD
  refine W.widen (k := 2) (n := 8) (Nat.le_of_ble_eq_true rfl) (Nat.le_of_ble_eq_true rfl) ?_
  refine iv_putF (v := .ref q2) (ty := .array .int) I hP hD hS 0 1 inTX1 tyX1 tyX1_ok nmX1 rfl rfl (by decide) fl_RX1_15 rfl rfl (by decide +kernel) rfl rfl (Nat.le_of_ble_eq_true rfl) dX1_init_15 (fun H locs hP hD hS => ?_)
  have hP : va_P D vwCl [(h0, .inr (1, [.ref q1, .ref q2, .null, .int 0])), (q1, .inl (cA, 4, .inl (fun _ => 0))), (q2, .inl (cA, 4, .inl (fun _ => 0)))] H := hP
  have hD : va_D A [(h0, .inr (1, [.ref q1, .ref q2, .null, .int 0])), (q1, .inl (cA, 4, .inl (fun _ => 0))), (q2, .inl (cA, 4, .inl (fun _ => 0)))] := hD
  refine lv_aload_n hx hb dX1_init_18 rfl (lv_at hl 0 rfl) ?_
  refine lv_iconst (v := 4) hx hb dX1_init_19 (by decide) ?_
  refine iv_newI I hP hD hS hA 4 (by decide) (by decide) (by decide) (Nat.le_of_ble_eq_true rfl) (Nat.le_of_ble_eq_true rfl) dX1_init_20 (fun q3 H hP hD hS => ?_)
  have hP : va_P D vwCl [(h0, .inr (1, [.ref q1, .ref q2, .null, .int 0])), (q1, .inl (cA, 4, .inl (fun _ => 0))), (q2, .inl (cA, 4, .inl (fun _ => 0))), (q3, .inl (cA, 4, .inl (fun _ => 0)))] H := hP
  have hD : va_D A [(h0, .inr (1, [.ref q1, .ref q2, .null, .int 0])), (q1, .inl (cA, 4, .inl (fun _ => 0))), (q2, .inl (cA, 4, .inl (fun _ => 0))), (q3, .inl (cA, 4, .inl (fun _ => 0)))] := hD
  refine W.widen (k := 3) (n := 12) (Nat.le_of_ble_eq_true rfl) (Nat.le_of_ble_eq_true rfl) ?_
  refine iv_putF (v := .ref q3) (ty := .array .int) I hP hD hS 0 2 inTX1 tyX1 tyX1_ok nmX1 rfl rfl (by decide) fl_RX1_18 rfl rfl (by decide +kernel) rfl rfl (Nat.le_of_ble_eq_true rfl) dX1_init_22 (fun H locs hP hD hS => ?_)
  have hP : va_P D vwCl [(h0, .inr (1, [.ref q1, .ref q2, .ref q3, .int 0])), (q1, .inl (cA, 4, .inl (fun _ => 0))), (q2, .inl (cA, 4, .inl (fun _ => 0))), (q3, .inl (cA, 4, .inl (fun _ => 0)))] H := hP
  have hD : va_D A [(h0, .inr (1, [.ref q1, .ref q2, .ref q3, .int 0])), (q1, .inl (cA, 4, .inl (fun _ => 0))), (q2, .inl (cA, 4, .inl (fun _ => 0))), (q3, .inl (cA, 4, .inl (fun _ => 0)))] := hD
  exact hret _ _ _ _ ⟨q1, q2, q3, hP, hae ▸ hD⟩ hS dX1_init_25
set_option maxHeartbeats 4000000 in
set_option maxRecDepth 100000 in
theorem cI_RX2 {l : Launch} {D : va_G} {cA cB : ClassId} {h0 sz : Nat} : CI l yX2_init cX2_init 1 1 3 144 D cA cB NW h0 sz (.inr (2, [.null, .null, .null, .int 0])) (fun H => ∃ q1 q2 q3 : Nat, va_P D vwCl [(h0, .inr (2, [.ref q1, .ref q2, .ref q3, .int 0])), (q1, .inl (cA, 40, .inl (fun _ => 0))), (q2, .inl (cA, 40, .inl (fun _ => 0))), (q3, .inl (cA, 64, .inl (fun _ => 0)))] H ∧ va_D (va_A [(h0, .inr (2, [.null, .null, .null, .int 0]))] sz) [(h0, .inr (2, [.ref q1, .ref q2, .ref q3, .int 0])), (q1, .inl (cA, 40, .inl (fun _ => 0))), (q2, .inl (cA, 40, .inl (fun _ => 0))), (q3, .inl (cA, 64, .inl (fun _ => 0)))]) := by
  refine CI_of (by decide) rfl (Nat.le_of_ble_eq_true rfl) ?_
  intro p e s m args below meth c Q A I hsz hret hAe hP hD hS hA ls hl
  obtain ⟨hx, hb, hml, hown, hts, hK, hX, hin⟩ := id I
  have hae : A = va_A [(h0, .inr (2, [.null, .null, .null, .int 0]))] sz := by rw [hAe, hsz]
  refine lv_aload_n hx hb dX2_init_0 rfl (lv_at hl 0 rfl) ?_
  refine iv_obj I mo_RX2 hl.1 ⟨Nat.le_of_ble_eq_true rfl, Nat.le_of_ble_eq_true rfl⟩ dX2_init_1 ?_
  refine lv_aload_n hx hb dX2_init_4 rfl (lv_at hl 0 rfl) ?_
  refine lv_bipush (v := 40) hx hb dX2_init_5 (by decide) ?_
  refine iv_newI I hP hD hS hA 40 (by decide) (by decide) (by decide) (Nat.le_of_ble_eq_true rfl) (Nat.le_of_ble_eq_true rfl) dX2_init_7 (fun q1 H hP hD hS => ?_)
  have hP : va_P D vwCl [(h0, .inr (2, [.null, .null, .null, .int 0])), (q1, .inl (cA, 40, .inl (fun _ => 0)))] H := hP
  have hD : va_D A [(h0, .inr (2, [.null, .null, .null, .int 0])), (q1, .inl (cA, 40, .inl (fun _ => 0)))] := hD
  refine W.widen (k := 1) (n := 40) (Nat.le_of_ble_eq_true rfl) (Nat.le_of_ble_eq_true rfl) ?_
  refine iv_putF (v := .ref q1) (ty := .array .int) I hP hD hS 0 0 inTX2 tyX2 tyX2_ok nmX2 rfl rfl (by decide) fl_RX2_9 rfl rfl (by decide +kernel) rfl rfl (Nat.le_of_ble_eq_true rfl) dX2_init_9 (fun H locs hP hD hS => ?_)
  have hP : va_P D vwCl [(h0, .inr (2, [.ref q1, .null, .null, .int 0])), (q1, .inl (cA, 40, .inl (fun _ => 0)))] H := hP
  have hD : va_D A [(h0, .inr (2, [.ref q1, .null, .null, .int 0])), (q1, .inl (cA, 40, .inl (fun _ => 0)))] := hD
  refine lv_aload_n hx hb dX2_init_12 rfl (lv_at hl 0 rfl) ?_
  refine lv_bipush (v := 40) hx hb dX2_init_13 (by decide) ?_
  refine iv_newI I hP hD hS hA 40 (by decide) (by decide) (by decide) (Nat.le_of_ble_eq_true rfl) (Nat.le_of_ble_eq_true rfl) dX2_init_15 (fun q2 H hP hD hS => ?_)
  have hP : va_P D vwCl [(h0, .inr (2, [.ref q1, .null, .null, .int 0])), (q1, .inl (cA, 40, .inl (fun _ => 0))), (q2, .inl (cA, 40, .inl (fun _ => 0)))] H := hP
  have hD : va_D A [(h0, .inr (2, [.ref q1, .null, .null, .int 0])), (q1, .inl (cA, 40, .inl (fun _ => 0))), (q2, .inl (cA, 40, .inl (fun _ => 0)))] := hD
  refine W.widen (k := 2) (n := 80) (Nat.le_of_ble_eq_true rfl) (Nat.le_of_ble_eq_true rfl) ?_
  refine iv_putF (v := .ref q2) (ty := .array .int) I hP hD hS 0 1 inTX2 tyX2 tyX2_ok nmX2 rfl rfl (by decide) fl_RX2_15 rfl rfl (by decide +kernel) rfl rfl (Nat.le_of_ble_eq_true rfl) dX2_init_17 (fun H locs hP hD hS => ?_)
  have hP : va_P D vwCl [(h0, .inr (2, [.ref q1, .ref q2, .null, .int 0])), (q1, .inl (cA, 40, .inl (fun _ => 0))), (q2, .inl (cA, 40, .inl (fun _ => 0)))] H := hP
  have hD : va_D A [(h0, .inr (2, [.ref q1, .ref q2, .null, .int 0])), (q1, .inl (cA, 40, .inl (fun _ => 0))), (q2, .inl (cA, 40, .inl (fun _ => 0)))] := hD
  refine lv_aload_n hx hb dX2_init_20 rfl (lv_at hl 0 rfl) ?_
  refine lv_bipush (v := 64) hx hb dX2_init_21 (by decide) ?_
  refine iv_newI I hP hD hS hA 64 (by decide) (by decide) (by decide) (Nat.le_of_ble_eq_true rfl) (Nat.le_of_ble_eq_true rfl) dX2_init_23 (fun q3 H hP hD hS => ?_)
  have hP : va_P D vwCl [(h0, .inr (2, [.ref q1, .ref q2, .null, .int 0])), (q1, .inl (cA, 40, .inl (fun _ => 0))), (q2, .inl (cA, 40, .inl (fun _ => 0))), (q3, .inl (cA, 64, .inl (fun _ => 0)))] H := hP
  have hD : va_D A [(h0, .inr (2, [.ref q1, .ref q2, .null, .int 0])), (q1, .inl (cA, 40, .inl (fun _ => 0))), (q2, .inl (cA, 40, .inl (fun _ => 0))), (q3, .inl (cA, 64, .inl (fun _ => 0)))] := hD
  refine W.widen (k := 3) (n := 144) (Nat.le_of_ble_eq_true rfl) (Nat.le_of_ble_eq_true rfl) ?_
  refine iv_putF (v := .ref q3) (ty := .array .int) I hP hD hS 0 2 inTX2 tyX2 tyX2_ok nmX2 rfl rfl (by decide) fl_RX2_18 rfl rfl (by decide +kernel) rfl rfl (Nat.le_of_ble_eq_true rfl) dX2_init_25 (fun H locs hP hD hS => ?_)
  have hP : va_P D vwCl [(h0, .inr (2, [.ref q1, .ref q2, .ref q3, .int 0])), (q1, .inl (cA, 40, .inl (fun _ => 0))), (q2, .inl (cA, 40, .inl (fun _ => 0))), (q3, .inl (cA, 64, .inl (fun _ => 0)))] H := hP
  have hD : va_D A [(h0, .inr (2, [.ref q1, .ref q2, .ref q3, .int 0])), (q1, .inl (cA, 40, .inl (fun _ => 0))), (q2, .inl (cA, 40, .inl (fun _ => 0))), (q3, .inl (cA, 64, .inl (fun _ => 0)))] := hD
  exact hret _ _ _ _ ⟨q1, q2, q3, hP, hae ▸ hD⟩ hS dX2_init_28
set_option maxHeartbeats 4000000 in
set_option maxRecDepth 100000 in
theorem cI_RX3 {l : Launch} {D : va_G} {cA cB : ClassId} {h0 sz : Nat} : CI l yX3_init cX3_init 1 1 2 12 D cA cB NW h0 sz (.inr (3, [.null, .null, .int 0])) (fun H => ∃ q1 q2 : Nat, va_P D vwCl [(h0, .inr (3, [.ref q1, .ref q2, .int 0])), (q1, .inl (cA, 6, .inl (fun _ => 0))), (q2, .inl (cA, 6, .inl (fun _ => 0)))] H ∧ va_D (va_A [(h0, .inr (3, [.null, .null, .int 0]))] sz) [(h0, .inr (3, [.ref q1, .ref q2, .int 0])), (q1, .inl (cA, 6, .inl (fun _ => 0))), (q2, .inl (cA, 6, .inl (fun _ => 0)))]) := by
  refine CI_of (by decide) rfl (Nat.le_of_ble_eq_true rfl) ?_
  intro p e s m args below meth c Q A I hsz hret hAe hP hD hS hA ls hl
  obtain ⟨hx, hb, hml, hown, hts, hK, hX, hin⟩ := id I
  have hae : A = va_A [(h0, .inr (3, [.null, .null, .int 0]))] sz := by rw [hAe, hsz]
  refine lv_aload_n hx hb dX3_init_0 rfl (lv_at hl 0 rfl) ?_
  refine iv_obj I mo_RX3 hl.1 ⟨Nat.le_of_ble_eq_true rfl, Nat.le_of_ble_eq_true rfl⟩ dX3_init_1 ?_
  refine lv_aload_n hx hb dX3_init_4 rfl (lv_at hl 0 rfl) ?_
  refine lv_bipush (v := 6) hx hb dX3_init_5 (by decide) ?_
  refine iv_newI I hP hD hS hA 6 (by decide) (by decide) (by decide) (Nat.le_of_ble_eq_true rfl) (Nat.le_of_ble_eq_true rfl) dX3_init_7 (fun q1 H hP hD hS => ?_)
  have hP : va_P D vwCl [(h0, .inr (3, [.null, .null, .int 0])), (q1, .inl (cA, 6, .inl (fun _ => 0)))] H := hP
  have hD : va_D A [(h0, .inr (3, [.null, .null, .int 0])), (q1, .inl (cA, 6, .inl (fun _ => 0)))] := hD
  refine W.widen (k := 1) (n := 6) (Nat.le_of_ble_eq_true rfl) (Nat.le_of_ble_eq_true rfl) ?_
  refine iv_putF (v := .ref q1) (ty := .array .int) I hP hD hS 0 0 inTX3 tyX3 tyX3_ok nmX3 rfl rfl (by decide) fl_RX3_9 rfl rfl (by decide +kernel) rfl rfl (Nat.le_of_ble_eq_true rfl) dX3_init_9 (fun H locs hP hD hS => ?_)
  have hP : va_P D vwCl [(h0, .inr (3, [.ref q1, .null, .int 0])), (q1, .inl (cA, 6, .inl (fun _ => 0)))] H := hP
  have hD : va_D A [(h0, .inr (3, [.ref q1, .null, .int 0])), (q1, .inl (cA, 6, .inl (fun _ => 0)))] := hD
  refine lv_aload_n hx hb dX3_init_12 rfl (lv_at hl 0 rfl) ?_
  refine lv_bipush (v := 6) hx hb dX3_init_13 (by decide) ?_
  refine iv_newI I hP hD hS hA 6 (by decide) (by decide) (by decide) (Nat.le_of_ble_eq_true rfl) (Nat.le_of_ble_eq_true rfl) dX3_init_15 (fun q2 H hP hD hS => ?_)
  have hP : va_P D vwCl [(h0, .inr (3, [.ref q1, .null, .int 0])), (q1, .inl (cA, 6, .inl (fun _ => 0))), (q2, .inl (cA, 6, .inl (fun _ => 0)))] H := hP
  have hD : va_D A [(h0, .inr (3, [.ref q1, .null, .int 0])), (q1, .inl (cA, 6, .inl (fun _ => 0))), (q2, .inl (cA, 6, .inl (fun _ => 0)))] := hD
  refine W.widen (k := 2) (n := 12) (Nat.le_of_ble_eq_true rfl) (Nat.le_of_ble_eq_true rfl) ?_
  refine iv_putF (v := .ref q2) (ty := .array .int) I hP hD hS 0 1 inTX3 tyX3 tyX3_ok nmX3 rfl rfl (by decide) fl_RX3_15 rfl rfl (by decide +kernel) rfl rfl (Nat.le_of_ble_eq_true rfl) dX3_init_17 (fun H locs hP hD hS => ?_)
  have hP : va_P D vwCl [(h0, .inr (3, [.ref q1, .ref q2, .int 0])), (q1, .inl (cA, 6, .inl (fun _ => 0))), (q2, .inl (cA, 6, .inl (fun _ => 0)))] H := hP
  have hD : va_D A [(h0, .inr (3, [.ref q1, .ref q2, .int 0])), (q1, .inl (cA, 6, .inl (fun _ => 0))), (q2, .inl (cA, 6, .inl (fun _ => 0)))] := hD
  exact hret _ _ _ _ ⟨q1, q2, hP, hae ▸ hD⟩ hS dX3_init_20
set_option maxHeartbeats 4000000 in
set_option maxRecDepth 100000 in
theorem cI_RX4 {l : Launch} {D : va_G} {cA cB : ClassId} {h0 sz : Nat} : CI l yX4_init cX4_init 1 1 7 60 D cA cB NW h0 sz (.inr (4, [.null, .null, .null, .null, .int 0, .null, .null, .null])) (fun H => ∃ q1 q2 q3 q4 q5 q6 q7 : Nat, va_P D vwCl [(h0, .inr (4, [.ref q1, .ref q2, .ref q3, .ref q4, .int 0, .ref q5, .ref q6, .ref q7])), (q1, .inl (cA, 12, .inl (fun _ => 0))), (q2, .inl (cA, 12, .inl (fun _ => 0))), (q3, .inl (cA, 12, .inl (fun _ => 0))), (q4, .inl (cA, 12, .inl (fun _ => 0))), (q5, .inl (cA, 4, .inl (fun _ => 0))), (q6, .inl (cA, 4, .inl (fun _ => 0))), (q7, .inl (cA, 4, .inl (fun _ => 0)))] H ∧ va_D (va_A [(h0, .inr (4, [.null, .null, .null, .null, .int 0, .null, .null, .null]))] sz) [(h0, .inr (4, [.ref q1, .ref q2, .ref q3, .ref q4, .int 0, .ref q5, .ref q6, .ref q7])), (q1, .inl (cA, 12, .inl (fun _ => 0))), (q2, .inl (cA, 12, .inl (fun _ => 0))), (q3, .inl (cA, 12, .inl (fun _ => 0))), (q4, .inl (cA, 12, .inl (fun _ => 0))), (q5, .inl (cA, 4, .inl (fun _ => 0))), (q6, .inl (cA, 4, .inl (fun _ => 0))), (q7, .inl (cA, 4, .inl (fun _ => 0)))]) := by
  refine CI_of (by decide) rfl (Nat.le_of_ble_eq_true rfl) ?_
  intro p e s m args below meth c Q A I hsz hret hAe hP hD hS hA ls hl
  obtain ⟨hx, hb, hml, hown, hts, hK, hX, hin⟩ := id I
  have hae : A = va_A [(h0, .inr (4, [.null, .null, .null, .null, .int 0, .null, .null, .null]))] sz := by rw [hAe, hsz]
  refine lv_aload_n hx hb dX4_init_0 rfl (lv_at hl 0 rfl) ?_
  refine iv_obj I mo_RX4 hl.1 ⟨Nat.le_of_ble_eq_true rfl, Nat.le_of_ble_eq_true rfl⟩ dX4_init_1 ?_
  refine lv_aload_n hx hb dX4_init_4 rfl (lv_at hl 0 rfl) ?_
  refine lv_bipush (v := 12) hx hb dX4_init_5 (by decide) ?_
  refine iv_newI I hP hD hS hA 12 (by decide) (by decide) (by decide) (Nat.le_of_ble_eq_true rfl) (Nat.le_of_ble_eq_true rfl) dX4_init_7 (fun q1 H hP hD hS => ?_)
  have hP : va_P D vwCl [(h0, .inr (4, [.null, .null, .null, .null, .int 0, .null, .null, .null])), (q1, .inl (cA, 12, .inl (fun _ => 0)))] H := hP
  have hD : va_D A [(h0, .inr (4, [.null, .null, .null, .null, .int 0, .null, .null, .null])), (q1, .inl (cA, 12, .inl (fun _ => 0)))] := hD
  refine W.widen (k := 1) (n := 12) (Nat.le_of_ble_eq_true rfl) (Nat.le_of_ble_eq_true rfl) ?_
  refine iv_putF (v := .ref q1) (ty := .array .int) I hP hD hS 0 0 inTX4 tyX4 tyX4_ok nmX4 rfl rfl (by decide) fl_RX4_9 rfl rfl (by decide +kernel) rfl rfl (Nat.le_of_ble_eq_true rfl) dX4_init_9 (fun H locs hP hD hS => ?_)
  have hP : va_P D vwCl [(h0, .inr (4, [.ref q1, .null, .null, .null, .int 0, .null, .null, .null])), (q1, .inl (cA, 12, .inl (fun _ => 0)))] H := hP
  have hD : va_D A [(h0, .inr (4, [.ref q1, .null, .null, .null, .int 0, .null, .null, .null])), (q1, .inl (cA, 12, .inl (fun _ => 0)))] := hD
  refine lv_aload_n hx hb dX4_init_12 rfl (lv_at hl 0 rfl) ?_
  refine lv_bipush (v := 12) hx hb dX4_init_13 (by decide) ?_
  refine iv_newI I hP hD hS hA 12 (by decide) (by decide) (by decide) (Nat.le_of_ble_eq_true rfl) (Nat.le_of_ble_eq_true rfl) dX4_init_15 (fun q2 H hP hD hS => ?_)
  have hP : va_P D vwCl [(h0, .inr (4, [.ref q1, .null, .null, .null, .int 0, .null, .null, .null])), (q1, .inl (cA, 12, .inl (fun _ => 0))), (q2, .inl (cA, 12, .inl (fun _ => 0)))] H := hP
  have hD : va_D A [(h0, .inr (4, [.ref q1, .null, .null, .null, .int 0, .null, .null, .null])), (q1, .inl (cA, 12, .inl (fun _ => 0))), (q2, .inl (cA, 12, .inl (fun _ => 0)))] := hD
  refine W.widen (k := 2) (n := 24) (Nat.le_of_ble_eq_true rfl) (Nat.le_of_ble_eq_true rfl) ?_
  refine iv_putF (v := .ref q2) (ty := .array .int) I hP hD hS 0 1 inTX4 tyX4 tyX4_ok nmX4 rfl rfl (by decide) fl_RX4_15 rfl rfl (by decide +kernel) rfl rfl (Nat.le_of_ble_eq_true rfl) dX4_init_17 (fun H locs hP hD hS => ?_)
  have hP : va_P D vwCl [(h0, .inr (4, [.ref q1, .ref q2, .null, .null, .int 0, .null, .null, .null])), (q1, .inl (cA, 12, .inl (fun _ => 0))), (q2, .inl (cA, 12, .inl (fun _ => 0)))] H := hP
  have hD : va_D A [(h0, .inr (4, [.ref q1, .ref q2, .null, .null, .int 0, .null, .null, .null])), (q1, .inl (cA, 12, .inl (fun _ => 0))), (q2, .inl (cA, 12, .inl (fun _ => 0)))] := hD
  refine lv_aload_n hx hb dX4_init_20 rfl (lv_at hl 0 rfl) ?_
  refine lv_bipush (v := 12) hx hb dX4_init_21 (by decide) ?_
  refine iv_newI I hP hD hS hA 12 (by decide) (by decide) (by decide) (Nat.le_of_ble_eq_true rfl) (Nat.le_of_ble_eq_true rfl) dX4_init_23 (fun q3 H hP hD hS => ?_)
  have hP : va_P D vwCl [(h0, .inr (4, [.ref q1, .ref q2, .null, .null, .int 0, .null, .null, .null])), (q1, .inl (cA, 12, .inl (fun _ => 0))), (q2, .inl (cA, 12, .inl (fun _ => 0))), (q3, .inl (cA, 12, .inl (fun _ => 0)))] H := hP
  have hD : va_D A [(h0, .inr (4, [.ref q1, .ref q2, .null, .null, .int 0, .null, .null, .null])), (q1, .inl (cA, 12, .inl (fun _ => 0))), (q2, .inl (cA, 12, .inl (fun _ => 0))), (q3, .inl (cA, 12, .inl (fun _ => 0)))] := hD
  refine W.widen (k := 3) (n := 36) (Nat.le_of_ble_eq_true rfl) (Nat.le_of_ble_eq_true rfl) ?_
  refine iv_putF (v := .ref q3) (ty := .array .int) I hP hD hS 0 2 inTX4 tyX4 tyX4_ok nmX4 rfl rfl (by decide) fl_RX4_18 rfl rfl (by decide +kernel) rfl rfl (Nat.le_of_ble_eq_true rfl) dX4_init_25 (fun H locs hP hD hS => ?_)
  have hP : va_P D vwCl [(h0, .inr (4, [.ref q1, .ref q2, .ref q3, .null, .int 0, .null, .null, .null])), (q1, .inl (cA, 12, .inl (fun _ => 0))), (q2, .inl (cA, 12, .inl (fun _ => 0))), (q3, .inl (cA, 12, .inl (fun _ => 0)))] H := hP
  have hD : va_D A [(h0, .inr (4, [.ref q1, .ref q2, .ref q3, .null, .int 0, .null, .null, .null])), (q1, .inl (cA, 12, .inl (fun _ => 0))), (q2, .inl (cA, 12, .inl (fun _ => 0))), (q3, .inl (cA, 12, .inl (fun _ => 0)))] := hD
  refine lv_aload_n hx hb dX4_init_28 rfl (lv_at hl 0 rfl) ?_
  refine lv_bipush (v := 12) hx hb dX4_init_29 (by decide) ?_
  refine iv_newI I hP hD hS hA 12 (by decide) (by decide) (by decide) (Nat.le_of_ble_eq_true rfl) (Nat.le_of_ble_eq_true rfl) dX4_init_31 (fun q4 H hP hD hS => ?_)
  have hP : va_P D vwCl [(h0, .inr (4, [.ref q1, .ref q2, .ref q3, .null, .int 0, .null, .null, .null])), (q1, .inl (cA, 12, .inl (fun _ => 0))), (q2, .inl (cA, 12, .inl (fun _ => 0))), (q3, .inl (cA, 12, .inl (fun _ => 0))), (q4, .inl (cA, 12, .inl (fun _ => 0)))] H := hP
  have hD : va_D A [(h0, .inr (4, [.ref q1, .ref q2, .ref q3, .null, .int 0, .null, .null, .null])), (q1, .inl (cA, 12, .inl (fun _ => 0))), (q2, .inl (cA, 12, .inl (fun _ => 0))), (q3, .inl (cA, 12, .inl (fun _ => 0))), (q4, .inl (cA, 12, .inl (fun _ => 0)))] := hD
  refine W.widen (k := 4) (n := 48) (Nat.le_of_ble_eq_true rfl) (Nat.le_of_ble_eq_true rfl) ?_
  refine iv_putF (v := .ref q4) (ty := .array .int) I hP hD hS 0 3 inTX4 tyX4 tyX4_ok nmX4 rfl rfl (by decide) fl_RX4_21 rfl rfl (by decide +kernel) rfl rfl (Nat.le_of_ble_eq_true rfl) dX4_init_33 (fun H locs hP hD hS => ?_)
  have hP : va_P D vwCl [(h0, .inr (4, [.ref q1, .ref q2, .ref q3, .ref q4, .int 0, .null, .null, .null])), (q1, .inl (cA, 12, .inl (fun _ => 0))), (q2, .inl (cA, 12, .inl (fun _ => 0))), (q3, .inl (cA, 12, .inl (fun _ => 0))), (q4, .inl (cA, 12, .inl (fun _ => 0)))] H := hP
  have hD : va_D A [(h0, .inr (4, [.ref q1, .ref q2, .ref q3, .ref q4, .int 0, .null, .null, .null])), (q1, .inl (cA, 12, .inl (fun _ => 0))), (q2, .inl (cA, 12, .inl (fun _ => 0))), (q3, .inl (cA, 12, .inl (fun _ => 0))), (q4, .inl (cA, 12, .inl (fun _ => 0)))] := hD
  refine lv_aload_n hx hb dX4_init_36 rfl (lv_at hl 0 rfl) ?_
  refine lv_iconst (v := 4) hx hb dX4_init_37 (by decide) ?_
  refine iv_newI I hP hD hS hA 4 (by decide) (by decide) (by decide) (Nat.le_of_ble_eq_true rfl) (Nat.le_of_ble_eq_true rfl) dX4_init_38 (fun q5 H hP hD hS => ?_)
  have hP : va_P D vwCl [(h0, .inr (4, [.ref q1, .ref q2, .ref q3, .ref q4, .int 0, .null, .null, .null])), (q1, .inl (cA, 12, .inl (fun _ => 0))), (q2, .inl (cA, 12, .inl (fun _ => 0))), (q3, .inl (cA, 12, .inl (fun _ => 0))), (q4, .inl (cA, 12, .inl (fun _ => 0))), (q5, .inl (cA, 4, .inl (fun _ => 0)))] H := hP
  have hD : va_D A [(h0, .inr (4, [.ref q1, .ref q2, .ref q3, .ref q4, .int 0, .null, .null, .null])), (q1, .inl (cA, 12, .inl (fun _ => 0))), (q2, .inl (cA, 12, .inl (fun _ => 0))), (q3, .inl (cA, 12, .inl (fun _ => 0))), (q4, .inl (cA, 12, .inl (fun _ => 0))), (q5, .inl (cA, 4, .inl (fun _ => 0)))] := hD
  refine W.widen (k := 5) (n := 52) (Nat.le_of_ble_eq_true rfl) (Nat.le_of_ble_eq_true rfl) ?_
  refine iv_putF (v := .ref q5) (ty := .array .int) I hP hD hS 0 5 inTX4 tyX4 tyX4_ok nmX4 rfl rfl (by decide) fl_RX4_24 rfl rfl (by decide +kernel) rfl rfl (Nat.le_of_ble_eq_true rfl) dX4_init_40 (fun H locs hP hD hS => ?_)
  have hP : va_P D vwCl [(h0, .inr (4, [.ref q1, .ref q2, .ref q3, .ref q4, .int 0, .ref q5, .null, .null])), (q1, .inl (cA, 12, .inl (fun _ => 0))), (q2, .inl (cA, 12, .inl (fun _ => 0))), (q3, .inl (cA, 12, .inl (fun _ => 0))), (q4, .inl (cA, 12, .inl (fun _ => 0))), (q5, .inl (cA, 4, .inl (fun _ => 0)))] H := hP
  have hD : va_D A [(h0, .inr (4, [.ref q1, .ref q2, .ref q3, .ref q4, .int 0, .ref q5, .null, .null])), (q1, .inl (cA, 12, .inl (fun _ => 0))), (q2, .inl (cA, 12, .inl (fun _ => 0))), (q3, .inl (cA, 12, .inl (fun _ => 0))), (q4, .inl (cA, 12, .inl (fun _ => 0))), (q5, .inl (cA, 4, .inl (fun _ => 0)))] := hD
  refine lv_aload_n hx hb dX4_init_43 rfl (lv_at hl 0 rfl) ?_
  refine lv_iconst (v := 4) hx hb dX4_init_44 (by decide) ?_
  refine iv_newI I hP hD hS hA 4 (by decide) (by decide) (by decide) (Nat.le_of_ble_eq_true rfl) (Nat.le_of_ble_eq_true rfl) dX4_init_45 (fun q6 H hP hD hS => ?_)
  have hP : va_P D vwCl [(h0, .inr (4, [.ref q1, .ref q2, .ref q3, .ref q4, .int 0, .ref q5, .null, .null])), (q1, .inl (cA, 12, .inl (fun _ => 0))), (q2, .inl (cA, 12, .inl (fun _ => 0))), (q3, .inl (cA, 12, .inl (fun _ => 0))), (q4, .inl (cA, 12, .inl (fun _ => 0))), (q5, .inl (cA, 4, .inl (fun _ => 0))), (q6, .inl (cA, 4, .inl (fun _ => 0)))] H := hP
  have hD : va_D A [(h0, .inr (4, [.ref q1, .ref q2, .ref q3, .ref q4, .int 0, .ref q5, .null, .null])), (q1, .inl (cA, 12, .inl (fun _ => 0))), (q2, .inl (cA, 12, .inl (fun _ => 0))), (q3, .inl (cA, 12, .inl (fun _ => 0))), (q4, .inl (cA, 12, .inl (fun _ => 0))), (q5, .inl (cA, 4, .inl (fun _ => 0))), (q6, .inl (cA, 4, .inl (fun _ => 0)))] := hD
  refine W.widen (k := 6) (n := 56) (Nat.le_of_ble_eq_true rfl) (Nat.le_of_ble_eq_true rfl) ?_
  refine iv_putF (v := .ref q6) (ty := .array .int) I hP hD hS 0 6 inTX4 tyX4 tyX4_ok nmX4 rfl rfl (by decide) fl_RX4_27 rfl rfl (by decide +kernel) rfl rfl (Nat.le_of_ble_eq_true rfl) dX4_init_47 (fun H locs hP hD hS => ?_)
  have hP : va_P D vwCl [(h0, .inr (4, [.ref q1, .ref q2, .ref q3, .ref q4, .int 0, .ref q5, .ref q6, .null])), (q1, .inl (cA, 12, .inl (fun _ => 0))), (q2, .inl (cA, 12, .inl (fun _ => 0))), (q3, .inl (cA, 12, .inl (fun _ => 0))), (q4, .inl (cA, 12, .inl (fun _ => 0))), (q5, .inl (cA, 4, .inl (fun _ => 0))), (q6, .inl (cA, 4, .inl (fun _ => 0)))] H := hP
  have hD : va_D A [(h0, .inr (4, [.ref q1, .ref q2, .ref q3, .ref q4, .int 0, .ref q5, .ref q6, .null])), (q1, .inl (cA, 12, .inl (fun _ => 0))), (q2, .inl (cA, 12, .inl (fun _ => 0))), (q3, .inl (cA, 12, .inl (fun _ => 0))), (q4, .inl (cA, 12, .inl (fun _ => 0))), (q5, .inl (cA, 4, .inl (fun _ => 0))), (q6, .inl (cA, 4, .inl (fun _ => 0)))] := hD
  refine lv_aload_n hx hb dX4_init_50 rfl (lv_at hl 0 rfl) ?_
  refine lv_iconst (v := 4) hx hb dX4_init_51 (by decide) ?_
  refine iv_newI I hP hD hS hA 4 (by decide) (by decide) (by decide) (Nat.le_of_ble_eq_true rfl) (Nat.le_of_ble_eq_true rfl) dX4_init_52 (fun q7 H hP hD hS => ?_)
  have hP : va_P D vwCl [(h0, .inr (4, [.ref q1, .ref q2, .ref q3, .ref q4, .int 0, .ref q5, .ref q6, .null])), (q1, .inl (cA, 12, .inl (fun _ => 0))), (q2, .inl (cA, 12, .inl (fun _ => 0))), (q3, .inl (cA, 12, .inl (fun _ => 0))), (q4, .inl (cA, 12, .inl (fun _ => 0))), (q5, .inl (cA, 4, .inl (fun _ => 0))), (q6, .inl (cA, 4, .inl (fun _ => 0))), (q7, .inl (cA, 4, .inl (fun _ => 0)))] H := hP
  have hD : va_D A [(h0, .inr (4, [.ref q1, .ref q2, .ref q3, .ref q4, .int 0, .ref q5, .ref q6, .null])), (q1, .inl (cA, 12, .inl (fun _ => 0))), (q2, .inl (cA, 12, .inl (fun _ => 0))), (q3, .inl (cA, 12, .inl (fun _ => 0))), (q4, .inl (cA, 12, .inl (fun _ => 0))), (q5, .inl (cA, 4, .inl (fun _ => 0))), (q6, .inl (cA, 4, .inl (fun _ => 0))), (q7, .inl (cA, 4, .inl (fun _ => 0)))] := hD
  refine W.widen (k := 7) (n := 60) (Nat.le_of_ble_eq_true rfl) (Nat.le_of_ble_eq_true rfl) ?_
  refine iv_putF (v := .ref q7) (ty := .array .int) I hP hD hS 0 7 inTX4 tyX4 tyX4_ok nmX4 rfl rfl (by decide) fl_RX4_30 rfl rfl (by decide +kernel) rfl rfl (Nat.le_of_ble_eq_true rfl) dX4_init_54 (fun H locs hP hD hS => ?_)
  have hP : va_P D vwCl [(h0, .inr (4, [.ref q1, .ref q2, .ref q3, .ref q4, .int 0, .ref q5, .ref q6, .ref q7])), (q1, .inl (cA, 12, .inl (fun _ => 0))), (q2, .inl (cA, 12, .inl (fun _ => 0))), (q3, .inl (cA, 12, .inl (fun _ => 0))), (q4, .inl (cA, 12, .inl (fun _ => 0))), (q5, .inl (cA, 4, .inl (fun _ => 0))), (q6, .inl (cA, 4, .inl (fun _ => 0))), (q7, .inl (cA, 4, .inl (fun _ => 0)))] H := hP
  have hD : va_D A [(h0, .inr (4, [.ref q1, .ref q2, .ref q3, .ref q4, .int 0, .ref q5, .ref q6, .ref q7])), (q1, .inl (cA, 12, .inl (fun _ => 0))), (q2, .inl (cA, 12, .inl (fun _ => 0))), (q3, .inl (cA, 12, .inl (fun _ => 0))), (q4, .inl (cA, 12, .inl (fun _ => 0))), (q5, .inl (cA, 4, .inl (fun _ => 0))), (q6, .inl (cA, 4, .inl (fun _ => 0))), (q7, .inl (cA, 4, .inl (fun _ => 0)))] := hD
  exact hret _ _ _ _ ⟨q1, q2, q3, q4, q5, q6, q7, hP, hae ▸ hD⟩ hS dX4_init_57
set_option maxHeartbeats 4000000 in
set_option maxRecDepth 100000 in
theorem cI_RX7 {l : Launch} {D : va_G} {cA cB : ClassId} {h0 sz : Nat} : CI l yX7_init cX7_init 1 1 3 168 D cA cB NW h0 sz (.inr (7, [.null, .null, .null])) (fun H => ∃ q1 q2 q3 : Nat, va_P D vwCl [(h0, .inr (7, [.ref q1, .ref q2, .ref q3])), (q1, .inl (cA, 4, .inl (upd (upd (upd (upd (fun _ => 0) (Int32.toNatClampNeg 0) (-1)) (Int32.toNatClampNeg 1) (-1)) (Int32.toNatClampNeg 2) (-1)) (Int32.toNatClampNeg 3) (-1)))), (q2, .inl (cA, 4, .inl (fun _ => 0))), (q3, .inl (cA, 160, .inl (fun _ => 0)))] H ∧ va_D (va_A [(h0, .inr (7, [.null, .null, .null]))] sz) [(h0, .inr (7, [.ref q1, .ref q2, .ref q3])), (q1, .inl (cA, 4, .inl (upd (upd (upd (upd (fun _ => 0) (Int32.toNatClampNeg 0) (-1)) (Int32.toNatClampNeg 1) (-1)) (Int32.toNatClampNeg 2) (-1)) (Int32.toNatClampNeg 3) (-1)))), (q2, .inl (cA, 4, .inl (fun _ => 0))), (q3, .inl (cA, 160, .inl (fun _ => 0)))]) := by
  refine CI_of (by decide) rfl (Nat.le_of_ble_eq_true rfl) ?_
  intro p e s m args below meth c Q A I hsz hret hAe hP hD hS hA ls hl
  obtain ⟨hx, hb, hml, hown, hts, hK, hX, hin⟩ := id I
  have hae : A = va_A [(h0, .inr (7, [.null, .null, .null]))] sz := by rw [hAe, hsz]
  refine lv_aload_n hx hb dX7_init_0 rfl (lv_at hl 0 rfl) ?_
  refine iv_obj I mo_RX7 hl.1 ⟨Nat.le_of_ble_eq_true rfl, Nat.le_of_ble_eq_true rfl⟩ dX7_init_1 ?_
  refine lv_aload_n hx hb dX7_init_4 rfl (lv_at hl 0 rfl) ?_
  refine lv_iconst (v := 4) hx hb dX7_init_5 (by decide) ?_
  refine iv_newI I hP hD hS hA 4 (by decide) (by decide) (by decide) (Nat.le_of_ble_eq_true rfl) (Nat.le_of_ble_eq_true rfl) dX7_init_6 (fun q1 H hP hD hS => ?_)
  have hP : va_P D vwCl [(h0, .inr (7, [.null, .null, .null])), (q1, .inl (cA, 4, .inl (fun _ => 0)))] H := hP
  have hD : va_D A [(h0, .inr (7, [.null, .null, .null])), (q1, .inl (cA, 4, .inl (fun _ => 0)))] := hD
  refine W.widen (k := 1) (n := 4) (Nat.le_of_ble_eq_true rfl) (Nat.le_of_ble_eq_true rfl) ?_
  refine lv_dup hx hb dX7_init_8 rfl ?_
  refine lv_iconst (v := 0) hx hb dX7_init_9 (by decide) ?_
  refine lv_iconst (v := -1) hx hb dX7_init_10 (by decide) ?_
  refine va_iast (x := -1) (i := 0) hx hb hK hP hD hS 1 0 rfl rfl (gi_in (by decide)) dX7_init_11 (fun H locs hP hD hS => ?_)
  have hP : va_P D vwCl [(h0, .inr (7, [.null, .null, .null])), (q1, .inl (cA, 4, .inl (upd (fun _ => 0) (Int32.toNatClampNeg 0) (-1))))] H := hP
  have hD : va_D A [(h0, .inr (7, [.null, .null, .null])), (q1, .inl (cA, 4, .inl (upd (fun _ => 0) (Int32.toNatClampNeg 0) (-1))))] := hD
  refine lv_dup hx hb dX7_init_12 rfl ?_
  refine lv_iconst (v := 1) hx hb dX7_init_13 (by decide) ?_
  refine lv_iconst (v := -1) hx hb dX7_init_14 (by decide) ?_
  refine va_iast (x := -1) (i := 1) hx hb hK hP hD hS 1 0 rfl rfl (gi_in (by decide)) dX7_init_15 (fun H locs hP hD hS => ?_)
  have hP : va_P D vwCl [(h0, .inr (7, [.null, .null, .null])), (q1, .inl (cA, 4, .inl (upd (upd (fun _ => 0) (Int32.toNatClampNeg 0) (-1)) (Int32.toNatClampNeg 1) (-1))))] H := hP
  have hD : va_D A [(h0, .inr (7, [.null, .null, .null])), (q1, .inl (cA, 4, .inl (upd (upd (fun _ => 0) (Int32.toNatClampNeg 0) (-1)) (Int32.toNatClampNeg 1) (-1))))] := hD
  refine lv_dup hx hb dX7_init_16 rfl ?_
  refine lv_iconst (v := 2) hx hb dX7_init_17 (by decide) ?_
  refine lv_iconst (v := -1) hx hb dX7_init_18 (by decide) ?_
  refine va_iast (x := -1) (i := 2) hx hb hK hP hD hS 1 0 rfl rfl (gi_in (by decide)) dX7_init_19 (fun H locs hP hD hS => ?_)
  have hP : va_P D vwCl [(h0, .inr (7, [.null, .null, .null])), (q1, .inl (cA, 4, .inl (upd (upd (upd (fun _ => 0) (Int32.toNatClampNeg 0) (-1)) (Int32.toNatClampNeg 1) (-1)) (Int32.toNatClampNeg 2) (-1))))] H := hP
  have hD : va_D A [(h0, .inr (7, [.null, .null, .null])), (q1, .inl (cA, 4, .inl (upd (upd (upd (fun _ => 0) (Int32.toNatClampNeg 0) (-1)) (Int32.toNatClampNeg 1) (-1)) (Int32.toNatClampNeg 2) (-1))))] := hD
  refine lv_dup hx hb dX7_init_20 rfl ?_
  refine lv_iconst (v := 3) hx hb dX7_init_21 (by decide) ?_
  refine lv_iconst (v := -1) hx hb dX7_init_22 (by decide) ?_
  refine va_iast (x := -1) (i := 3) hx hb hK hP hD hS 1 0 rfl rfl (gi_in (by decide)) dX7_init_23 (fun H locs hP hD hS => ?_)
  have hP : va_P D vwCl [(h0, .inr (7, [.null, .null, .null])), (q1, .inl (cA, 4, .inl (upd (upd (upd (upd (fun _ => 0) (Int32.toNatClampNeg 0) (-1)) (Int32.toNatClampNeg 1) (-1)) (Int32.toNatClampNeg 2) (-1)) (Int32.toNatClampNeg 3) (-1))))] H := hP
  have hD : va_D A [(h0, .inr (7, [.null, .null, .null])), (q1, .inl (cA, 4, .inl (upd (upd (upd (upd (fun _ => 0) (Int32.toNatClampNeg 0) (-1)) (Int32.toNatClampNeg 1) (-1)) (Int32.toNatClampNeg 2) (-1)) (Int32.toNatClampNeg 3) (-1))))] := hD
  refine iv_putF (v := .ref q1) (ty := .array .int) I hP hD hS 0 0 inTX7 tyX7 tyX7_ok nmX7 rfl rfl (by decide) fl_RX7_9 rfl rfl (by decide +kernel) rfl rfl (Nat.le_of_ble_eq_true rfl) dX7_init_24 (fun H locs hP hD hS => ?_)
  have hP : va_P D vwCl [(h0, .inr (7, [.ref q1, .null, .null])), (q1, .inl (cA, 4, .inl (upd (upd (upd (upd (fun _ => 0) (Int32.toNatClampNeg 0) (-1)) (Int32.toNatClampNeg 1) (-1)) (Int32.toNatClampNeg 2) (-1)) (Int32.toNatClampNeg 3) (-1))))] H := hP
  have hD : va_D A [(h0, .inr (7, [.ref q1, .null, .null])), (q1, .inl (cA, 4, .inl (upd (upd (upd (upd (fun _ => 0) (Int32.toNatClampNeg 0) (-1)) (Int32.toNatClampNeg 1) (-1)) (Int32.toNatClampNeg 2) (-1)) (Int32.toNatClampNeg 3) (-1))))] := hD
  refine lv_aload_n hx hb dX7_init_27 rfl (lv_at hl 0 rfl) ?_
  refine lv_iconst (v := 4) hx hb dX7_init_28 (by decide) ?_
  refine iv_newI I hP hD hS hA 4 (by decide) (by decide) (by decide) (Nat.le_of_ble_eq_true rfl) (Nat.le_of_ble_eq_true rfl) dX7_init_29 (fun q2 H hP hD hS => ?_)
  have hP : va_P D vwCl [(h0, .inr (7, [.ref q1, .null, .null])), (q1, .inl (cA, 4, .inl (upd (upd (upd (upd (fun _ => 0) (Int32.toNatClampNeg 0) (-1)) (Int32.toNatClampNeg 1) (-1)) (Int32.toNatClampNeg 2) (-1)) (Int32.toNatClampNeg 3) (-1)))), (q2, .inl (cA, 4, .inl (fun _ => 0)))] H := hP
  have hD : va_D A [(h0, .inr (7, [.ref q1, .null, .null])), (q1, .inl (cA, 4, .inl (upd (upd (upd (upd (fun _ => 0) (Int32.toNatClampNeg 0) (-1)) (Int32.toNatClampNeg 1) (-1)) (Int32.toNatClampNeg 2) (-1)) (Int32.toNatClampNeg 3) (-1)))), (q2, .inl (cA, 4, .inl (fun _ => 0)))] := hD
  refine W.widen (k := 2) (n := 8) (Nat.le_of_ble_eq_true rfl) (Nat.le_of_ble_eq_true rfl) ?_
  refine iv_putF (v := .ref q2) (ty := .array .int) I hP hD hS 0 1 inTX7 tyX7 tyX7_ok nmX7 rfl rfl (by decide) fl_RX7_15 rfl rfl (by decide +kernel) rfl rfl (Nat.le_of_ble_eq_true rfl) dX7_init_31 (fun H locs hP hD hS => ?_)
  have hP : va_P D vwCl [(h0, .inr (7, [.ref q1, .ref q2, .null])), (q1, .inl (cA, 4, .inl (upd (upd (upd (upd (fun _ => 0) (Int32.toNatClampNeg 0) (-1)) (Int32.toNatClampNeg 1) (-1)) (Int32.toNatClampNeg 2) (-1)) (Int32.toNatClampNeg 3) (-1)))), (q2, .inl (cA, 4, .inl (fun _ => 0)))] H := hP
  have hD : va_D A [(h0, .inr (7, [.ref q1, .ref q2, .null])), (q1, .inl (cA, 4, .inl (upd (upd (upd (upd (fun _ => 0) (Int32.toNatClampNeg 0) (-1)) (Int32.toNatClampNeg 1) (-1)) (Int32.toNatClampNeg 2) (-1)) (Int32.toNatClampNeg 3) (-1)))), (q2, .inl (cA, 4, .inl (fun _ => 0)))] := hD
  refine lv_aload_n hx hb dX7_init_34 rfl (lv_at hl 0 rfl) ?_
  refine lv_sipush (v := 160) hx hb dX7_init_35 (by decide) ?_
  refine iv_newI I hP hD hS hA 160 (by decide) (by decide) (by decide) (Nat.le_of_ble_eq_true rfl) (Nat.le_of_ble_eq_true rfl) dX7_init_38 (fun q3 H hP hD hS => ?_)
  have hP : va_P D vwCl [(h0, .inr (7, [.ref q1, .ref q2, .null])), (q1, .inl (cA, 4, .inl (upd (upd (upd (upd (fun _ => 0) (Int32.toNatClampNeg 0) (-1)) (Int32.toNatClampNeg 1) (-1)) (Int32.toNatClampNeg 2) (-1)) (Int32.toNatClampNeg 3) (-1)))), (q2, .inl (cA, 4, .inl (fun _ => 0))), (q3, .inl (cA, 160, .inl (fun _ => 0)))] H := hP
  have hD : va_D A [(h0, .inr (7, [.ref q1, .ref q2, .null])), (q1, .inl (cA, 4, .inl (upd (upd (upd (upd (fun _ => 0) (Int32.toNatClampNeg 0) (-1)) (Int32.toNatClampNeg 1) (-1)) (Int32.toNatClampNeg 2) (-1)) (Int32.toNatClampNeg 3) (-1)))), (q2, .inl (cA, 4, .inl (fun _ => 0))), (q3, .inl (cA, 160, .inl (fun _ => 0)))] := hD
  refine W.widen (k := 3) (n := 168) (Nat.le_of_ble_eq_true rfl) (Nat.le_of_ble_eq_true rfl) ?_
  refine iv_putF (v := .ref q3) (ty := .array .int) I hP hD hS 0 2 inTX7 tyX7 tyX7_ok nmX7 rfl rfl (by decide) fl_RX7_18 rfl rfl (by decide +kernel) rfl rfl (Nat.le_of_ble_eq_true rfl) dX7_init_40 (fun H locs hP hD hS => ?_)
  have hP : va_P D vwCl [(h0, .inr (7, [.ref q1, .ref q2, .ref q3])), (q1, .inl (cA, 4, .inl (upd (upd (upd (upd (fun _ => 0) (Int32.toNatClampNeg 0) (-1)) (Int32.toNatClampNeg 1) (-1)) (Int32.toNatClampNeg 2) (-1)) (Int32.toNatClampNeg 3) (-1)))), (q2, .inl (cA, 4, .inl (fun _ => 0))), (q3, .inl (cA, 160, .inl (fun _ => 0)))] H := hP
  have hD : va_D A [(h0, .inr (7, [.ref q1, .ref q2, .ref q3])), (q1, .inl (cA, 4, .inl (upd (upd (upd (upd (fun _ => 0) (Int32.toNatClampNeg 0) (-1)) (Int32.toNatClampNeg 1) (-1)) (Int32.toNatClampNeg 2) (-1)) (Int32.toNatClampNeg 3) (-1)))), (q2, .inl (cA, 4, .inl (fun _ => 0))), (q3, .inl (cA, 160, .inl (fun _ => 0)))] := hD
  exact hret _ _ _ _ ⟨q1, q2, q3, hP, hae ▸ hD⟩ hS dX7_init_43
set_option maxHeartbeats 4000000 in
set_option maxRecDepth 100000 in
theorem cI_RX8 {l : Launch} {D : va_G} {cA cB : ClassId} {h0 sz : Nat} : CI l yX8_init cX8_init 1 1 4 70 D cA cB NW h0 sz (.inr (8, [.null, .null, .null, .null, .int 0])) (fun H => ∃ q1 q2 q3 q4 : Nat, va_P D vwCl [(h0, .inr (8, [.ref q1, .ref q2, .ref q3, .ref q4, .int 0])), (q1, .inl (cA, 10, .inl (fun _ => 0))), (q2, .inl (cA, 10, .inl (fun _ => 0))), (q3, .inl (cA, 10, .inl (fun _ => 0))), (q4, .inl (cA, 40, .inl (fun _ => 0)))] H ∧ va_D (va_A [(h0, .inr (8, [.null, .null, .null, .null, .int 0]))] sz) [(h0, .inr (8, [.ref q1, .ref q2, .ref q3, .ref q4, .int 0])), (q1, .inl (cA, 10, .inl (fun _ => 0))), (q2, .inl (cA, 10, .inl (fun _ => 0))), (q3, .inl (cA, 10, .inl (fun _ => 0))), (q4, .inl (cA, 40, .inl (fun _ => 0)))]) := by
  refine CI_of (by decide) rfl (Nat.le_of_ble_eq_true rfl) ?_
  intro p e s m args below meth c Q A I hsz hret hAe hP hD hS hA ls hl
  obtain ⟨hx, hb, hml, hown, hts, hK, hX, hin⟩ := id I
  have hae : A = va_A [(h0, .inr (8, [.null, .null, .null, .null, .int 0]))] sz := by rw [hAe, hsz]
  refine lv_aload_n hx hb dX8_init_0 rfl (lv_at hl 0 rfl) ?_
  refine iv_obj I mo_RX8 hl.1 ⟨Nat.le_of_ble_eq_true rfl, Nat.le_of_ble_eq_true rfl⟩ dX8_init_1 ?_
  refine lv_aload_n hx hb dX8_init_4 rfl (lv_at hl 0 rfl) ?_
  refine lv_bipush (v := 10) hx hb dX8_init_5 (by decide) ?_
  refine iv_newI I hP hD hS hA 10 (by decide) (by decide) (by decide) (Nat.le_of_ble_eq_true rfl) (Nat.le_of_ble_eq_true rfl) dX8_init_7 (fun q1 H hP hD hS => ?_)
  have hP : va_P D vwCl [(h0, .inr (8, [.null, .null, .null, .null, .int 0])), (q1, .inl (cA, 10, .inl (fun _ => 0)))] H := hP
  have hD : va_D A [(h0, .inr (8, [.null, .null, .null, .null, .int 0])), (q1, .inl (cA, 10, .inl (fun _ => 0)))] := hD
  refine W.widen (k := 1) (n := 10) (Nat.le_of_ble_eq_true rfl) (Nat.le_of_ble_eq_true rfl) ?_
  refine iv_putF (v := .ref q1) (ty := .array .int) I hP hD hS 0 0 inTX8 tyX8 tyX8_ok nmX8 rfl rfl (by decide) fl_RX8_9 rfl rfl (by decide +kernel) rfl rfl (Nat.le_of_ble_eq_true rfl) dX8_init_9 (fun H locs hP hD hS => ?_)
  have hP : va_P D vwCl [(h0, .inr (8, [.ref q1, .null, .null, .null, .int 0])), (q1, .inl (cA, 10, .inl (fun _ => 0)))] H := hP
  have hD : va_D A [(h0, .inr (8, [.ref q1, .null, .null, .null, .int 0])), (q1, .inl (cA, 10, .inl (fun _ => 0)))] := hD
  refine lv_aload_n hx hb dX8_init_12 rfl (lv_at hl 0 rfl) ?_
  refine lv_bipush (v := 10) hx hb dX8_init_13 (by decide) ?_
  refine iv_newI I hP hD hS hA 10 (by decide) (by decide) (by decide) (Nat.le_of_ble_eq_true rfl) (Nat.le_of_ble_eq_true rfl) dX8_init_15 (fun q2 H hP hD hS => ?_)
  have hP : va_P D vwCl [(h0, .inr (8, [.ref q1, .null, .null, .null, .int 0])), (q1, .inl (cA, 10, .inl (fun _ => 0))), (q2, .inl (cA, 10, .inl (fun _ => 0)))] H := hP
  have hD : va_D A [(h0, .inr (8, [.ref q1, .null, .null, .null, .int 0])), (q1, .inl (cA, 10, .inl (fun _ => 0))), (q2, .inl (cA, 10, .inl (fun _ => 0)))] := hD
  refine W.widen (k := 2) (n := 20) (Nat.le_of_ble_eq_true rfl) (Nat.le_of_ble_eq_true rfl) ?_
  refine iv_putF (v := .ref q2) (ty := .array .int) I hP hD hS 0 1 inTX8 tyX8 tyX8_ok nmX8 rfl rfl (by decide) fl_RX8_15 rfl rfl (by decide +kernel) rfl rfl (Nat.le_of_ble_eq_true rfl) dX8_init_17 (fun H locs hP hD hS => ?_)
  have hP : va_P D vwCl [(h0, .inr (8, [.ref q1, .ref q2, .null, .null, .int 0])), (q1, .inl (cA, 10, .inl (fun _ => 0))), (q2, .inl (cA, 10, .inl (fun _ => 0)))] H := hP
  have hD : va_D A [(h0, .inr (8, [.ref q1, .ref q2, .null, .null, .int 0])), (q1, .inl (cA, 10, .inl (fun _ => 0))), (q2, .inl (cA, 10, .inl (fun _ => 0)))] := hD
  refine lv_aload_n hx hb dX8_init_20 rfl (lv_at hl 0 rfl) ?_
  refine lv_bipush (v := 10) hx hb dX8_init_21 (by decide) ?_
  refine iv_newI I hP hD hS hA 10 (by decide) (by decide) (by decide) (Nat.le_of_ble_eq_true rfl) (Nat.le_of_ble_eq_true rfl) dX8_init_23 (fun q3 H hP hD hS => ?_)
  have hP : va_P D vwCl [(h0, .inr (8, [.ref q1, .ref q2, .null, .null, .int 0])), (q1, .inl (cA, 10, .inl (fun _ => 0))), (q2, .inl (cA, 10, .inl (fun _ => 0))), (q3, .inl (cA, 10, .inl (fun _ => 0)))] H := hP
  have hD : va_D A [(h0, .inr (8, [.ref q1, .ref q2, .null, .null, .int 0])), (q1, .inl (cA, 10, .inl (fun _ => 0))), (q2, .inl (cA, 10, .inl (fun _ => 0))), (q3, .inl (cA, 10, .inl (fun _ => 0)))] := hD
  refine W.widen (k := 3) (n := 30) (Nat.le_of_ble_eq_true rfl) (Nat.le_of_ble_eq_true rfl) ?_
  refine iv_putF (v := .ref q3) (ty := .array .int) I hP hD hS 0 2 inTX8 tyX8 tyX8_ok nmX8 rfl rfl (by decide) fl_RX8_18 rfl rfl (by decide +kernel) rfl rfl (Nat.le_of_ble_eq_true rfl) dX8_init_25 (fun H locs hP hD hS => ?_)
  have hP : va_P D vwCl [(h0, .inr (8, [.ref q1, .ref q2, .ref q3, .null, .int 0])), (q1, .inl (cA, 10, .inl (fun _ => 0))), (q2, .inl (cA, 10, .inl (fun _ => 0))), (q3, .inl (cA, 10, .inl (fun _ => 0)))] H := hP
  have hD : va_D A [(h0, .inr (8, [.ref q1, .ref q2, .ref q3, .null, .int 0])), (q1, .inl (cA, 10, .inl (fun _ => 0))), (q2, .inl (cA, 10, .inl (fun _ => 0))), (q3, .inl (cA, 10, .inl (fun _ => 0)))] := hD
  refine lv_aload_n hx hb dX8_init_28 rfl (lv_at hl 0 rfl) ?_
  refine lv_bipush (v := 40) hx hb dX8_init_29 (by decide) ?_
  refine iv_newI I hP hD hS hA 40 (by decide) (by decide) (by decide) (Nat.le_of_ble_eq_true rfl) (Nat.le_of_ble_eq_true rfl) dX8_init_31 (fun q4 H hP hD hS => ?_)
  have hP : va_P D vwCl [(h0, .inr (8, [.ref q1, .ref q2, .ref q3, .null, .int 0])), (q1, .inl (cA, 10, .inl (fun _ => 0))), (q2, .inl (cA, 10, .inl (fun _ => 0))), (q3, .inl (cA, 10, .inl (fun _ => 0))), (q4, .inl (cA, 40, .inl (fun _ => 0)))] H := hP
  have hD : va_D A [(h0, .inr (8, [.ref q1, .ref q2, .ref q3, .null, .int 0])), (q1, .inl (cA, 10, .inl (fun _ => 0))), (q2, .inl (cA, 10, .inl (fun _ => 0))), (q3, .inl (cA, 10, .inl (fun _ => 0))), (q4, .inl (cA, 40, .inl (fun _ => 0)))] := hD
  refine W.widen (k := 4) (n := 70) (Nat.le_of_ble_eq_true rfl) (Nat.le_of_ble_eq_true rfl) ?_
  refine iv_putF (v := .ref q4) (ty := .array .int) I hP hD hS 0 3 inTX8 tyX8 tyX8_ok nmX8 rfl rfl (by decide) fl_RX8_21 rfl rfl (by decide +kernel) rfl rfl (Nat.le_of_ble_eq_true rfl) dX8_init_33 (fun H locs hP hD hS => ?_)
  have hP : va_P D vwCl [(h0, .inr (8, [.ref q1, .ref q2, .ref q3, .ref q4, .int 0])), (q1, .inl (cA, 10, .inl (fun _ => 0))), (q2, .inl (cA, 10, .inl (fun _ => 0))), (q3, .inl (cA, 10, .inl (fun _ => 0))), (q4, .inl (cA, 40, .inl (fun _ => 0)))] H := hP
  have hD : va_D A [(h0, .inr (8, [.ref q1, .ref q2, .ref q3, .ref q4, .int 0])), (q1, .inl (cA, 10, .inl (fun _ => 0))), (q2, .inl (cA, 10, .inl (fun _ => 0))), (q3, .inl (cA, 10, .inl (fun _ => 0))), (q4, .inl (cA, 40, .inl (fun _ => 0)))] := hD
  exact hret _ _ _ _ ⟨q1, q2, q3, q4, hP, hae ▸ hD⟩ hS dX8_init_36
set_option maxHeartbeats 4000000 in
set_option maxRecDepth 100000 in
theorem cI_RX9 {l : Launch} {D : va_G} {cA cB : ClassId} {h0 sz : Nat} : CI l yX9_init cX9_init 1 1 4 643 D cA cB NW h0 sz (.inr (9, [.null, .int 0, .null, .null, .null, .int 0])) (fun H => ∃ q1 q2 q3 q4 : Nat, va_P D vwCl [(h0, .inr (9, [.ref q1, .int 0, .ref q2, .ref q3, .ref q4, .int 0])), (q1, .inl (cA, 160, .inl (fun _ => 0))), (q2, .inl (cA, 161, .inl (fun _ => 0))), (q3, .inl (cA, 161, .inl (fun _ => 0))), (q4, .inl (cA, 161, .inl (fun _ => 0)))] H ∧ va_D (va_A [(h0, .inr (9, [.null, .int 0, .null, .null, .null, .int 0]))] sz) [(h0, .inr (9, [.ref q1, .int 0, .ref q2, .ref q3, .ref q4, .int 0])), (q1, .inl (cA, 160, .inl (fun _ => 0))), (q2, .inl (cA, 161, .inl (fun _ => 0))), (q3, .inl (cA, 161, .inl (fun _ => 0))), (q4, .inl (cA, 161, .inl (fun _ => 0)))]) := by
  refine CI_of (by decide) rfl (Nat.le_of_ble_eq_true rfl) ?_
  intro p e s m args below meth c Q A I hsz hret hAe hP hD hS hA ls hl
  obtain ⟨hx, hb, hml, hown, hts, hK, hX, hin⟩ := id I
  have hae : A = va_A [(h0, .inr (9, [.null, .int 0, .null, .null, .null, .int 0]))] sz := by rw [hAe, hsz]
  refine lv_aload_n hx hb dX9_init_0 rfl (lv_at hl 0 rfl) ?_
  refine iv_obj I mo_RX9 hl.1 ⟨Nat.le_of_ble_eq_true rfl, Nat.le_of_ble_eq_true rfl⟩ dX9_init_1 ?_
  refine lv_aload_n hx hb dX9_init_4 rfl (lv_at hl 0 rfl) ?_
  refine lv_sipush (v := 160) hx hb dX9_init_5 (by decide) ?_
  refine iv_newI I hP hD hS hA 160 (by decide) (by decide) (by decide) (Nat.le_of_ble_eq_true rfl) (Nat.le_of_ble_eq_true rfl) dX9_init_8 (fun q1 H hP hD hS => ?_)
  have hP : va_P D vwCl [(h0, .inr (9, [.null, .int 0, .null, .null, .null, .int 0])), (q1, .inl (cA, 160, .inl (fun _ => 0)))] H := hP
  have hD : va_D A [(h0, .inr (9, [.null, .int 0, .null, .null, .null, .int 0])), (q1, .inl (cA, 160, .inl (fun _ => 0)))] := hD
  refine W.widen (k := 1) (n := 160) (Nat.le_of_ble_eq_true rfl) (Nat.le_of_ble_eq_true rfl) ?_
  refine iv_putF (v := .ref q1) (ty := .array .int) I hP hD hS 0 0 inTX9 tyX9 tyX9_ok nmX9 rfl rfl (by decide) fl_RX9_9 rfl rfl (by decide +kernel) rfl rfl (Nat.le_of_ble_eq_true rfl) dX9_init_10 (fun H locs hP hD hS => ?_)
  have hP : va_P D vwCl [(h0, .inr (9, [.ref q1, .int 0, .null, .null, .null, .int 0])), (q1, .inl (cA, 160, .inl (fun _ => 0)))] H := hP
  have hD : va_D A [(h0, .inr (9, [.ref q1, .int 0, .null, .null, .null, .int 0])), (q1, .inl (cA, 160, .inl (fun _ => 0)))] := hD
  refine lv_aload_n hx hb dX9_init_13 rfl (lv_at hl 0 rfl) ?_
  refine lv_sipush (v := 161) hx hb dX9_init_14 (by decide) ?_
  refine iv_newI I hP hD hS hA 161 (by decide) (by decide) (by decide) (Nat.le_of_ble_eq_true rfl) (Nat.le_of_ble_eq_true rfl) dX9_init_17 (fun q2 H hP hD hS => ?_)
  have hP : va_P D vwCl [(h0, .inr (9, [.ref q1, .int 0, .null, .null, .null, .int 0])), (q1, .inl (cA, 160, .inl (fun _ => 0))), (q2, .inl (cA, 161, .inl (fun _ => 0)))] H := hP
  have hD : va_D A [(h0, .inr (9, [.ref q1, .int 0, .null, .null, .null, .int 0])), (q1, .inl (cA, 160, .inl (fun _ => 0))), (q2, .inl (cA, 161, .inl (fun _ => 0)))] := hD
  refine W.widen (k := 2) (n := 321) (Nat.le_of_ble_eq_true rfl) (Nat.le_of_ble_eq_true rfl) ?_
  refine iv_putF (v := .ref q2) (ty := .array .int) I hP hD hS 0 2 inTX9 tyX9 tyX9_ok nmX9 rfl rfl (by decide) fl_RX9_15 rfl rfl (by decide +kernel) rfl rfl (Nat.le_of_ble_eq_true rfl) dX9_init_19 (fun H locs hP hD hS => ?_)
  have hP : va_P D vwCl [(h0, .inr (9, [.ref q1, .int 0, .ref q2, .null, .null, .int 0])), (q1, .inl (cA, 160, .inl (fun _ => 0))), (q2, .inl (cA, 161, .inl (fun _ => 0)))] H := hP
  have hD : va_D A [(h0, .inr (9, [.ref q1, .int 0, .ref q2, .null, .null, .int 0])), (q1, .inl (cA, 160, .inl (fun _ => 0))), (q2, .inl (cA, 161, .inl (fun _ => 0)))] := hD
  refine lv_aload_n hx hb dX9_init_22 rfl (lv_at hl 0 rfl) ?_
  refine lv_sipush (v := 161) hx hb dX9_init_23 (by decide) ?_
  refine iv_newI I hP hD hS hA 161 (by decide) (by decide) (by decide) (Nat.le_of_ble_eq_true rfl) (Nat.le_of_ble_eq_true rfl) dX9_init_26 (fun q3 H hP hD hS => ?_)
  have hP : va_P D vwCl [(h0, .inr (9, [.ref q1, .int 0, .ref q2, .null, .null, .int 0])), (q1, .inl (cA, 160, .inl (fun _ => 0))), (q2, .inl (cA, 161, .inl (fun _ => 0))), (q3, .inl (cA, 161, .inl (fun _ => 0)))] H := hP
  have hD : va_D A [(h0, .inr (9, [.ref q1, .int 0, .ref q2, .null, .null, .int 0])), (q1, .inl (cA, 160, .inl (fun _ => 0))), (q2, .inl (cA, 161, .inl (fun _ => 0))), (q3, .inl (cA, 161, .inl (fun _ => 0)))] := hD
  refine W.widen (k := 3) (n := 482) (Nat.le_of_ble_eq_true rfl) (Nat.le_of_ble_eq_true rfl) ?_
  refine iv_putF (v := .ref q3) (ty := .array .int) I hP hD hS 0 3 inTX9 tyX9 tyX9_ok nmX9 rfl rfl (by decide) fl_RX9_18 rfl rfl (by decide +kernel) rfl rfl (Nat.le_of_ble_eq_true rfl) dX9_init_28 (fun H locs hP hD hS => ?_)
  have hP : va_P D vwCl [(h0, .inr (9, [.ref q1, .int 0, .ref q2, .ref q3, .null, .int 0])), (q1, .inl (cA, 160, .inl (fun _ => 0))), (q2, .inl (cA, 161, .inl (fun _ => 0))), (q3, .inl (cA, 161, .inl (fun _ => 0)))] H := hP
  have hD : va_D A [(h0, .inr (9, [.ref q1, .int 0, .ref q2, .ref q3, .null, .int 0])), (q1, .inl (cA, 160, .inl (fun _ => 0))), (q2, .inl (cA, 161, .inl (fun _ => 0))), (q3, .inl (cA, 161, .inl (fun _ => 0)))] := hD
  refine lv_aload_n hx hb dX9_init_31 rfl (lv_at hl 0 rfl) ?_
  refine lv_sipush (v := 161) hx hb dX9_init_32 (by decide) ?_
  refine iv_newI I hP hD hS hA 161 (by decide) (by decide) (by decide) (Nat.le_of_ble_eq_true rfl) (Nat.le_of_ble_eq_true rfl) dX9_init_35 (fun q4 H hP hD hS => ?_)
  have hP : va_P D vwCl [(h0, .inr (9, [.ref q1, .int 0, .ref q2, .ref q3, .null, .int 0])), (q1, .inl (cA, 160, .inl (fun _ => 0))), (q2, .inl (cA, 161, .inl (fun _ => 0))), (q3, .inl (cA, 161, .inl (fun _ => 0))), (q4, .inl (cA, 161, .inl (fun _ => 0)))] H := hP
  have hD : va_D A [(h0, .inr (9, [.ref q1, .int 0, .ref q2, .ref q3, .null, .int 0])), (q1, .inl (cA, 160, .inl (fun _ => 0))), (q2, .inl (cA, 161, .inl (fun _ => 0))), (q3, .inl (cA, 161, .inl (fun _ => 0))), (q4, .inl (cA, 161, .inl (fun _ => 0)))] := hD
  refine W.widen (k := 4) (n := 643) (Nat.le_of_ble_eq_true rfl) (Nat.le_of_ble_eq_true rfl) ?_
  refine iv_putF (v := .ref q4) (ty := .array .int) I hP hD hS 0 4 inTX9 tyX9 tyX9_ok nmX9 rfl rfl (by decide) fl_RX9_21 rfl rfl (by decide +kernel) rfl rfl (Nat.le_of_ble_eq_true rfl) dX9_init_37 (fun H locs hP hD hS => ?_)
  have hP : va_P D vwCl [(h0, .inr (9, [.ref q1, .int 0, .ref q2, .ref q3, .ref q4, .int 0])), (q1, .inl (cA, 160, .inl (fun _ => 0))), (q2, .inl (cA, 161, .inl (fun _ => 0))), (q3, .inl (cA, 161, .inl (fun _ => 0))), (q4, .inl (cA, 161, .inl (fun _ => 0)))] H := hP
  have hD : va_D A [(h0, .inr (9, [.ref q1, .int 0, .ref q2, .ref q3, .ref q4, .int 0])), (q1, .inl (cA, 160, .inl (fun _ => 0))), (q2, .inl (cA, 161, .inl (fun _ => 0))), (q3, .inl (cA, 161, .inl (fun _ => 0))), (q4, .inl (cA, 161, .inl (fun _ => 0)))] := hD
  exact hret _ _ _ _ ⟨q1, q2, q3, q4, hP, hae ▸ hD⟩ hS dX9_init_40
set_option maxHeartbeats 4000000 in
set_option maxRecDepth 100000 in
theorem cI_RX10 {l : Launch} {D : va_G} {cA cB : ClassId} {h0 sz : Nat} : CI l yX10_init cX10_init 1 1 5 1162 D cA cB NW h0 sz (.inr (10, [.null, .null, .null, .null, .null, .int 0, .int 0])) (fun H => ∃ q1 q2 q3 q4 q5 : Nat, va_P D vwCl [(h0, .inr (10, [.ref q1, .ref q2, .ref q3, .ref q4, .ref q5, .int 0, .int 0])), (q1, .inl (cA, 960, .inl (fun _ => 0))), (q2, .inl (cA, 18, .inl (fun _ => 0))), (q3, .inl (cA, 18, .inl (fun _ => 0))), (q4, .inl (cA, 6, .inl (fun _ => 0))), (q5, .inl (cA, 160, .inl (fun _ => 0)))] H ∧ va_D (va_A [(h0, .inr (10, [.null, .null, .null, .null, .null, .int 0, .int 0]))] sz) [(h0, .inr (10, [.ref q1, .ref q2, .ref q3, .ref q4, .ref q5, .int 0, .int 0])), (q1, .inl (cA, 960, .inl (fun _ => 0))), (q2, .inl (cA, 18, .inl (fun _ => 0))), (q3, .inl (cA, 18, .inl (fun _ => 0))), (q4, .inl (cA, 6, .inl (fun _ => 0))), (q5, .inl (cA, 160, .inl (fun _ => 0)))]) := by
  refine CI_of (by decide) rfl (Nat.le_of_ble_eq_true rfl) ?_
  intro p e s m args below meth c Q A I hsz hret hAe hP hD hS hA ls hl
  obtain ⟨hx, hb, hml, hown, hts, hK, hX, hin⟩ := id I
  have hae : A = va_A [(h0, .inr (10, [.null, .null, .null, .null, .null, .int 0, .int 0]))] sz := by rw [hAe, hsz]
  refine lv_aload_n hx hb dX10_init_0 rfl (lv_at hl 0 rfl) ?_
  refine iv_obj I mo_RX10 hl.1 ⟨Nat.le_of_ble_eq_true rfl, Nat.le_of_ble_eq_true rfl⟩ dX10_init_1 ?_
  refine lv_aload_n hx hb dX10_init_4 rfl (lv_at hl 0 rfl) ?_
  refine lv_sipush (v := 960) hx hb dX10_init_5 (by decide) ?_
  refine iv_newI I hP hD hS hA 960 (by decide) (by decide) (by decide) (Nat.le_of_ble_eq_true rfl) (Nat.le_of_ble_eq_true rfl) dX10_init_8 (fun q1 H hP hD hS => ?_)
  have hP : va_P D vwCl [(h0, .inr (10, [.null, .null, .null, .null, .null, .int 0, .int 0])), (q1, .inl (cA, 960, .inl (fun _ => 0)))] H := hP
  have hD : va_D A [(h0, .inr (10, [.null, .null, .null, .null, .null, .int 0, .int 0])), (q1, .inl (cA, 960, .inl (fun _ => 0)))] := hD
  refine W.widen (k := 1) (n := 960) (Nat.le_of_ble_eq_true rfl) (Nat.le_of_ble_eq_true rfl) ?_
  refine iv_putF (v := .ref q1) (ty := .array .int) I hP hD hS 0 0 inTX10 tyX10 tyX10_ok nmX10 rfl rfl (by decide) fl_RX10_9 rfl rfl (by decide +kernel) rfl rfl (Nat.le_of_ble_eq_true rfl) dX10_init_10 (fun H locs hP hD hS => ?_)
  have hP : va_P D vwCl [(h0, .inr (10, [.ref q1, .null, .null, .null, .null, .int 0, .int 0])), (q1, .inl (cA, 960, .inl (fun _ => 0)))] H := hP
  have hD : va_D A [(h0, .inr (10, [.ref q1, .null, .null, .null, .null, .int 0, .int 0])), (q1, .inl (cA, 960, .inl (fun _ => 0)))] := hD
  refine lv_aload_n hx hb dX10_init_13 rfl (lv_at hl 0 rfl) ?_
  refine lv_bipush (v := 18) hx hb dX10_init_14 (by decide) ?_
  refine iv_newI I hP hD hS hA 18 (by decide) (by decide) (by decide) (Nat.le_of_ble_eq_true rfl) (Nat.le_of_ble_eq_true rfl) dX10_init_16 (fun q2 H hP hD hS => ?_)
  have hP : va_P D vwCl [(h0, .inr (10, [.ref q1, .null, .null, .null, .null, .int 0, .int 0])), (q1, .inl (cA, 960, .inl (fun _ => 0))), (q2, .inl (cA, 18, .inl (fun _ => 0)))] H := hP
  have hD : va_D A [(h0, .inr (10, [.ref q1, .null, .null, .null, .null, .int 0, .int 0])), (q1, .inl (cA, 960, .inl (fun _ => 0))), (q2, .inl (cA, 18, .inl (fun _ => 0)))] := hD
  refine W.widen (k := 2) (n := 978) (Nat.le_of_ble_eq_true rfl) (Nat.le_of_ble_eq_true rfl) ?_
  refine iv_putF (v := .ref q2) (ty := .array .int) I hP hD hS 0 1 inTX10 tyX10 tyX10_ok nmX10 rfl rfl (by decide) fl_RX10_15 rfl rfl (by decide +kernel) rfl rfl (Nat.le_of_ble_eq_true rfl) dX10_init_18 (fun H locs hP hD hS => ?_)
  have hP : va_P D vwCl [(h0, .inr (10, [.ref q1, .ref q2, .null, .null, .null, .int 0, .int 0])), (q1, .inl (cA, 960, .inl (fun _ => 0))), (q2, .inl (cA, 18, .inl (fun _ => 0)))] H := hP
  have hD : va_D A [(h0, .inr (10, [.ref q1, .ref q2, .null, .null, .null, .int 0, .int 0])), (q1, .inl (cA, 960, .inl (fun _ => 0))), (q2, .inl (cA, 18, .inl (fun _ => 0)))] := hD
  refine lv_aload_n hx hb dX10_init_21 rfl (lv_at hl 0 rfl) ?_
  refine lv_bipush (v := 18) hx hb dX10_init_22 (by decide) ?_
  refine iv_newI I hP hD hS hA 18 (by decide) (by decide) (by decide) (Nat.le_of_ble_eq_true rfl) (Nat.le_of_ble_eq_true rfl) dX10_init_24 (fun q3 H hP hD hS => ?_)
  have hP : va_P D vwCl [(h0, .inr (10, [.ref q1, .ref q2, .null, .null, .null, .int 0, .int 0])), (q1, .inl (cA, 960, .inl (fun _ => 0))), (q2, .inl (cA, 18, .inl (fun _ => 0))), (q3, .inl (cA, 18, .inl (fun _ => 0)))] H := hP
  have hD : va_D A [(h0, .inr (10, [.ref q1, .ref q2, .null, .null, .null, .int 0, .int 0])), (q1, .inl (cA, 960, .inl (fun _ => 0))), (q2, .inl (cA, 18, .inl (fun _ => 0))), (q3, .inl (cA, 18, .inl (fun _ => 0)))] := hD
  refine W.widen (k := 3) (n := 996) (Nat.le_of_ble_eq_true rfl) (Nat.le_of_ble_eq_true rfl) ?_
  refine iv_putF (v := .ref q3) (ty := .array .int) I hP hD hS 0 2 inTX10 tyX10 tyX10_ok nmX10 rfl rfl (by decide) fl_RX10_18 rfl rfl (by decide +kernel) rfl rfl (Nat.le_of_ble_eq_true rfl) dX10_init_26 (fun H locs hP hD hS => ?_)
  have hP : va_P D vwCl [(h0, .inr (10, [.ref q1, .ref q2, .ref q3, .null, .null, .int 0, .int 0])), (q1, .inl (cA, 960, .inl (fun _ => 0))), (q2, .inl (cA, 18, .inl (fun _ => 0))), (q3, .inl (cA, 18, .inl (fun _ => 0)))] H := hP
  have hD : va_D A [(h0, .inr (10, [.ref q1, .ref q2, .ref q3, .null, .null, .int 0, .int 0])), (q1, .inl (cA, 960, .inl (fun _ => 0))), (q2, .inl (cA, 18, .inl (fun _ => 0))), (q3, .inl (cA, 18, .inl (fun _ => 0)))] := hD
  refine lv_aload_n hx hb dX10_init_29 rfl (lv_at hl 0 rfl) ?_
  refine lv_bipush (v := 6) hx hb dX10_init_30 (by decide) ?_
  refine iv_newI I hP hD hS hA 6 (by decide) (by decide) (by decide) (Nat.le_of_ble_eq_true rfl) (Nat.le_of_ble_eq_true rfl) dX10_init_32 (fun q4 H hP hD hS => ?_)
  have hP : va_P D vwCl [(h0, .inr (10, [.ref q1, .ref q2, .ref q3, .null, .null, .int 0, .int 0])), (q1, .inl (cA, 960, .inl (fun _ => 0))), (q2, .inl (cA, 18, .inl (fun _ => 0))), (q3, .inl (cA, 18, .inl (fun _ => 0))), (q4, .inl (cA, 6, .inl (fun _ => 0)))] H := hP
  have hD : va_D A [(h0, .inr (10, [.ref q1, .ref q2, .ref q3, .null, .null, .int 0, .int 0])), (q1, .inl (cA, 960, .inl (fun _ => 0))), (q2, .inl (cA, 18, .inl (fun _ => 0))), (q3, .inl (cA, 18, .inl (fun _ => 0))), (q4, .inl (cA, 6, .inl (fun _ => 0)))] := hD
  refine W.widen (k := 4) (n := 1002) (Nat.le_of_ble_eq_true rfl) (Nat.le_of_ble_eq_true rfl) ?_
  refine iv_putF (v := .ref q4) (ty := .array .int) I hP hD hS 0 3 inTX10 tyX10 tyX10_ok nmX10 rfl rfl (by decide) fl_RX10_21 rfl rfl (by decide +kernel) rfl rfl (Nat.le_of_ble_eq_true rfl) dX10_init_34 (fun H locs hP hD hS => ?_)
  have hP : va_P D vwCl [(h0, .inr (10, [.ref q1, .ref q2, .ref q3, .ref q4, .null, .int 0, .int 0])), (q1, .inl (cA, 960, .inl (fun _ => 0))), (q2, .inl (cA, 18, .inl (fun _ => 0))), (q3, .inl (cA, 18, .inl (fun _ => 0))), (q4, .inl (cA, 6, .inl (fun _ => 0)))] H := hP
  have hD : va_D A [(h0, .inr (10, [.ref q1, .ref q2, .ref q3, .ref q4, .null, .int 0, .int 0])), (q1, .inl (cA, 960, .inl (fun _ => 0))), (q2, .inl (cA, 18, .inl (fun _ => 0))), (q3, .inl (cA, 18, .inl (fun _ => 0))), (q4, .inl (cA, 6, .inl (fun _ => 0)))] := hD
  refine lv_aload_n hx hb dX10_init_37 rfl (lv_at hl 0 rfl) ?_
  refine lv_sipush (v := 160) hx hb dX10_init_38 (by decide) ?_
  refine iv_newI I hP hD hS hA 160 (by decide) (by decide) (by decide) (Nat.le_of_ble_eq_true rfl) (Nat.le_of_ble_eq_true rfl) dX10_init_41 (fun q5 H hP hD hS => ?_)
  have hP : va_P D vwCl [(h0, .inr (10, [.ref q1, .ref q2, .ref q3, .ref q4, .null, .int 0, .int 0])), (q1, .inl (cA, 960, .inl (fun _ => 0))), (q2, .inl (cA, 18, .inl (fun _ => 0))), (q3, .inl (cA, 18, .inl (fun _ => 0))), (q4, .inl (cA, 6, .inl (fun _ => 0))), (q5, .inl (cA, 160, .inl (fun _ => 0)))] H := hP
  have hD : va_D A [(h0, .inr (10, [.ref q1, .ref q2, .ref q3, .ref q4, .null, .int 0, .int 0])), (q1, .inl (cA, 960, .inl (fun _ => 0))), (q2, .inl (cA, 18, .inl (fun _ => 0))), (q3, .inl (cA, 18, .inl (fun _ => 0))), (q4, .inl (cA, 6, .inl (fun _ => 0))), (q5, .inl (cA, 160, .inl (fun _ => 0)))] := hD
  refine W.widen (k := 5) (n := 1162) (Nat.le_of_ble_eq_true rfl) (Nat.le_of_ble_eq_true rfl) ?_
  refine iv_putF (v := .ref q5) (ty := .array .int) I hP hD hS 0 4 inTX10 tyX10 tyX10_ok nmX10 rfl rfl (by decide) fl_RX10_24 rfl rfl (by decide +kernel) rfl rfl (Nat.le_of_ble_eq_true rfl) dX10_init_43 (fun H locs hP hD hS => ?_)
  have hP : va_P D vwCl [(h0, .inr (10, [.ref q1, .ref q2, .ref q3, .ref q4, .ref q5, .int 0, .int 0])), (q1, .inl (cA, 960, .inl (fun _ => 0))), (q2, .inl (cA, 18, .inl (fun _ => 0))), (q3, .inl (cA, 18, .inl (fun _ => 0))), (q4, .inl (cA, 6, .inl (fun _ => 0))), (q5, .inl (cA, 160, .inl (fun _ => 0)))] H := hP
  have hD : va_D A [(h0, .inr (10, [.ref q1, .ref q2, .ref q3, .ref q4, .ref q5, .int 0, .int 0])), (q1, .inl (cA, 960, .inl (fun _ => 0))), (q2, .inl (cA, 18, .inl (fun _ => 0))), (q3, .inl (cA, 18, .inl (fun _ => 0))), (q4, .inl (cA, 6, .inl (fun _ => 0))), (q5, .inl (cA, 160, .inl (fun _ => 0)))] := hD
  exact hret _ _ _ _ ⟨q1, q2, q3, q4, q5, hP, hae ▸ hD⟩ hS dX10_init_46
set_option maxHeartbeats 4000000 in
set_option maxRecDepth 100000 in
theorem cI_RX6 {l : Launch} {D : va_G} {cA cB : ClassId} {h0 sz : Nat} : CI l yX6_init cX6_init 1 2 7 812 D cA cB NW h0 sz (.inr (6, [.null, .null, .null, .int 0, .int 0])) (fun H => ∃ q1 q2 q3 q4 q5 q6 q7 : Nat, va_P D vwCl [(h0, .inr (6, [.ref q1, .ref q6, .ref q7, .int 0, .int 0])), (q1, .inr (9, [.ref q2, .int 0, .ref q3, .ref q4, .ref q5, .int 0])), (q2, .inl (cA, 160, .inl (fun _ => 0))), (q3, .inl (cA, 161, .inl (fun _ => 0))), (q4, .inl (cA, 161, .inl (fun _ => 0))), (q5, .inl (cA, 161, .inl (fun _ => 0))), (q6, .inl (cA, 160, .inl (fun _ => 0))), (q7, .inl (cA, 3, .inl (fun _ => 0)))] H ∧ va_D (va_A [(h0, .inr (6, [.null, .null, .null, .int 0, .int 0]))] sz) [(h0, .inr (6, [.ref q1, .ref q6, .ref q7, .int 0, .int 0])), (q1, .inr (9, [.ref q2, .int 0, .ref q3, .ref q4, .ref q5, .int 0])), (q2, .inl (cA, 160, .inl (fun _ => 0))), (q3, .inl (cA, 161, .inl (fun _ => 0))), (q4, .inl (cA, 161, .inl (fun _ => 0))), (q5, .inl (cA, 161, .inl (fun _ => 0))), (q6, .inl (cA, 160, .inl (fun _ => 0))), (q7, .inl (cA, 3, .inl (fun _ => 0)))]) := by
  refine CI_of (by decide) rfl (Nat.le_of_ble_eq_true rfl) ?_
  intro p e s m args below meth c Q A I hsz hret hAe hP hD hS hA ls hl
  obtain ⟨hx, hb, hml, hown, hts, hK, hX, hin⟩ := id I
  have hae : A = va_A [(h0, .inr (6, [.null, .null, .null, .int 0, .int 0]))] sz := by rw [hAe, hsz]
  refine lv_aload_n hx hb dX6_init_0 rfl (lv_at hl 0 rfl) ?_
  refine iv_obj I mo_RX6 hl.1 ⟨Nat.le_of_ble_eq_true rfl, Nat.le_of_ble_eq_true rfl⟩ dX6_init_1 ?_
  refine lv_aload_n hx hb dX6_init_4 rfl (lv_at hl 0 rfl) ?_
  refine iv_new I hP hD hS hA 9 [.null, .int 0, .null, .null, .null, .int 0] inTX9 tyX9 tyX9_ok cl_RX6_9 in_RX9 wi_RX9 rfl (by decide +kernel) (Nat.le_of_ble_eq_true rfl) (Nat.le_of_ble_eq_true rfl) dX6_init_5 (fun q1 H hP hD hS => ?_)
  have hP : va_P D vwCl [(h0, .inr (6, [.null, .null, .null, .int 0, .int 0])), (q1, .inr (9, [.null, .int 0, .null, .null, .null, .int 0]))] H := hP
  have hD : va_D A [(h0, .inr (6, [.null, .null, .null, .int 0, .int 0])), (q1, .inr (9, [.null, .int 0, .null, .null, .null, .int 0]))] := hD
  refine W.widen (k := 1) (n := 6) (Nat.le_of_ble_eq_true rfl) (Nat.le_of_ble_eq_true rfl) ?_
  refine lv_dup hx hb dX6_init_8 rfl ?_
  refine iv_call I hP hD hS hA (b := q1) (e0 := .inr (9, [.null, .int 0, .null, .null, .null, .int 0])) (X' := NW) (rest := [.ref q1, .ref h0]) 1 [0] [(h0, .inr (6, [.null, .null, .null, .int 0, .int 0]))] rfl rfl (by decide) (by decide) (fun sz => cI_RX9) ⟨wi_RX9, wc_yX9_init, by decide, by decide, by decide +kernel⟩ wn_yX9_init rfl (hX _ nl_RX6_11) NW_call (fun U hU hW => NW_warm hW hX) hl.1 (Nat.le_of_ble_eq_true rfl) ⟨Nat.le_of_ble_eq_true rfl, Nat.le_of_ble_eq_true rfl⟩ ⟨Nat.le_of_ble_eq_true rfl, Nat.le_of_ble_eq_true rfl⟩ dX6_init_9 (fun H locs hB hj hS => ?_)
  obtain ⟨q2, q3, q4, q5, hP1, hD1⟩ := hB
  obtain ⟨hP, hD⟩ := hj _ hP1 hD1
  have hP : va_P D vwCl [(h0, .inr (6, [.null, .null, .null, .int 0, .int 0])), (q1, .inr (9, [.ref q2, .int 0, .ref q3, .ref q4, .ref q5, .int 0])), (q2, .inl (cA, 160, .inl (fun _ => 0))), (q3, .inl (cA, 161, .inl (fun _ => 0))), (q4, .inl (cA, 161, .inl (fun _ => 0))), (q5, .inl (cA, 161, .inl (fun _ => 0)))] H := hP
  have hD : va_D A [(h0, .inr (6, [.null, .null, .null, .int 0, .int 0])), (q1, .inr (9, [.ref q2, .int 0, .ref q3, .ref q4, .ref q5, .int 0])), (q2, .inl (cA, 160, .inl (fun _ => 0))), (q3, .inl (cA, 161, .inl (fun _ => 0))), (q4, .inl (cA, 161, .inl (fun _ => 0))), (q5, .inl (cA, 161, .inl (fun _ => 0)))] := hD
  refine W.widen (k := 5) (n := 649) (Nat.le_of_ble_eq_true rfl) (Nat.le_of_ble_eq_true rfl) ?_
  refine iv_putF (v := .ref q1) (ty := .object "ArmpitLine$Tape") I hP hD hS 0 0 inTX6 tyX6 tyX6_ok nmX6 rfl rfl (by decide) fl_RX6_12 rfl rfl (by decide +kernel) rfl rfl (Nat.le_of_ble_eq_true rfl) dX6_init_12 (fun H locs hP hD hS => ?_)
  have hP : va_P D vwCl [(h0, .inr (6, [.ref q1, .null, .null, .int 0, .int 0])), (q1, .inr (9, [.ref q2, .int 0, .ref q3, .ref q4, .ref q5, .int 0])), (q2, .inl (cA, 160, .inl (fun _ => 0))), (q3, .inl (cA, 161, .inl (fun _ => 0))), (q4, .inl (cA, 161, .inl (fun _ => 0))), (q5, .inl (cA, 161, .inl (fun _ => 0)))] H := hP
  have hD : va_D A [(h0, .inr (6, [.ref q1, .null, .null, .int 0, .int 0])), (q1, .inr (9, [.ref q2, .int 0, .ref q3, .ref q4, .ref q5, .int 0])), (q2, .inl (cA, 160, .inl (fun _ => 0))), (q3, .inl (cA, 161, .inl (fun _ => 0))), (q4, .inl (cA, 161, .inl (fun _ => 0))), (q5, .inl (cA, 161, .inl (fun _ => 0)))] := hD
  refine lv_aload_n hx hb dX6_init_15 rfl (lv_at hl 0 rfl) ?_
  refine lv_sipush (v := 160) hx hb dX6_init_16 (by decide) ?_
  refine iv_newI I hP hD hS hA 160 (by decide) (by decide) (by decide) (Nat.le_of_ble_eq_true rfl) (Nat.le_of_ble_eq_true rfl) dX6_init_19 (fun q6 H hP hD hS => ?_)
  have hP : va_P D vwCl [(h0, .inr (6, [.ref q1, .null, .null, .int 0, .int 0])), (q1, .inr (9, [.ref q2, .int 0, .ref q3, .ref q4, .ref q5, .int 0])), (q2, .inl (cA, 160, .inl (fun _ => 0))), (q3, .inl (cA, 161, .inl (fun _ => 0))), (q4, .inl (cA, 161, .inl (fun _ => 0))), (q5, .inl (cA, 161, .inl (fun _ => 0))), (q6, .inl (cA, 160, .inl (fun _ => 0)))] H := hP
  have hD : va_D A [(h0, .inr (6, [.ref q1, .null, .null, .int 0, .int 0])), (q1, .inr (9, [.ref q2, .int 0, .ref q3, .ref q4, .ref q5, .int 0])), (q2, .inl (cA, 160, .inl (fun _ => 0))), (q3, .inl (cA, 161, .inl (fun _ => 0))), (q4, .inl (cA, 161, .inl (fun _ => 0))), (q5, .inl (cA, 161, .inl (fun _ => 0))), (q6, .inl (cA, 160, .inl (fun _ => 0)))] := hD
  refine W.widen (k := 6) (n := 809) (Nat.le_of_ble_eq_true rfl) (Nat.le_of_ble_eq_true rfl) ?_
  refine iv_putF (v := .ref q6) (ty := .array .int) I hP hD hS 0 1 inTX6 tyX6 tyX6_ok nmX6 rfl rfl (by decide) fl_RX6_18 rfl rfl (by decide +kernel) rfl rfl (Nat.le_of_ble_eq_true rfl) dX6_init_21 (fun H locs hP hD hS => ?_)
  have hP : va_P D vwCl [(h0, .inr (6, [.ref q1, .ref q6, .null, .int 0, .int 0])), (q1, .inr (9, [.ref q2, .int 0, .ref q3, .ref q4, .ref q5, .int 0])), (q2, .inl (cA, 160, .inl (fun _ => 0))), (q3, .inl (cA, 161, .inl (fun _ => 0))), (q4, .inl (cA, 161, .inl (fun _ => 0))), (q5, .inl (cA, 161, .inl (fun _ => 0))), (q6, .inl (cA, 160, .inl (fun _ => 0)))] H := hP
  have hD : va_D A [(h0, .inr (6, [.ref q1, .ref q6, .null, .int 0, .int 0])), (q1, .inr (9, [.ref q2, .int 0, .ref q3, .ref q4, .ref q5, .int 0])), (q2, .inl (cA, 160, .inl (fun _ => 0))), (q3, .inl (cA, 161, .inl (fun _ => 0))), (q4, .inl (cA, 161, .inl (fun _ => 0))), (q5, .inl (cA, 161, .inl (fun _ => 0))), (q6, .inl (cA, 160, .inl (fun _ => 0)))] := hD
  refine lv_aload_n hx hb dX6_init_24 rfl (lv_at hl 0 rfl) ?_
  refine lv_iconst (v := 3) hx hb dX6_init_25 (by decide) ?_
  refine iv_newI I hP hD hS hA 3 (by decide) (by decide) (by decide) (Nat.le_of_ble_eq_true rfl) (Nat.le_of_ble_eq_true rfl) dX6_init_26 (fun q7 H hP hD hS => ?_)
  have hP : va_P D vwCl [(h0, .inr (6, [.ref q1, .ref q6, .null, .int 0, .int 0])), (q1, .inr (9, [.ref q2, .int 0, .ref q3, .ref q4, .ref q5, .int 0])), (q2, .inl (cA, 160, .inl (fun _ => 0))), (q3, .inl (cA, 161, .inl (fun _ => 0))), (q4, .inl (cA, 161, .inl (fun _ => 0))), (q5, .inl (cA, 161, .inl (fun _ => 0))), (q6, .inl (cA, 160, .inl (fun _ => 0))), (q7, .inl (cA, 3, .inl (fun _ => 0)))] H := hP
  have hD : va_D A [(h0, .inr (6, [.ref q1, .ref q6, .null, .int 0, .int 0])), (q1, .inr (9, [.ref q2, .int 0, .ref q3, .ref q4, .ref q5, .int 0])), (q2, .inl (cA, 160, .inl (fun _ => 0))), (q3, .inl (cA, 161, .inl (fun _ => 0))), (q4, .inl (cA, 161, .inl (fun _ => 0))), (q5, .inl (cA, 161, .inl (fun _ => 0))), (q6, .inl (cA, 160, .inl (fun _ => 0))), (q7, .inl (cA, 3, .inl (fun _ => 0)))] := hD
  refine W.widen (k := 7) (n := 812) (Nat.le_of_ble_eq_true rfl) (Nat.le_of_ble_eq_true rfl) ?_
  refine iv_putF (v := .ref q7) (ty := .array .int) I hP hD hS 0 2 inTX6 tyX6 tyX6_ok nmX6 rfl rfl (by decide) fl_RX6_22 rfl rfl (by decide +kernel) rfl rfl (Nat.le_of_ble_eq_true rfl) dX6_init_28 (fun H locs hP hD hS => ?_)
  have hP : va_P D vwCl [(h0, .inr (6, [.ref q1, .ref q6, .ref q7, .int 0, .int 0])), (q1, .inr (9, [.ref q2, .int 0, .ref q3, .ref q4, .ref q5, .int 0])), (q2, .inl (cA, 160, .inl (fun _ => 0))), (q3, .inl (cA, 161, .inl (fun _ => 0))), (q4, .inl (cA, 161, .inl (fun _ => 0))), (q5, .inl (cA, 161, .inl (fun _ => 0))), (q6, .inl (cA, 160, .inl (fun _ => 0))), (q7, .inl (cA, 3, .inl (fun _ => 0)))] H := hP
  have hD : va_D A [(h0, .inr (6, [.ref q1, .ref q6, .ref q7, .int 0, .int 0])), (q1, .inr (9, [.ref q2, .int 0, .ref q3, .ref q4, .ref q5, .int 0])), (q2, .inl (cA, 160, .inl (fun _ => 0))), (q3, .inl (cA, 161, .inl (fun _ => 0))), (q4, .inl (cA, 161, .inl (fun _ => 0))), (q5, .inl (cA, 161, .inl (fun _ => 0))), (q6, .inl (cA, 160, .inl (fun _ => 0))), (q7, .inl (cA, 3, .inl (fun _ => 0)))] := hD
  exact hret _ _ _ _ ⟨q1, q2, q3, q4, q5, q6, q7, hP, hae ▸ hD⟩ hS dX6_init_31
set_option maxHeartbeats 4000000 in
set_option maxRecDepth 100000 in
theorem cI_RX5 {l : Launch} {D : va_G} {cA cB : ClassId} {h0 sz : Nat} : CI l yX5_init cX5_init 1 2 26 1451 D cA cB NW h0 sz (.inr (5, [.null, .null, .null, .null, .null, .int 0, .int 0, .int 0, .int 0, .int 0])) (fun H => ∃ q1 q2 q3 q4 q5 q6 q7 q8 q9 q10 q11 q12 q13 q14 q15 q16 q17 q18 q19 q20 q21 q22 q23 q24 q25 q26 : Nat, va_P D vwCl [(h0, .inr (5, [.ref q1, .ref q6, .ref q10, .ref q13, .ref q19, .int 0, .int (-1), .int 0, .int 0, .int 0])), (q1, .inr (8, [.ref q2, .ref q3, .ref q4, .ref q5, .int 0])), (q2, .inl (cA, 10, .inl (fun _ => 0))), (q3, .inl (cA, 10, .inl (fun _ => 0))), (q4, .inl (cA, 10, .inl (fun _ => 0))), (q5, .inl (cA, 40, .inl (fun _ => 0))), (q6, .inr (1, [.ref q7, .ref q8, .ref q9, .int 0])), (q7, .inl (cA, 4, .inl (fun _ => 0))), (q8, .inl (cA, 4, .inl (fun _ => 0))), (q9, .inl (cA, 4, .inl (fun _ => 0))), (q10, .inr (3, [.ref q11, .ref q12, .int 0])), (q11, .inl (cA, 6, .inl (fun _ => 0))), (q12, .inl (cA, 6, .inl (fun _ => 0))), (q13, .inr (10, [.ref q14, .ref q15, .ref q16, .ref q17, .ref q18, .int 0, .int 0])), (q14, .inl (cA, 960, .inl (fun _ => 0))), (q15, .inl (cA, 18, .inl (fun _ => 0))), (q16, .inl (cA, 18, .inl (fun _ => 0))), (q17, .inl (cA, 6, .inl (fun _ => 0))), (q18, .inl (cA, 160, .inl (fun _ => 0))), (q19, .inr (0, [.ref q20, .ref q21, .ref q22, .ref q23, .ref q24, .ref q25, .ref q26, .int 0])), (q20, .inl (cA, 24, .inl (fun _ => 0))), (q21, .inl (cA, 24, .inl (fun _ => 0))), (q22, .inl (cA, 24, .inl (fun _ => 0))), (q23, .inl (cA, 24, .inl (fun _ => 0))), (q24, .inl (cA, 24, .inl (fun _ => 0))), (q25, .inl (cA, 24, .inl (fun _ => 0))), (q26, .inl (cA, 24, .inl (fun _ => 0)))] H ∧ va_D (va_A [(h0, .inr (5, [.null, .null, .null, .null, .null, .int 0, .int 0, .int 0, .int 0, .int 0]))] sz) [(h0, .inr (5, [.ref q1, .ref q6, .ref q10, .ref q13, .ref q19, .int 0, .int (-1), .int 0, .int 0, .int 0])), (q1, .inr (8, [.ref q2, .ref q3, .ref q4, .ref q5, .int 0])), (q2, .inl (cA, 10, .inl (fun _ => 0))), (q3, .inl (cA, 10, .inl (fun _ => 0))), (q4, .inl (cA, 10, .inl (fun _ => 0))), (q5, .inl (cA, 40, .inl (fun _ => 0))), (q6, .inr (1, [.ref q7, .ref q8, .ref q9, .int 0])), (q7, .inl (cA, 4, .inl (fun _ => 0))), (q8, .inl (cA, 4, .inl (fun _ => 0))), (q9, .inl (cA, 4, .inl (fun _ => 0))), (q10, .inr (3, [.ref q11, .ref q12, .int 0])), (q11, .inl (cA, 6, .inl (fun _ => 0))), (q12, .inl (cA, 6, .inl (fun _ => 0))), (q13, .inr (10, [.ref q14, .ref q15, .ref q16, .ref q17, .ref q18, .int 0, .int 0])), (q14, .inl (cA, 960, .inl (fun _ => 0))), (q15, .inl (cA, 18, .inl (fun _ => 0))), (q16, .inl (cA, 18, .inl (fun _ => 0))), (q17, .inl (cA, 6, .inl (fun _ => 0))), (q18, .inl (cA, 160, .inl (fun _ => 0))), (q19, .inr (0, [.ref q20, .ref q21, .ref q22, .ref q23, .ref q24, .ref q25, .ref q26, .int 0])), (q20, .inl (cA, 24, .inl (fun _ => 0))), (q21, .inl (cA, 24, .inl (fun _ => 0))), (q22, .inl (cA, 24, .inl (fun _ => 0))), (q23, .inl (cA, 24, .inl (fun _ => 0))), (q24, .inl (cA, 24, .inl (fun _ => 0))), (q25, .inl (cA, 24, .inl (fun _ => 0))), (q26, .inl (cA, 24, .inl (fun _ => 0)))]) := by
  refine CI_of (by decide) rfl (Nat.le_of_ble_eq_true rfl) ?_
  intro p e s m args below meth c Q A I hsz hret hAe hP hD hS hA ls hl
  obtain ⟨hx, hb, hml, hown, hts, hK, hX, hin⟩ := id I
  have hae : A = va_A [(h0, .inr (5, [.null, .null, .null, .null, .null, .int 0, .int 0, .int 0, .int 0, .int 0]))] sz := by rw [hAe, hsz]
  refine lv_aload_n hx hb dX5_init_0 rfl (lv_at hl 0 rfl) ?_
  refine iv_obj I mo_RX5 hl.1 ⟨Nat.le_of_ble_eq_true rfl, Nat.le_of_ble_eq_true rfl⟩ dX5_init_1 ?_
  refine lv_aload_n hx hb dX5_init_4 rfl (lv_at hl 0 rfl) ?_
  refine iv_new I hP hD hS hA 8 [.null, .null, .null, .null, .int 0] inTX8 tyX8 tyX8_ok cl_RX5_9 in_RX8 wi_RX8 rfl (by decide +kernel) (Nat.le_of_ble_eq_true rfl) (Nat.le_of_ble_eq_true rfl) dX5_init_5 (fun q1 H hP hD hS => ?_)
  have hP : va_P D vwCl [(h0, .inr (5, [.null, .null, .null, .null, .null, .int 0, .int 0, .int 0, .int 0, .int 0])), (q1, .inr (8, [.null, .null, .null, .null, .int 0]))] H := hP
  have hD : va_D A [(h0, .inr (5, [.null, .null, .null, .null, .null, .int 0, .int 0, .int 0, .int 0, .int 0])), (q1, .inr (8, [.null, .null, .null, .null, .int 0]))] := hD
  refine W.widen (k := 1) (n := 5) (Nat.le_of_ble_eq_true rfl) (Nat.le_of_ble_eq_true rfl) ?_
  refine lv_dup hx hb dX5_init_8 rfl ?_
  refine iv_call I hP hD hS hA (b := q1) (e0 := .inr (8, [.null, .null, .null, .null, .int 0])) (X' := NW) (rest := [.ref q1, .ref h0]) 1 [0] [(h0, .inr (5, [.null, .null, .null, .null, .null, .int 0, .int 0, .int 0, .int 0, .int 0]))] rfl rfl (by decide) (by decide) (fun sz => cI_RX8) ⟨wi_RX8, wc_yX8_init, by decide, by decide, by decide +kernel⟩ wn_yX8_init rfl (hX _ nl_RX5_11) NW_call (fun U hU hW => NW_warm hW hX) hl.1 (Nat.le_of_ble_eq_true rfl) ⟨Nat.le_of_ble_eq_true rfl, Nat.le_of_ble_eq_true rfl⟩ ⟨Nat.le_of_ble_eq_true rfl, Nat.le_of_ble_eq_true rfl⟩ dX5_init_9 (fun H locs hB hj hS => ?_)
  obtain ⟨q2, q3, q4, q5, hP1, hD1⟩ := hB
  obtain ⟨hP, hD⟩ := hj _ hP1 hD1
  have hP : va_P D vwCl [(h0, .inr (5, [.null, .null, .null, .null, .null, .int 0, .int 0, .int 0, .int 0, .int 0])), (q1, .inr (8, [.ref q2, .ref q3, .ref q4, .ref q5, .int 0])), (q2, .inl (cA, 10, .inl (fun _ => 0))), (q3, .inl (cA, 10, .inl (fun _ => 0))), (q4, .inl (cA, 10, .inl (fun _ => 0))), (q5, .inl (cA, 40, .inl (fun _ => 0)))] H := hP
  have hD : va_D A [(h0, .inr (5, [.null, .null, .null, .null, .null, .int 0, .int 0, .int 0, .int 0, .int 0])), (q1, .inr (8, [.ref q2, .ref q3, .ref q4, .ref q5, .int 0])), (q2, .inl (cA, 10, .inl (fun _ => 0))), (q3, .inl (cA, 10, .inl (fun _ => 0))), (q4, .inl (cA, 10, .inl (fun _ => 0))), (q5, .inl (cA, 40, .inl (fun _ => 0)))] := hD
  refine W.widen (k := 5) (n := 75) (Nat.le_of_ble_eq_true rfl) (Nat.le_of_ble_eq_true rfl) ?_
  refine iv_putF (v := .ref q1) (ty := .object "ArmpitLine$Squad") I hP hD hS 0 0 inTX5 tyX5 tyX5_ok nmX5 rfl rfl (by decide) fl_RX5_12 rfl rfl (by decide +kernel) rfl rfl (Nat.le_of_ble_eq_true rfl) dX5_init_12 (fun H locs hP hD hS => ?_)
  have hP : va_P D vwCl [(h0, .inr (5, [.ref q1, .null, .null, .null, .null, .int 0, .int 0, .int 0, .int 0, .int 0])), (q1, .inr (8, [.ref q2, .ref q3, .ref q4, .ref q5, .int 0])), (q2, .inl (cA, 10, .inl (fun _ => 0))), (q3, .inl (cA, 10, .inl (fun _ => 0))), (q4, .inl (cA, 10, .inl (fun _ => 0))), (q5, .inl (cA, 40, .inl (fun _ => 0)))] H := hP
  have hD : va_D A [(h0, .inr (5, [.ref q1, .null, .null, .null, .null, .int 0, .int 0, .int 0, .int 0, .int 0])), (q1, .inr (8, [.ref q2, .ref q3, .ref q4, .ref q5, .int 0])), (q2, .inl (cA, 10, .inl (fun _ => 0))), (q3, .inl (cA, 10, .inl (fun _ => 0))), (q4, .inl (cA, 10, .inl (fun _ => 0))), (q5, .inl (cA, 40, .inl (fun _ => 0)))] := hD
  refine lv_aload_n hx hb dX5_init_15 rfl (lv_at hl 0 rfl) ?_
  refine iv_new I hP hD hS hA 1 [.null, .null, .null, .int 0] inTX1 tyX1 tyX1_ok cl_RX5_18 in_RX1 wi_RX1 rfl (by decide +kernel) (Nat.le_of_ble_eq_true rfl) (Nat.le_of_ble_eq_true rfl) dX5_init_16 (fun q6 H hP hD hS => ?_)
  have hP : va_P D vwCl [(h0, .inr (5, [.ref q1, .null, .null, .null, .null, .int 0, .int 0, .int 0, .int 0, .int 0])), (q1, .inr (8, [.ref q2, .ref q3, .ref q4, .ref q5, .int 0])), (q2, .inl (cA, 10, .inl (fun _ => 0))), (q3, .inl (cA, 10, .inl (fun _ => 0))), (q4, .inl (cA, 10, .inl (fun _ => 0))), (q5, .inl (cA, 40, .inl (fun _ => 0))), (q6, .inr (1, [.null, .null, .null, .int 0]))] H := hP
  have hD : va_D A [(h0, .inr (5, [.ref q1, .null, .null, .null, .null, .int 0, .int 0, .int 0, .int 0, .int 0])), (q1, .inr (8, [.ref q2, .ref q3, .ref q4, .ref q5, .int 0])), (q2, .inl (cA, 10, .inl (fun _ => 0))), (q3, .inl (cA, 10, .inl (fun _ => 0))), (q4, .inl (cA, 10, .inl (fun _ => 0))), (q5, .inl (cA, 40, .inl (fun _ => 0))), (q6, .inr (1, [.null, .null, .null, .int 0]))] := hD
  refine W.widen (k := 6) (n := 79) (Nat.le_of_ble_eq_true rfl) (Nat.le_of_ble_eq_true rfl) ?_
  refine lv_dup hx hb dX5_init_19 rfl ?_
  refine iv_call I hP hD hS hA (b := q6) (e0 := .inr (1, [.null, .null, .null, .int 0])) (X' := NW) (rest := [.ref q6, .ref h0]) 6 [0, 1, 2, 3, 4, 5] [(h0, .inr (5, [.ref q1, .null, .null, .null, .null, .int 0, .int 0, .int 0, .int 0, .int 0])), (q1, .inr (8, [.ref q2, .ref q3, .ref q4, .ref q5, .int 0])), (q2, .inl (cA, 10, .inl (fun _ => 0))), (q3, .inl (cA, 10, .inl (fun _ => 0))), (q4, .inl (cA, 10, .inl (fun _ => 0))), (q5, .inl (cA, 40, .inl (fun _ => 0)))] rfl rfl (by decide) (by decide) (fun sz => cI_RX1) ⟨wi_RX1, wc_yX1_init, by decide, by decide, by decide +kernel⟩ wn_yX1_init rfl (hX _ nl_RX5_20) NW_call (fun U hU hW => NW_warm hW hX) hl.1 (Nat.le_of_ble_eq_true rfl) ⟨Nat.le_of_ble_eq_true rfl, Nat.le_of_ble_eq_true rfl⟩ ⟨Nat.le_of_ble_eq_true rfl, Nat.le_of_ble_eq_true rfl⟩ dX5_init_20 (fun H locs hB hj hS => ?_)
  obtain ⟨q7, q8, q9, hP1, hD1⟩ := hB
  obtain ⟨hP, hD⟩ := hj _ hP1 hD1
  have hP : va_P D vwCl [(h0, .inr (5, [.ref q1, .null, .null, .null, .null, .int 0, .int 0, .int 0, .int 0, .int 0])), (q1, .inr (8, [.ref q2, .ref q3, .ref q4, .ref q5, .int 0])), (q2, .inl (cA, 10, .inl (fun _ => 0))), (q3, .inl (cA, 10, .inl (fun _ => 0))), (q4, .inl (cA, 10, .inl (fun _ => 0))), (q5, .inl (cA, 40, .inl (fun _ => 0))), (q6, .inr (1, [.ref q7, .ref q8, .ref q9, .int 0])), (q7, .inl (cA, 4, .inl (fun _ => 0))), (q8, .inl (cA, 4, .inl (fun _ => 0))), (q9, .inl (cA, 4, .inl (fun _ => 0)))] H := hP
  have hD : va_D A [(h0, .inr (5, [.ref q1, .null, .null, .null, .null, .int 0, .int 0, .int 0, .int 0, .int 0])), (q1, .inr (8, [.ref q2, .ref q3, .ref q4, .ref q5, .int 0])), (q2, .inl (cA, 10, .inl (fun _ => 0))), (q3, .inl (cA, 10, .inl (fun _ => 0))), (q4, .inl (cA, 10, .inl (fun _ => 0))), (q5, .inl (cA, 40, .inl (fun _ => 0))), (q6, .inr (1, [.ref q7, .ref q8, .ref q9, .int 0])), (q7, .inl (cA, 4, .inl (fun _ => 0))), (q8, .inl (cA, 4, .inl (fun _ => 0))), (q9, .inl (cA, 4, .inl (fun _ => 0)))] := hD
  refine W.widen (k := 9) (n := 91) (Nat.le_of_ble_eq_true rfl) (Nat.le_of_ble_eq_true rfl) ?_
  refine iv_putF (v := .ref q6) (ty := .object "ArmpitLine$Cameras") I hP hD hS 0 1 inTX5 tyX5 tyX5_ok nmX5 rfl rfl (by decide) fl_RX5_21 rfl rfl (by decide +kernel) rfl rfl (Nat.le_of_ble_eq_true rfl) dX5_init_23 (fun H locs hP hD hS => ?_)
  have hP : va_P D vwCl [(h0, .inr (5, [.ref q1, .ref q6, .null, .null, .null, .int 0, .int 0, .int 0, .int 0, .int 0])), (q1, .inr (8, [.ref q2, .ref q3, .ref q4, .ref q5, .int 0])), (q2, .inl (cA, 10, .inl (fun _ => 0))), (q3, .inl (cA, 10, .inl (fun _ => 0))), (q4, .inl (cA, 10, .inl (fun _ => 0))), (q5, .inl (cA, 40, .inl (fun _ => 0))), (q6, .inr (1, [.ref q7, .ref q8, .ref q9, .int 0])), (q7, .inl (cA, 4, .inl (fun _ => 0))), (q8, .inl (cA, 4, .inl (fun _ => 0))), (q9, .inl (cA, 4, .inl (fun _ => 0)))] H := hP
  have hD : va_D A [(h0, .inr (5, [.ref q1, .ref q6, .null, .null, .null, .int 0, .int 0, .int 0, .int 0, .int 0])), (q1, .inr (8, [.ref q2, .ref q3, .ref q4, .ref q5, .int 0])), (q2, .inl (cA, 10, .inl (fun _ => 0))), (q3, .inl (cA, 10, .inl (fun _ => 0))), (q4, .inl (cA, 10, .inl (fun _ => 0))), (q5, .inl (cA, 40, .inl (fun _ => 0))), (q6, .inr (1, [.ref q7, .ref q8, .ref q9, .int 0])), (q7, .inl (cA, 4, .inl (fun _ => 0))), (q8, .inl (cA, 4, .inl (fun _ => 0))), (q9, .inl (cA, 4, .inl (fun _ => 0)))] := hD
  refine lv_aload_n hx hb dX5_init_26 rfl (lv_at hl 0 rfl) ?_
  refine iv_new I hP hD hS hA 3 [.null, .null, .int 0] inTX3 tyX3 tyX3_ok cl_RX5_25 in_RX3 wi_RX3 rfl (by decide +kernel) (Nat.le_of_ble_eq_true rfl) (Nat.le_of_ble_eq_true rfl) dX5_init_27 (fun q10 H hP hD hS => ?_)
  have hP : va_P D vwCl [(h0, .inr (5, [.ref q1, .ref q6, .null, .null, .null, .int 0, .int 0, .int 0, .int 0, .int 0])), (q1, .inr (8, [.ref q2, .ref q3, .ref q4, .ref q5, .int 0])), (q2, .inl (cA, 10, .inl (fun _ => 0))), (q3, .inl (cA, 10, .inl (fun _ => 0))), (q4, .inl (cA, 10, .inl (fun _ => 0))), (q5, .inl (cA, 40, .inl (fun _ => 0))), (q6, .inr (1, [.ref q7, .ref q8, .ref q9, .int 0])), (q7, .inl (cA, 4, .inl (fun _ => 0))), (q8, .inl (cA, 4, .inl (fun _ => 0))), (q9, .inl (cA, 4, .inl (fun _ => 0))), (q10, .inr (3, [.null, .null, .int 0]))] H := hP
  have hD : va_D A [(h0, .inr (5, [.ref q1, .ref q6, .null, .null, .null, .int 0, .int 0, .int 0, .int 0, .int 0])), (q1, .inr (8, [.ref q2, .ref q3, .ref q4, .ref q5, .int 0])), (q2, .inl (cA, 10, .inl (fun _ => 0))), (q3, .inl (cA, 10, .inl (fun _ => 0))), (q4, .inl (cA, 10, .inl (fun _ => 0))), (q5, .inl (cA, 40, .inl (fun _ => 0))), (q6, .inr (1, [.ref q7, .ref q8, .ref q9, .int 0])), (q7, .inl (cA, 4, .inl (fun _ => 0))), (q8, .inl (cA, 4, .inl (fun _ => 0))), (q9, .inl (cA, 4, .inl (fun _ => 0))), (q10, .inr (3, [.null, .null, .int 0]))] := hD
  refine W.widen (k := 10) (n := 94) (Nat.le_of_ble_eq_true rfl) (Nat.le_of_ble_eq_true rfl) ?_
  refine lv_dup hx hb dX5_init_30 rfl ?_
  refine iv_call I hP hD hS hA (b := q10) (e0 := .inr (3, [.null, .null, .int 0])) (X' := NW) (rest := [.ref q10, .ref h0]) 10 [0, 1, 2, 3, 4, 5, 6, 7, 8, 9] [(h0, .inr (5, [.ref q1, .ref q6, .null, .null, .null, .int 0, .int 0, .int 0, .int 0, .int 0])), (q1, .inr (8, [.ref q2, .ref q3, .ref q4, .ref q5, .int 0])), (q2, .inl (cA, 10, .inl (fun _ => 0))), (q3, .inl (cA, 10, .inl (fun _ => 0))), (q4, .inl (cA, 10, .inl (fun _ => 0))), (q5, .inl (cA, 40, .inl (fun _ => 0))), (q6, .inr (1, [.ref q7, .ref q8, .ref q9, .int 0])), (q7, .inl (cA, 4, .inl (fun _ => 0))), (q8, .inl (cA, 4, .inl (fun _ => 0))), (q9, .inl (cA, 4, .inl (fun _ => 0)))] rfl rfl (by decide) (by decide) (fun sz => cI_RX3) ⟨wi_RX3, wc_yX3_init, by decide, by decide, by decide +kernel⟩ wn_yX3_init rfl (hX _ nl_RX5_27) NW_call (fun U hU hW => NW_warm hW hX) hl.1 (Nat.le_of_ble_eq_true rfl) ⟨Nat.le_of_ble_eq_true rfl, Nat.le_of_ble_eq_true rfl⟩ ⟨Nat.le_of_ble_eq_true rfl, Nat.le_of_ble_eq_true rfl⟩ dX5_init_31 (fun H locs hB hj hS => ?_)
  obtain ⟨q11, q12, hP1, hD1⟩ := hB
  obtain ⟨hP, hD⟩ := hj _ hP1 hD1
  have hP : va_P D vwCl [(h0, .inr (5, [.ref q1, .ref q6, .null, .null, .null, .int 0, .int 0, .int 0, .int 0, .int 0])), (q1, .inr (8, [.ref q2, .ref q3, .ref q4, .ref q5, .int 0])), (q2, .inl (cA, 10, .inl (fun _ => 0))), (q3, .inl (cA, 10, .inl (fun _ => 0))), (q4, .inl (cA, 10, .inl (fun _ => 0))), (q5, .inl (cA, 40, .inl (fun _ => 0))), (q6, .inr (1, [.ref q7, .ref q8, .ref q9, .int 0])), (q7, .inl (cA, 4, .inl (fun _ => 0))), (q8, .inl (cA, 4, .inl (fun _ => 0))), (q9, .inl (cA, 4, .inl (fun _ => 0))), (q10, .inr (3, [.ref q11, .ref q12, .int 0])), (q11, .inl (cA, 6, .inl (fun _ => 0))), (q12, .inl (cA, 6, .inl (fun _ => 0)))] H := hP
  have hD : va_D A [(h0, .inr (5, [.ref q1, .ref q6, .null, .null, .null, .int 0, .int 0, .int 0, .int 0, .int 0])), (q1, .inr (8, [.ref q2, .ref q3, .ref q4, .ref q5, .int 0])), (q2, .inl (cA, 10, .inl (fun _ => 0))), (q3, .inl (cA, 10, .inl (fun _ => 0))), (q4, .inl (cA, 10, .inl (fun _ => 0))), (q5, .inl (cA, 40, .inl (fun _ => 0))), (q6, .inr (1, [.ref q7, .ref q8, .ref q9, .int 0])), (q7, .inl (cA, 4, .inl (fun _ => 0))), (q8, .inl (cA, 4, .inl (fun _ => 0))), (q9, .inl (cA, 4, .inl (fun _ => 0))), (q10, .inr (3, [.ref q11, .ref q12, .int 0])), (q11, .inl (cA, 6, .inl (fun _ => 0))), (q12, .inl (cA, 6, .inl (fun _ => 0)))] := hD
  refine W.widen (k := 12) (n := 106) (Nat.le_of_ble_eq_true rfl) (Nat.le_of_ble_eq_true rfl) ?_
  refine iv_putF (v := .ref q10) (ty := .object "ArmpitLine$Crossers") I hP hD hS 0 2 inTX5 tyX5 tyX5_ok nmX5 rfl rfl (by decide) fl_RX5_28 rfl rfl (by decide +kernel) rfl rfl (Nat.le_of_ble_eq_true rfl) dX5_init_34 (fun H locs hP hD hS => ?_)
  have hP : va_P D vwCl [(h0, .inr (5, [.ref q1, .ref q6, .ref q10, .null, .null, .int 0, .int 0, .int 0, .int 0, .int 0])), (q1, .inr (8, [.ref q2, .ref q3, .ref q4, .ref q5, .int 0])), (q2, .inl (cA, 10, .inl (fun _ => 0))), (q3, .inl (cA, 10, .inl (fun _ => 0))), (q4, .inl (cA, 10, .inl (fun _ => 0))), (q5, .inl (cA, 40, .inl (fun _ => 0))), (q6, .inr (1, [.ref q7, .ref q8, .ref q9, .int 0])), (q7, .inl (cA, 4, .inl (fun _ => 0))), (q8, .inl (cA, 4, .inl (fun _ => 0))), (q9, .inl (cA, 4, .inl (fun _ => 0))), (q10, .inr (3, [.ref q11, .ref q12, .int 0])), (q11, .inl (cA, 6, .inl (fun _ => 0))), (q12, .inl (cA, 6, .inl (fun _ => 0)))] H := hP
  have hD : va_D A [(h0, .inr (5, [.ref q1, .ref q6, .ref q10, .null, .null, .int 0, .int 0, .int 0, .int 0, .int 0])), (q1, .inr (8, [.ref q2, .ref q3, .ref q4, .ref q5, .int 0])), (q2, .inl (cA, 10, .inl (fun _ => 0))), (q3, .inl (cA, 10, .inl (fun _ => 0))), (q4, .inl (cA, 10, .inl (fun _ => 0))), (q5, .inl (cA, 40, .inl (fun _ => 0))), (q6, .inr (1, [.ref q7, .ref q8, .ref q9, .int 0])), (q7, .inl (cA, 4, .inl (fun _ => 0))), (q8, .inl (cA, 4, .inl (fun _ => 0))), (q9, .inl (cA, 4, .inl (fun _ => 0))), (q10, .inr (3, [.ref q11, .ref q12, .int 0])), (q11, .inl (cA, 6, .inl (fun _ => 0))), (q12, .inl (cA, 6, .inl (fun _ => 0)))] := hD
  refine lv_aload_n hx hb dX5_init_37 rfl (lv_at hl 0 rfl) ?_
  refine iv_new I hP hD hS hA 10 [.null, .null, .null, .null, .null, .int 0, .int 0] inTX10 tyX10 tyX10_ok cl_RX5_32 in_RX10 wi_RX10 rfl (by decide +kernel) (Nat.le_of_ble_eq_true rfl) (Nat.le_of_ble_eq_true rfl) dX5_init_38 (fun q13 H hP hD hS => ?_)
  have hP : va_P D vwCl [(h0, .inr (5, [.ref q1, .ref q6, .ref q10, .null, .null, .int 0, .int 0, .int 0, .int 0, .int 0])), (q1, .inr (8, [.ref q2, .ref q3, .ref q4, .ref q5, .int 0])), (q2, .inl (cA, 10, .inl (fun _ => 0))), (q3, .inl (cA, 10, .inl (fun _ => 0))), (q4, .inl (cA, 10, .inl (fun _ => 0))), (q5, .inl (cA, 40, .inl (fun _ => 0))), (q6, .inr (1, [.ref q7, .ref q8, .ref q9, .int 0])), (q7, .inl (cA, 4, .inl (fun _ => 0))), (q8, .inl (cA, 4, .inl (fun _ => 0))), (q9, .inl (cA, 4, .inl (fun _ => 0))), (q10, .inr (3, [.ref q11, .ref q12, .int 0])), (q11, .inl (cA, 6, .inl (fun _ => 0))), (q12, .inl (cA, 6, .inl (fun _ => 0))), (q13, .inr (10, [.null, .null, .null, .null, .null, .int 0, .int 0]))] H := hP
  have hD : va_D A [(h0, .inr (5, [.ref q1, .ref q6, .ref q10, .null, .null, .int 0, .int 0, .int 0, .int 0, .int 0])), (q1, .inr (8, [.ref q2, .ref q3, .ref q4, .ref q5, .int 0])), (q2, .inl (cA, 10, .inl (fun _ => 0))), (q3, .inl (cA, 10, .inl (fun _ => 0))), (q4, .inl (cA, 10, .inl (fun _ => 0))), (q5, .inl (cA, 40, .inl (fun _ => 0))), (q6, .inr (1, [.ref q7, .ref q8, .ref q9, .int 0])), (q7, .inl (cA, 4, .inl (fun _ => 0))), (q8, .inl (cA, 4, .inl (fun _ => 0))), (q9, .inl (cA, 4, .inl (fun _ => 0))), (q10, .inr (3, [.ref q11, .ref q12, .int 0])), (q11, .inl (cA, 6, .inl (fun _ => 0))), (q12, .inl (cA, 6, .inl (fun _ => 0))), (q13, .inr (10, [.null, .null, .null, .null, .null, .int 0, .int 0]))] := hD
  refine W.widen (k := 13) (n := 113) (Nat.le_of_ble_eq_true rfl) (Nat.le_of_ble_eq_true rfl) ?_
  refine lv_dup hx hb dX5_init_41 rfl ?_
  refine iv_call I hP hD hS hA (b := q13) (e0 := .inr (10, [.null, .null, .null, .null, .null, .int 0, .int 0])) (X' := NW) (rest := [.ref q13, .ref h0]) 13 [0, 1, 2, 3, 4, 5, 6, 7, 8, 9, 10, 11, 12] [(h0, .inr (5, [.ref q1, .ref q6, .ref q10, .null, .null, .int 0, .int 0, .int 0, .int 0, .int 0])), (q1, .inr (8, [.ref q2, .ref q3, .ref q4, .ref q5, .int 0])), (q2, .inl (cA, 10, .inl (fun _ => 0))), (q3, .inl (cA, 10, .inl (fun _ => 0))), (q4, .inl (cA, 10, .inl (fun _ => 0))), (q5, .inl (cA, 40, .inl (fun _ => 0))), (q6, .inr (1, [.ref q7, .ref q8, .ref q9, .int 0])), (q7, .inl (cA, 4, .inl (fun _ => 0))), (q8, .inl (cA, 4, .inl (fun _ => 0))), (q9, .inl (cA, 4, .inl (fun _ => 0))), (q10, .inr (3, [.ref q11, .ref q12, .int 0])), (q11, .inl (cA, 6, .inl (fun _ => 0))), (q12, .inl (cA, 6, .inl (fun _ => 0)))] rfl rfl (by decide) (by decide) (fun sz => cI_RX10) ⟨wi_RX10, wc_yX10_init, by decide, by decide, by decide +kernel⟩ wn_yX10_init rfl (hX _ nl_RX5_34) NW_call (fun U hU hW => NW_warm hW hX) hl.1 (Nat.le_of_ble_eq_true rfl) ⟨Nat.le_of_ble_eq_true rfl, Nat.le_of_ble_eq_true rfl⟩ ⟨Nat.le_of_ble_eq_true rfl, Nat.le_of_ble_eq_true rfl⟩ dX5_init_42 (fun H locs hB hj hS => ?_)
  obtain ⟨q14, q15, q16, q17, q18, hP1, hD1⟩ := hB
  obtain ⟨hP, hD⟩ := hj _ hP1 hD1
  have hP : va_P D vwCl [(h0, .inr (5, [.ref q1, .ref q6, .ref q10, .null, .null, .int 0, .int 0, .int 0, .int 0, .int 0])), (q1, .inr (8, [.ref q2, .ref q3, .ref q4, .ref q5, .int 0])), (q2, .inl (cA, 10, .inl (fun _ => 0))), (q3, .inl (cA, 10, .inl (fun _ => 0))), (q4, .inl (cA, 10, .inl (fun _ => 0))), (q5, .inl (cA, 40, .inl (fun _ => 0))), (q6, .inr (1, [.ref q7, .ref q8, .ref q9, .int 0])), (q7, .inl (cA, 4, .inl (fun _ => 0))), (q8, .inl (cA, 4, .inl (fun _ => 0))), (q9, .inl (cA, 4, .inl (fun _ => 0))), (q10, .inr (3, [.ref q11, .ref q12, .int 0])), (q11, .inl (cA, 6, .inl (fun _ => 0))), (q12, .inl (cA, 6, .inl (fun _ => 0))), (q13, .inr (10, [.ref q14, .ref q15, .ref q16, .ref q17, .ref q18, .int 0, .int 0])), (q14, .inl (cA, 960, .inl (fun _ => 0))), (q15, .inl (cA, 18, .inl (fun _ => 0))), (q16, .inl (cA, 18, .inl (fun _ => 0))), (q17, .inl (cA, 6, .inl (fun _ => 0))), (q18, .inl (cA, 160, .inl (fun _ => 0)))] H := hP
  have hD : va_D A [(h0, .inr (5, [.ref q1, .ref q6, .ref q10, .null, .null, .int 0, .int 0, .int 0, .int 0, .int 0])), (q1, .inr (8, [.ref q2, .ref q3, .ref q4, .ref q5, .int 0])), (q2, .inl (cA, 10, .inl (fun _ => 0))), (q3, .inl (cA, 10, .inl (fun _ => 0))), (q4, .inl (cA, 10, .inl (fun _ => 0))), (q5, .inl (cA, 40, .inl (fun _ => 0))), (q6, .inr (1, [.ref q7, .ref q8, .ref q9, .int 0])), (q7, .inl (cA, 4, .inl (fun _ => 0))), (q8, .inl (cA, 4, .inl (fun _ => 0))), (q9, .inl (cA, 4, .inl (fun _ => 0))), (q10, .inr (3, [.ref q11, .ref q12, .int 0])), (q11, .inl (cA, 6, .inl (fun _ => 0))), (q12, .inl (cA, 6, .inl (fun _ => 0))), (q13, .inr (10, [.ref q14, .ref q15, .ref q16, .ref q17, .ref q18, .int 0, .int 0])), (q14, .inl (cA, 960, .inl (fun _ => 0))), (q15, .inl (cA, 18, .inl (fun _ => 0))), (q16, .inl (cA, 18, .inl (fun _ => 0))), (q17, .inl (cA, 6, .inl (fun _ => 0))), (q18, .inl (cA, 160, .inl (fun _ => 0)))] := hD
  refine W.widen (k := 18) (n := 1275) (Nat.le_of_ble_eq_true rfl) (Nat.le_of_ble_eq_true rfl) ?_
  refine iv_putF (v := .ref q13) (ty := .object "ArmpitLine$Texts") I hP hD hS 0 3 inTX5 tyX5 tyX5_ok nmX5 rfl rfl (by decide) fl_RX5_35 rfl rfl (by decide +kernel) rfl rfl (Nat.le_of_ble_eq_true rfl) dX5_init_45 (fun H locs hP hD hS => ?_)
  have hP : va_P D vwCl [(h0, .inr (5, [.ref q1, .ref q6, .ref q10, .ref q13, .null, .int 0, .int 0, .int 0, .int 0, .int 0])), (q1, .inr (8, [.ref q2, .ref q3, .ref q4, .ref q5, .int 0])), (q2, .inl (cA, 10, .inl (fun _ => 0))), (q3, .inl (cA, 10, .inl (fun _ => 0))), (q4, .inl (cA, 10, .inl (fun _ => 0))), (q5, .inl (cA, 40, .inl (fun _ => 0))), (q6, .inr (1, [.ref q7, .ref q8, .ref q9, .int 0])), (q7, .inl (cA, 4, .inl (fun _ => 0))), (q8, .inl (cA, 4, .inl (fun _ => 0))), (q9, .inl (cA, 4, .inl (fun _ => 0))), (q10, .inr (3, [.ref q11, .ref q12, .int 0])), (q11, .inl (cA, 6, .inl (fun _ => 0))), (q12, .inl (cA, 6, .inl (fun _ => 0))), (q13, .inr (10, [.ref q14, .ref q15, .ref q16, .ref q17, .ref q18, .int 0, .int 0])), (q14, .inl (cA, 960, .inl (fun _ => 0))), (q15, .inl (cA, 18, .inl (fun _ => 0))), (q16, .inl (cA, 18, .inl (fun _ => 0))), (q17, .inl (cA, 6, .inl (fun _ => 0))), (q18, .inl (cA, 160, .inl (fun _ => 0)))] H := hP
  have hD : va_D A [(h0, .inr (5, [.ref q1, .ref q6, .ref q10, .ref q13, .null, .int 0, .int 0, .int 0, .int 0, .int 0])), (q1, .inr (8, [.ref q2, .ref q3, .ref q4, .ref q5, .int 0])), (q2, .inl (cA, 10, .inl (fun _ => 0))), (q3, .inl (cA, 10, .inl (fun _ => 0))), (q4, .inl (cA, 10, .inl (fun _ => 0))), (q5, .inl (cA, 40, .inl (fun _ => 0))), (q6, .inr (1, [.ref q7, .ref q8, .ref q9, .int 0])), (q7, .inl (cA, 4, .inl (fun _ => 0))), (q8, .inl (cA, 4, .inl (fun _ => 0))), (q9, .inl (cA, 4, .inl (fun _ => 0))), (q10, .inr (3, [.ref q11, .ref q12, .int 0])), (q11, .inl (cA, 6, .inl (fun _ => 0))), (q12, .inl (cA, 6, .inl (fun _ => 0))), (q13, .inr (10, [.ref q14, .ref q15, .ref q16, .ref q17, .ref q18, .int 0, .int 0])), (q14, .inl (cA, 960, .inl (fun _ => 0))), (q15, .inl (cA, 18, .inl (fun _ => 0))), (q16, .inl (cA, 18, .inl (fun _ => 0))), (q17, .inl (cA, 6, .inl (fun _ => 0))), (q18, .inl (cA, 160, .inl (fun _ => 0)))] := hD
  refine lv_aload_n hx hb dX5_init_48 rfl (lv_at hl 0 rfl) ?_
  refine iv_new I hP hD hS hA 0 [.null, .null, .null, .null, .null, .null, .null, .int 0] inTX0 tyX0 tyX0_ok cl_RX5_39 in_RX0 wi_RX0 rfl (by decide +kernel) (Nat.le_of_ble_eq_true rfl) (Nat.le_of_ble_eq_true rfl) dX5_init_49 (fun q19 H hP hD hS => ?_)
  have hP : va_P D vwCl [(h0, .inr (5, [.ref q1, .ref q6, .ref q10, .ref q13, .null, .int 0, .int 0, .int 0, .int 0, .int 0])), (q1, .inr (8, [.ref q2, .ref q3, .ref q4, .ref q5, .int 0])), (q2, .inl (cA, 10, .inl (fun _ => 0))), (q3, .inl (cA, 10, .inl (fun _ => 0))), (q4, .inl (cA, 10, .inl (fun _ => 0))), (q5, .inl (cA, 40, .inl (fun _ => 0))), (q6, .inr (1, [.ref q7, .ref q8, .ref q9, .int 0])), (q7, .inl (cA, 4, .inl (fun _ => 0))), (q8, .inl (cA, 4, .inl (fun _ => 0))), (q9, .inl (cA, 4, .inl (fun _ => 0))), (q10, .inr (3, [.ref q11, .ref q12, .int 0])), (q11, .inl (cA, 6, .inl (fun _ => 0))), (q12, .inl (cA, 6, .inl (fun _ => 0))), (q13, .inr (10, [.ref q14, .ref q15, .ref q16, .ref q17, .ref q18, .int 0, .int 0])), (q14, .inl (cA, 960, .inl (fun _ => 0))), (q15, .inl (cA, 18, .inl (fun _ => 0))), (q16, .inl (cA, 18, .inl (fun _ => 0))), (q17, .inl (cA, 6, .inl (fun _ => 0))), (q18, .inl (cA, 160, .inl (fun _ => 0))), (q19, .inr (0, [.null, .null, .null, .null, .null, .null, .null, .int 0]))] H := hP
  have hD : va_D A [(h0, .inr (5, [.ref q1, .ref q6, .ref q10, .ref q13, .null, .int 0, .int 0, .int 0, .int 0, .int 0])), (q1, .inr (8, [.ref q2, .ref q3, .ref q4, .ref q5, .int 0])), (q2, .inl (cA, 10, .inl (fun _ => 0))), (q3, .inl (cA, 10, .inl (fun _ => 0))), (q4, .inl (cA, 10, .inl (fun _ => 0))), (q5, .inl (cA, 40, .inl (fun _ => 0))), (q6, .inr (1, [.ref q7, .ref q8, .ref q9, .int 0])), (q7, .inl (cA, 4, .inl (fun _ => 0))), (q8, .inl (cA, 4, .inl (fun _ => 0))), (q9, .inl (cA, 4, .inl (fun _ => 0))), (q10, .inr (3, [.ref q11, .ref q12, .int 0])), (q11, .inl (cA, 6, .inl (fun _ => 0))), (q12, .inl (cA, 6, .inl (fun _ => 0))), (q13, .inr (10, [.ref q14, .ref q15, .ref q16, .ref q17, .ref q18, .int 0, .int 0])), (q14, .inl (cA, 960, .inl (fun _ => 0))), (q15, .inl (cA, 18, .inl (fun _ => 0))), (q16, .inl (cA, 18, .inl (fun _ => 0))), (q17, .inl (cA, 6, .inl (fun _ => 0))), (q18, .inl (cA, 160, .inl (fun _ => 0))), (q19, .inr (0, [.null, .null, .null, .null, .null, .null, .null, .int 0]))] := hD
  refine W.widen (k := 19) (n := 1283) (Nat.le_of_ble_eq_true rfl) (Nat.le_of_ble_eq_true rfl) ?_
  refine lv_dup hx hb dX5_init_52 rfl ?_
  refine iv_call I hP hD hS hA (b := q19) (e0 := .inr (0, [.null, .null, .null, .null, .null, .null, .null, .int 0])) (X' := NW) (rest := [.ref q19, .ref h0]) 19 [0, 1, 2, 3, 4, 5, 6, 7, 8, 9, 10, 11, 12, 13, 14, 15, 16, 17, 18] [(h0, .inr (5, [.ref q1, .ref q6, .ref q10, .ref q13, .null, .int 0, .int 0, .int 0, .int 0, .int 0])), (q1, .inr (8, [.ref q2, .ref q3, .ref q4, .ref q5, .int 0])), (q2, .inl (cA, 10, .inl (fun _ => 0))), (q3, .inl (cA, 10, .inl (fun _ => 0))), (q4, .inl (cA, 10, .inl (fun _ => 0))), (q5, .inl (cA, 40, .inl (fun _ => 0))), (q6, .inr (1, [.ref q7, .ref q8, .ref q9, .int 0])), (q7, .inl (cA, 4, .inl (fun _ => 0))), (q8, .inl (cA, 4, .inl (fun _ => 0))), (q9, .inl (cA, 4, .inl (fun _ => 0))), (q10, .inr (3, [.ref q11, .ref q12, .int 0])), (q11, .inl (cA, 6, .inl (fun _ => 0))), (q12, .inl (cA, 6, .inl (fun _ => 0))), (q13, .inr (10, [.ref q14, .ref q15, .ref q16, .ref q17, .ref q18, .int 0, .int 0])), (q14, .inl (cA, 960, .inl (fun _ => 0))), (q15, .inl (cA, 18, .inl (fun _ => 0))), (q16, .inl (cA, 18, .inl (fun _ => 0))), (q17, .inl (cA, 6, .inl (fun _ => 0))), (q18, .inl (cA, 160, .inl (fun _ => 0)))] rfl rfl (by decide) (by decide) (fun sz => cI_RX0) ⟨wi_RX0, wc_yX0_init, by decide, by decide, by decide +kernel⟩ wn_yX0_init rfl (hX _ nl_RX5_41) NW_call (fun U hU hW => NW_warm hW hX) hl.1 (Nat.le_of_ble_eq_true rfl) ⟨Nat.le_of_ble_eq_true rfl, Nat.le_of_ble_eq_true rfl⟩ ⟨Nat.le_of_ble_eq_true rfl, Nat.le_of_ble_eq_true rfl⟩ dX5_init_53 (fun H locs hB hj hS => ?_)
  obtain ⟨q20, q21, q22, q23, q24, q25, q26, hP1, hD1⟩ := hB
  obtain ⟨hP, hD⟩ := hj _ hP1 hD1
  have hP : va_P D vwCl [(h0, .inr (5, [.ref q1, .ref q6, .ref q10, .ref q13, .null, .int 0, .int 0, .int 0, .int 0, .int 0])), (q1, .inr (8, [.ref q2, .ref q3, .ref q4, .ref q5, .int 0])), (q2, .inl (cA, 10, .inl (fun _ => 0))), (q3, .inl (cA, 10, .inl (fun _ => 0))), (q4, .inl (cA, 10, .inl (fun _ => 0))), (q5, .inl (cA, 40, .inl (fun _ => 0))), (q6, .inr (1, [.ref q7, .ref q8, .ref q9, .int 0])), (q7, .inl (cA, 4, .inl (fun _ => 0))), (q8, .inl (cA, 4, .inl (fun _ => 0))), (q9, .inl (cA, 4, .inl (fun _ => 0))), (q10, .inr (3, [.ref q11, .ref q12, .int 0])), (q11, .inl (cA, 6, .inl (fun _ => 0))), (q12, .inl (cA, 6, .inl (fun _ => 0))), (q13, .inr (10, [.ref q14, .ref q15, .ref q16, .ref q17, .ref q18, .int 0, .int 0])), (q14, .inl (cA, 960, .inl (fun _ => 0))), (q15, .inl (cA, 18, .inl (fun _ => 0))), (q16, .inl (cA, 18, .inl (fun _ => 0))), (q17, .inl (cA, 6, .inl (fun _ => 0))), (q18, .inl (cA, 160, .inl (fun _ => 0))), (q19, .inr (0, [.ref q20, .ref q21, .ref q22, .ref q23, .ref q24, .ref q25, .ref q26, .int 0])), (q20, .inl (cA, 24, .inl (fun _ => 0))), (q21, .inl (cA, 24, .inl (fun _ => 0))), (q22, .inl (cA, 24, .inl (fun _ => 0))), (q23, .inl (cA, 24, .inl (fun _ => 0))), (q24, .inl (cA, 24, .inl (fun _ => 0))), (q25, .inl (cA, 24, .inl (fun _ => 0))), (q26, .inl (cA, 24, .inl (fun _ => 0)))] H := hP
  have hD : va_D A [(h0, .inr (5, [.ref q1, .ref q6, .ref q10, .ref q13, .null, .int 0, .int 0, .int 0, .int 0, .int 0])), (q1, .inr (8, [.ref q2, .ref q3, .ref q4, .ref q5, .int 0])), (q2, .inl (cA, 10, .inl (fun _ => 0))), (q3, .inl (cA, 10, .inl (fun _ => 0))), (q4, .inl (cA, 10, .inl (fun _ => 0))), (q5, .inl (cA, 40, .inl (fun _ => 0))), (q6, .inr (1, [.ref q7, .ref q8, .ref q9, .int 0])), (q7, .inl (cA, 4, .inl (fun _ => 0))), (q8, .inl (cA, 4, .inl (fun _ => 0))), (q9, .inl (cA, 4, .inl (fun _ => 0))), (q10, .inr (3, [.ref q11, .ref q12, .int 0])), (q11, .inl (cA, 6, .inl (fun _ => 0))), (q12, .inl (cA, 6, .inl (fun _ => 0))), (q13, .inr (10, [.ref q14, .ref q15, .ref q16, .ref q17, .ref q18, .int 0, .int 0])), (q14, .inl (cA, 960, .inl (fun _ => 0))), (q15, .inl (cA, 18, .inl (fun _ => 0))), (q16, .inl (cA, 18, .inl (fun _ => 0))), (q17, .inl (cA, 6, .inl (fun _ => 0))), (q18, .inl (cA, 160, .inl (fun _ => 0))), (q19, .inr (0, [.ref q20, .ref q21, .ref q22, .ref q23, .ref q24, .ref q25, .ref q26, .int 0])), (q20, .inl (cA, 24, .inl (fun _ => 0))), (q21, .inl (cA, 24, .inl (fun _ => 0))), (q22, .inl (cA, 24, .inl (fun _ => 0))), (q23, .inl (cA, 24, .inl (fun _ => 0))), (q24, .inl (cA, 24, .inl (fun _ => 0))), (q25, .inl (cA, 24, .inl (fun _ => 0))), (q26, .inl (cA, 24, .inl (fun _ => 0)))] := hD
  refine W.widen (k := 26) (n := 1451) (Nat.le_of_ble_eq_true rfl) (Nat.le_of_ble_eq_true rfl) ?_
  refine iv_putF (v := .ref q19) (ty := .object "ArmpitLine$Calls") I hP hD hS 0 4 inTX5 tyX5 tyX5_ok nmX5 rfl rfl (by decide) fl_RX5_42 rfl rfl (by decide +kernel) rfl rfl (Nat.le_of_ble_eq_true rfl) dX5_init_56 (fun H locs hP hD hS => ?_)
  have hP : va_P D vwCl [(h0, .inr (5, [.ref q1, .ref q6, .ref q10, .ref q13, .ref q19, .int 0, .int 0, .int 0, .int 0, .int 0])), (q1, .inr (8, [.ref q2, .ref q3, .ref q4, .ref q5, .int 0])), (q2, .inl (cA, 10, .inl (fun _ => 0))), (q3, .inl (cA, 10, .inl (fun _ => 0))), (q4, .inl (cA, 10, .inl (fun _ => 0))), (q5, .inl (cA, 40, .inl (fun _ => 0))), (q6, .inr (1, [.ref q7, .ref q8, .ref q9, .int 0])), (q7, .inl (cA, 4, .inl (fun _ => 0))), (q8, .inl (cA, 4, .inl (fun _ => 0))), (q9, .inl (cA, 4, .inl (fun _ => 0))), (q10, .inr (3, [.ref q11, .ref q12, .int 0])), (q11, .inl (cA, 6, .inl (fun _ => 0))), (q12, .inl (cA, 6, .inl (fun _ => 0))), (q13, .inr (10, [.ref q14, .ref q15, .ref q16, .ref q17, .ref q18, .int 0, .int 0])), (q14, .inl (cA, 960, .inl (fun _ => 0))), (q15, .inl (cA, 18, .inl (fun _ => 0))), (q16, .inl (cA, 18, .inl (fun _ => 0))), (q17, .inl (cA, 6, .inl (fun _ => 0))), (q18, .inl (cA, 160, .inl (fun _ => 0))), (q19, .inr (0, [.ref q20, .ref q21, .ref q22, .ref q23, .ref q24, .ref q25, .ref q26, .int 0])), (q20, .inl (cA, 24, .inl (fun _ => 0))), (q21, .inl (cA, 24, .inl (fun _ => 0))), (q22, .inl (cA, 24, .inl (fun _ => 0))), (q23, .inl (cA, 24, .inl (fun _ => 0))), (q24, .inl (cA, 24, .inl (fun _ => 0))), (q25, .inl (cA, 24, .inl (fun _ => 0))), (q26, .inl (cA, 24, .inl (fun _ => 0)))] H := hP
  have hD : va_D A [(h0, .inr (5, [.ref q1, .ref q6, .ref q10, .ref q13, .ref q19, .int 0, .int 0, .int 0, .int 0, .int 0])), (q1, .inr (8, [.ref q2, .ref q3, .ref q4, .ref q5, .int 0])), (q2, .inl (cA, 10, .inl (fun _ => 0))), (q3, .inl (cA, 10, .inl (fun _ => 0))), (q4, .inl (cA, 10, .inl (fun _ => 0))), (q5, .inl (cA, 40, .inl (fun _ => 0))), (q6, .inr (1, [.ref q7, .ref q8, .ref q9, .int 0])), (q7, .inl (cA, 4, .inl (fun _ => 0))), (q8, .inl (cA, 4, .inl (fun _ => 0))), (q9, .inl (cA, 4, .inl (fun _ => 0))), (q10, .inr (3, [.ref q11, .ref q12, .int 0])), (q11, .inl (cA, 6, .inl (fun _ => 0))), (q12, .inl (cA, 6, .inl (fun _ => 0))), (q13, .inr (10, [.ref q14, .ref q15, .ref q16, .ref q17, .ref q18, .int 0, .int 0])), (q14, .inl (cA, 960, .inl (fun _ => 0))), (q15, .inl (cA, 18, .inl (fun _ => 0))), (q16, .inl (cA, 18, .inl (fun _ => 0))), (q17, .inl (cA, 6, .inl (fun _ => 0))), (q18, .inl (cA, 160, .inl (fun _ => 0))), (q19, .inr (0, [.ref q20, .ref q21, .ref q22, .ref q23, .ref q24, .ref q25, .ref q26, .int 0])), (q20, .inl (cA, 24, .inl (fun _ => 0))), (q21, .inl (cA, 24, .inl (fun _ => 0))), (q22, .inl (cA, 24, .inl (fun _ => 0))), (q23, .inl (cA, 24, .inl (fun _ => 0))), (q24, .inl (cA, 24, .inl (fun _ => 0))), (q25, .inl (cA, 24, .inl (fun _ => 0))), (q26, .inl (cA, 24, .inl (fun _ => 0)))] := hD
  refine lv_aload_n hx hb dX5_init_59 rfl (lv_at hl 0 rfl) ?_
  refine lv_iconst (v := -1) hx hb dX5_init_60 (by decide) ?_
  refine iv_put (v := .int (-1)) (ty := .int) I hP hD hS 0 6 inTX5 tyX5 tyX5_ok nmX5 rfl rfl (by decide) fl_RX5_46 rfl (by decide +kernel) rfl rfl (Nat.le_of_ble_eq_true rfl) dX5_init_61 (fun H locs hP hD hS => ?_)
  have hP : va_P D vwCl [(h0, .inr (5, [.ref q1, .ref q6, .ref q10, .ref q13, .ref q19, .int 0, .int (-1), .int 0, .int 0, .int 0])), (q1, .inr (8, [.ref q2, .ref q3, .ref q4, .ref q5, .int 0])), (q2, .inl (cA, 10, .inl (fun _ => 0))), (q3, .inl (cA, 10, .inl (fun _ => 0))), (q4, .inl (cA, 10, .inl (fun _ => 0))), (q5, .inl (cA, 40, .inl (fun _ => 0))), (q6, .inr (1, [.ref q7, .ref q8, .ref q9, .int 0])), (q7, .inl (cA, 4, .inl (fun _ => 0))), (q8, .inl (cA, 4, .inl (fun _ => 0))), (q9, .inl (cA, 4, .inl (fun _ => 0))), (q10, .inr (3, [.ref q11, .ref q12, .int 0])), (q11, .inl (cA, 6, .inl (fun _ => 0))), (q12, .inl (cA, 6, .inl (fun _ => 0))), (q13, .inr (10, [.ref q14, .ref q15, .ref q16, .ref q17, .ref q18, .int 0, .int 0])), (q14, .inl (cA, 960, .inl (fun _ => 0))), (q15, .inl (cA, 18, .inl (fun _ => 0))), (q16, .inl (cA, 18, .inl (fun _ => 0))), (q17, .inl (cA, 6, .inl (fun _ => 0))), (q18, .inl (cA, 160, .inl (fun _ => 0))), (q19, .inr (0, [.ref q20, .ref q21, .ref q22, .ref q23, .ref q24, .ref q25, .ref q26, .int 0])), (q20, .inl (cA, 24, .inl (fun _ => 0))), (q21, .inl (cA, 24, .inl (fun _ => 0))), (q22, .inl (cA, 24, .inl (fun _ => 0))), (q23, .inl (cA, 24, .inl (fun _ => 0))), (q24, .inl (cA, 24, .inl (fun _ => 0))), (q25, .inl (cA, 24, .inl (fun _ => 0))), (q26, .inl (cA, 24, .inl (fun _ => 0)))] H := hP
  have hD : va_D A [(h0, .inr (5, [.ref q1, .ref q6, .ref q10, .ref q13, .ref q19, .int 0, .int (-1), .int 0, .int 0, .int 0])), (q1, .inr (8, [.ref q2, .ref q3, .ref q4, .ref q5, .int 0])), (q2, .inl (cA, 10, .inl (fun _ => 0))), (q3, .inl (cA, 10, .inl (fun _ => 0))), (q4, .inl (cA, 10, .inl (fun _ => 0))), (q5, .inl (cA, 40, .inl (fun _ => 0))), (q6, .inr (1, [.ref q7, .ref q8, .ref q9, .int 0])), (q7, .inl (cA, 4, .inl (fun _ => 0))), (q8, .inl (cA, 4, .inl (fun _ => 0))), (q9, .inl (cA, 4, .inl (fun _ => 0))), (q10, .inr (3, [.ref q11, .ref q12, .int 0])), (q11, .inl (cA, 6, .inl (fun _ => 0))), (q12, .inl (cA, 6, .inl (fun _ => 0))), (q13, .inr (10, [.ref q14, .ref q15, .ref q16, .ref q17, .ref q18, .int 0, .int 0])), (q14, .inl (cA, 960, .inl (fun _ => 0))), (q15, .inl (cA, 18, .inl (fun _ => 0))), (q16, .inl (cA, 18, .inl (fun _ => 0))), (q17, .inl (cA, 6, .inl (fun _ => 0))), (q18, .inl (cA, 160, .inl (fun _ => 0))), (q19, .inr (0, [.ref q20, .ref q21, .ref q22, .ref q23, .ref q24, .ref q25, .ref q26, .int 0])), (q20, .inl (cA, 24, .inl (fun _ => 0))), (q21, .inl (cA, 24, .inl (fun _ => 0))), (q22, .inl (cA, 24, .inl (fun _ => 0))), (q23, .inl (cA, 24, .inl (fun _ => 0))), (q24, .inl (cA, 24, .inl (fun _ => 0))), (q25, .inl (cA, 24, .inl (fun _ => 0))), (q26, .inl (cA, 24, .inl (fun _ => 0)))] := hD
  exact hret _ _ _ _ ⟨q1, q2, q3, q4, q5, q6, q7, q8, q9, q10, q11, q12, q13, q14, q15, q16, q17, q18, q19, q20, q21, q22, q23, q24, q25, q26, hP, hae ▸ hD⟩ hS dX5_init_64
