/-! the words that every contract carries: all good words of the tables -/
def TB : List Cond := lw_tbl.filter goodWord
theorem TB_mem {w : Cond} (h : w ∈ lw_tbl) (hg : goodWord w = true) : w ∈ TB := List.mem_filter.mpr ⟨h, hg⟩
theorem TB_good {y : MethodName} {b : ByteArray} {n : Nat} {r : Option FieldType} (h : Cond.code y b n r ∈ TB) : GoodIn TB (.code y b n r :: TB) := by
  intro w hw
  have hm : w ∈ TB := by
    rcases List.mem_cons.mp hw with rfl | h2
    · exact h
    · exact h2
  exact ⟨hm, good_of_word (List.mem_filter.mp hm).2⟩
/-! states: int fields, int arrays, long fields, by number -/
/-! the pieces that pure functions are made of -/
theorem gd_some {α : Type} {c : Prop} [Decidable c] {k : Option α} {z : α} (h : gd c k = some z) : c ∧ k = some z := by
  unfold gd at h
  split at h
  · exact ⟨by assumption, h⟩
  · cases h
theorem gi_in {i : Int32} {n : Nat} (h : 0 ≤ i.toInt ∧ i.toInt < (n : Int)) : vp_in i n := by
  intro hc
  rcases hc with hc | hc
  · have h1 := Int32.lt_iff_toInt_lt.mp hc
    have h2 : (0 : Int32).toInt = 0 := rfl
    omega
  · have h1 : i.toNatClampNeg = i.toInt.toNat := rfl
    omega
theorem gi_some {α : Type} {i : Int32} {n : Nat} {k : Option α} {z : α} (h : gi i n k = some z) : vp_in i n ∧ k = some z := by
  unfold gi at h
  split at h
  · exact ⟨gi_in (by assumption), h⟩
  · cases h
theorem cal_some {β γ : Type} {o : Option (St × β)} {k : St → β → Option γ} {z : γ} (h : cal o k = some z) : ∃ (s1 : St) (r1 : β), o = some (s1, r1) ∧ k s1 r1 = some z := by
  cases o with
  | none => cases h
  | some p => exact ⟨p.1, p.2, rfl, h⟩
theorem bnd_at {α β : Type} {a x : α} {f : α → β} {z : β} (h : bnd a f = z) (hx : x = a) : f x = z := by
  rw [hx]; exact h
theorem ite_t {α : Type} {c : Prop} [Decidable c] {a b x : α} (h : (if c then a else b) = x) (hc : c) : a = x := by
  rw [if_pos hc] at h; exact h
theorem ite_f {α : Type} {c : Prop} [Decidable c] {a b x : α} (h : (if c then a else b) = x) (hc : ¬ c) : b = x := by
  rw [if_neg hc] at h; exact h
theorem ret_eq {β : Type} {a b : St} {x y : β} (h : some (a, x) = some (b, y)) : a = b ∧ x = y := by
  cases h; exact ⟨rfl, rfl⟩
/-! the world of a side, and what a contract says -/
def inv (D : va_G) (tys : List (ClassId × FieldType)) (wf : St → va_W) (E : State → Prop) (σ : St) (U : State) : Prop := va_P D vwCl (wf σ) U.heap ∧ va_K D vwCl tys U ∧ E U
def Fr (wf : St → va_W) (A : Nat → Prop) (E : State → Prop) : Prop := (∀ σ, va_D A (wf σ)) ∧ (∀ (s : State) (H : Heap) (locs : List Loc) (U : State), E s → va_S A s.heap H locs → U.heap = H → s.WarmedH U.vm → E U) ∧ (∀ (U : State) (g : JFrame) (mk : MethodId) (a : Array Value), E U → E (U.calling g mk a))
abbrev rmH (h : Nat) : Room := { frames := h, cells := 0, slots := 0, locals := 40 * h }
def MI (l : Launch) (y : MethodName) (cc : ByteArray) (nL : Nat) (ty : FieldType) (h : Nat) (D : va_G) (tys : List (ClassId × FieldType)) (wf : St → va_W) (A : Nat → Prop) (E : State → Prop) (av : List Value) (σ σ' : St) (r : Int32) : Prop :=
  Met l y (.code y cc nL (some ty) :: TB) (rmH h) (va_Pc av (inv D tys wf E σ)) (va_Qi (fun x (_ : Unit) => x = r) (fun _ => inv D tys wf E σ') A) 0 0 A
def ML (l : Launch) (y : MethodName) (cc : ByteArray) (nL : Nat) (ty : FieldType) (h : Nat) (D : va_G) (tys : List (ClassId × FieldType)) (wf : St → va_W) (A : Nat → Prop) (E : State → Prop) (av : List Value) (σ σ' : St) (r : Int64) : Prop :=
  Met l y (.code y cc nL (some ty) :: TB) (rmH h) (va_Pc av (inv D tys wf E σ)) (va_Ql (fun x (_ : Unit) => x = r) (fun _ => inv D tys wf E σ') A) 0 0 A
def MV (l : Launch) (y : MethodName) (cc : ByteArray) (nL : Nat) (h : Nat) (D : va_G) (tys : List (ClassId × FieldType)) (wf : St → va_W) (A : Nat → Prop) (E : State → Prop) (av : List Value) (σ σ' : St) : Prop :=
  Met l y (.code y cc nL none :: TB) (rmH h) (va_Pc av (inv D tys wf E σ)) (va_Qv (fun (_ : Unit) => True) (fun _ => inv D tys wf E σ') A) 0 0 A
def FrS (wf : St → va_W) (A : Nat → Prop) (E : State → Prop) (s : State) : Prop := (∀ σ, va_D A (wf σ)) ∧ (∀ (H : Heap) (locs : List Loc) (U : State), va_S A s.heap H locs → U.heap = H → s.WarmedH U.vm → E U) ∧ (∀ (U : State) (g : JFrame) (mk : MethodId) (a : Array Value), E U → E (U.calling g mk a))
def CX (p : Program) (s : State) (m : MethodId) (args : Array Value) (c : Code) (cc : ByteArray) (nL : Nat) (own : String) (D : va_G) (tys : List (ClassId × FieldType)) (wf : St → va_W) (A : Nat → Prop) (E : State → Prop) : Prop :=
  p.tables.exec = Jvm.exec ∧ c.code = cc ∧ c.maxLocals = nL ∧ s.vm.findClass own = some m.cls ∧ (∀ w ∈ TB, w.before args s = true) ∧ va_K D vwCl tys s ∧ E s ∧ FrS wf A E s
def J (D : va_G) (wf : St → va_W) (A : Nat → Prop) (s : State) (σ : St) (H : Heap) (locs : List Loc) : Prop := va_P D vwCl (wf σ) H ∧ va_S A s.heap H locs
theorem inv_blind {D : va_G} {tys : List (ClassId × FieldType)} {wf : St → va_W} {A : Nat → Prop} {E : State → Prop} {av : List Value} {σ : St} {s : State} (hF : FrS wf A E s) : FrameBlind (va_Pc av (inv D tys wf E σ)) := by
  intro a U g mk q
  obtain ⟨q0, qP, qK, qE⟩ := q
  exact ⟨q0, qP, va_K.moved (u := U) (U := U.calling g mk a) (Vm.Alike.refl U.vm) qK, hF.2.2 U g mk a qE⟩
section ROWS
variable {p : Program} {l : Launch} {e : Env} {R : Room} {s : State} {m : MethodId} {args : Array Value} {below : List Frame} {meth : Method} {c : Code} {H : Heap} {locs : List Loc} {cells slots : Nat} {Q : State → Prop}
variable {cc : ByteArray} {nL pc : Nat} {own : String} {D : va_G} {tys : List (ClassId × FieldType)} {wf : St → va_W} {A : Nat → Prop} {E : State → Prop} {ls : Array Slot} {rest st0 : List Value} {σ σ1 : St}
theorem inv_at (C : CX p s m args c cc nL own D tys wf A E) (hJ : J D wf A s σ H locs) {U : State} (hU : U.heap = H) (hW : s.WarmedH U.vm) : inv D tys wf E σ U := by
  obtain ⟨hx, hb, hml, hown, hts, hK, hE, hF⟩ := C
  exact ⟨by rw [hU]; exact hJ.1, va_K.moved hW.alike hK, hF.2.1 H locs U hJ.2 hU hW⟩
theorem gf (C : CX p s m args c cc nL own D tys wf A E) (hJ : J D wf A s σ H locs) {Cn : String} {T : u_T} {N ci index a : Nat} {fs : List Value} {v : Value} (q0 k : Nat) (hin : ∀ w ∈ u_ws Cn T N, w ∈ TB) (he : (wf σ)[q0]? = some (a, .inr (ci, fs))) (hc : vwCl[ci]? = some (Cn, T, N)) (hk : k < N) (hlink : Cond.fieldLink own index (T k).1 (T k).2.1 (T k).2.2.1 ∈ TB) (hv : fs[k]? = some v) (hdg : decode cc pc = .ok (.getfield index, 3))
    (kk : W p l e R s m args below meth c H locs cells slots Q (F0 m (pc + 3) ls (v :: rest))) : W p l e R s m args below meth c H locs cells slots Q (F0 m pc ls (.ref a :: rest)) := by
  obtain ⟨hx, hb, hml, hown, hts, hK, hE, hF⟩ := C
  exact va_get hx hb hts hin hown hK hJ.1 q0 he hc k hk (hts _ hlink) (fun _ h => h) hv hdg kk
theorem pf (C : CX p s m args c cc nL own D tys wf A E) (hJ : J D wf A s σ H locs) {Cn : String} {T : u_T} {N ci index a : Nat} {fs : List Value} {v : Value} {ty : FieldType} (q0 k : Nat) (hin : ∀ w ∈ u_ws Cn T N, w ∈ TB) (ty0 : Nat → FieldType) (hty : ∀ k, k < N → parseFieldDescriptor (T k).2.2.1 = some (ty0 k)) (hnm : ∀ a, a < N → ∀ b, b < N → a ≠ b → (T a).2.1 ≠ (T b).2.1) (he : (wf σ)[q0]? = some (a, .inr (ci, fs))) (hc : vwCl[ci]? = some (Cn, T, N)) (hk : k < N) (hlink : Cond.fieldLink own index (T k).1 (T k).2.1 (T k).2.2.1 ∈ TB) (hfin : (T k).2.2.2 = false) (hd : parseFieldDescriptor (T k).2.2.1 = some ty) (hn : narrow ty v = v) (hfit : fits ty v = true) (hl : k < fs.length) (hset : (wf σ).set q0 (a, .inr (ci, fs.set k v)) = wf σ1) (hdg : decode cc pc = .ok (.putfield index, 3))
    (kk : ∀ (σ2 : St) (H1 : Heap) (locs1 : List Loc), σ2 = σ1 → J D wf A s σ2 H1 locs1 → W p l e R s m args below meth c H1 locs1 cells slots Q (F0 m (pc + 3) ls rest)) : W p l e R s m args below meth c H locs cells slots Q (F0 m pc ls (v :: .ref a :: rest)) := by
  obtain ⟨hx, hb, hml, hown, hts, hK, hE, hF⟩ := C
  refine va_put hx hb hts hin ty0 hty hnm hown hK hJ.1 (hF.1 σ) hJ.2 q0 he hc k hk (hts _ hlink) (fun _ h => h) hfin hd hn hfit hl hdg (fun H1 locs1 hP1 hD1 hS1 => ?_)
  rw [hset] at hP1
  exact kk σ1 H1 locs1 rfl ⟨hP1, hS1⟩
theorem al (C : CX p s m args c cc nL own D tys wf A E) (hJ : J D wf A s σ H locs) {a n : Nat} {cA : ClassId} {f : Nat → Int32} (q0 t0 : Nat) (he : (wf σ)[q0]? = some (a, .inl (cA, n, .inl f))) (ht : tys[t0]? = some (cA, .int)) {i : Int32} (hin : vp_in i n) (hdg : decode cc pc = .ok (.iaload, 1))
    (kk : W p l e R s m args below meth c H locs cells slots Q (F0 m (pc + 1) ls (.int (f i.toNatClampNeg) :: rest))) : W p l e R s m args below meth c H locs cells slots Q (F0 m pc ls (.int i :: .ref a :: rest)) := by
  obtain ⟨hx, hb, hml, hown, hts, hK, hE, hF⟩ := C
  exact va_iald hx hb hK hJ.1 q0 t0 he ht hin hdg kk
theorem az (C : CX p s m args c cc nL own D tys wf A E) (hJ : J D wf A s σ H locs) {a n : Nat} {cA : ClassId} {f : Nat → Int32} (q0 t0 : Nat) (he : (wf σ)[q0]? = some (a, .inl (cA, n, .inl f))) (ht : tys[t0]? = some (cA, .boolean)) {i : Int32} (hin : vp_in i n) (hdg : decode cc pc = .ok (.baload, 1))
    (kk : W p l e R s m args below meth c H locs cells slots Q (F0 m (pc + 1) ls (.int (f i.toNatClampNeg) :: rest))) : W p l e R s m args below meth c H locs cells slots Q (F0 m pc ls (.int i :: .ref a :: rest)) := by
  obtain ⟨hx, hb, hml, hown, hts, hK, hE, hF⟩ := C
  exact va_zald hx hb hK hJ.1 q0 t0 he ht hin hdg kk
theorem ast (C : CX p s m args c cc nL own D tys wf A E) (hJ : J D wf A s σ H locs) {a n : Nat} {cA : ClassId} {f : Nat → Int32} (q0 t0 : Nat) (he : (wf σ)[q0]? = some (a, .inl (cA, n, .inl f))) (ht : tys[t0]? = some (cA, .int)) {i x : Int32} (hset : (wf σ).set q0 (a, .inl (cA, n, .inl (upd f i.toNatClampNeg x))) = wf σ1) (hin : vp_in i n) (hdg : decode cc pc = .ok (.iastore, 1))
    (kk : ∀ (σ2 : St) (H1 : Heap) (locs1 : List Loc), σ2 = σ1 → J D wf A s σ2 H1 locs1 → W p l e R s m args below meth c H1 locs1 cells slots Q (F0 m (pc + 1) ls rest)) : W p l e R s m args below meth c H locs cells slots Q (F0 m pc ls (.int x :: .int i :: .ref a :: rest)) := by
  obtain ⟨hx, hb, hml, hown, hts, hK, hE, hF⟩ := C
  refine va_iast hx hb hK hJ.1 (hF.1 σ) hJ.2 q0 t0 he ht hin hdg (fun H1 locs1 hP1 hD1 hS1 => ?_)
  rw [hset] at hP1
  exact kk σ1 H1 locs1 rfl ⟨hP1, hS1⟩
theorem asz (C : CX p s m args c cc nL own D tys wf A E) (hJ : J D wf A s σ H locs) {a n : Nat} {cA : ClassId} {f : Nat → Int32} (q0 t0 : Nat) (he : (wf σ)[q0]? = some (a, .inl (cA, n, .inl f))) (ht : tys[t0]? = some (cA, .boolean)) {i x : Int32} (hset : (wf σ).set q0 (a, .inl (cA, n, .inl (upd f i.toNatClampNeg (vp_nar .boolean x)))) = wf σ1) (hin : vp_in i n) (hdg : decode cc pc = .ok (.bastore, 1))
    (kk : ∀ (σ2 : St) (H1 : Heap) (locs1 : List Loc), σ2 = σ1 → J D wf A s σ2 H1 locs1 → W p l e R s m args below meth c H1 locs1 cells slots Q (F0 m (pc + 1) ls rest)) : W p l e R s m args below meth c H locs cells slots Q (F0 m pc ls (.int x :: .int i :: .ref a :: rest)) := by
  obtain ⟨hx, hb, hml, hown, hts, hK, hE, hF⟩ := C
  refine va_zast hx hb hK hJ.1 (hF.1 σ) hJ.2 q0 t0 he ht hin hdg (fun H1 locs1 hP1 hD1 hS1 => ?_)
  rw [hset] at hP1
  exact kk σ1 H1 locs1 rfl ⟨hP1, hS1⟩
/-! calls -/
abbrev LkB (y : MethodName) (bytes : ByteArray) (maxL : Nat) (ret : Option FieldType) (n : Nat) : Prop := Cond.initialized y.cls ∈ TB ∧ Cond.code y bytes maxL ret ∈ TB ∧ (y.cls ≠ "java/lang/invoke/MethodHandle" ∧ y.cls ≠ "java/lang/invoke/VarHandle" ∧ (parseMethodDescriptor y.desc).map (fun d => d.parameters.length) = some n)
def LkV (own : String) (idx : Nat) (Cn : String) (y : MethodName) (bytes : ByteArray) (maxL : Nat) (ret : Option FieldType) (n : Nat) : Prop := LkB y bytes maxL ret n ∧ Cond.methodLink own idx y ∈ TB ∧ Cond.instanceMethod y ∈ TB ∧ Cond.selects Cn y y ∈ TB
def LkS (own : String) (idx : Nat) (y : MethodName) (bytes : ByteArray) (maxL : Nat) (ret : Option FieldType) (n : Nat) : Prop := LkB y bytes maxL ret n ∧ Cond.methodLink own idx y ∈ TB ∧ Cond.static y ∈ TB
def LkN (y : MethodName) (bytes : ByteArray) (maxL : Nat) (ret : Option FieldType) (n : Nat) : Prop := LkB y bytes maxL ret n ∧ Cond.static y ∈ TB
variable {idx n maxL h' b : Nat} {Cn : String} {y : MethodName} {bytes : ByteArray} {ret : Option FieldType} {ty : FieldType} {As av : List Value}
abbrev Rec (wf : St → va_W) (σ : St) (b : Nat) (Cn : String) : Prop := ∃ (q0 ci : Nat) (fs : List Value) (q : vw_C), (wf σ)[q0]? = some (b, .inr (ci, fs)) ∧ vwCl[ci]? = some q ∧ q.1 = Cn
theorem lk_B (C : CX p s m args c cc nL own D tys wf A E) (lk : LkB y bytes maxL ret n) (hl : Cond.methodLink own idx y ∈ TB) (hR : h' + 1 ≤ R.frames ∧ 8 + (maxL + 11) + 40 * h' ≤ R.locals) : CallB R s args own idx y bytes maxL ret (.code y bytes maxL ret :: TB) (rmH h') 0 0 n := by
  obtain ⟨hx, hb, hml, hown, hts, hK, hE, hF⟩ := C
  obtain ⟨h1, h2, h3⟩ := lk
  exact callB_of n hts (TB_good h2) rfl rfl rfl (hts _ h1) (hts _ hl) h3 hR
theorem lk_rec (C : CX p s m args c cc nL own D tys wf A E) (hJ : J D wf A s σ H locs) (hr : Rec wf σ b Cn) : ∃ cellB : Cell, H[b]? = some cellB ∧ cellB.vm.isStatics = false ∧ s.vm.findClass Cn = some cellB.cls := by
  obtain ⟨hx, hb, hml, hown, hts, hK, hE, hF⟩ := C
  obtain ⟨q0, ci, fs, q, h1, h2, rfl⟩ := hr
  exact va_recv hK hJ.1 h2 h1
theorem runV {A' : Nat → Prop} {Qc : Array Value → State → Outcome → State → Prop} (C : CX p s m args c cc nL own D tys wf A E) (hJ : J D wf A s σ H locs) (lk : LkV own idx Cn y bytes maxL ret n) (hM : Met l y (.code y bytes maxL ret :: TB) (rmH h') (va_Pc (.ref b :: As) (inv D tys wf E σ)) Qc 0 0 A') (hr : Rec wf σ b Cn) (hst : st0 = As.reverse ++ .ref b :: rest) (hn : As.length = n) (hrm : (rest.map fun v => v.category).sum ≤ 8) (hls : ls.size = nL) (hR : h' + 1 ≤ R.frames ∧ 8 + (maxL + 11) + 40 * h' ≤ R.locals) (hcs : cells ≤ R.cells ∧ slots ≤ R.slots) (hdg : decode cc pc = .ok (.invokevirtual idx, 3)) :
    va_Run p l e R s m args below meth c H locs cells slots 0 0 (F0 m pc ls st0) rest (Qc (Value.ref b :: As).toArray) A' := by
  have C0 := C
  obtain ⟨hx, hb, hml, hown, hts, hK, hE, hF⟩ := C
  obtain ⟨k1, k2, k3, k4⟩ := lk
  exact va_runV (b := b) (As := As) (rest := rest) ⟨hx, hb, hml, hown, hts⟩ hM ⟨lk_B C0 k1 k2 hR, hts _ k3, hts _ k4⟩ ⟨inv_blind hF, lk_rec C0 hJ hr, fun U hU hW => ⟨rfl, inv_at C0 hJ hU hW⟩⟩ rfl hn hls hst (lv_room (rest := st0) hrm) hdg hcs
theorem runS {A' : Nat → Prop} {Qc : Array Value → State → Outcome → State → Prop} (C : CX p s m args c cc nL own D tys wf A E) (hJ : J D wf A s σ H locs) (lk : LkS own idx y bytes maxL ret n) (hM : Met l y (.code y bytes maxL ret :: TB) (rmH h') (va_Pc As (inv D tys wf E σ)) Qc 0 0 A') (hst : st0 = As.reverse ++ rest) (hn : As.length = n) (hrm : (rest.map fun v => v.category).sum ≤ 8) (hls : ls.size = nL) (hR : h' + 1 ≤ R.frames ∧ 8 + (maxL + 11) + 40 * h' ≤ R.locals) (hcs : cells ≤ R.cells ∧ slots ≤ R.slots) (hdg : decode cc pc = .ok (.invokestatic idx, 3)) :
    va_Run p l e R s m args below meth c H locs cells slots 0 0 (F0 m pc ls st0) rest (Qc As.toArray) A' := by
  have C0 := C
  obtain ⟨hx, hb, hml, hown, hts, hK, hE, hF⟩ := C
  obtain ⟨k1, k2, k3⟩ := lk
  exact va_runS (As := As) (rest := rest) ⟨hx, hb, hml, hown, hts⟩ hM ⟨lk_B C0 k1 k2 hR, hts _ k3⟩ ⟨inv_blind hF, fun U hU hW => ⟨rfl, inv_at C0 hJ hU hW⟩⟩ rfl hn hls hst (lv_room (rest := st0) hrm) hdg hcs
theorem runN {host : String} {A' : Nat → Prop} {Qc : Array Value → State → Outcome → State → Prop} (C : CX p s m args c cc nL own D tys wf A E) (hJ : J D wf A s σ H locs) (lk : LkN y bytes maxL ret n) (hl : va_Nw (.methodLinkNest own idx y host) s) (hM : Met l y (.code y bytes maxL ret :: TB) (rmH h') (va_Pc As (inv D tys wf E σ)) Qc 0 0 A') (hst : st0 = As.reverse ++ rest) (hn : As.length = n) (hrm : (rest.map fun v => v.category).sum ≤ 8) (hls : ls.size = nL) (hR : h' + 1 ≤ R.frames ∧ 8 + (maxL + 11) + 40 * h' ≤ R.locals) (hcs : cells ≤ R.cells ∧ slots ≤ R.slots) (hdg : decode cc pc = .ok (.invokestatic idx, 3)) :
    va_Run p l e R s m args below meth c H locs cells slots 0 0 (F0 m pc ls st0) rest (Qc As.toArray) A' := by
  have C0 := C
  obtain ⟨hx, hb, hml, hown, hts, hK, hE, hF⟩ := C
  obtain ⟨⟨k1, k2, k3⟩, k4⟩ := lk
  exact va_runSN (As := As) (rest := rest) ⟨hx, hb, hml, hown, hts⟩ hM ⟨va_cnB n hts (TB_good k2) rfl rfl rfl hl (hts _ k1) k3 hR, hts _ k4, trivial⟩ ⟨inv_blind hF, fun U hU hW => ⟨rfl, inv_at C0 hJ hU hW⟩⟩ rfl hn hls hst (lv_room (rest := st0) hrm) hdg hcs
theorem backI {A' : Nat → Prop} {a : Array Value} {r : Int32} (hsb : ∀ z, A' z → A z) (hJ : J D wf A s σ H locs) (hr : va_Run p l e R s m args below meth c H locs cells slots 0 0 (F0 m pc ls st0) rest (va_Qi (fun x (_ : Unit) => x = r) (fun _ => inv D tys wf E σ1) A' a) A')
    (kk : ∀ (H1 : Heap) (locs1 : List Loc), J D wf A s σ1 H1 locs1 → W p l e R s m args below meth c H1 locs1 cells slots Q (F0 m (pc + 3) ls (.int r :: rest))) : W p l e R s m args below meth c H locs cells slots Q (F0 m pc ls st0) := by
  refine va_calli hr hJ.2 (fun q _ h => hsb q h) (fun q h => hsb q h) (fun r1 u t H1 locs1 ht hvm hp hB hz hk hS => ?_)
  subst hp
  exact kk H1 locs1 ⟨by rw [← ht]; exact hB.1, hS⟩
theorem backL {A' : Nat → Prop} {a : Array Value} {r : Int64} (hsb : ∀ z, A' z → A z) (hJ : J D wf A s σ H locs) (hr : va_Run p l e R s m args below meth c H locs cells slots 0 0 (F0 m pc ls st0) rest (va_Ql (fun x (_ : Unit) => x = r) (fun _ => inv D tys wf E σ1) A' a) A')
    (kk : ∀ (H1 : Heap) (locs1 : List Loc), J D wf A s σ1 H1 locs1 → W p l e R s m args below meth c H1 locs1 cells slots Q (F0 m (pc + 3) ls (.long r :: rest))) : W p l e R s m args below meth c H locs cells slots Q (F0 m pc ls st0) := by
  refine va_calll hr hJ.2 (fun q _ h => hsb q h) (fun q h => hsb q h) (fun r1 u t H1 locs1 ht hvm hp hB hz hk hS => ?_)
  subst hp
  exact kk H1 locs1 ⟨by rw [← ht]; exact hB.1, hS⟩
theorem backV {A' : Nat → Prop} {a : Array Value} (hsb : ∀ z, A' z → A z) (hJ : J D wf A s σ H locs) (hr : va_Run p l e R s m args below meth c H locs cells slots 0 0 (F0 m pc ls st0) rest (va_Qv (fun (_ : Unit) => True) (fun _ => inv D tys wf E σ1) A' a) A')
    (kk : ∀ (H1 : Heap) (locs1 : List Loc), J D wf A s σ1 H1 locs1 → W p l e R s m args below meth c H1 locs1 cells slots Q (F0 m (pc + 3) ls rest)) : W p l e R s m args below meth c H locs cells slots Q (F0 m pc ls st0) := by
  refine va_callv hr hJ.2 (fun q _ h => hsb q h) (fun q h => hsb q h) (fun u t H1 locs1 ht hvm hp hB hz hk hS => ?_)
  exact kk H1 locs1 ⟨by rw [← ht]; exact hB.1, hS⟩
end ROWS
/-! a method's entry and end -/
theorem MI_of {l : Launch} {y : MethodName} {cc : ByteArray} {nL : Nat} {ty : FieldType} {h : Nat} {D : va_G} {tys : List (ClassId × FieldType)} {wf : St → va_W} {A : Nat → Prop} {E : State → Prop} {av : List Value} {σ σ' : St} {r : Int32} (hy : plainName y.cls = true) (hF : Fr wf A E) (hav : (lg_sl av).length ≤ nL)
    (body : ∀ (p : Program) (e : Env) (s : State) (m : MethodId) (args : Array Value) (below : List Frame) (meth : Method) (c : Code) (Q : State → Prop), CX p s m args c cc nL y.cls D tys wf A E →
      (∀ (H : Heap) (locs : List Loc) (pc : Nat) (ls : Array Slot), J D wf A s σ' H locs → narrow ty (.int r) = .int r → decode cc pc = .ok (.ireturn, 1) → W p l e (rmH h) s m args below meth c H locs 0 0 Q (F0 m pc ls [.int r])) →
      J D wf A s σ s.heap [] → ∀ ls : Array Slot, lv_has ls nL (lv_args 0 av) → W p l e (rmH h) s m args below meth c s.heap [] 0 0 Q (F0 m 0 ls [])) : MI l y cc nL ty h D tys wf A E av σ σ' r := by
  refine Met.ofW (cc := cc) (maxL := nL) (ret := some ty) hy rfl ?_
  intro p e s m args below meth c s₁ B hml hv
  obtain ⟨rfl, hP, hK, hE⟩ := hv
  have hlocks := B.notSynchronized
  have hts := atoms_spec (ws := .code y cc nL (some ty) :: TB) B.pre
  have hown : s.vm.findClass y.cls = some m.cls := findClass_of_methodNamed B.named
  have hr := B.returns
  have C : CX p s m av.toArray c cc nL y.cls D tys wf A E := ⟨B.exec, B.bytes, hml, hown, fun w hw => hts w (List.mem_cons_of_mem _ hw), hK, hE, hF.1, fun H locs U => hF.2.1 s H locs U hE, hF.2.2⟩
  rw [lg_entry_eq]
  refine body p e s m av.toArray below meth c _ C (fun H locs pc ls hJ hn hd => ?_) ⟨hP, va_S.rf⟩ _ (lv_entry av hav)
  exact W.zret C.1 C.2.1 hr hn (fun t ht hW => ⟨⟨r, (), rfl, rfl, inv_at C hJ ht hW⟩, hJ.2.F ht⟩) hJ.2.2.2 hd
theorem ML_of {l : Launch} {y : MethodName} {cc : ByteArray} {nL : Nat} {h : Nat} {D : va_G} {tys : List (ClassId × FieldType)} {wf : St → va_W} {A : Nat → Prop} {E : State → Prop} {av : List Value} {σ σ' : St} {r : Int64} (hy : plainName y.cls = true) (hF : Fr wf A E) (hav : (lg_sl av).length ≤ nL)
    (body : ∀ (p : Program) (e : Env) (s : State) (m : MethodId) (args : Array Value) (below : List Frame) (meth : Method) (c : Code) (Q : State → Prop), CX p s m args c cc nL y.cls D tys wf A E →
      (∀ (H : Heap) (locs : List Loc) (pc : Nat) (ls : Array Slot), J D wf A s σ' H locs → decode cc pc = .ok (.lreturn, 1) → W p l e (rmH h) s m args below meth c H locs 0 0 Q (F0 m pc ls [.long r])) →
      J D wf A s σ s.heap [] → ∀ ls : Array Slot, lv_has ls nL (lv_args 0 av) → W p l e (rmH h) s m args below meth c s.heap [] 0 0 Q (F0 m 0 ls [])) : ML l y cc nL .long h D tys wf A E av σ σ' r := by
  refine Met.ofW (cc := cc) (maxL := nL) (ret := some .long) hy rfl ?_
  intro p e s m args below meth c s₁ B hml hv
  obtain ⟨rfl, hP, hK, hE⟩ := hv
  have hlocks := B.notSynchronized
  have hts := atoms_spec (ws := .code y cc nL (some .long) :: TB) B.pre
  have hown : s.vm.findClass y.cls = some m.cls := findClass_of_methodNamed B.named
  have hr := B.returns
  have C : CX p s m av.toArray c cc nL y.cls D tys wf A E := ⟨B.exec, B.bytes, hml, hown, fun w hw => hts w (List.mem_cons_of_mem _ hw), hK, hE, hF.1, fun H locs U => hF.2.1 s H locs U hE, hF.2.2⟩
  rw [lg_entry_eq]
  refine body p e s m av.toArray below meth c _ C (fun H locs pc ls hJ hd => ?_) ⟨hP, va_S.rf⟩ _ (lv_entry av hav)
  exact W.lret C.1 C.2.1 hr (fun t ht hW => ⟨⟨r, (), rfl, rfl, inv_at C hJ ht hW⟩, hJ.2.F ht⟩) hJ.2.2.2 hd
theorem MV_of {l : Launch} {y : MethodName} {cc : ByteArray} {nL : Nat} {h : Nat} {D : va_G} {tys : List (ClassId × FieldType)} {wf : St → va_W} {A : Nat → Prop} {E : State → Prop} {av : List Value} {σ σ' : St} (hy : plainName y.cls = true) (hF : Fr wf A E) (hav : (lg_sl av).length ≤ nL)
    (body : ∀ (p : Program) (e : Env) (s : State) (m : MethodId) (args : Array Value) (below : List Frame) (meth : Method) (c : Code) (Q : State → Prop), CX p s m args c cc nL y.cls D tys wf A E →
      (∀ (H : Heap) (locs : List Loc) (pc : Nat) (ls : Array Slot), J D wf A s σ' H locs → decode cc pc = .ok (.return_, 1) → W p l e (rmH h) s m args below meth c H locs 0 0 Q (F0 m pc ls [])) →
      J D wf A s σ s.heap [] → ∀ ls : Array Slot, lv_has ls nL (lv_args 0 av) → W p l e (rmH h) s m args below meth c s.heap [] 0 0 Q (F0 m 0 ls [])) : MV l y cc nL h D tys wf A E av σ σ' := by
  refine Met.ofW (cc := cc) (maxL := nL) (ret := none) hy rfl ?_
  intro p e s m args below meth c s₁ B hml hv
  obtain ⟨rfl, hP, hK, hE⟩ := hv
  have hlocks := B.notSynchronized
  have hts := atoms_spec (ws := .code y cc nL none :: TB) B.pre
  have hown : s.vm.findClass y.cls = some m.cls := findClass_of_methodNamed B.named
  have hr := B.returns
  have C : CX p s m av.toArray c cc nL y.cls D tys wf A E := ⟨B.exec, B.bytes, hml, hown, fun w hw => hts w (List.mem_cons_of_mem _ hw), hK, hE, hF.1, fun H locs U => hF.2.1 s H locs U hE, hF.2.2⟩
  rw [lg_entry_eq]
  refine body p e s m av.toArray below meth c _ C (fun H locs pc ls hJ hd => ?_) ⟨hP, va_S.rf⟩ _ (lv_entry av hav)
  exact W.vret C.1 C.2.1 hr (fun t ht hW => ⟨⟨(), rfl, trivial, inv_at C hJ ht hW⟩, hJ.2.F ht⟩) hJ.2.2.2 hd
