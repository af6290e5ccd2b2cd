theorem hR_of {h h' maxL : Nat} (h1 : h' + 1 ≤ h) (h2 : maxL ≤ 21) : h' + 1 ≤ (rmH h).frames ∧ 8 + (maxL + 11) + 40 * h' ≤ (rmH h).locals := ⟨h1, by show _ ≤ 40 * h; omega⟩
section RETS
variable {p : Program} {l : Launch} {e : Env} {R : Room} {cells slots : Nat} {s : State} {m : MethodId} {args : Array Value} {below : List Frame} {meth : Method} {c : Code} {H : Heap} {locs : List Loc} {Q : State → Prop}
variable {cc : ByteArray} {pc : Nat} {D : va_G} {wf : St → va_W} {A : Nat → Prop} {ls : Array Slot} {σ σ' : St}
theorem ret_I {ty : FieldType} {x r : Int32} (hret : ∀ (H : Heap) (locs : List Loc) (pc : Nat) (ls : Array Slot), J D wf A s σ' H locs → narrow ty (.int r) = .int r → decode cc pc = .ok (.ireturn, 1) → W p l e R s m args below meth c H locs cells slots Q (F0 m pc ls [.int r])) (hJ : J D wf A s σ H locs) (hf : some (σ, x) = some (σ', r)) (hz : narrow ty (.int x) = .int x) (hd : decode cc pc = .ok (.ireturn, 1)) : W p l e R s m args below meth c H locs cells slots Q (F0 m pc ls [.int x]) := by
  obtain ⟨rfl, rfl⟩ := ret_eq hf
  exact hret H locs pc ls hJ hz hd
theorem ret_L {x r : Int64} (hret : ∀ (H : Heap) (locs : List Loc) (pc : Nat) (ls : Array Slot), J D wf A s σ' H locs → decode cc pc = .ok (.lreturn, 1) → W p l e R s m args below meth c H locs cells slots Q (F0 m pc ls [.long r])) (hJ : J D wf A s σ H locs) (hf : some (σ, x) = some (σ', r)) (hd : decode cc pc = .ok (.lreturn, 1)) : W p l e R s m args below meth c H locs cells slots Q (F0 m pc ls [.long x]) := by
  obtain ⟨rfl, rfl⟩ := ret_eq hf
  exact hret H locs pc ls hJ hd
theorem ret_V (hret : ∀ (H : Heap) (locs : List Loc) (pc : Nat) (ls : Array Slot), J D wf A s σ' H locs → decode cc pc = .ok (.return_, 1) → W p l e R s m args below meth c H locs cells slots Q (F0 m pc ls [])) (hJ : J D wf A s σ H locs) (hf : some (σ, ()) = some (σ', ())) (hd : decode cc pc = .ok (.return_, 1)) : W p l e R s m args below meth c H locs cells slots Q (F0 m pc ls []) := by
  obtain ⟨rfl, -⟩ := ret_eq hf
  exact hret H locs pc ls hJ hd
end RETS
