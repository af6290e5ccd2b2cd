/-! states: int fields, int arrays, long fields, by number; the pieces that pure functions are made of -/
abbrev St : Type := (Nat → Int32) × (Nat → Nat → Int32) × (Nat → Int64)
def sI (σ : St) (k : Nat) (v : Int32) : St := (va_up σ.1 k v, σ.2)
def sA (σ : St) (k : Nat) (i v : Int32) : St := (σ.1, va_up σ.2.1 k (upd (σ.2.1 k) i.toNatClampNeg v), σ.2.2)
def sL (σ : St) (k : Nat) (v : Int64) : St := (σ.1, σ.2.1, va_up σ.2.2 k v)
def gd {α : Type} (c : Prop) [Decidable c] (k : Option α) : Option α := if c then k else none
def gi {α : Type} (i : Int32) (n : Nat) (k : Option α) : Option α := if 0 ≤ i.toInt ∧ i.toInt < (n : Int) then k else none
def bnd {α β : Type} (a : α) (f : α → β) : β := f a
def cal {β γ : Type} (o : Option (St × β)) (k : St → β → Option γ) : Option γ := match o with
  | none => none
  | some p => k p.1 p.2
def lenS : List Nat := [42, 72]
def bytS : List (List Int32) := [[99, 111, 117, 110, 116, 32, 110, 111, 116, 32, 112, 97, 114, 116, 32, 61, 32, 48, 32, 59, 32, 110, 101, 97, 114, 32, 119, 105, 100, 116, 104, 32, 59, 32, 112, 108, 97, 121, 32, 49, 32, 59], [112, 97, 114, 116, 32, 32, 111, 102, 102, 32, 32, 32, 115, 112, 101, 101, 100, 32, 116, 101, 97, 109, 32, 32, 116, 105, 99, 107, 32, 32, 119, 105, 100, 116, 104, 32, 99, 111, 117, 110, 116, 32, 110, 101, 97, 114, 32, 32, 112, 108, 97, 121, 32, 32, 111, 114, 32, 32, 32, 32, 97, 110, 100, 32, 32, 32, 110, 111, 116, 32, 32, 32]]
def sch (i j : Nat) : Int32 := ((((bytS.getD i []).getD j 0) &&& 255).toUInt32 % 65536).toInt32
def kab (j : Nat) : Int32 := ([-1, 0, 0, 2, 1, 2] : List Int32).getD j 0
def sCp (σ : St) (k : Nat) (sp dp n : Int32) : St := (σ.1, va_up σ.2.1 k (va_cpy (σ.2.1 k) (σ.2.1 k) sp.toNatClampNeg dp.toNatClampNeg n.toNatClampNeg), σ.2.2)
def cpOk (m : Nat) (sp dp n : Int32) : Prop := (0 ≤ sp.toInt ∧ 0 ≤ dp.toInt ∧ 0 ≤ n.toInt) ∧ sp.toInt + n.toInt ≤ (m : Int) ∧ dp.toInt + n.toInt ≤ (m : Int)
def gcp {α : Type} (m : Nat) (sp dp n : Int32) (k : Option α) : Option α := if (0 ≤ sp.toInt ∧ 0 ≤ dp.toInt ∧ 0 ≤ n.toInt) ∧ sp.toInt + n.toInt ≤ (m : Int) ∧ dp.toInt + n.toInt ≤ (m : Int) then k else none
theorem nn32 {z : Int32} (hz : 0 ≤ z.toInt) : ¬ z < 0 := by
  intro h
  have h1 := Int32.lt_iff_toInt_lt.mp h
  have h2 : (0 : Int32).toInt = 0 := rfl
  omega
