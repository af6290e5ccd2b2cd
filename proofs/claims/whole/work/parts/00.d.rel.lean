/-! the relation between the class's state and the reference's -/
def N0 : Nat := 5000
abbrev bt (x : Int32) (lo hi : Int) : Prop := lo ≤ x.toInt ∧ x.toInt ≤ hi
/-- men -/
def R1 (n : Nat) (σ τ : St) : Prop := n ≤ 10 ∧ σ.1 14 = nI n ∧ τ.1 4 = nI n ∧ σ.2.1 32 = τ.2.1 4 ∧ σ.2.1 33 = τ.2.1 5 ∧ σ.2.1 34 = τ.2.1 6 ∧ σ.2.1 35 = τ.2.1 7 ∧ (∀ i, bt (τ.2.1 4 i) 0 3) ∧ (∀ i, bt (τ.2.1 5 i) 0 9999) ∧ (∀ i, bt (τ.2.1 6 i) (-99) 99) ∧ (∀ i, bt (τ.2.1 7 i) (-199) 199) ∧ (∀ i, 4 * n ≤ i → τ.2.1 7 i = 0)
/-- the width; nobody stands back -/
def R2 (σ τ : St) : Prop := σ.1 3 = τ.1 5 ∧ bt (τ.1 5) 0 999 ∧ τ.1 19 = 0
/-- cameras -/
def R3 (k : Nat) (σ τ : St) : Prop := k ≤ 4 ∧ σ.1 15 = nI k ∧ τ.1 21 = nI k ∧ σ.2.1 36 = τ.2.1 8 ∧ σ.2.1 37 = τ.2.1 9 ∧ σ.2.1 38 = τ.2.1 10 ∧ (∀ i, i < k → bt (τ.2.1 8 i) 1 20) ∧ (∀ i, bt (τ.2.1 9 i) 0 19) ∧ (∀ i, bt (τ.2.1 10 i) (-9) 9)
/-- crossers -/
def R4 (k : Nat) (σ τ : St) : Prop := k ≤ 6 ∧ σ.1 16 = nI k ∧ τ.1 22 = nI k ∧ σ.2.1 39 = τ.2.1 11 ∧ σ.2.1 40 = τ.2.1 12 ∧ (∀ i, bt (τ.2.1 11 i) (-20) 20) ∧ (∀ i, bt (τ.2.1 12 i) 0 9)
/-- calls -/
def R5 (n1 n3 n4 k : Nat) (σ τ : St) : Prop := k ≤ 24 ∧ σ.1 19 = nI k ∧ τ.1 23 = nI k ∧ σ.2.1 46 = τ.2.1 13 ∧ σ.2.1 47 = τ.2.1 14 ∧ σ.2.1 48 = τ.2.1 15 ∧ σ.2.1 49 = τ.2.1 16 ∧ σ.2.1 50 = τ.2.1 17 ∧ σ.2.1 51 = τ.2.1 18 ∧ (∀ i, i < k → bt (τ.2.1 13 i) 0 5 ∧ bt (τ.2.1 14 i) 0 (n1 - 1) ∧ bt (τ.2.1 15 i) 0 (n1 - 1) ∧ bt (τ.2.1 16 i) 0 200 ∧ bt (τ.2.1 17 i) 0 (n3 - 1) ∧ bt (τ.2.1 18 i) 0 (n4 - 1) ∧ σ.2.1 52 i = τ.2.1 4 (τ.2.1 14 i).toNatClampNeg)
/-- matches -/
def R6 (k : Nat) (σ τ : St) : Prop := k ≤ 12 ∧ σ.1 11 = nI k ∧ τ.1 24 = nI k ∧ σ.2.1 15 = τ.2.1 19 ∧ σ.2.1 16 = τ.2.1 20 ∧ σ.2.1 18 = τ.2.1 23 ∧ (∀ i, i < k → bt (τ.2.1 19 i) 0 3 ∧ bt (τ.2.1 20 i) 0 3 ∧ bt (σ.2.1 17 i) 0 99 ∧ τ.2.1 21 i = σ.2.1 17 i / 10 ∧ τ.2.1 22 i = σ.2.1 17 i - σ.2.1 17 i / 10 * 10 ∧ bt (τ.2.1 23 i) 0 16777215)
/-- cases -/
def R7 (k : Nat) (σ τ : St) : Prop := k ≤ 40 ∧ σ.1 12 = nI k ∧ τ.1 25 = nI k ∧ σ.2.1 22 = τ.2.1 27 ∧ σ.2.1 23 = τ.2.1 28 ∧ (∀ i, bt (τ.2.1 27 i) 0 63) ∧ (∀ i, bt (τ.2.1 28 i) 0 3)
/-- sheets -/
def R10 (σ τ : St) : Prop := ∀ s, s < 4 → (σ.2.1 25 s = -1 ∧ σ.2.1 26 s = 0 ∧ τ.2.1 30 s = 0) ∨ (bt (σ.2.1 25 s) 0 2 ∧ τ.2.1 30 s = 1 ∧ τ.2.1 31 s = σ.2.1 25 s ∧ τ.2.1 32 s = σ.2.1 26 s ∧ bt (σ.2.1 26 s) 0 40 ∧ ∀ i : Nat, (i : Int) < (σ.2.1 26 s).toInt → σ.2.1 27 (40 * s + i) = τ.2.1 33 (40 * s + i))
/-! texts: tokens, reading, running (the two programs' common meaning) -/
abbrev PR : Type := Bool × Nat × List Int32
def bA (b : Nat → Int32) (sz i : Nat) : Int32 := if i < sz then b i else -1
def isBl (c : Int32) : Bool := decide (c = 32 ∨ c = 10)
def isL (c : Int32) : Bool := decide (bt c 97 122)
def isDg (c : Int32) : Bool := decide (bt c 48 57)
def isSg (c : Int32) : Bool := decide (c = 40 ∨ c = 41 ∨ c = 59 ∨ c = 43 ∨ c = 45 ∨ c = 42 ∨ c = 60 ∨ c = 61)
/-- the first place from i on that hasn't P -/
def runF (P : Nat → Bool) : Nat → Nat → Nat
  | 0, i => i
  | n + 1, i => if P i = true then runF P n (i + 1) else i
def skF (b : Nat → Int32) (sz i : Nat) : Nat := runF (fun z => isBl (bA b sz z)) 161 i
def weF (b : Nat → Int32) (sz i : Nat) : Nat := runF (fun z => isL (bA b sz z)) 161 i
def neF (b : Nat → Int32) (sz i : Nat) : Nat := runF (fun z => isDg (bA b sz z)) 161 i
def numF (b : Nat → Int32) : Nat → Nat → Int32 → Int32
  | 0, _, a => a
  | n + 1, i, a => numF b n (i + 1) (a * 10 + b i - 48)
/-- the words: names 0 .. 5, keys 6 .. 11 -/
def wds : List (List Int32) := [[112, 97, 114, 116], [111, 102, 102], [115, 112, 101, 101, 100], [116, 101, 97, 109], [116, 105, 99, 107], [119, 105, 100, 116, 104], [99, 111, 117, 110, 116], [110, 101, 97, 114], [112, 108, 97, 121], [111, 114], [97, 110, 100], [110, 111, 116]]
def wMP (b : Nat → Int32) (j n i : Nat) : Prop := n = (wds.getD i []).length ∧ ∀ k, k < n → b (j + k) = (wds.getD i []).getD k 0
def wMb (b : Nat → Int32) (j n i : Nat) : Bool := decide (n = (wds.getD i []).length) && (List.range n).all fun k => decide (b (j + k) = (wds.getD i []).getD k 0)
def wFind (b : Nat → Int32) (j n : Nat) : Nat → Nat → Nat
  | 0, i => i
  | f + 1, i => if wMb b j n i = true then i else wFind b j n f (i + 1)
def tkW (w : Nat) : Int32 × Int32 := if w = 12 then (-2, 0) else if w < 6 then (-4, -1 - nI w) else (nI (256 + w), 0)
/-- the token from place i on: its kind, its value, its start, where it ends -/
def tk (b : Nat → Int32) (sz i : Nat) : Int32 × Int32 × Nat × Nat :=
  if sz ≤ skF b sz i then (-1, 0, sz, sz)
  else if isL (b (skF b sz i)) = true then ((tkW (wFind b (skF b sz i) (weF b sz (skF b sz i) - skF b sz i) 12 0)).1, (tkW (wFind b (skF b sz i) (weF b sz (skF b sz i) - skF b sz i) 12 0)).2, skF b sz i, weF b sz (skF b sz i))
  else if isDg (b (skF b sz i)) = true then (if neF b sz (skF b sz i) - skF b sz i ≤ 4 then -3 else -2, numF b (neF b sz (skF b sz i) - skF b sz i) (skF b sz i) 0, skF b sz i, neF b sz (skF b sz i))
  else if isSg (b (skF b sz i)) = true then (b (skF b sz i), 0, skF b sz i, skF b sz i + 1)
  else (-2, 0, skF b sz i, skF b sz i + 1)
def tPos (b : Nat → Int32) (sz : Nat) : Nat → Nat
  | 0 => 0
  | k + 1 => (tk b sz (tPos b sz k)).2.2.2
def tK (b : Nat → Int32) (sz k : Nat) : Int32 := (tk b sz (tPos b sz k)).1
def tV (b : Nat → Int32) (sz k : Nat) : Int32 := (tk b sz (tPos b sz k)).2.1
def tS (b : Nat → Int32) (sz k : Nat) : Nat := (tk b sz (tPos b sz k)).2.2.1
/-- reading: (it went well, the token behind it or the one that can't stand there, cells) -/
def pAnd (r : PR) (k : Nat → List Int32 → PR) : PR := if r.1 then k r.2.1 r.2.2 else (false, r.2.1, [])
section PARSE
variable (K V : Nat → Int32)
def pOne (pE pO : Nat → PR) (d : Nat) (i : Nat) : PR :=
  if K i = -3 ∨ K i = -4 then (true, i + 1, [V i])
  else if K i = 40 then (if d = 0 then (false, i, []) else pAnd (pE (i + 1)) fun j c => if K j = 41 then (true, j + 1, c) else (false, j, []))
  else if K i = 45 then (if d = 0 then (false, i, []) else pAnd (pO (i + 1)) fun j c => (true, j, c ++ [-19]))
  else (false, i, [])
def pTermL (one : Nat → PR) : Nat → Nat → List Int32 → PR
  | 0, i, c => (true, i, c)
  | n + 1, i, c => if K i = 42 then pAnd (one (i + 1)) fun j c2 => pTermL one n j (c ++ c2 ++ [-18]) else (true, i, c)
def pTerm (one : Nat → PR) (i : Nat) : PR := pAnd (one i) fun j c => pTermL K one 161 j c
def pSumL (term : Nat → PR) : Nat → Nat → List Int32 → PR
  | 0, i, c => (true, i, c)
  | n + 1, i, c => if K i = 43 ∨ K i = 45 then pAnd (term (i + 1)) fun j c2 => pSumL term n j (c ++ c2 ++ [if K i = 43 then -16 else -17]) else (true, i, c)
def pSum (term : Nat → PR) (i : Nat) : PR := pAnd (term i) fun j c => pSumL K term 161 j c
def pNot (sum pN : Nat → PR) (d : Nat) (i : Nat) : PR :=
  if K i = 267 then (if d = 0 then (false, i, []) else pAnd (pN (i + 1)) fun j c => (true, j, c ++ [-13]))
  else pAnd (sum i) fun j c => if K j = 60 ∨ K j = 61 then pAnd (sum (j + 1)) fun j2 c2 => (true, j2, c ++ c2 ++ [if K j = 60 then -14 else -15]) else (true, j, c)
def pAndL (nt : Nat → PR) : Nat → Nat → List Int32 → PR
  | 0, i, c => (true, i, c)
  | n + 1, i, c => if K i = 266 then pAnd (nt (i + 1)) fun j c2 => pAndL nt n j (c ++ c2 ++ [-12]) else (true, i, c)
def pBoth (nt : Nat → PR) (i : Nat) : PR := pAnd (nt i) fun j c => pAndL K nt 161 j c
def pOrL (an : Nat → PR) : Nat → Nat → List Int32 → PR
  | 0, i, c => (true, i, c)
  | n + 1, i, c => if K i = 265 then pAnd (an (i + 1)) fun j c2 => pOrL an n j (c ++ c2 ++ [-11]) else (true, i, c)
def pEither (an : Nat → PR) (i : Nat) : PR := pAnd (an i) fun j c => pOrL K an 161 j c
/-- all three by how many more may be opened -/
def pLv : Nat → (Nat → PR) × (Nat → PR) × (Nat → PR)
  | 0 => (pEither K (pBoth K (pNot K (pSum K (pTerm K (pOne K V (fun i => (false, i, [])) (fun i => (false, i, [])) 0))) (fun i => (false, i, [])) 0)),
      pOne K V (fun i => (false, i, [])) (fun i => (false, i, [])) 0,
      pNot K (pSum K (pTerm K (pOne K V (fun i => (false, i, [])) (fun i => (false, i, [])) 0))) (fun i => (false, i, [])) 0)
  | d + 1 => (pEither K (pBoth K (pNot K (pSum K (pTerm K (pOne K V (pLv d).1 (pLv d).2.1 (d + 1)))) (pLv d).2.2 (d + 1))),
      pOne K V (pLv d).1 (pLv d).2.1 (d + 1),
      pNot K (pSum K (pTerm K (pOne K V (pLv d).1 (pLv d).2.1 (d + 1)))) (pLv d).2.2 (d + 1))
def pSec (key : Int32) (i : Nat) : PR := if K i = key then pAnd ((pLv K V 5).1 (i + 1)) fun j c => if K j = 59 then (true, j + 1, c) else (false, j, []) else (false, i, [])
def pText : Bool × Nat × List Int32 × List Int32 × List Int32 :=
  let r0 := pSec K V 262 0
  if r0.1 then
    let r1 := pSec K V 263 r0.2.1
    if r1.1 then
      let r2 := pSec K V 264 r1.2.1
      if r2.1 then (if K r2.2.1 = -1 then (true, r2.2.1, r0.2.2, r1.2.2, r2.2.2) else (false, r2.2.1, [], [], []))
      else (false, r2.2.1, [], [], [])
    else (false, r1.2.1, [], [], [])
  else (false, r0.2.1, [], [], [])
end PARSE
/-- running cells on a stack -/
def op2 (c a b : Int32) : Int32 :=
  if c = -11 then (if a ≠ 0 ∨ b ≠ 0 then 1 else 0) else if c = -12 then (if a ≠ 0 ∧ b ≠ 0 then 1 else 0) else if c = -14 then (if a < b then 1 else 0) else if c = -15 then (if a = b then 1 else 0)
  else if c = -16 then a + b else if c = -17 then a - b else a * b
def rs1 (nm : Nat → Int32) (st : List Int32) (c : Int32) : Option (List Int32) :=
  if -6 ≤ c.toInt then some ((if 0 ≤ c.toInt then c else nm (-1 - c).toNatClampNeg) :: st)
  else if c = -13 ∨ c = -19 then (match st with
    | [] => none
    | a :: l => some ((if c = -19 then -a else if a = 0 then 1 else 0) :: l))
  else (match st with
    | b :: a :: l => some (op2 c a b :: l)
    | _ => none)
def rcO (nm : Nat → Int32) : List Int32 → List Int32 → Option (List Int32)
  | [], st => some st
  | c :: cs, st => match rs1 nm st c with
    | none => none
    | some s => rcO nm cs s
/-- what cells come to: one more on the stack -/
def Ev (nm : Nat → Int32) (c : List Int32) (v : Int32) : Prop := ∀ st, rcO nm c st = some (v :: st)
def rv (nm : Nat → Int32) (c : List Int32) : Int32 := match rcO nm c [] with
  | some (v :: _) => v
  | _ => 0
/-- text t: its bytes can be read, its cells lie in the class's rows -/
def TX (t : Nat) (σ τ : St) : Prop := ∃ (b : Nat → Int32) (sz : Nat) (j : Nat) (c0 c1 c2 : List Int32), sz ≤ 160 ∧ τ.2.1 2 t = nI sz ∧ (∀ i, i < sz → τ.2.1 1 (160 * t + i) = b i ∧ bt (b i) 0 255) ∧ pText (tK b sz) (tV b sz) = (true, j, c0, c1, c2) ∧ c0.length + c1.length + c2.length ≤ 160 ∧
  (∀ i, i < c0.length + c1.length + c2.length → σ.2.1 41 (160 * t + i) = (c0 ++ c1 ++ c2).getD i 0) ∧ σ.2.1 42 (3 * t) = nI (160 * t) ∧ σ.2.1 43 (3 * t) = nI (160 * t + c0.length) ∧ σ.2.1 42 (3 * t + 1) = nI (160 * t + c0.length) ∧ σ.2.1 43 (3 * t + 1) = nI (160 * t + c0.length + c1.length) ∧ σ.2.1 42 (3 * t + 2) = nI (160 * t + c0.length + c1.length) ∧ σ.2.1 43 (3 * t + 2) = nI (160 * t + c0.length + c1.length + c2.length)
/-- texts and the tape -/
def R8 (n : Nat) (σ τ : St) : Prop := 1 ≤ n ∧ n ≤ 6 ∧ σ.1 17 = nI n ∧ τ.1 1 = nI n ∧ σ.1 18 = τ.1 2 ∧ bt (τ.1 2) 0 (n - 1) ∧ (∀ t, t < n → TX t σ τ) ∧ ∃ k, k ≤ 160 ∧ σ.1 20 = nI k ∧ τ.1 3 = nI k ∧ ∀ i, i < k → σ.2.1 53 i = τ.2.1 3 i ∧ bt (τ.2.1 3 i) 0 255
/-- the image -/
def R9 (n1 n8 : Nat) (σ τ : St) : Prop := (σ.1 2 = 0 ∧ τ.1 26 = 0) ∨ (σ.1 2 = 1 ∧ τ.1 26 = 1 ∧ ∃ k, k ≤ n1 ∧ σ.1 13 = nI k ∧ τ.1 27 = nI k ∧ σ.1 0 = τ.1 28 ∧ bt (τ.1 28) 0 999 ∧ σ.1 1 = τ.1 29 ∧ bt (τ.1 29) 0 (n8 - 1) ∧ ∀ m, m < k → (σ.2.1 29 m = τ.2.1 29 (6 * m) ∧ bt (σ.2.1 29 m) 0 9999 ∧ σ.2.1 30 m = τ.2.1 29 (6 * m + 1) ∧ bt (σ.2.1 30 m) (-99) 99 ∧ ∀ p, p < 4 → σ.2.1 31 (4 * m + p) = τ.2.1 29 (6 * m + 2 + p) ∧ bt (σ.2.1 31 (4 * m + p)) (-199) 199))
def Rel (σ τ : St) : Prop := ∃ n1 n3 n4 n5 n6 n7 n8 : Nat, R1 n1 σ τ ∧ R2 σ τ ∧ R3 n3 σ τ ∧ R4 n4 σ τ ∧ R5 n1 n3 n4 n5 σ τ ∧ R6 n6 σ τ ∧ R7 n7 σ τ ∧ R8 n8 σ τ ∧ R9 n1 n8 σ τ ∧ R10 σ τ
/-! tools -/
theorem cal_eq {β γ : Type} (s : St) (r : β) (k : St → β → Option γ) : cal (some (s, r)) k = k s r := rfl
theorem bnd_eq {α β : Type} (a : α) (f : α → β) : bnd a f = f a := rfl
theorem gi_ok {α : Type} {i : Int32} {n : Nat} {k : Option α} (h : 0 ≤ i.toInt ∧ i.toInt < (n : Int)) : gi i n k = k := by
  unfold gi; rw [if_pos h]
theorem gi_nI {α : Type} {i n : Nat} {k : Option α} (h : i < n) (hn : n < 2 ^ 31) : gi (nI i) n k = k := gi_ok (by rw [nI_toInt (by omega)]; omega)
theorem gd_ok {α : Type} {c : Prop} [Decidable c] {k : Option α} (h : c) : gd c k = k := by
  unfold gd; rw [if_pos h]
theorem b01 {p : Prop} [Decidable p] : (if p then (1 : Int32) else 0) = 0 ∨ (if p then (1 : Int32) else 0) = 1 := by
  by_cases h : p
  · rw [if_pos h]; exact Or.inr rfl
  · rw [if_neg h]; exact Or.inl rfl
theorem ite_b {α : Type} {p : Prop} [Decidable p] {A B : α} : (if (if p then (1 : Int32) else 0) = 0 then A else B) = if p then B else A := by
  by_cases h : p
  · rw [if_pos h, if_pos h, if_neg (by decide)]
  · rw [if_neg h, if_neg h, if_pos rfl]
theorem lt_n {a b : Int32} : a < b ↔ a.toInt < b.toInt := Int32.lt_iff_toInt_lt
theorem le_n {a b : Int32} : a ≤ b ↔ a.toInt ≤ b.toInt := Int32.le_iff_toInt_le
theorem eq_n {a b : Int32} : a = b ↔ a.toInt = b.toInt := Int32.toInt_inj.symm
theorem q_within {N : Nat} {σ : St} {a lo hi : Int32} : fC_isWithin N σ a lo hi = some (σ, if lo.toInt ≤ a.toInt ∧ a.toInt ≤ hi.toInt then 1 else 0) := by
  unfold fC_isWithin
  by_cases h1 : a < lo
  · rw [if_pos h1, if_neg (by rw [lt_n] at h1; omega)]
  · rw [if_neg h1]
    by_cases h2 : hi < a
    · rw [if_pos h2, if_neg (by rw [lt_n] at h2; omega)]
    · rw [if_neg h2, if_pos (by rw [lt_n] at h1 h2; omega)]
theorem q_in {N : Nat} {σ : St} {a lo hi : Int64} : fM_in N σ a lo hi = some (σ, if lo.toInt ≤ a.toInt ∧ a.toInt ≤ hi.toInt then 1 else 0) := by
  unfold fM_in
  by_cases h1 : lg_cmp a lo < 0
  · rw [if_pos h1, if_neg (by rw [lg_cmp_lt, Int64.lt_iff_toInt_lt] at h1; omega)]
  · rw [if_neg h1]
    by_cases h2 : 0 < lg_cmp a hi
    · rw [if_pos h2, if_neg (by rw [lg_cmp_gt, Int64.lt_iff_toInt_lt] at h2; omega)]
    · rw [if_neg h2, if_pos (by rw [lg_cmp_lt, Int64.lt_iff_toInt_lt] at h1; rw [lg_cmp_gt, Int64.lt_iff_toInt_lt] at h2; omega)]
theorem q_in32 {N : Nat} {σ : St} {a : Int32} {lo hi : Int64} {l h : Int} (hl : lo.toInt = l) (hh : hi.toInt = h) : fM_in N σ a.toInt64 lo hi = some (σ, if bt a l h then 1 else 0) := by
  rw [q_in, Int32.toInt_toInt64, hl, hh]
theorem q_w32 {N : Nat} {σ : St} {a lo hi : Int32} {l h : Int} (hl : lo.toInt = l) (hh : hi.toInt = h) : fC_isWithin N σ a lo hi = some (σ, if bt a l h then 1 else 0) := by
  rw [q_within, hl, hh]
theorem q_isSide {N : Nat} {σ : St} {a : Int32} : fC_isSide N σ a = some (σ, if bt a 0 3 then 1 else 0) := by
  unfold fC_isSide; rw [q_w32 (l := 0) (h := 3) rfl rfl, cal_eq, gd_ok b01]
theorem q_isPlace {N : Nat} {σ : St} {a : Int32} : fC_isPlace N σ a = some (σ, if bt a 0 9999 then 1 else 0) := by
  unfold fC_isPlace; rw [q_w32 (l := 0) (h := 9999) rfl rfl, cal_eq, gd_ok b01]
theorem q_isSpeed {N : Nat} {σ : St} {a : Int32} : fC_isSpeed N σ a = some (σ, if bt a (-99) 99 then 1 else 0) := by
  unfold fC_isSpeed; rw [q_w32 (l := -99) (h := 99) rfl rfl, cal_eq, gd_ok b01]
theorem q_isPart {N : Nat} {σ : St} {a : Int32} : fC_isPart N σ a = some (σ, if bt a 0 3 then 1 else 0) := by
  unfold fC_isPart; rw [q_w32 (l := 0) (h := 3) rfl rfl, cal_eq, gd_ok b01]
theorem q_isTick {N : Nat} {σ : St} {a : Int32} : fC_isTick N σ a = some (σ, if bt a 0 200 then 1 else 0) := by
  unfold fC_isTick; rw [q_w32 (l := 0) (h := 200) rfl rfl, cal_eq, gd_ok b01]
theorem q_isWidth {N : Nat} {σ : St} {a : Int32} : fC_isWidth N σ a = some (σ, if bt a 0 999 then 1 else 0) := by
  unfold fC_isWidth; rw [q_w32 (l := 0) (h := 999) rfl rfl, cal_eq, gd_ok b01]
theorem q_isSheet {N : Nat} {σ : St} {a : Int32} : fC_isSheet N σ a = some (σ, if bt a 0 3 then 1 else 0) := by
  unfold fC_isSheet; rw [q_w32 (l := 0) (h := 3) rfl rfl, cal_eq, gd_ok b01]
theorem qm_isTick {N : Nat} {σ : St} {a : Int32} : fM_isTick N σ a = some (σ, if bt a 0 200 then 1 else 0) := by
  unfold fM_isTick; rw [q_in32 (l := 0) (h := 200) rfl rfl, cal_eq, gd_ok b01]
theorem qm_isWidth {N : Nat} {σ : St} {a : Int32} : fM_isWidth N σ a = some (σ, if bt a 0 999 then 1 else 0) := by
  unfold fM_isWidth; rw [q_in32 (l := 0) (h := 999) rfl rfl, cal_eq, gd_ok b01]
theorem qm_isSheet {N : Nat} {σ : St} {a : Int32} : fM_isSheet N σ a = some (σ, if bt a 0 3 then 1 else 0) := by
  unfold fM_isSheet; rw [q_in32 (l := 0) (h := 3) rfl rfl, cal_eq, gd_ok b01]
/-- an Int32 within bounds from 0 on is a number -/
theorem bt_nI {x : Int32} {h : Int} (hb : bt x 0 h) : ∃ k : Nat, (k : Int) ≤ h ∧ k < 2 ^ 31 ∧ x = nI k := by
  obtain ⟨h0, h1⟩ := hb
  obtain ⟨k, hk, rfl⟩ := nI_of (x := x) (nn32 h0)
  rw [nI_toInt hk] at h1
  exact ⟨k, h1, hk, rfl⟩
theorem in_n {a : Int32} {n : Nat} (hn : n < 2 ^ 30) : ((0 : Int32).toInt ≤ a.toInt ∧ a.toInt ≤ (nI n - 1).toInt) ↔ bt a 0 (n - 1) := by
  have e : (nI n - 1).toInt = (n : Int) - 1 := by
    have h1 : (1 : Int32) = nI 1 := rfl
    rw [h1, pk_sub_toInt (by omega) (by omega)]; rfl
  rw [e]; exact Iff.rfl
theorem q_has {x a : Int32} {n : Nat} (hn : n < 2 ^ 30) (hx : x = nI n) {α : Type} {A B : α} : (if a < 0 then A else if x ≤ a then A else B) = if bt a 0 (n - 1) then B else A := by
  rw [hx]
  by_cases h1 : a < 0
  · rw [if_pos h1, if_neg (by rw [lt_n] at h1; have : (0 : Int32).toInt = 0 := rfl; omega)]
  · rw [if_neg h1]
    by_cases h2 : nI n ≤ a
    · rw [if_pos h2, if_neg (by rw [le_n, nI_toInt (by omega)] at h2; omega)]
    · rw [if_neg h2, if_pos (by rw [le_n, nI_toInt (by omega)] at h2; rw [lt_n] at h1; have : (0 : Int32).toInt = 0 := rfl; omega)]
theorem q_S_has {N n : Nat} {σ : St} {a : Int32} (hn : n < 2 ^ 30) (hx : σ.1 14 = nI n) : fC_S_has N σ a = some (σ, if bt a 0 (n - 1) then 1 else 0) := by
  unfold fC_S_has; rw [q_has hn hx]; split <;> rfl
theorem q_A_has {N n : Nat} {σ : St} {a : Int32} (hn : n < 2 ^ 30) (hx : σ.1 15 = nI n) : fC_A_has N σ a = some (σ, if bt a 0 (n - 1) then 1 else 0) := by
  unfold fC_A_has; rw [q_has hn hx]; split <;> rfl
theorem q_O_has {N n : Nat} {σ : St} {a : Int32} (hn : n < 2 ^ 30) (hx : σ.1 16 = nI n) : fC_O_has N σ a = some (σ, if bt a 0 (n - 1) then 1 else 0) := by
  unfold fC_O_has; rw [q_has hn hx]; split <;> rfl
theorem q_F_has {N n : Nat} {σ : St} {a : Int32} (hn : n < 2 ^ 30) (hx : σ.1 19 = nI n) : fC_F_has N σ a = some (σ, if bt a 0 (n - 1) then 1 else 0) := by
  unfold fC_F_has; rw [q_has hn hx]; split <;> rfl
theorem q_T_has {N n : Nat} {σ : St} {a : Int32} (hn : n < 2 ^ 30) (hx : σ.1 17 = nI n) : fC_T_has N σ a = some (σ, if bt a 0 (n - 1) then 1 else 0) := by
  unfold fC_T_has; rw [q_has hn hx]; split <;> rfl
theorem qm_inn {N n : Nat} {σ : St} {a x : Int32} (hn : n < 2 ^ 30) (hx : x = nI n) : fM_in N σ a.toInt64 0 ((x - 1).toInt64) = some (σ, if bt a 0 (n - 1) then 1 else 0) := by
  rw [q_in, Int32.toInt_toInt64, Int32.toInt_toInt64, hx]
  have := in_n (a := a) hn
  have e : (0 : Int64).toInt = (0 : Int32).toInt := rfl
  rw [e]
  by_cases h : bt a 0 (n - 1)
  · rw [if_pos h, if_pos (this.mpr h)]
  · rw [if_neg h, if_neg (fun z => h (this.mp z))]
theorem qm_isMan {N n : Nat} {σ : St} {a : Int32} (hn : n < 2 ^ 30) (hx : σ.1 4 = nI n) : fM_isMan N σ a = some (σ, if bt a 0 (n - 1) then 1 else 0) := by
  unfold fM_isMan; rw [qm_inn hn hx, cal_eq, gd_ok b01]
theorem qm_isCall {N n : Nat} {σ : St} {a : Int32} (hn : n < 2 ^ 30) (hx : σ.1 23 = nI n) : fM_isCall N σ a = some (σ, if bt a 0 (n - 1) then 1 else 0) := by
  unfold fM_isCall; rw [qm_inn hn hx, cal_eq, gd_ok b01]
theorem bt_upd {f : Nat → Int32} {k : Nat} {v : Int32} {lo hi : Int} (h : ∀ i, bt (f i) lo hi) (hv : bt v lo hi) : ∀ i, bt (upd f k v i) lo hi := by
  intro i
  unfold upd
  split
  · exact hv
  · exact h i
theorem R5_grow {n1 n3 n4 m1 m3 m4 k : Nat} {σ τ : St} (h : R5 n1 n3 n4 k σ τ) (h1 : n1 ≤ m1) (h3 : n3 ≤ m3) (h4 : n4 ≤ m4) : R5 m1 m3 m4 k σ τ := by
  obtain ⟨g1, g2, g3, g4, g5, g6, g7, g8, g9, g10⟩ := h
  refine ⟨g1, g2, g3, g4, g5, g6, g7, g8, g9, fun i hi => ?_⟩
  obtain ⟨q1, q2, q3, q4, q5, q6, q7⟩ := g10 i hi
  exact ⟨q1, ⟨q2.1, by omega⟩, ⟨q3.1, by omega⟩, q4, ⟨q5.1, by omega⟩, ⟨q6.1, by omega⟩, q7⟩
