/-! the bits of a number, counted -/
theorem nI_and {a b : Nat} (ha : a < 2 ^ 32) (hb : b < 2 ^ 32) : nI a &&& nI b = nI (a &&& b) := by
  apply Int32.toBitVec_inj.mp
  apply BitVec.eq_of_toNat_eq
  show ((nI a).toBitVec &&& (nI b).toBitVec).toNat = _
  rw [BitVec.toNat_and, pk_tn ha, pk_tn hb, pk_tn (Nat.and_lt_two_pow _ hb)]
theorem and_split (x m M : Nat) (hm : m < 256) : x &&& (m + 256 * M) = (x % 256 &&& m) + 256 * (x / 256 &&& M) := by
  have h1 : (x &&& (m + 256 * M)) % 2 ^ 8 = (x % 2 ^ 8) &&& ((m + 256 * M) % 2 ^ 8) := Nat.and_mod_two_pow
  have h2 : (x &&& (m + 256 * M)) / 2 ^ 8 = (x / 2 ^ 8) &&& ((m + 256 * M) / 2 ^ 8) := Nat.and_div_two_pow
  have e8 : (2 : Nat) ^ 8 = 256 := by decide
  rw [e8] at h1 h2
  rw [show (m + 256 * M) % 256 = m by omega] at h1
  rw [show (m + 256 * M) / 256 = M by omega] at h2
  rw [← h1, ← h2]
  omega
def t1 (b : Nat) : Nat := b - (b / 2 &&& 85)
def t2 (y : Nat) : Nat := (y &&& 51) + (y / 4 &&& 51)
def t3 (z : Nat) : Nat := (z + z / 16) % 16
def pc (b : Nat) : Nat := b % 2 + b / 2 % 2 + b / 4 % 2 + b / 8 % 2 + b / 16 % 2 + b / 32 % 2 + b / 64 % 2 + b / 128 % 2
theorem byte_t : ∀ b, b < 256 → (b / 2 &&& 85) ≤ b ∧ t1 b < 256 ∧ t2 (t1 b) ≤ 68 ∧ t2 (t1 b) % 16 ≤ 4 ∧ t3 (t2 (t1 b)) = pc b ∧ pc b ≤ 8 := by decide +kernel
theorem byte_1 : ∀ b, b < 256 → ∀ e, e < 2 → (b / 2 + 128 * e) &&& 85 = b / 2 &&& 85 := by decide +kernel
theorem byte_2 : ∀ b, b < 256 → ∀ e, e < 4 → (b / 4 + 64 * e) &&& 51 = b / 4 &&& 51 := by decide +kernel
theorem byte_3 : ∀ b, b < 69 → ∀ e, e < 5 → (b + b / 16 + 16 * e) &&& 15 = (b + b / 16) % 16 := by decide +kernel
theorem L1 (b q M : Nat) (hb : b < 256) : (b + 256 * q) / 2 &&& (85 + 256 * M) = (b / 2 &&& 85) + 256 * (q / 2 &&& M) := by
  rw [and_split _ _ _ (by decide), show (b + 256 * q) / 2 % 256 = b / 2 + 128 * (q % 2) by omega, show (b + 256 * q) / 2 / 256 = q / 2 by omega, byte_1 b hb _ (Nat.mod_lt _ (by decide))]
theorem L2 (b q M : Nat) (hb : b < 256) : (b + 256 * q) &&& (51 + 256 * M) = (b &&& 51) + 256 * (q &&& M) := by
  rw [and_split _ _ _ (by decide), show (b + 256 * q) % 256 = b by omega, show (b + 256 * q) / 256 = q by omega]
theorem L2' (b q M : Nat) (hb : b < 256) : (b + 256 * q) / 4 &&& (51 + 256 * M) = (b / 4 &&& 51) + 256 * (q / 4 &&& M) := by
  rw [and_split _ _ _ (by decide), show (b + 256 * q) / 4 % 256 = b / 4 + 64 * (q % 4) by omega, show (b + 256 * q) / 4 / 256 = q / 4 by omega, byte_2 b hb _ (Nat.mod_lt _ (by decide))]
theorem L3 (b q M : Nat) (hb : b ≤ 68) (hq : q % 16 ≤ 4) : ((b + 256 * q) + (b + 256 * q) / 16) &&& (15 + 256 * M) = t3 b + 256 * ((q + q / 16) &&& M) := by
  have e : (b + 256 * q) + (b + 256 * q) / 16 = (b + b / 16 + 16 * (q % 16)) + 256 * (q + q / 16) := by omega
  rw [e, and_split _ _ _ (by decide), show ((b + b / 16 + 16 * (q % 16)) + 256 * (q + q / 16)) % 256 = b + b / 16 + 16 * (q % 16) by omega, show ((b + b / 16 + 16 * (q % 16)) + 256 * (q + q / 16)) / 256 = q + q / 16 by omega, byte_3 b (by omega) _ (by omega)]
  rfl
theorem sum3 {p q r d : Nat} (hp : p ≤ 8) (hq : q ≤ 8) (hr : r ≤ 8) (hd : d = p + 256 * (q + 256 * r)) : (d + d / 256 + (d + d / 256) / 65536) % 2 ^ 6 = p + q + r := by
  have d1 : d / 256 = q + 256 * r := by omega
  have d2 : (d + d / 256) / 65536 = r := by omega
  rw [d2, d1, show (2 : Nat) ^ 6 = 64 from rfl]
  omega
def pcount (n : Nat) : Nat := pc (n % 256) + pc (n / 256 % 256) + pc (n / 65536 % 256)
theorem bcv_n {n : Nat} (hn : n < 2 ^ 24) : bcv (nI n) = nI (pcount n) := by
  have e24 : (2 : Nat) ^ 24 = 16777216 := by decide
  rw [e24] at hn
  have h0 : n % 256 < 256 := Nat.mod_lt _ (by decide)
  have h1 : n / 256 % 256 < 256 := Nat.mod_lt _ (by decide)
  have h2 : n / 65536 % 256 < 256 := Nat.mod_lt _ (by decide)
  have en : n = n % 256 + 256 * (n / 256 % 256 + 256 * (n / 65536 % 256 + 256 * 0)) := by omega
  unfold pcount
  generalize n % 256 = b0 at *
  generalize n / 256 % 256 = b1 at *
  generalize n / 65536 % 256 = b2 at *
  obtain ⟨p0, p1, p2, p3, p4, p5⟩ := byte_t b0 h0
  obtain ⟨q0, q1, q2, q3, q4, q5⟩ := byte_t b1 h1
  obtain ⟨r0, r1, r2, r3, r4, r5⟩ := byte_t b2 h2
  have m1 : n / 2 &&& 1431655765 = (b0 / 2 &&& 85) + 256 * ((b1 / 2 &&& 85) + 256 * (b2 / 2 &&& 85)) := by
    have c : 1431655765 = 85 + 256 * (85 + 256 * (85 + 256 * 85)) := by decide
    rw [en, c, L1 _ _ _ h0, L1 _ _ _ h1, L1 _ _ _ h2]
    simp
  have s1 : n - (n / 2 &&& 1431655765) = t1 b0 + 256 * (t1 b1 + 256 * (t1 b2 + 256 * 0)) := by
    rw [m1]
    unfold t1
    omega
  generalize ha : n - (n / 2 &&& 1431655765) = a at s1
  have s2 : (a &&& 858993459) + (a / 4 &&& 858993459) = t2 (t1 b0) + 256 * (t2 (t1 b1) + 256 * (t2 (t1 b2) + 256 * 0)) := by
    have c : 858993459 = 51 + 256 * (51 + 256 * (51 + 256 * 51)) := by decide
    rw [s1, c, L2 _ _ _ p1, L2 _ _ _ q1, L2 _ _ _ r1, L2' _ _ _ p1, L2' _ _ _ q1, L2' _ _ _ r1]
    unfold t2
    simp
    omega
  generalize hb : (a &&& 858993459) + (a / 4 &&& 858993459) = b at s2
  have s3 : (b + b / 16) &&& 252645135 = pc b0 + 256 * (pc b1 + 256 * pc b2) := by
    have c : 252645135 = 15 + 256 * (15 + 256 * (15 + 256 * 15)) := by decide
    rw [s2, c, L3 _ _ _ p2 (by omega), L3 _ _ _ q2 (by omega), L3 _ _ _ r2 (by decide), p4, q4, r4]
    simp
  generalize hd : (b + b / 16) &&& 252645135 = d at s3
  have hbn : b < 2 ^ 31 := by omega
  have han : a < 2 ^ 31 := by omega
  have hm1 : (n / 2 &&& 1431655765) ≤ n := by rw [m1, en]; omega
  have x1 : nI n - (((nI n).toUInt32 >>> ((1 : Int32).toUInt32 &&& Int32.toUInt32 31)).toInt32 &&& (1431655765 : Int32)) = nI a := by
    rw [pk_ushrN (by omega) 1 1 (by decide), show (1431655765 : Int32) = nI 1431655765 from rfl, nI_and (by omega) (by decide), show n / 2 ^ 1 = n / 2 from rfl, pk_sub hm1, ha]
  have x2 : (nI a &&& (858993459 : Int32)) + (((nI a).toUInt32 >>> ((2 : Int32).toUInt32 &&& Int32.toUInt32 31)).toInt32 &&& (858993459 : Int32)) = nI b := by
    rw [pk_ushrN (by omega) 2 2 (by decide), show (858993459 : Int32) = nI 858993459 from rfl, nI_and (by omega) (by decide), nI_and (by omega) (by decide), show a / 2 ^ 2 = a / 4 from rfl, nI_add, hb]
  have x3 : (nI b + (((nI b).toUInt32 >>> ((4 : Int32).toUInt32 &&& Int32.toUInt32 31)).toInt32)) &&& (252645135 : Int32) = nI d := by
    rw [pk_ushrN (by omega) 4 4 (by decide), show (252645135 : Int32) = nI 252645135 from rfl, nI_add, show b / 2 ^ 4 = b / 16 from rfl, nI_and (by omega) (by decide), hd]
  have x4 : nI d + (((nI d).toUInt32 >>> ((8 : Int32).toUInt32 &&& Int32.toUInt32 31)).toInt32) = nI (d + d / 256) := by
    rw [pk_ushrN (by omega) 8 8 (by decide), nI_add]
  have x5 : nI (d + d / 256) + (((nI (d + d / 256)).toUInt32 >>> ((16 : Int32).toUInt32 &&& Int32.toUInt32 31)).toInt32) = nI (d + d / 256 + (d + d / 256) / 65536) := by
    rw [pk_ushrN (by omega) 16 16 (by decide), nI_add]
  unfold bcv
  simp only [x1, x2, x3, x4, x5]
  rw [pk_andN (by omega) 6 (by decide)]
  exact congrArg nI (sum3 p5 q5 r5 s3)
theorem pc_bit : ∀ i, i < 8 → ∀ n, n < 128 → n < 2 ^ i → pc (n + 2 ^ i) = pc n + 1 ∧ n + 2 ^ i < 256 := by decide +kernel
theorem pow_le7 {i : Nat} (h : i < 8) : 2 ^ i ≤ 128 := Nat.pow_le_pow_right (show 0 < 2 by decide) (show i ≤ 7 by omega)
theorem pcount_bit {i n : Nat} (hi : i < 24) (hn : n < 2 ^ i) : pcount (n + 2 ^ i) = pcount n + 1 := by
  unfold pcount
  by_cases h8 : i < 8
  · have h7 := pow_le7 h8
    obtain ⟨e1, e2⟩ := pc_bit i h8 n (by omega) hn
    rw [show (n + 2 ^ i) % 256 = n + 2 ^ i by omega, show n % 256 = n by omega, show (n + 2 ^ i) / 256 = 0 by omega, show n / 256 = 0 by omega, show (n + 2 ^ i) / 65536 = 0 by omega, show n / 65536 = 0 by omega, e1]
    omega
  · by_cases h16 : i < 16
    · have e : 2 ^ i = 256 * 2 ^ (i - 8) := by
        rw [show (256 : Nat) = 2 ^ 8 from rfl, ← Nat.pow_add, show 8 + (i - 8) = i by omega]
      have h7 := pow_le7 (show i - 8 < 8 by omega)
      rw [e] at hn ⊢
      generalize hj : i - 8 = j at *
      obtain ⟨e1, e2⟩ := pc_bit j (by omega) (n / 256) (by omega) (by omega)
      rw [show (n + 256 * 2 ^ j) % 256 = n % 256 by omega, show (n + 256 * 2 ^ j) / 256 = n / 256 + 2 ^ j by omega, show (n / 256 + 2 ^ j) % 256 = n / 256 + 2 ^ j by omega, show n / 256 % 256 = n / 256 by omega, show (n + 256 * 2 ^ j) / 65536 = 0 by omega, show n / 65536 = 0 by omega, e1]
      omega
    · have e : 2 ^ i = 65536 * 2 ^ (i - 16) := by
        rw [show (65536 : Nat) = 2 ^ 16 from rfl, ← Nat.pow_add, show 16 + (i - 16) = i by omega]
      have h7 := pow_le7 (show i - 16 < 8 by omega)
      rw [e] at hn ⊢
      generalize hj : i - 16 = j at *
      obtain ⟨e1, e2⟩ := pc_bit j (by omega) (n / 65536) (by omega) (by omega)
      rw [show (n + 65536 * 2 ^ j) % 256 = n % 256 by omega, show (n + 65536 * 2 ^ j) / 256 % 256 = n / 256 % 256 by omega, show (n + 65536 * 2 ^ j) / 65536 = n / 65536 + 2 ^ j by omega, show (n / 65536 + 2 ^ j) % 256 = n / 65536 + 2 ^ j by omega, show n / 65536 % 256 = n / 65536 by omega, e1]
      omega
def cN (P : Nat → Bool) : Nat → Nat → Nat
  | 0, _ => 0
  | d + 1, i => (if P i = true then 1 else 0) + cN P d (i + 1)
theorem cF_cN {P : Nat → Bool} : ∀ (d i : Nat) (acc : Int32), cF P d i acc = acc + nI (cN P d i) := by
  intro d
  induction d with
  | zero => intro i acc; show acc = acc + nI 0; rw [nI_0, Int32.add_zero]
  | succ d ih =>
    intro i acc
    show cF P d (i + 1) (if P i = true then acc + 1 else acc) = acc + nI ((if P i = true then 1 else 0) + cN P d (i + 1))
    rw [ih]
    by_cases h : P i = true
    · rw [if_pos h, if_pos h, Int32.add_assoc, show (1 : Int32) = nI 1 from rfl, nI_add]
    · rw [if_neg h, if_neg h, Nat.zero_add]
theorem shl_n : ∀ i, i < 24 → ((1 : Int32) <<< (nI i &&& 31)) = nI (2 ^ i) := by decide +kernel
theorem nI_or {a b : Nat} (ha : a < 2 ^ 32) (hb : b < 2 ^ 32) : nI a ||| nI b = nI (a ||| b) := by
  apply Int32.toBitVec_inj.mp
  apply BitVec.eq_of_toNat_eq
  show ((nI a).toBitVec ||| (nI b).toBitVec).toNat = _
  rw [BitVec.toNat_or, pk_tn ha, pk_tn hb, pk_tn (Nat.or_lt_two_pow ha hb)]
theorem or_add {n i : Nat} (hn : n < 2 ^ i) : n ||| 2 ^ i = n + 2 ^ i := by
  have h := Nat.two_pow_add_eq_or_of_lt hn 1
  rw [Nat.mul_one] at h
  rw [Nat.or_comm, ← h, Nat.add_comm]
theorem ofF_pc {P : Nat → Bool} : ∀ (d i n : Nat), i + d ≤ 24 → n < 2 ^ i → ∃ n', ofF P d i (nI n) = nI n' ∧ n' < 2 ^ (i + d) ∧ pcount n' = pcount n + cN P d i := by
  intro d
  induction d with
  | zero => intro i n h1 h2; exact ⟨n, rfl, h2, rfl⟩
  | succ d ih =>
    intro i n h1 h2
    have hi24 : 2 ^ i ≤ 2 ^ 24 := Nat.pow_le_pow_right (by decide) (by omega)
    have e24 : (2 : Nat) ^ 24 = 16777216 := by decide
    have hs : 2 ^ (i + 1) = 2 ^ i + 2 ^ i := by rw [Nat.pow_succ]; omega
    unfold ofF cN
    by_cases h : P i = true
    · rw [if_pos h, if_pos h, shl_n i (by omega), nI_or (by omega) (by omega), or_add h2]
      obtain ⟨n', e1, e2, e3⟩ := ih (i + 1) (n + 2 ^ i) (by omega) (by omega)
      refine ⟨n', e1, by rw [show i + (d + 1) = i + 1 + d by omega]; exact e2, ?_⟩
      rw [e3, pcount_bit (by omega) h2]
      omega
    · rw [if_neg h, if_neg h]
      obtain ⟨n', e1, e2, e3⟩ := ih (i + 1) n (by omega) (by omega)
      refine ⟨n', e1, by rw [show i + (d + 1) = i + 1 + d by omega]; exact e2, ?_⟩
      rw [e3]; omega
theorem bcv_ofF {P : Nat → Bool} {d : Nat} (hd : d ≤ 24) : bcv (ofF P d 0 0) = nI (cN P d 0) := by
  obtain ⟨n', e1, e2, e3⟩ := ofF_pc (P := P) d 0 0 (by omega) (by decide)
  rw [nI_0] at e1
  have : 2 ^ (0 + d) ≤ 2 ^ 24 := Nat.pow_le_pow_right (by decide) (by omega)
  rw [e1, bcv_n (by omega), e3]
  have : pcount 0 = 0 := by decide
  rw [this, Nat.zero_add]
theorem ssh32 (x s : Int32) (k : Nat) (hs : (s.toBitVec.smod 32).toNat = k) : (x >>> s).toBitVec = x.toBitVec.sshiftRight k := by
  rw [← hs]; rfl
theorem sh_n : ∀ i, i < 32 → ((nI i &&& 31).toBitVec.smod 32).toNat = i := by decide +kernel
theorem bit_b {x : Int32} {i : Nat} (hi : i < 32) : bit x i = x.toBitVec.getLsbD i := by
  unfold bit
  have h1 : (x >>> (nI i &&& 31)) &&& (1 : Int32) = 1 ↔ (x >>> (nI i &&& 31)).toBitVec.toNat % 2 = 1 := by
    rw [pk_and (x >>> (nI i &&& 31)) 1 (m := 1) (by decide), show (1 : Int32) = nI 1 from rfl]
    have hl : (x >>> (nI i &&& 31)).toBitVec.toNat % 2 ^ 1 < 2 := Nat.mod_lt _ (by decide)
    rw [nI_eq (by omega) (by decide)]
  have h2 : decide ((x >>> (nI i &&& 31)).toBitVec.toNat % 2 = 1) = (x >>> (nI i &&& 31)).toBitVec.getLsbD 0 := by
    rw [← BitVec.testBit_toNat, Nat.testBit_zero]
  rw [show decide ((x >>> (nI i &&& 31)) &&& (1 : Int32) = 1) = decide ((x >>> (nI i &&& 31)).toBitVec.toNat % 2 = 1) from by simp only [h1], h2, ssh32 x _ i (sh_n i hi), BitVec.getLsbD_sshiftRight]
  simp [hi]
theorem ones_b : ∀ i, i < 32 → ((-1 : Int32).toBitVec.getLsbD i) = true := by decide +kernel
theorem bit_andnot {x y : Int32} {i : Nat} (hi : i < 32) : bit (x &&& (y ^^^ (-1 : Int32))) i = (bit x i && !bit y i) := by
  rw [bit_b hi, bit_b hi, bit_b hi]
  show (x.toBitVec &&& (y.toBitVec ^^^ (-1 : Int32).toBitVec)).getLsbD i = _
  rw [BitVec.getLsbD_and, BitVec.getLsbD_xor, ones_b i hi, Bool.xor_true]
