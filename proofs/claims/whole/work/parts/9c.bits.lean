/-! Counting bits: Long.bitCount of a set of rows; the class's tried. -/
theorem gw_and {a c : Nat} (ha : a < 256) (hc : c < 256) (b e : Nat) : (a + 256 * b) &&& (c + 256 * e) = (a &&& c) + 256 * (b &&& e) := by
  have h1 : ((a + 256 * b) &&& (c + 256 * e)) % 2 ^ 8 = a &&& c := by
    rw [Nat.and_mod_two_pow]
    congr 1
    · omega
    · omega
  have h2 : ((a + 256 * b) &&& (c + 256 * e)) / 2 ^ 8 = b &&& e := by
    rw [Nat.and_div_two_pow]
    congr 1
    · omega
    · omega
  omega
/-- k bytes m -/
def gw_mk (m : Nat) : Nat → Nat
  | 0 => 0
  | k + 1 => m + 256 * gw_mk m k
def gw_1 (k n : Nat) : Nat := n - ((n / 2) &&& gw_mk 85 k)
def gw_2 (k n : Nat) : Nat := (n &&& gw_mk 51 k) + ((n / 4) &&& gw_mk 51 k)
def gw_3 (k n : Nat) : Nat := (n + n / 16) &&& gw_mk 15 k
def gw_b1 (b : Nat) : Nat := b - ((b / 2) &&& 85)
def gw_b2 (b : Nat) : Nat := (b &&& 51) + ((b / 4) &&& 51)
def gw_b3 (b : Nat) : Nat := (b + b / 16) &&& 15
theorem gw_m1 : ∀ b, b < 256 → ∀ e, e < 2 → (b / 2 + 128 * e) &&& 85 = (b / 2) &&& 85 := by decide +kernel
theorem gw_m2 : ∀ b, b < 256 → ∀ e, e < 4 → (b / 4 + 64 * e) &&& 51 = (b / 4) &&& 51 := by decide +kernel
theorem gw_m3 : ∀ b, b < 256 → ∀ e, e < 16 → (b + b / 16 + 16 * e) &&& 15 = (b + b / 16) &&& 15 := by decide +kernel
theorem gw_by : ∀ b, b < 256 → gw_b1 b < 256 ∧ gw_b2 (gw_b1 b) ≤ 68 ∧ gw_b2 (gw_b1 b) % 16 ≤ 4 ∧ gw_b3 (gw_b2 (gw_b1 b)) = b % 2 + b / 2 % 2 + b / 4 % 2 + b / 8 % 2 + b / 16 % 2 + b / 32 % 2 + b / 64 % 2 + b / 128 % 2 := by decide +kernel
theorem gw_s1 {b : Nat} (hb : b < 256) (k y : Nat) : gw_1 (k + 1) (b + 256 * y) = gw_b1 b + 256 * gw_1 k y := by
  unfold gw_1 gw_b1
  show b + 256 * y - ((b + 256 * y) / 2 &&& (85 + 256 * gw_mk 85 k)) = _
  rw [show (b + 256 * y) / 2 = (b / 2 + 128 * (y % 2)) + 256 * (y / 2) by omega, gw_and (by omega) (by omega), gw_m1 b hb _ (by omega)]
  have h1 : (b / 2) &&& 85 ≤ b / 2 := Nat.and_le_left
  have h2 : (y / 2) &&& gw_mk 85 k ≤ y / 2 := Nat.and_le_left
  omega
theorem gw_s2 {b : Nat} (hb : b < 256) (k y : Nat) : gw_2 (k + 1) (b + 256 * y) = gw_b2 b + 256 * gw_2 k y := by
  unfold gw_2 gw_b2
  show ((b + 256 * y) &&& (51 + 256 * gw_mk 51 k)) + ((b + 256 * y) / 4 &&& (51 + 256 * gw_mk 51 k)) = _
  rw [show (b + 256 * y) / 4 = (b / 4 + 64 * (y % 4)) + 256 * (y / 4) by omega, gw_and (by omega) (by omega), gw_and (by omega) (by omega), gw_m2 b hb _ (by omega)]
  omega
theorem gw_s3 {b : Nat} (hb : b ≤ 68) (k y : Nat) (hy : y % 16 ≤ 4) : gw_3 (k + 1) (b + 256 * y) = gw_b3 b + 256 * gw_3 k y := by
  unfold gw_3 gw_b3
  show (b + 256 * y + (b + 256 * y) / 16) &&& (15 + 256 * gw_mk 15 k) = _
  rw [show b + 256 * y + (b + 256 * y) / 16 = (b + b / 16 + 16 * (y % 16)) + 256 * (y + y / 16) by omega, gw_and (by omega) (by omega), gw_m3 b (by omega) _ (by omega)]
theorem gw_low (k n : Nat) : gw_2 k (gw_1 k n) % 16 ≤ 4 := by
  cases k with
  | zero => unfold gw_2; simp [gw_mk]
  | succ k =>
    have e : n = n % 256 + 256 * (n / 256) := by omega
    rw [e, gw_s1 (by omega), gw_s2 (gw_by _ (by omega)).1]
    have := (gw_by (n % 256) (by omega)).2.2.1
    omega
def gw_pb (b : Nat) : Nat := b % 2 + b / 2 % 2 + b / 4 % 2 + b / 8 % 2 + b / 16 % 2 + b / 32 % 2 + b / 64 % 2 + b / 128 % 2
def gw_T (k n : Nat) : Nat := gw_3 k (gw_2 k (gw_1 k n))
theorem gw_Tb {b : Nat} (hb : b < 256) (k y : Nat) : gw_T (k + 1) (b + 256 * y) = gw_pb b + 256 * gw_T k y := by
  obtain ⟨h1, h2, h3, h4⟩ := gw_by b hb
  unfold gw_T gw_pb
  rw [gw_s1 hb, gw_s2 h1, gw_s3 h2 _ _ (gw_low _ _), h4]
theorem gw_Ts (k n : Nat) : gw_T (k + 1) n = gw_pb (n % 256) + 256 * gw_T k (n / 256) := by
  have e : n % 256 + 256 * (n / 256) = n := by omega
  have h := gw_Tb (b := n % 256) (by omega) k (n / 256)
  rw [e] at h
  exact h
theorem gw_T0 (k : Nat) : gw_T k 0 = 0 := by
  induction k with
  | zero => rfl
  | succ k ih => rw [gw_Ts]; show 0 + 256 * gw_T k 0 = 0; rw [ih]
theorem gw_T8 {n : Nat} (h : n < 2 ^ 40) : gw_T 8 n = gw_pb (n % 256) + 256 * gw_pb (n / 256 % 256) + 65536 * gw_pb (n / 65536 % 256) + 16777216 * gw_pb (n / 16777216 % 256) + 4294967296 * gw_pb (n / 4294967296 % 256) := by
  rw [gw_Ts, gw_Ts, gw_Ts, gw_Ts, gw_Ts]
  rw [show n / 256 / 256 / 256 / 256 / 256 = 0 by omega, gw_T0]
  rw [show n / 256 / 256 = n / 65536 by omega, show n / 65536 / 256 = n / 16777216 by omega, show n / 16777216 / 256 = n / 4294967296 by omega]
  omega
theorem gw_pb8 (b : Nat) : gw_pb b ≤ 8 := by unfold gw_pb; omega

/-- the sum of the bytes -/
theorem gw_q1 {a b c d e : Nat} (ha : a ≤ 8) (hb : b ≤ 8) (hc : c ≤ 8) (hd : d ≤ 8) (he : e ≤ 8) : (a + 256 * b + 65536 * c + 16777216 * d + 4294967296 * e) / 256 = b + 256 * c + 65536 * d + 16777216 * e := by omega
theorem gw_q2 {a b c d e : Nat} (ha : a ≤ 16) (hb : b ≤ 16) (hc : c ≤ 16) (hd : d ≤ 16) (he : e ≤ 8) : (a + 256 * b + 65536 * c + 16777216 * d + 4294967296 * e) / 65536 = c + 256 * d + 65536 * e := by omega
theorem gw_q3 {a b c d e : Nat} (ha : a ≤ 32) (hb : b ≤ 32) (hc : c ≤ 32) (hd : d ≤ 32) (he : e ≤ 8) : (a + 256 * b + 65536 * c + 16777216 * d + 4294967296 * e) / 4294967296 = e := by omega
theorem gw_q4 {a b c d e : Nat} (ha : a ≤ 40) : (a + 256 * b + 65536 * c + 16777216 * d + 4294967296 * e) % 128 = a := by omega
def gw_a (k z : Nat) : Nat := z + z / k
theorem gw_sum {a b c d e : Nat} (ha : a ≤ 8) (hb : b ≤ 8) (hc : c ≤ 8) (hd : d ≤ 8) (he : e ≤ 8) :
    gw_a 4294967296 (gw_a 65536 (gw_a 256 (a + 256 * b + 65536 * c + 16777216 * d + 4294967296 * e))) % 128 = a + b + c + d + e ∧ gw_a 256 (a + 256 * b + 65536 * c + 16777216 * d + 4294967296 * e) < 2 ^ 40 ∧ gw_a 65536 (gw_a 256 (a + 256 * b + 65536 * c + 16777216 * d + 4294967296 * e)) < 2 ^ 40 ∧ gw_a 4294967296 (gw_a 65536 (gw_a 256 (a + 256 * b + 65536 * c + 16777216 * d + 4294967296 * e))) < 2 ^ 40 := by
  have e1 : gw_a 256 (a + 256 * b + 65536 * c + 16777216 * d + 4294967296 * e) = (a + b) + 256 * (b + c) + 65536 * (c + d) + 16777216 * (d + e) + 4294967296 * e := by
    unfold gw_a
    rw [gw_q1 ha hb hc hd he]
    omega
  have e2 : gw_a 65536 ((a + b) + 256 * (b + c) + 65536 * (c + d) + 16777216 * (d + e) + 4294967296 * e) = (a + b + c + d) + 256 * (b + c + d + e) + 65536 * (c + d + e) + 16777216 * (d + e) + 4294967296 * e := by
    unfold gw_a
    rw [gw_q2 (by omega) (by omega) (by omega) (by omega) he]
    omega
  have e3 : gw_a 4294967296 ((a + b + c + d) + 256 * (b + c + d + e) + 65536 * (c + d + e) + 16777216 * (d + e) + 4294967296 * e) = (a + b + c + d + e) + 256 * (b + c + d + e) + 65536 * (c + d + e) + 16777216 * (d + e) + 4294967296 * e := by
    unfold gw_a
    rw [gw_q3 (by omega) (by omega) (by omega) (by omega) he]
    omega
  rw [e1, e2, e3]
  exact ⟨gw_q4 (by omega), by omega, by omega, by omega⟩
theorem gw_ct8 (f : Nat → Nat) (m : Nat) : gp_ct f (m + 8) = gp_ct f m + (f m + f (m + 1) + f (m + 2) + f (m + 3) + f (m + 4) + f (m + 5) + f (m + 6) + f (m + 7)) := by
  simp only [gp_ct]
  omega
theorem gw_d1 (n : Nat) : n % 256 % 2 = n % 2 := by omega
theorem gw_d2 (n : Nat) : n % 256 / 2 % 2 = n / 2 % 2 := by omega
theorem gw_d3 (n : Nat) : n % 256 / 4 % 2 = n / 4 % 2 := by omega
theorem gw_d4 (n : Nat) : n % 256 / 8 % 2 = n / 8 % 2 := by omega
theorem gw_d5 (n : Nat) : n % 256 / 16 % 2 = n / 16 % 2 := by omega
theorem gw_d6 (n : Nat) : n % 256 / 32 % 2 = n / 32 % 2 := by omega
theorem gw_d7 (n : Nat) : n % 256 / 64 % 2 = n / 64 % 2 := by omega
theorem gw_d8 (n : Nat) : n % 256 / 128 % 2 = n / 128 % 2 := by omega
/-- the bits of a byte of n -/
theorem gw_pbf (n m : Nat) (f : Nat → Nat) (hf : ∀ k, k < 8 → f (m + k) = n / 2 ^ (m + k) % 2) : gw_pb (n / 2 ^ m % 256) = f m + f (m + 1) + f (m + 2) + f (m + 3) + f (m + 4) + f (m + 5) + f (m + 6) + f (m + 7) := by
  unfold gw_pb
  rw [gw_d1, gw_d2, gw_d3, gw_d4, gw_d5, gw_d6, gw_d7, gw_d8, show f m = n / 2 ^ m % 2 from hf 0 (by omega), hf 1 (by omega), hf 2 (by omega), hf 3 (by omega), hf 4 (by omega), hf 5 (by omega), hf 6 (by omega), hf 7 (by omega)]
  simp only [Nat.div_div_eq_div_mul, Nat.pow_add]
theorem gw_cnt {n : Nat} (h : n < 2 ^ 40) (f : Nat → Nat) (hf : ∀ k, k < 40 → f k = n / 2 ^ k % 2) : gw_a 4294967296 (gw_a 65536 (gw_a 256 (gw_T 8 n))) % 128 = gp_ct f 40 ∧ gw_T 8 n < 2 ^ 40 ∧ gw_a 256 (gw_T 8 n) < 2 ^ 40 ∧ gw_a 65536 (gw_a 256 (gw_T 8 n)) < 2 ^ 40 ∧ gw_a 4294967296 (gw_a 65536 (gw_a 256 (gw_T 8 n))) < 2 ^ 40 := by
  rw [gw_T8 h]
  obtain ⟨h1, h2, h3, h4⟩ := gw_sum (gw_pb8 (n % 256)) (gw_pb8 (n / 256 % 256)) (gw_pb8 (n / 65536 % 256)) (gw_pb8 (n / 16777216 % 256)) (gw_pb8 (n / 4294967296 % 256))
  refine ⟨?_, ?_, h2, h3, h4⟩
  · rw [h1]
    have e0 := gw_pbf n 0 f (fun k hk => hf _ (by omega))
    have e1 := gw_pbf n 8 f (fun k hk => hf _ (by omega))
    have e2 := gw_pbf n 16 f (fun k hk => hf _ (by omega))
    have e3 := gw_pbf n 24 f (fun k hk => hf _ (by omega))
    have e4 := gw_pbf n 32 f (fun k hk => hf _ (by omega))
    rw [show n / 2 ^ 0 = n from Nat.div_one n] at e0
    rw [e0, show n / 256 = n / 2 ^ 8 from rfl, e1, show n / 65536 = n / 2 ^ 16 from rfl, e2, show n / 16777216 = n / 2 ^ 24 from rfl, e3, show n / 4294967296 = n / 2 ^ 32 from rfl, e4]
    rw [show gp_ct f 40 = gp_ct f (0 + 8 + 8 + 8 + 8 + 8) from rfl, gw_ct8, gw_ct8, gw_ct8, gw_ct8, gw_ct8]
    show _ = 0 + _ + _ + _ + _ + _
    simp only [Nat.zero_add]
  · exact Nat.lt_of_le_of_lt (by unfold gw_a; omega) h2
-- numbers of 64 bits
abbrev gw_u (x : Int64) : Nat := x.toBitVec.toNat
theorem gw_uand (a b : Int64) : gw_u (a &&& b) = gw_u a &&& gw_u b := by
  show (a &&& b).toBitVec.toNat = _
  rw [Int64.toBitVec_and, BitVec.toNat_and]
theorem gw_uadd {a b : Int64} (h : gw_u a + gw_u b < 2 ^ 64) : gw_u (a + b) = gw_u a + gw_u b := by
  show (a + b).toBitVec.toNat = _
  rw [Int64.toBitVec_add, BitVec.toNat_add, Nat.mod_eq_of_lt h]
theorem gw_usub {a b : Int64} (h : gw_u b ≤ gw_u a) : gw_u (a - b) = gw_u a - gw_u b := by
  show (a - b).toBitVec.toNat = _
  rw [Int64.toBitVec_sub, BitVec.toNat_sub_of_le h]
theorem gw_ulu (x : Int64) (k : Nat) (y : Int32) (hy : (y.toInt64.toUInt64 &&& Int64.toUInt64 63) = UInt64.ofNat k) (hk : k < 64) : gw_u (gc_lu x y) = gw_u x / 2 ^ k := by
  unfold gc_lu
  rw [hy]
  show (x.toUInt64 >>> UInt64.ofNat k).toNat = _
  rw [UInt64.toNat_shiftRight, Nat.shiftRight_eq_div_pow]
  have e : (UInt64.ofNat k).toNat % 64 = k := by
    show k % 2 ^ 64 % 64 = k
    omega
  rw [e]
  rfl
theorem gw_b1' (x : Int64) : gw_u (gc_b1 x) = gw_1 8 (gw_u x) := by
  unfold gc_b1 gw_1
  have e : gw_u (gc_lu x 1 &&& 6148914691236517205) = (gw_u x / 2) &&& gw_mk 85 8 := by
    rw [gw_uand, gw_ulu x 1 1 (by decide) (by decide)]
    rfl
  rw [gw_usub, e]
  rw [e]
  exact Nat.le_trans Nat.and_le_left (Nat.div_le_self _ _)
theorem gw_b2' (x : Int64) : gw_u (gc_b2 x) = gw_2 8 (gw_u x) := by
  unfold gc_b2 gw_2
  have e1 : gw_u (x &&& 3689348814741910323) = gw_u x &&& gw_mk 51 8 := by rw [gw_uand]; rfl
  have e2 : gw_u (gc_lu x 2 &&& 3689348814741910323) = (gw_u x / 4) &&& gw_mk 51 8 := by
    rw [gw_uand, gw_ulu x 2 2 (by decide) (by decide)]
    rfl
  rw [gw_uadd, e1, e2]
  rw [e1, e2]
  have h1 : gw_u x &&& gw_mk 51 8 ≤ gw_mk 51 8 := Nat.and_le_right
  have h2 : gw_u x / 4 &&& gw_mk 51 8 ≤ gw_mk 51 8 := Nat.and_le_right
  have h3 : gw_mk 51 8 = 3689348814741910323 := rfl
  omega
theorem gw_b3' (x : Int64) (h : gw_u x < 2 ^ 63) : gw_u (gc_b3 x) = gw_3 8 (gw_u x) := by
  unfold gc_b3 gw_3
  have e2 : gw_u (gc_lu x 4) = gw_u x / 16 := gw_ulu x 4 4 (by decide) (by decide)
  rw [gw_uand, gw_uadd, e2]
  · rfl
  · rw [e2]; omega
theorem gw_b4' (x : Int64) (k : Nat) (y : Int32) (hy : (y.toInt64.toUInt64 &&& Int64.toUInt64 63) = UInt64.ofNat k) (hk : k < 64) (h : gw_u x < 2 ^ 63) : gw_u (gc_b4 y x) = gw_a (2 ^ k) (gw_u x) := by
  unfold gc_b4 gw_a
  have e2 : gw_u (gc_lu x y) = gw_u x / 2 ^ k := gw_ulu x k y hy hk
  rw [gw_uadd, e2]
  rw [e2]
  have := Nat.div_le_self (gw_u x) (2 ^ k)
  omega
theorem gw_low7 (x : Int64) : x.toInt32 &&& 127 = nI (gw_u x % 128) := by
  apply Int32.toBitVec_inj.mp
  apply BitVec.eq_of_toNat_eq
  rw [Int32.toBitVec_and, BitVec.toNat_and]
  have e1 : x.toInt32.toBitVec.toNat = gw_u x % 2 ^ 32 := by
    rw [Int64.toBitVec_toInt32, BitVec.signExtend_eq_setWidth_of_le _ (by decide), BitVec.toNat_setWidth]
  rw [e1, show (127 : Int32).toBitVec.toNat = 2 ^ 7 - 1 from rfl, Nat.and_two_pow_sub_one_eq_mod]
  have e3 : (nI (gw_u x % 128)).toBitVec.toNat = gw_u x % 128 := by
    show (Int32.ofNat (gw_u x % 128)).toBitVec.toNat = _
    rw [Int32.toBitVec_ofNat', BitVec.toNat_ofNat, Nat.mod_eq_of_lt (by omega)]
  rw [e3]
  omega
theorem gw_2lt (x : Int64) : gw_2 8 (gw_u x) < 2 ^ 63 := by
  unfold gw_2
  have h1 : gw_u x &&& gw_mk 51 8 ≤ gw_mk 51 8 := Nat.and_le_right
  have h2 : gw_u x / 4 &&& gw_mk 51 8 ≤ gw_mk 51 8 := Nat.and_le_right
  have h3 : gw_mk 51 8 = 3689348814741910323 := rfl
  omega
/-- Long.bitCount of a set -/
theorem gw_bits {x : Int64} {v : Nat → Bool} (h : gp_L x v) : gc_bits x = nI (gp_ct (fun k => (v k).toNat) 40) := by
  have hb : ∀ k, (gw_u x).testBit k = (decide (k < 40) && v k) := fun k => by
    by_cases hk : k < 64
    · exact h k hk
    · have e1 : (gw_u x).testBit k = false := Nat.testBit_lt_two_pow (Nat.lt_of_lt_of_le x.toBitVec.isLt (Nat.pow_le_pow_right (by decide) (by omega)))
      have e2 : decide (k < 40) = false := decide_eq_false (by omega)
      rw [e1, e2]; rfl
  have hn : gw_u x < 2 ^ 40 := Nat.lt_pow_two_of_testBit _ (fun i hi => by
    rw [hb i, show decide (i < 40) = false from decide_eq_false (by omega)]; rfl)
  obtain ⟨c0, c1, c2, c3, c4⟩ := gw_cnt hn (fun k => (v k).toNat) (fun k hk => by
    have e := hb k
    rw [show decide (k < 40) = true from decide_eq_true hk, Bool.true_and] at e
    show (v k).toNat = _
    rw [← e, Nat.toNat_testBit])
  have u3 : gw_u (gc_b3 (gc_b2 (gc_b1 x))) = gw_T 8 (gw_u x) := by
    rw [gw_b3' _ (by rw [gw_b2']; exact gw_2lt _), gw_b2', gw_b1']; rfl
  have u4 : gw_u (gc_b4 8 (gc_b3 (gc_b2 (gc_b1 x)))) = gw_a 256 (gw_T 8 (gw_u x)) := by
    rw [gw_b4' _ 8 8 (by decide) (by decide) (by rw [u3]; omega), u3]
  have u5 : gw_u (gc_b4 16 (gc_b4 8 (gc_b3 (gc_b2 (gc_b1 x))))) = gw_a 65536 (gw_a 256 (gw_T 8 (gw_u x))) := by
    rw [gw_b4' _ 16 16 (by decide) (by decide) (by rw [u4]; omega), u4]
  have u6 : gw_u (gc_b4 32 (gc_b4 16 (gc_b4 8 (gc_b3 (gc_b2 (gc_b1 x)))))) = gw_a 4294967296 (gw_a 65536 (gw_a 256 (gw_T 8 (gw_u x)))) := by
    rw [gw_b4' _ 32 32 (by decide) (by decide) (by rw [u5]; omega), u5]
  unfold gc_bits
  rw [gw_low7, u6, c0]
section GCTR
variable {d bc bs : Nat} {S : Nat → Nat → Int32} {P : Nat → Option Nat} {R : Nat → Int64} {E : gx_H} {Q : gx_R → Prop}
/-- tried -/
theorem gc_tried {cp : List (Nat × Nat)} {f : Nat} {v : Nat → Bool} (hl : gc_lt S R cp f v) (hq : Q (.inl (some (.int (nI (gp_ct (fun k => (v k).toNat) 40)))), gc_h S P R E)) : gx_X gc_P (d + 2) 12 (0, [some (.ref 0)], [], gc_h S P R E, bc, bs) Q := by
  rcases hl with ⟨h7, rfl, rfl, rfl⟩ | ⟨w, hw, h7, h2, h3, h4, h5, h6, h8⟩
  · exact gd_M_tried_0 ⟨fun h => absurd h7 h, fun _ => gd_M_tried_23 hq⟩
  · refine gd_M_tried_0 ⟨fun _ => ⟨0, 0, ⟨Nat.zero_le _, Nat.zero_le _⟩, gd_C_pairsOf_0 ?_⟩, fun h => ?_⟩
    · rw [h7, nI_clamp (show w < 2 ^ 31 by omega), gw_bits h4]
      exact ⟨vp_in_nI hw (by decide), gd_M_tried_23 hq⟩
    · rw [h7] at h
      have := nI_pos (n := w) (by omega)
      rw [h] at this
      exact absurd (by decide) this
end GCTR
