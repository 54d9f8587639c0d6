/-! counting bits by halves -/
def mB (b : Nat) : Nat → Nat
  | 0 => 0
  | k + 1 => 256 * mB b k + b
def pc1 (k n : Nat) : Nat := n - (n / 2 &&& mB 85 k)
def pc2 (k x : Nat) : Nat := (x &&& mB 51 k) + (x / 4 &&& mB 51 k)
def pc3 (k x : Nat) : Nat := (x + x / 16) &&& mB 15 k
def PC (m n : Nat) : Nat := fb_ct (fun i => n.testBit i) m
def q2b (a : Nat) : Nat := pc2 1 (pc1 1 a)
def pS : Nat → Nat → Nat
  | 0, _ => 0
  | k + 1, n => 256 * pS k (n / 256) + PC 8 (n % 256)
def sS : Nat → Nat → Nat
  | 0, _ => 0
  | k + 1, n => sS k (n / 256) + PC 8 (n % 256)
theorem land_b {q p M m : Nat} (hp : p < 256) (hm : m < 256) : (256 * q + p) &&& (256 * M + m) = 256 * (q &&& M) + (p &&& m) := by
  have hpm : p &&& m < 2 ^ 8 := Nat.lt_of_le_of_lt Nat.and_le_left hp
  refine Nat.eq_of_testBit_eq (fun i => ?_)
  have e1 := Nat.testBit_two_pow_mul_add q (i := 8) hp i
  have e2 := Nat.testBit_two_pow_mul_add M (i := 8) hm i
  have e3 := Nat.testBit_two_pow_mul_add (q &&& M) (i := 8) hpm i
  rw [show (2 : Nat) ^ 8 = 256 from rfl] at e1 e2 e3
  rw [Nat.testBit_and, e1, e2, e3]
  split
  · rw [Nat.testBit_and]
  · rw [Nat.testBit_and]
theorem pc_d1 : ∀ c, c < 2 → ∀ a, a < 256 → (128 * c + a / 2) &&& 85 = a / 2 &&& 85 := by decide +kernel
theorem pc_d2 : ∀ c, c < 4 → ∀ a, a < 256 → (64 * c + a / 4) &&& 51 = a / 4 &&& 51 := by decide +kernel
theorem pc_d3 : ∀ a, a < 256 → pc1 1 a < 256 ∧ q2b a ≤ 68 ∧ q2b a % 16 ≤ 4 ∧ (q2b a + q2b a / 16) &&& 15 = PC 8 a := by decide +kernel
theorem pc_1 (k b a : Nat) (ha : a < 256) : pc1 (k + 1) (256 * b + a) = 256 * pc1 k b + pc1 1 a := by
  unfold pc1
  show 256 * b + a - ((256 * b + a) / 2 &&& (256 * mB 85 k + 85)) = 256 * (b - (b / 2 &&& mB 85 k)) + (a - (a / 2 &&& 85))
  have e : (256 * b + a) / 2 = 256 * (b / 2) + (128 * (b % 2) + a / 2) := by omega
  rw [e, land_b (by omega) (by omega), pc_d1 (b % 2) (by omega) a ha]
  have h1 : (b / 2 &&& mB 85 k) ≤ b / 2 := Nat.and_le_left
  have h2 : (a / 2 &&& 85) ≤ a / 2 := Nat.and_le_left
  omega
theorem pc_2 (k b a : Nat) (ha : a < 256) : pc2 (k + 1) (256 * b + a) = 256 * pc2 k b + pc2 1 a := by
  unfold pc2
  show (256 * b + a &&& (256 * mB 51 k + 51)) + ((256 * b + a) / 4 &&& (256 * mB 51 k + 51)) = 256 * ((b &&& mB 51 k) + (b / 4 &&& mB 51 k)) + ((a &&& 51) + (a / 4 &&& 51))
  have e : (256 * b + a) / 4 = 256 * (b / 4) + (64 * (b % 4) + a / 4) := by omega
  rw [e, land_b (by omega) (by omega), land_b (by omega) (by omega), pc_d2 (b % 4) (by omega) a ha]
  omega
theorem pc_3 (k b a : Nat) (ha : a ≤ 68) (hb : b % 16 ≤ 4) : pc3 (k + 1) (256 * b + a) = 256 * pc3 k b + ((a + a / 16) &&& 15) := by
  unfold pc3
  show (256 * b + a + (256 * b + a) / 16) &&& (256 * mB 15 k + 15) = 256 * ((b + b / 16) &&& mB 15 k) + ((a + a / 16) &&& 15)
  have e : 256 * b + a + (256 * b + a) / 16 = 256 * (b + b / 16) + (a + 16 * (b % 16) + a / 16) := by omega
  rw [e, land_b (by omega) (by omega)]
  have f : ∀ x, x &&& 15 = x % 16 := fun x => Nat.and_two_pow_sub_one_eq_mod x 4
  rw [f, f]
  omega
theorem pc_T (k n : Nat) : pc2 (k + 1) (pc1 (k + 1) n) = 256 * pc2 k (pc1 k (n / 256)) + q2b (n % 256) := by
  have h : n % 256 < 256 := Nat.mod_lt _ (by omega)
  have e : n = 256 * (n / 256) + n % 256 := by omega
  rw [show pc1 (k + 1) n = pc1 (k + 1) (256 * (n / 256) + n % 256) by rw [← e], pc_1 _ _ _ h, pc_2 _ _ _ (pc_d3 _ h).1]
  rfl
theorem pc_G : ∀ k n, pc2 k (pc1 k n) % 16 ≤ 4 ∧ pc3 k (pc2 k (pc1 k n)) = pS k n := by
  intro k
  induction k with
  | zero => intro n; unfold pc2 pc3 mB pS; simp
  | succ k ih =>
    intro n
    have h : n % 256 < 256 := Nat.mod_lt _ (by omega)
    obtain ⟨d1, d2, d3, d4⟩ := pc_d3 _ h
    rw [pc_T]
    refine ⟨by omega, ?_⟩
    rw [pc_3 _ _ _ d2 (ih _).1, (ih _).2, d4]
    rfl
theorem PC_8 (a : Nat) : PC 8 a ≤ 8 := fb_ct_le _ _
theorem PC_split (k n : Nat) : PC (8 + k) n = PC 8 (n % 256) + PC k (n / 256) := by
  unfold PC
  rw [fb_ct_split]
  congr 1
  · refine fb_ct_cong (fun i hi => ?_)
    have := Nat.testBit_mod_two_pow n 8 i
    rw [show (2 : Nat) ^ 8 = 256 from rfl] at this
    rw [this, decide_eq_true hi, Bool.true_and]
  · refine fb_ct_cong (fun i hi => ?_)
    have := @Nat.testBit_div_two_pow 8 n i
    rw [show (2 : Nat) ^ 8 = 256 from rfl] at this
    rw [this, Nat.add_comm]
theorem sS_PC : ∀ k n, sS k n = PC (8 * k) n := by
  intro k
  induction k with
  | zero => intro n; rfl
  | succ k ih =>
    intro n
    rw [show 8 * (k + 1) = 8 + 8 * k by omega, PC_split]
    show sS k (n / 256) + PC 8 (n % 256) = _
    rw [ih]; omega
theorem PC_big {k m n : Nat} (h : n < 2 ^ k) (hm : k ≤ m) : PC m n = PC k n := by
  unfold PC
  obtain ⟨d, rfl⟩ : ∃ d, m = k + d := ⟨m - k, by omega⟩
  rw [fb_ct_split]
  have : fb_ct (fun i => n.testBit (k + i)) d = 0 := fb_ct_zero.mpr (fun i hi => Nat.testBit_lt_two_pow (Nat.lt_of_lt_of_le h (Nat.pow_le_pow_right (by omega) (by omega))))
  omega
theorem pS_4 (n : Nat) : ∃ Y1 Y2 c0 c1 c2 c3, c0 ≤ 8 ∧ c1 ≤ 8 ∧ c2 ≤ 8 ∧ c3 ≤ 8 ∧ pS 4 n = 256 * Y1 + c0 ∧ Y1 = 256 * Y2 + c1 ∧ Y2 = 256 * c3 + c2 ∧ sS 4 n = c3 + c2 + c1 + c0 := ⟨pS 3 (n / 256), pS 2 (n / 256 / 256), PC 8 (n % 256), PC 8 (n / 256 % 256), PC 8 (n / 256 / 256 % 256), PC 8 (n / 256 / 256 / 256 % 256), PC_8 _, PC_8 _, PC_8 _, PC_8 _, rfl, rfl, by simp only [pS, Nat.mul_zero, Nat.zero_add], by simp only [sS, Nat.zero_add]⟩
theorem pS_8 (n : Nat) : ∃ Y1 Y2 Y3 Y4 Y5 Y6 c0 c1 c2 c3 c4 c5 c6 c7, (c0 ≤ 8 ∧ c1 ≤ 8 ∧ c2 ≤ 8 ∧ c3 ≤ 8 ∧ c4 ≤ 8 ∧ c5 ≤ 8 ∧ c6 ≤ 8 ∧ c7 ≤ 8) ∧ (pS 8 n = 256 * Y1 + c0 ∧ Y1 = 256 * Y2 + c1 ∧ Y2 = 256 * Y3 + c2 ∧ Y3 = 256 * Y4 + c3 ∧ Y4 = 256 * Y5 + c4 ∧ Y5 = 256 * Y6 + c5 ∧ Y6 = 256 * c7 + c6) ∧ sS 8 n = c7 + c6 + c5 + c4 + c3 + c2 + c1 + c0 := ⟨pS 7 (n / 256), pS 6 (n / 256 / 256), pS 5 (n / 256 / 256 / 256), pS 4 (n / 256 / 256 / 256 / 256), pS 3 (n / 256 / 256 / 256 / 256 / 256), pS 2 (n / 256 / 256 / 256 / 256 / 256 / 256), PC 8 (n % 256), PC 8 (n / 256 % 256), PC 8 (n / 256 / 256 % 256), PC 8 (n / 256 / 256 / 256 % 256), PC 8 (n / 256 / 256 / 256 / 256 % 256), PC 8 (n / 256 / 256 / 256 / 256 / 256 % 256), PC 8 (n / 256 / 256 / 256 / 256 / 256 / 256 % 256), PC 8 (n / 256 / 256 / 256 / 256 / 256 / 256 / 256 % 256), ⟨PC_8 _, PC_8 _, PC_8 _, PC_8 _, PC_8 _, PC_8 _, PC_8 _, PC_8 _⟩, ⟨rfl, rfl, rfl, rfl, rfl, rfl, by simp only [pS, Nat.mul_zero, Nat.zero_add]⟩, by simp only [sS, Nat.zero_add]⟩
theorem dv256 {x a c : Nat} (h : x = 256 * a + c) (hc : c < 256) : x / 256 = a := by omega
theorem dv2 {x a b c d : Nat} (h : x = 256 * a + c) (h2 : a = 256 * b + d) (hc : c < 256) (hd : d < 256) : x / 65536 = b := by omega
theorem dv4 {x a b e f c0 c1 c2 c3 : Nat} (h : x = 256 * a + c0) (h2 : a = 256 * b + c1) (h3 : b = 256 * e + c2) (h4 : e = 256 * f + c3) (d0 : c0 < 256) (d1 : c1 < 256) (d2 : c2 < 256) (d3 : c3 < 256) : x / 4294967296 = f := by
  have e1 : x / 65536 = b := dv2 h h2 d0 d1
  have e2 : b / 65536 = f := dv2 h3 h4 d2 d3
  rw [show 4294967296 = 65536 * 65536 from rfl, ← Nat.div_div_eq_div_mul, e1, e2]
theorem sum8 {y Y1 Y2 Y3 Y4 Y5 Y6 c0 c1 c2 c3 c4 c5 c6 c7 : Nat} (b : c0 ≤ 8 ∧ c1 ≤ 8 ∧ c2 ≤ 8 ∧ c3 ≤ 8 ∧ c4 ≤ 8 ∧ c5 ≤ 8 ∧ c6 ≤ 8 ∧ c7 ≤ 8) (h : y = 256 * Y1 + c0 ∧ Y1 = 256 * Y2 + c1 ∧ Y2 = 256 * Y3 + c2 ∧ Y3 = 256 * Y4 + c3 ∧ Y4 = 256 * Y5 + c4 ∧ Y5 = 256 * Y6 + c5 ∧ Y6 = 256 * c7 + c6) : (y + y / 256 + (y + y / 256) / 65536 + (y + y / 256 + (y + y / 256) / 65536) / 4294967296) % 128 = c7 + c6 + c5 + c4 + c3 + c2 + c1 + c0 := by
  obtain ⟨b0, b1, b2, b3, b4, b5, b6, b7⟩ := b
  obtain ⟨h0, h1, h2, h3, h4, h5, h6⟩ := h
  have e1 : y / 256 = Y1 := dv256 h0 (by omega)
  rw [e1]
  have z0 : y + Y1 = 256 * (Y1 + Y2) + (c0 + c1) := by clear h2 h3 h4 h5 h6; omega
  have z1 : Y1 + Y2 = 256 * (Y2 + Y3) + (c1 + c2) := by clear h3 h4 h5 h6 h0 z0; omega
  have z2 : Y2 + Y3 = 256 * (Y3 + Y4) + (c2 + c3) := by clear h4 h5 h6 h0 h1 z0 z1; omega
  have z3 : Y3 + Y4 = 256 * (Y4 + Y5) + (c3 + c4) := by clear h5 h6 h0 h1 h2 z0 z1 z2; omega
  have z4 : Y4 + Y5 = 256 * (Y5 + Y6) + (c4 + c5) := by clear h6 h0 h1 h2 h3 z0 z1 z2 z3; omega
  have z5 : Y5 + Y6 = 256 * (Y6 + c7) + (c5 + c6) := by clear h0 h1 h2 h3 h4 z0 z1 z2 z3 z4; omega
  have z6 : Y6 + c7 = 256 * c7 + (c6 + c7) := by clear h0 h1 h2 h3 h4 h5 z0 z1 z2 z3 z4 z5; omega
  have e2 : (y + Y1) / 65536 = Y2 + Y3 := dv2 z0 z1 (by omega) (by omega)
  rw [e2]
  generalize y + Y1 = Z0 at *
  generalize Y1 + Y2 = Z1 at *
  generalize Y2 + Y3 = Z2 at *
  generalize Y3 + Y4 = Z3 at *
  generalize Y4 + Y5 = Z4 at *
  generalize Y5 + Y6 = Z5 at *
  generalize Y6 + c7 = Z6 at *
  clear h0 h1 h2 h3 h4 h5 h6 e1 e2
  have v0 : Z0 + Z2 = 256 * (Z1 + Z3) + (c0 + c1 + c2 + c3) := by clear z1 z3 z4 z5 z6; omega
  have v1 : Z1 + Z3 = 256 * (Z2 + Z4) + (c1 + c2 + c3 + c4) := by clear z0 z2 z4 z5 z6 v0; omega
  have v2 : Z2 + Z4 = 256 * (Z3 + Z5) + (c2 + c3 + c4 + c5) := by clear z0 z1 z3 z5 z6 v0 v1; omega
  have v3 : Z3 + Z5 = 256 * (Z4 + Z6) + (c3 + c4 + c5 + c6) := by clear z0 z1 z2 z4 z6 v0 v1 v2; omega
  have v4 : Z4 + Z6 = 256 * (Z5 + c7) + (c4 + c5 + c6 + c7) := by clear z0 z1 z2 z3 z5 v0 v1 v2 v3; omega
  have e3 : (Z0 + Z2) / 4294967296 = Z4 + Z6 := dv4 v0 v1 v2 v3 (by omega) (by omega) (by omega) (by omega)
  rw [e3]
  clear z0 z1 z2 z3 z4 z5 z6 v1 v2 v3 e3
  omega
theorem pS8_lt {y Y1 Y2 Y3 Y4 Y5 Y6 c0 c1 c2 c3 c4 c5 c6 c7 : Nat} (b : c0 ≤ 8 ∧ c1 ≤ 8 ∧ c2 ≤ 8 ∧ c3 ≤ 8 ∧ c4 ≤ 8 ∧ c5 ≤ 8 ∧ c6 ≤ 8 ∧ c7 ≤ 8) (h : y = 256 * Y1 + c0 ∧ Y1 = 256 * Y2 + c1 ∧ Y2 = 256 * Y3 + c2 ∧ Y3 = 256 * Y4 + c3 ∧ Y4 = 256 * Y5 + c4 ∧ Y5 = 256 * Y6 + c5 ∧ Y6 = 256 * c7 + c6) : y < 2 ^ 60 := by
  obtain ⟨b0, b1, b2, b3, b4, b5, b6, b7⟩ := b
  obtain ⟨h0, h1, h2, h3, h4, h5, h6⟩ := h
  have k6 : Y6 ≤ 2100 := by omega
  have k5 : Y5 ≤ 540000 := by clear h0 h1 h2 h3 h4 h6; omega
  have k4 : Y4 ≤ 140000000 := by clear h0 h1 h2 h3 h5 h6; omega
  have k3 : Y3 ≤ 36000000000 := by clear h0 h1 h2 h4 h5 h6; omega
  have k2 : Y2 ≤ 9300000000000 := by clear h0 h1 h3 h4 h5 h6; omega
  have k1 : Y1 ≤ 2400000000000000 := by clear h0 h2 h3 h4 h5 h6; omega
  clear h1 h2 h3 h4 h5 h6
  omega
theorem pc1_le (k n : Nat) : pc1 k n ≤ n := Nat.sub_le _ _
theorem pc2_le (k n : Nat) : pc2 k n ≤ n + n / 4 := by
  unfold pc2
  have h1 : n &&& mB 51 k ≤ n := Nat.and_le_left
  have h2 : n / 4 &&& mB 51 k ≤ n / 4 := Nat.and_le_left
  omega
theorem mB_15 : mB 15 4 = 252645135 ∧ mB 15 8 = 1085102592571150095 ∧ mB 51 8 = 3689348814741910323 ∧ mB 51 4 = 858993459 := by decide
theorem pc3_le (k n : Nat) : pc3 k n ≤ mB 15 k := Nat.and_le_right
theorem e_bitCount {N n : Nat} {hi : HI} {hl : HL} (hn : n < 65536) : f_Integer_bitCount N (nI n) hi hl = some (nI (popN n), hi, hl) := by
  have l1 := pc1_le 4 n
  have l2 := pc2_le 4 (pc1 4 n)
  have e1 : nI n - ((((nI n).toUInt32 >>> (Int32.toUInt32 1 &&& Int32.toUInt32 31)).toInt32) &&& 1431655765) = nI (pc1 4 n) := by
    have s : ((nI n).toUInt32 >>> (Int32.toUInt32 1 &&& Int32.toUInt32 31)).toInt32 = nI (n / 2) := pk_ushrN (by omega) 1 1 (by decide)
    rw [s, show (1431655765 : Int32) = nI (mB 85 4) by decide, fa_and]
    exact pk_sub (Nat.le_trans Nat.and_le_left (Nat.div_le_self _ _))
  have e2 : (nI (pc1 4 n) &&& 858993459) + ((((nI (pc1 4 n)).toUInt32 >>> (Int32.toUInt32 2 &&& Int32.toUInt32 31)).toInt32) &&& 858993459) = nI (pc2 4 (pc1 4 n)) := by
    have s : ((nI (pc1 4 n)).toUInt32 >>> (Int32.toUInt32 2 &&& Int32.toUInt32 31)).toInt32 = nI (pc1 4 n / 4) := pk_ushrN (by omega) 2 2 (by decide)
    rw [s, show (858993459 : Int32) = nI (mB 51 4) by decide, fa_and, fa_and, nI_add]; rfl
  have e3 : (nI (pc2 4 (pc1 4 n)) + (((nI (pc2 4 (pc1 4 n))).toUInt32 >>> (Int32.toUInt32 4 &&& Int32.toUInt32 31)).toInt32)) &&& 252645135 = nI (pS 4 n) := by
    have s : ((nI (pc2 4 (pc1 4 n))).toUInt32 >>> (Int32.toUInt32 4 &&& Int32.toUInt32 31)).toInt32 = nI (pc2 4 (pc1 4 n) / 16) := pk_ushrN (by omega) 4 4 (by decide)
    rw [s, show (252645135 : Int32) = nI (mB 15 4) by decide, nI_add, fa_and, ← (pc_G 4 n).2]; rfl
  obtain ⟨Y1, Y2, c0, c1, c2, c3, b0, b1, b2, b3, ep, f1, f2, es⟩ := pS_4 n
  have e4 : nI (pS 4 n) + (((nI (pS 4 n)).toUInt32 >>> (Int32.toUInt32 8 &&& Int32.toUInt32 31)).toInt32) = nI (pS 4 n + pS 4 n / 256) := by
    have s : ((nI (pS 4 n)).toUInt32 >>> (Int32.toUInt32 8 &&& Int32.toUInt32 31)).toInt32 = nI (pS 4 n / 256) := pk_ushrN (by omega) 8 8 (by decide)
    rw [s, nI_add]
  have e5 : nI (pS 4 n + pS 4 n / 256) + (((nI (pS 4 n + pS 4 n / 256)).toUInt32 >>> (Int32.toUInt32 16 &&& Int32.toUInt32 31)).toInt32) = nI (pS 4 n + pS 4 n / 256 + (pS 4 n + pS 4 n / 256) / 65536) := by
    have s : ((nI (pS 4 n + pS 4 n / 256)).toUInt32 >>> (Int32.toUInt32 16 &&& Int32.toUInt32 31)).toInt32 = nI ((pS 4 n + pS 4 n / 256) / 65536) := pk_ushrN (by omega) 16 16 (by decide)
    rw [s, nI_add]
  unfold f_Integer_bitCount
  rw [e1, e2, e3, e4, e5]
  have e6 : nI (pS 4 n + pS 4 n / 256 + (pS 4 n + pS 4 n / 256) / 65536) &&& 63 = nI (popN n) := by
    rw [show (63 : Int32) = nI (2 ^ 6 - 1) by decide, fa_mask]
    congr 1
    have : popN n = sS 4 n := by
      rw [sS_PC]
      exact (PC_big (k := 16) hn (by decide)).symm
    rw [this, es]
    have q1 : pS 4 n / 256 = Y1 := dv256 ep (by omega)
    rw [q1]
    have z0 : pS 4 n + Y1 = 256 * (Y1 + Y2) + (c0 + c1) := by omega
    have z1 : Y1 + Y2 = 256 * (Y2 + c3) + (c1 + c2) := by omega
    have q2 : (pS 4 n + Y1) / 65536 = Y2 + c3 := dv2 z0 z1 (by omega) (by omega)
    rw [q2]
    omega
  rw [e6]
theorem m_bits {N n : Nat} {hi : HI} {hl : HL} (hN : 70000 ≤ N) (hn : n < 65536) : f_MD_bits N (nI n) hi hl = some (nI (popN n), hi, hl) := by
  have key : wp (lpN (fun s => B_MD_bits_4 N (nI n) s.1 s.2.1 s.2.2.1 s.2.2.2) N (0, 0, hi, hl)) (fun x => x = (nI (popN n), hi, hl)) := by
    refine wp_for 16 (fun i s => s = (nI (PC i n), nI i, hi, hl)) ?_ ?_ (i := 0) (by omega) rfl (by omega)
    · rintro i s hi1 rfl
      unfold B_MD_bits_4
      dsimp only
      refine wp_neg (nI_ge (b := 16) hi1 (by omega)) ?_
      rw [wp_some]
      show (nI (PC i n) + ((nI n >>> (nI i &&& nI 31)) &&& nI 1), nI i + 1, hi, hl) = _
      rw [ni_shr (by omega) (by omega), fa_and, nI_add, nI_1, Nat.and_one_is_mod]
      congr 2
      show _ = PC i n + (if n.testBit i = true then 1 else 0)
      rw [Nat.testBit_eq_decide_div_mod_eq]
      by_cases q : n / 2 ^ i % 2 = 1
      · rw [q]; simp
      · have : n / 2 ^ i % 2 = 0 := by omega
        rw [this]; simp
    · rintro s rfl
      unfold B_MD_bits_4
      dsimp only
      refine wp_pos (nI_le (a := 16) (b := 16) (by omega) (by omega)) ?_
      rw [wp_some]; rfl
  obtain ⟨x, h1, rfl⟩ := key
  unfold f_MD_bits
  rw [h1]
  rfl
