theorem e_bitCountL {N n : Nat} {hi : HI} {hl : HL} (hn : n < 2 ^ 64) : f_Long_bitCount N (lN n) hi hl = some (nI (PC 64 n), hi, hl) := by
  have l1 := pc1_le 8 n
  have m5 : mB 51 8 = 3689348814741910323 := mB_15.2.2.1
  have l2 : pc2 8 (pc1 8 n) ≤ 2 * 3689348814741910323 := by
    unfold pc2
    have h1 : pc1 8 n &&& mB 51 8 ≤ mB 51 8 := Nat.and_le_right
    have h2 : pc1 8 n / 4 &&& mB 51 8 ≤ mB 51 8 := Nat.and_le_right
    omega
  have e1 : lN n - ((((lN n).toUInt64 >>> ((Int32.toInt64 1).toUInt64 &&& Int64.toUInt64 63)).toInt64) &&& 6148914691236517205) = lN (pc1 8 n) := by
    have s : ((lN n).toUInt64 >>> ((Int32.toInt64 1).toUInt64 &&& Int64.toUInt64 63)).toInt64 = lN (n / 2) := wb_shr (k := 1) hn (by decide)
    rw [s, show (6148914691236517205 : Int64) = lN (mB 85 8) by decide, fb_andL]
    exact lN_sub (Nat.le_trans Nat.and_le_left (Nat.div_le_self _ _))
  have e2 : (lN (pc1 8 n) &&& 3689348814741910323) + ((((lN (pc1 8 n)).toUInt64 >>> ((Int32.toInt64 2).toUInt64 &&& Int64.toUInt64 63)).toInt64) &&& 3689348814741910323) = lN (pc2 8 (pc1 8 n)) := by
    have s : ((lN (pc1 8 n)).toUInt64 >>> ((Int32.toInt64 2).toUInt64 &&& Int64.toUInt64 63)).toInt64 = lN (pc1 8 n / 4) := wb_shr (k := 2) (by omega) (by decide)
    rw [s, show (3689348814741910323 : Int64) = lN (mB 51 8) by decide, fb_andL, fb_andL, lN_add]; rfl
  have e3 : (lN (pc2 8 (pc1 8 n)) + (((lN (pc2 8 (pc1 8 n))).toUInt64 >>> ((Int32.toInt64 4).toUInt64 &&& Int64.toUInt64 63)).toInt64)) &&& 1085102592571150095 = lN (pS 8 n) := by
    have s : ((lN (pc2 8 (pc1 8 n))).toUInt64 >>> ((Int32.toInt64 4).toUInt64 &&& Int64.toUInt64 63)).toInt64 = lN (pc2 8 (pc1 8 n) / 16) := wb_shr (k := 4) (by omega) (by decide)
    rw [s, show (1085102592571150095 : Int64) = lN (mB 15 8) by decide, lN_add, fb_andL, ← (pc_G 8 n).2]; rfl
  obtain ⟨Y1, Y2, Y3, Y4, Y5, Y6, c0, c1, c2, c3, c4, c5, c6, c7, hb, hc, es⟩ := pS_8 n
  have lt := pS8_lt hb hc
  have s8 := sum8 hb hc
  rw [← es, sS_PC 8 n] at s8
  clear hb hc es
  generalize hy : pS 8 n = y at *
  have e4 : lN y + (((lN y).toUInt64 >>> ((Int32.toInt64 8).toUInt64 &&& Int64.toUInt64 63)).toInt64) = lN (y + y / 256) := by
    have s : ((lN y).toUInt64 >>> ((Int32.toInt64 8).toUInt64 &&& Int64.toUInt64 63)).toInt64 = lN (y / 256) := wb_shr (k := 8) (by omega) (by decide)
    rw [s, lN_add]
  have lz : y + y / 256 < 2 ^ 61 := by omega
  generalize y + y / 256 = z at *
  have e5 : lN z + (((lN z).toUInt64 >>> ((Int32.toInt64 16).toUInt64 &&& Int64.toUInt64 63)).toInt64) = lN (z + z / 65536) := by
    have s : ((lN z).toUInt64 >>> ((Int32.toInt64 16).toUInt64 &&& Int64.toUInt64 63)).toInt64 = lN (z / 65536) := wb_shr (k := 16) (by omega) (by decide)
    rw [s, lN_add]
  have lv : z + z / 65536 < 2 ^ 62 := by omega
  generalize z + z / 65536 = v at *
  have e6 : lN v + (((lN v).toUInt64 >>> ((Int32.toInt64 32).toUInt64 &&& Int64.toUInt64 63)).toInt64) = lN (v + v / 4294967296) := by
    have s : ((lN v).toUInt64 >>> ((Int32.toInt64 32).toUInt64 &&& Int64.toUInt64 63)).toInt64 = lN (v / 4294967296) := wb_shr (k := 32) (by omega) (by decide)
    rw [s, lN_add]
  unfold f_Long_bitCount
  rw [e1, e2, e3, e4, e5, e6, lN_i]
  have e7 : nI (v + v / 4294967296) &&& 127 = nI (PC 64 n) := by
    rw [show (127 : Int32) = nI (2 ^ 7 - 1) by decide, fa_mask]
    congr 1
  rw [e7]
