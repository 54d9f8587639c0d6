/-! feed -/
theorem sshr_byte {n k : Nat} (hk : k ≤ 56) : (lN n >>> ((nI k).toInt64 &&& 63)) &&& 255 = lN (n / 2 ^ k % 256) := by
  rw [wb_c k (by omega)]
  apply wb_inj
  rw [Int64.toBitVec_and, Int64.toBitVec_shiftRight, wb_tb, wb_tb, wb_tb, wb_sm k (by omega)]
  apply BitVec.eq_of_getLsbD_eq
  intro i hi
  have e255 : (255 : Int64).toBitVec = BitVec.ofNat 64 255 := rfl
  have ek : (BitVec.ofNat 64 k).toNat = k := by rw [BitVec.toNat_ofNat, Nat.mod_eq_of_lt (by omega)]
  rw [e255, BitVec.getLsbD_and, BitVec.getLsbD_ofNat, BitVec.getLsbD_ofNat]
  show (((BitVec.ofNat 64 n).sshiftRight (BitVec.ofNat 64 k).toNat).getLsbD i && _) = _
  rw [ek, BitVec.getLsbD_sshiftRight]
  have b255 : (255 : Nat).testBit i = decide (i < 8) := all_bit 8 i
  have m := Nat.testBit_mod_two_pow (n / 2 ^ k) 8 i
  rw [show (2 : Nat) ^ 8 = 256 from rfl] at m
  rw [b255, m, Nat.testBit_div_two_pow]
  by_cases c : i < 8
  · have h1 : k + i < 64 := by omega
    have h2 : ¬ 64 ≤ i := by omega
    rw [if_pos h1, BitVec.getLsbD_ofNat]
    simp [c, hi, h1, h2, Nat.add_comm]
  · simp [c]
theorem i8_i8 (x : Int32) : (x.toInt8.toInt32).toInt8 = x.toInt8 := by simp
theorem S_feed {N : Nat} (hN : 70000 ≤ N) (v : Int64) : Sim (f_LW_feed N v) (f_MD_feed N v) := by
  refine Sim.of (fun A hw => ?_)
  obtain ⟨n, hn, rfl⟩ := wb_of v
  have t2 := hw.t200
  by_cases c : A.taped + 8 ≤ 200
  · have fT : ∀ i, i < 8 → n / 2 ^ (56 - 8 * i) % 256 < 256 := fun i _ => Nat.mod_lt _ (by omega)
    refine ⟨nI (A.taped + 8), (A.setN 4 (A.taped + 8)).setA 7 (fun j => if j < A.taped then A.tape j else n / 2 ^ (56 - 8 * (j - A.taped)) % 256), ?_, fun hi hl hR => ?_, fun hi hl hR => ?_⟩
    · obtain ⟨a1, a2, a3, a4, a5, a6, a7, a8, a9, b1, b2, b3, b4, b5, b6, b7, b8, b9, c1, c2, rest⟩ := hw
      refine ⟨a1, a2, a3, a4, a5, a6, a7, a8, a9, b1, b2, b3, b4, b5, b6, b7, b8, b9, by show A.taped + 8 ≤ 200; omega, fun i hi => ?_, rest⟩
      show (if i < A.taped then A.tape i else n / 2 ^ (56 - 8 * (i - A.taped)) % 256) < 256
      split
      · exact c2 i (by assumption)
      · exact Nat.mod_lt _ (by omega)
    · unfold f_LW_feed f_Tape_append
      have e8 : nI A.taped + 8 = nI (A.taped + 8) := nI_add A.taped 8
      refine wp_pos (by rw [hR.tp.n, e8]; exact nI_le (b := 200) c (by omega)) ?_
      rw [wp_bind, wp_bind]
      refine wp.mono (P := fun z => Sam [43, 46] hi z.1 ∧ z.1 43 0 = nI (A.taped + 8) ∧ z.1 43 1 = hi 43 1 ∧ ∀ j, j < A.taped + 8 → z.1 46 j = (nI (if j < A.taped then A.tape j else n / 2 ^ (56 - 8 * (j - A.taped)) % 256)).toInt8.toInt32) ?_ (fun z hz => ?_)
      · refine wp_for 8 (fun i s => s.1 = nI i ∧ Sam [43, 46] hi s.2.1 ∧ s.2.1 43 0 = nI (A.taped + i) ∧ s.2.1 43 1 = hi 43 1 ∧ ∀ j, j < A.taped + i → s.2.1 46 j = (nI (if j < A.taped then A.tape j else n / 2 ^ (56 - 8 * (j - A.taped)) % 256)).toInt8.toInt32) ?_ ?_ (i := 0) (by omega) ⟨rfl, Sam.refl _ _, hR.tp.n, rfl, fun j hj => by rw [if_pos (show j < A.taped from hj)]; exact hR.tp.y j hj⟩ (by omega)
        · rintro i ⟨q, g, gl⟩ hi1 ⟨rfl, sm, g0, g1, h⟩
          dsimp only at sm g0 g1 h
          unfold B_Tape_append_2
          dsimp only
          have ct : (nI (A.taped + i)).toNatClampNeg = A.taped + i := nI_clamp (by omega)
          have ek : (56 : Int32) - 8 * nI i = nI (56 - 8 * i) := by
            rw [show (8 : Int32) * nI i = nI (8 * i) from pk_mul 8 i]
            exact pk_sub (a := 56) (by omega)
          have ev : (Int32.toInt8 (Int32.toInt8 (Int64.toInt32 ((lN n).toUInt64 >>> ((nI (56 - 8 * i)).toInt64.toUInt64 &&& Int64.toUInt64 63)).toInt64)).toInt32).toInt32 = (nI (n / 2 ^ (56 - 8 * i) % 256)).toInt8.toInt32 := by
            rw [wb_shr hn (by omega), lN_i, i8_i8, ← fa_mask _ 8]
            exact congrArg Int8.toInt32 (fa_byte_low _).symm
          have q43 : ∀ w, wr g 46 (A.taped + i) w 43 0 = nI (A.taped + i) := fun w => by rw [wr_o (by omega)]; exact g0
          simp only [g0, ct, ek, ev, q43]
          refine wp_neg (nI_ge (b := 8) hi1 (by omega)) (wp_neg (nI_in' (by omega) (by omega)) ?_)
          rw [wp_some]
          refine ⟨nI_1 i, (sm.wr (by decide)).wr (by decide), ?_, ?_, fun j hj => ?_⟩
          · dsimp only; rw [wr_s]; exact nI_1 _
          · dsimp only; rw [wr_k (by omega), wr_o (by omega)]; exact g1
          · dsimp only
            rw [wr_o (by omega), wr_i]
            by_cases e : j = A.taped + i
            · rw [if_pos e, if_neg (by omega), show j - A.taped = i by omega]
            · rw [if_neg e]; exact h j (by omega)
        · rintro ⟨q, g, gl⟩ ⟨rfl, sm, g0, g1, h⟩
          dsimp only at sm g0 g1 h
          unfold B_Tape_append_2
          dsimp only
          refine wp_pos (nI_le (a := 8) (b := 8) (by omega) (by omega)) ?_
          rw [wp_some]
          exact ⟨sm, g0, g1, h⟩
      · obtain ⟨z1, z2, z3, z4⟩ := hz
        rw [wp_some, wp_some]
        have o : ∀ a, a ≠ 43 → a ≠ 46 → z.1 a = hi a := fun a h1 h2 => z1 a (by simp; omega)
        refine ⟨z2, hR.keep ⟨rfl, rfl, rfl, rfl, rfl, rfl, rfl⟩ (fun a ha hb => o a (fun q => hb (by rw [q]; decide)) (fun q => hb (by rw [q]; decide))) (fun l hl => ?_) ⟨z2, ?_, z4⟩ ?_ ?_ (fun k hk => ?_), HiC.of z1 (by decide)⟩
        · dsimp only; rw [o 6 (by omega) (by omega)]; exact hR.bd.e l hl
        · dsimp only; rw [z3]; exact hR.tp.f
        · dsimp only; rw [o 47 (by omega) (by omega), o 48 (by omega) (by omega), o 49 (by omega) (by omega), o 50 (by omega) (by omega)]; exact hR.sc
        · dsimp only; rw [o 51 (by omega) (by omega), o 52 (by omega) (by omega), o 53 (by omega) (by omega), sb_Gs ⟨⟨rfl, rfl, rfl, rfl, rfl, rfl⟩, rfl, rfl⟩ rfl]; exact hR.gs
        · dsimp only; rw [o _ (by omega) (by omega), o _ (by omega) (by omega)]; exact hR.sh k hk
    · unfold f_MD_feed
      have e8 : nI A.taped + 8 = nI (A.taped + 8) := nI_add A.taped 8
      refine wp_pos (by rw [hR.tn, e8]; exact nI_le (b := 200) c (by omega)) ?_
      refine wp.bnd (P := fun z => Sam [65, 88] hi z.1 ∧ z.1 65 31 = nI (A.taped + 8) ∧ (∀ j, j ≠ 31 → z.1 65 j = hi 65 j) ∧ ∀ j, j < A.taped + 8 → z.1 88 j = nI (if j < A.taped then A.tape j else n / 2 ^ (56 - 8 * (j - A.taped)) % 256)) ?_ (fun z hz => ?_)
      · refine wp_for 8 (fun i s => s.1 = (if i ≤ 7 then nI (56 - 8 * i) else -8) ∧ Sam [65, 88] hi s.2.1 ∧ s.2.1 65 31 = nI (A.taped + i) ∧ (∀ j, j ≠ 31 → s.2.1 65 j = hi 65 j) ∧ ∀ j, j < A.taped + i → s.2.1 88 j = nI (if j < A.taped then A.tape j else n / 2 ^ (56 - 8 * (j - A.taped)) % 256)) ?_ ?_ (i := 0) (by omega) ⟨rfl, Sam.refl _ _, hR.tn, fun _ _ => rfl, fun j hj => by rw [if_pos (show j < A.taped from hj)]; exact hR.ty j hj⟩ (by omega)
        · rintro i ⟨q, g, gl⟩ hi1 ⟨hq, sm, g0, g1, h⟩
          dsimp only at hq sm g0 g1 h
          rw [if_pos (by omega)] at hq
          subst hq
          unfold B_MD_feed_19
          dsimp only
          have ct : (nI (A.taped + i)).toNatClampNeg = A.taped + i := nI_clamp (by omega)
          have ev : Int64.toInt32 ((lN n >>> ((nI (56 - 8 * i)).toInt64 &&& 63)) &&& 255) = nI (n / 2 ^ (56 - 8 * i) % 256) := by
            rw [sshr_byte (by omega), lN_i]
          have q43 : ∀ w, wr g 88 (A.taped + i) w 65 31 = nI (A.taped + i) := fun w => by rw [wr_o (by omega)]; exact g0
          simp only [g0, ct, ev, q43]
          refine wp_neg (nI_pos (by omega)) (wp_neg (nI_in' (by omega) (by omega)) ?_)
          rw [wp_some]
          refine ⟨?_, (sm.wr (by decide)).wr (by decide), ?_, fun j hj => ?_, fun j hj => ?_⟩
          · dsimp only
            by_cases e : i + 1 ≤ 7
            · rw [if_pos e]
              show nI (56 - 8 * i) + (-8) = _
              rw [show (-8 : Int32) = nI (2 ^ 32 - 8) by decide, nI_add]
              rw [show 56 - 8 * i + (2 ^ 32 - 8) = (56 - 8 * (i + 1)) + 2 ^ 32 by omega]
              show Int32.ofNat _ = Int32.ofNat _
              apply Int32.toBitVec_inj.mp
              show BitVec.ofNat 32 _ = BitVec.ofNat 32 _
              apply BitVec.eq_of_toNat_eq
              rw [BitVec.toNat_ofNat, BitVec.toNat_ofNat, Nat.add_mod_right]
            · rw [if_neg e, show i = 7 by omega]; decide
          · dsimp only; rw [wr_s]; exact nI_1 _
          · dsimp only; rw [wr_k hj, wr_o (by omega)]; exact g1 j hj
          · dsimp only
            rw [wr_o (by omega), wr_i]
            by_cases e : j = A.taped + i
            · rw [if_pos e, if_neg (by omega), show j - A.taped = i by omega]
            · rw [if_neg e]; exact h j (by omega)
        · rintro ⟨q, g, gl⟩ ⟨hq, sm, g0, g1, h⟩
          dsimp only at hq sm g0 g1 h
          rw [if_neg (by omega)] at hq
          subst hq
          unfold B_MD_feed_19
          dsimp only
          refine wp_pos (by decide) ?_
          rw [wp_some]
          exact ⟨sm, g0, g1, h⟩
      · obtain ⟨z1, z2, z3, z4⟩ := hz
        rw [wp_some]
        obtain ⟨a1, a2, a3, a4, a5, a6, a7, a8, a9, b1, b2, b3⟩ := id hR
        have o : ∀ a, a ≠ 65 → a ≠ 88 → z.1 a = hi a := fun a h1 h2 => z1 a (by simp; omega)
        refine ⟨z2, hR.keep ⟨rfl, rfl, rfl, rfl, rfl, rfl, rfl⟩ (fun a ha hb => o a (fun q => by subst q; revert ha; decide) (fun q => hb (by rw [q]; decide))) (fun j hj => z3 j (fun q => by subst q; revert hj; decide)) (fun l hl => ?_) ?_ ?_ ?_ ?_ z2 z4 ?_ ?_ ?_ ?_, LoC.of z1 (by decide)⟩
        · dsimp only; rw [o 70 (by omega) (by omega)]; exact a1.e l hl
        · dsimp only; rw [z3 23 (by omega)]; exact a3
        · dsimp only; rw [o 83 (by omega) (by omega)]; exact a4
        · dsimp only; rw [o 84 (by omega) (by omega)]; exact a5
        · dsimp only; rw [o 85 (by omega) (by omega)]; exact a6
        · dsimp only; rw [z3 36 (by omega)]; exact a9
        · dsimp only; rw [o 92 (by omega) (by omega)]; exact b1
        · dsimp only; rw [o 93 (by omega) (by omega)]; exact b2
        · dsimp only; rw [o 94 (by omega) (by omega)]; exact b3
  · refine Sim.bad (ans := -3) hw (fun hi hl hR => ?_) (fun hi hl hR => ?_)
    · unfold f_LW_feed
      have e8 : nI A.taped + 8 = nI (A.taped + 8) := nI_add A.taped 8
      rw [if_neg (by rw [hR.tp.n, e8]; exact nI_ge (a := 200) (by omega) (by omega))]
    · unfold f_MD_feed
      have e8 : nI A.taped + 8 = nI (A.taped + 8) := nI_add A.taped 8
      rw [if_neg (by rw [hR.tn, e8]; exact nI_ge (a := 200) (by omega) (by omega))]
