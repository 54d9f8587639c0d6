/-! the unlike sets, the tally -/
theorem wrL_i (h : HL) (a k : Nat) (v : Int64) (j : Nat) : wrL h a k v a j = if j = k then v else h a j := by simp [wrL, va_up, vp_updL]
theorem wrL_o {h : HL} {a b k : Nat} {v : Int64} (hab : b ≠ a) : wrL h a k v b = h b := by show va_up h a _ b = _; simp only [va_up, if_neg hab]
theorem c_fillL {N : Nat} (hN : 70000 ≤ N) (v : Int64) (hi : HI) (hl : HL) : wp (f_Arrays_fill N v hi hl) (fun o => o.2.1 = hi ∧ (∀ j, j < 4096 → o.2.2 41 j = v) ∧ ∀ a, a ≠ 41 → o.2.2 a = hl a) := by
  unfold f_Arrays_fill
  refine wp.bnd (P := fun x => x.1 = hi ∧ (∀ j, j < 4096 → x.2 41 j = v) ∧ ∀ a, a ≠ 41 → x.2 a = hl a) ?_ (fun x hx => by rw [wp_some]; exact hx)
  refine wp_for 4096 (fun i s => s.1 = nI i ∧ s.2.1 = hi ∧ (∀ j, j < i → s.2.2 41 j = v) ∧ ∀ a, a ≠ 41 → s.2.2 a = hl a) ?_ ?_ (i := 0) (by omega) ⟨rfl, rfl, fun k hk => by omega, fun _ _ => rfl⟩ (by omega)
  · rintro i ⟨q, h, l⟩ hi8 ⟨rfl, rfl, h2, h3⟩
    unfold B_Arrays_fill_6
    dsimp only at h2 h3 ⊢
    refine wp_neg (nI_ge (b := 4096) hi8 (by omega)) (wp_neg (nI_in hi8 (by omega)) ?_)
    rw [nI_clamp (by omega), wp_some]
    refine ⟨nI_1 i, rfl, fun k hk => ?_, fun a ha => ?_⟩
    · dsimp only
      rw [wrL_i]
      split
      · rfl
      · exact h2 k (by omega)
    · dsimp only
      rw [wrL_o ha]; exact h3 a ha
  · rintro ⟨q, h, l⟩ ⟨rfl, rfl, h2, h3⟩
    unfold B_Arrays_fill_6
    dsimp only at h2 h3 ⊢
    refine wp_pos (nI_le (a := 4096) (b := 4096) (by omega) (by omega)) ?_
    rw [wp_some]
    exact ⟨rfl, h2, h3⟩
theorem lg_eq (a b : Int64) : (lg_cmp a b = 0) ↔ a = b := by
  unfold lg_cmp
  by_cases h : a > b
  · rw [if_pos h]
    exact ⟨fun q => absurd q (by decide), fun q => by subst q; exact absurd h (by rw [gt_iff_lt, fa_lt64]; omega)⟩
  · rw [if_neg h]
    by_cases h2 : a = b
    · rw [if_pos h2]; exact ⟨fun _ => h2, fun _ => rfl⟩
    · rw [if_neg h2]; exact ⟨fun q => absurd q (by decide), fun q => absurd q h2⟩
theorem lN_0 {z : Nat} (h : z < 2 ^ 64) : lN z = 0 ↔ z = 0 := by
  constructor
  · intro q
    have := congrArg (fun x : Int64 => x.toBitVec.toNat) q
    rw [lN_nat h] at this
    exact this
  · intro q; rw [q]; rfl
theorem one_shl {k : Nat} (hk : k < 64) : (1 : Int64) <<< ((nI k).toInt64 &&& 63) = lN (2 ^ k) := by
  have := wb_shl 1 hk
  rw [Nat.one_mul] at this
  exact this
theorem met_bit {W k : Nat} (hW : W < 2 ^ 64) (hk : k < 64) : (lg_cmp (lN W &&& ((1 : Int64) <<< ((nI k).toInt64 &&& 63))) 0 = 0) ↔ W.testBit k = false := by
  have h2 : 2 ^ k < 2 ^ 64 := Nat.pow_lt_pow_right (by omega) hk
  rw [lg_eq, one_shl hk, wb_and hW h2, lN_0 (Nat.lt_of_le_of_lt Nat.and_le_left hW), fb_bit_nat]
theorem Gt_lt {A : St} (hw : WF A) (t : Nat) : Gt A t < 65536 := Nat.lt_of_lt_of_le (GM_lt A A.st t) (pow2_le hw.n16)
theorem Gt_0 {A : St} (hw : WF A) : Gt A 0 = 0 := by
  have : Lst A A.st 0 = 10000 := Lst_none (fun c m q => by
    obtain ⟨a, b, _, _, h3, _⟩ := q
    unfold fig at h3
    rw [Nat.zero_div] at h3
    omega)
  unfold Gt GM
  have := hw.s30
  rw [if_neg (by omega)]
abbrev Kd (A : St) (τ K : Nat) (ks ts : Nat → Nat) (b15 b16 : Nat → Int32) : Prop :=
  (K + 1 ≤ τ ∨ K = 0) ∧
  (∀ i, i < K → b15 i = nI (ks i)) ∧
  (∀ i, i < K → b16 i = nI (ts i)) ∧
  (∀ i, i < K → ks i = Gt A (ts i) ∧ ks i ≠ 0 ∧ ts i < τ) ∧
  (∀ i j, i < j → j < K → ts i < ts j) ∧
  (∀ i j, i < j → j < K → ks i ≠ ks j) ∧
  (∀ t, t < τ → Gt A t ≠ 0 → ∃ i, i < K ∧ ks i = Gt A t ∧ ts i ≤ t)
theorem Kd.kN {A : St} {τ K : Nat} {ks ts : Nat → Nat} {b15 b16 : Nat → Int32} (h_ : Kd A τ K ks ts b15 b16) : K + 1 ≤ τ ∨ K = 0 := h_.1
theorem Kd.kd {A : St} {τ K : Nat} {ks ts : Nat → Nat} {b15 b16 : Nat → Int32} (h_ : Kd A τ K ks ts b15 b16) : ∀ i, i < K → b15 i = nI (ks i) := h_.2.1
theorem Kd.kt {A : St} {τ K : Nat} {ks ts : Nat → Nat} {b15 b16 : Nat → Int32} (h_ : Kd A τ K ks ts b15 b16) : ∀ i, i < K → b16 i = nI (ts i) := h_.2.2.1
theorem Kd.ks {A : St} {τ K : Nat} {ks ts : Nat → Nat} {b15 b16 : Nat → Int32} (h_ : Kd A τ K ks ts b15 b16) : ∀ i, i < K → ks i = Gt A (ts i) ∧ ks i ≠ 0 ∧ ts i < τ := h_.2.2.2.1
theorem Kd.up {A : St} {τ K : Nat} {ks ts : Nat → Nat} {b15 b16 : Nat → Int32} (h_ : Kd A τ K ks ts b15 b16) : ∀ i j, i < j → j < K → ts i < ts j := h_.2.2.2.2.1
theorem Kd.ne {A : St} {τ K : Nat} {ks ts : Nat → Nat} {b15 b16 : Nat → Int32} (h_ : Kd A τ K ks ts b15 b16) : ∀ i j, i < j → j < K → ks i ≠ ks j := h_.2.2.2.2.2.1
theorem Kd.all {A : St} {τ K : Nat} {ks ts : Nat → Nat} {b15 b16 : Nat → Int32} (h_ : Kd A τ K ks ts b15 b16) : ∀ t, t < τ → Gt A t ≠ 0 → ∃ i, i < K ∧ ks i = Gt A t ∧ ts i ≤ t := h_.2.2.2.2.2.2
/-- the words hold the sets that were met -/
def MetW (W : Nat → Nat) (hl : HL) (P : Nat → Prop) : Prop := (∀ j, j < 4096 → W j < 2 ^ 64 ∧ hl 41 j = lN (W j) ∧ ∀ b, b < 64 → ((W j).testBit b = true ↔ P (64 * j + b)))
theorem Kd.skip {A : St} {τ K : Nat} {ks ts : Nat → Nat} {b15 b16 : Nat → Int32} (h : Kd A τ K ks ts b15 b16) (hz : Gt A τ = 0 ∨ ∃ i, i < K ∧ ks i = Gt A τ) : Kd A (τ + 1) K ks ts b15 b16 := by
  obtain ⟨a1, a2, a3, a4, a5, a6, a7⟩ := h
  refine ⟨by omega, a2, a3, fun i hi => ⟨(a4 i hi).1, (a4 i hi).2.1, by have := (a4 i hi).2.2; omega⟩, a5, a6, fun t ht hg => ?_⟩
  by_cases e : t = τ
  · subst e
    rcases hz with q | ⟨i, q1, q2⟩
    · exact absurd q hg
    · exact ⟨i, q1, q2, by have := (a4 i q1).2.2; omega⟩
  · exact a7 t (by omega) hg
theorem Kd.add {A : St} {τ K : Nat} {ks ts : Nat → Nat} {b15 b16 c15 c16 : Nat → Int32} (hw : WF A) (h : Kd A τ K ks ts b15 b16) (hz : Gt A τ ≠ 0) (hn : ∀ i, i < K → ks i ≠ Gt A τ) (e15 : ∀ j, c15 j = if j = K then nI (Gt A τ) else b15 j) (e16 : ∀ j, c16 j = if j = K then nI τ else b16 j) : Kd A (τ + 1) (K + 1) (fun i => if i = K then Gt A τ else ks i) (fun i => if i = K then τ else ts i) c15 c16 := by
  obtain ⟨a1, a2, a3, a4, a5, a6, a7⟩ := h
  have t0 : τ ≠ 0 := fun e => hz (by rw [e]; exact Gt_0 hw)
  refine ⟨by omega, fun i hi => ?_, fun i hi => ?_, fun i hi => ?_, fun i j hij hj => ?_, fun i j hij hj => ?_, fun t ht hg => ?_⟩
  · rw [e15]; dsimp only
    by_cases e : i = K
    · rw [if_pos e, if_pos e]
    · rw [if_neg e, if_neg e]; exact a2 i (by omega)
  · rw [e16]; dsimp only
    by_cases e : i = K
    · rw [if_pos e, if_pos e]
    · rw [if_neg e, if_neg e]; exact a3 i (by omega)
  · dsimp only
    by_cases e : i = K
    · rw [if_pos e, if_pos e]; exact ⟨rfl, hz, by omega⟩
    · rw [if_neg e, if_neg e]
      have := a4 i (by omega)
      exact ⟨this.1, this.2.1, by omega⟩
  · dsimp only
    rw [if_neg (by omega)]
    split
    · exact (a4 i (by omega)).2.2
    · exact a5 i j hij (by omega)
  · dsimp only
    rw [if_neg (by omega)]
    split
    · exact hn i (by omega)
    · exact a6 i j hij (by omega)
  · by_cases e : t = τ
    · refine ⟨K, by omega, ?_, ?_⟩
      · dsimp only; rw [if_pos rfl, e]
      · dsimp only; rw [if_pos rfl]; omega
    · obtain ⟨i, q1, q2, q3⟩ := a7 t (by omega) hg
      refine ⟨i, by omega, ?_, ?_⟩
      · dsimp only; rw [if_neg (by omega)]; exact q2
      · dsimp only; rw [if_neg (by omega)]; exact q3
theorem c_gather {N : Nat} (hN : 70000 ≤ N) {A : St} (hw : WF A) {hi : HI} {hl : HL} (h10 : hi 12 10 = nI (3 ^ A.w)) (hg : ∀ t, t < 3 ^ A.w → hi 13 t = nI (Gt A t)) : wp (f_TurnTable_gatherKinds N hi hl) (fun o => Sam [12, 15, 16] hi o.2.1 ∧ (∀ j, j ≠ 7 → o.2.1 12 j = hi 12 j) ∧ ∃ K ks ts, o.2.1 12 7 = nI K ∧ Kd A (3 ^ A.w) K ks ts (o.2.1 15) (o.2.1 16)) := by
  unfold f_TurnTable_gatherKinds
  have w6 := hw.w6
  have p3 := pow3_le w6
  refine (c_fillL hN 0 hi hl).bnd (fun x hx => ?_)
  obtain ⟨rfl, hx2, _⟩ := hx
  refine wp.bnd (P := fun z => Sam [12, 15, 16] x.2.1 z.1 ∧ (∀ j, j ≠ 7 → z.1 12 j = x.2.1 12 j) ∧ ∃ K ks ts, z.1 12 7 = nI K ∧ Kd A (3 ^ A.w) K ks ts (z.1 15) (z.1 16)) ?_ (fun z hz => by rw [wp_some]; exact hz)
  refine wp_for (3 ^ A.w) (fun τ s => s.1 = nI τ ∧ Sam [12, 15, 16] x.2.1 s.2.1 ∧ (∀ j, j ≠ 7 → s.2.1 12 j = x.2.1 12 j) ∧ ∃ K ks ts W, s.2.1 12 7 = nI K ∧ Kd A τ K ks ts (s.2.1 15) (s.2.1 16) ∧ MetW W s.2.2 (fun q => ∃ i, i < K ∧ ks i = q)) ?_ ?_ (i := 0) (Nat.zero_le _) ⟨rfl, (Sam.refl _ _).wr (by decide), fun j hj => (by dsimp only; rw [wr_k hj]), 0, fun _ => 0, fun _ => 0, fun _ => 0, (by dsimp only; rw [wr_s]; rfl), ⟨Or.inr rfl, fun i hi => by omega, fun i hi => by omega, fun i hi => by omega, fun i j _ hi => by omega, fun i j _ hi => by omega, fun t ht => by omega⟩, fun j hj => ⟨Nat.two_pow_pos 64, hx2 j hj, fun b hb => by simp⟩⟩ (by omega)
  · rintro τ ⟨q, g, l⟩ ht ⟨rfl, sm, s12, K, ks, ts, W, eK, kd, met⟩
    dsimp only at sm s12 eK kd met
    have g10 : g 12 10 = nI (3 ^ A.w) := by rw [s12 10 (by omega)]; exact h10
    have g13 : g 13 τ = nI (Gt A τ) := by rw [sm 13 (by decide)]; exact hg τ ht
    have gl := Gt_lt hw τ
    unfold B_TurnTable_gatherKinds_12 J_TurnTable_gatherKinds_94
    dsimp only
    have ct : (nI τ).toNatClampNeg = τ := nI_clamp (by omega)
    have e6 : nI (Gt A τ) >>> ((6 : Int32) &&& 31) = nI (Gt A τ / 64) := ni_shr (k := 6) (by omega) (by omega)
    have e63 : nI (Gt A τ) &&& 63 = nI (Gt A τ % 64) := fa_mask (Gt A τ) 6
    have dv : Gt A τ / 64 < 4096 := by omega
    have c6 : (nI (Gt A τ / 64)).toNatClampNeg = Gt A τ / 64 := nI_clamp (by omega)
    have hK : K < 729 := by have := kd.kN; omega
    have cK : (nI K).toNatClampNeg = K := nI_clamp (by omega)
    obtain ⟨m1, m2, m3⟩ := met _ dv
    have m4 := m3 (Gt A τ % 64) (Nat.mod_lt _ (by omega))
    rw [show 64 * (Gt A τ / 64) + Gt A τ % 64 = Gt A τ by omega] at m4
    have r1 : ∀ v, wr g 15 K v 12 7 = nI K := fun v => by rw [wr_o (by omega)]; exact eK
    have r2 : ∀ v u, wr (wr g 15 K v) 16 K u 12 7 = nI K := fun v u => by rw [wr_o (by omega), wr_o (by omega)]; exact eK
    simp only [ct, g13, e6, e63, c6, eK, cK, r1, r2, m2]
    refine wp_neg (by rw [g10]; exact nI_ge ht (by omega)) (wp_neg (nI_in' (by omega) (by omega)) ?_)
    by_cases z : Gt A τ = 0
    · refine wp_pos (by rw [z]; rfl) ?_
      rw [wp_some]
      exact ⟨nI_1 τ, sm, s12, K, ks, ts, W, eK, kd.skip (Or.inl z), met⟩
    refine wp_neg (fun q => z ((nI_eq (b := 0) (by omega) (by omega)).mp q)) (wp_neg (nI_in' (by omega) (by omega)) ?_)
    by_cases mb : (W (Gt A τ / 64)).testBit (Gt A τ % 64) = false
    · refine wp_pos ((met_bit m1 (Nat.mod_lt _ (by omega))).mpr mb) (wp_neg (nI_in' (by omega) (by omega)) (wp_neg (nI_in' (by omega) (by omega)) (wp_neg (nI_in' (by omega) (by omega)) (wp_neg (nI_in' (by omega) (by omega)) ?_))))
      rw [wp_some]
      have nw : ∀ i, i < K → ks i ≠ Gt A τ := fun i hi q => by
        rw [mb] at m4
        exact absurd (m4.mpr ⟨i, hi, q⟩) (by decide)
      refine ⟨nI_1 τ, ((sm.wr (by decide)).wr (by decide)).wr (by decide), fun j hj => ?_, K + 1, _, _, fun j => if j = Gt A τ / 64 then W j ||| 2 ^ (Gt A τ % 64) else W j, ?_, kd.add hw z nw (fun j => ?_) (fun j => ?_), fun j hj => ?_⟩
      · dsimp only
        rw [wr_k hj, wr_o (by omega), wr_o (by omega)]; exact s12 j hj
      · dsimp only
        rw [wr_s]; exact nI_1 K
      · dsimp only
        rw [wr_o (by omega), wr_o (by omega), wr_i]
      · dsimp only
        rw [wr_o (by omega), wr_i, wr_o (by omega)]
      · dsimp only
        obtain ⟨n1, n2, n3⟩ := met j hj
        have p64 : 2 ^ (Gt A τ % 64) < 2 ^ 64 := Nat.pow_lt_pow_right (by omega) (Nat.mod_lt _ (by omega))
        rw [wrL_i]
        by_cases e : j = Gt A τ / 64
        · rw [if_pos e, if_pos e]
          subst e
          refine ⟨Nat.or_lt_two_pow n1 p64, by rw [one_shl (Nat.mod_lt _ (by omega)), wb_or n1 p64], fun b hb => ?_⟩
          rw [fb_bit_set, Bool.or_eq_true, n3 b hb, decide_eq_true_iff]
          constructor
          · rintro (⟨i, q1, q2⟩ | q)
            · exact ⟨i, by omega, by rw [if_neg (by omega)]; exact q2⟩
            · exact ⟨K, by omega, by rw [if_pos rfl]; omega⟩
          · rintro ⟨i, q1, q2⟩
            by_cases e : i = K
            · rw [if_pos e] at q2; right; omega
            · rw [if_neg e] at q2; exact Or.inl ⟨i, by omega, q2⟩
        · rw [if_neg e, if_neg e]
          refine ⟨n1, n2, fun b hb => ?_⟩
          rw [n3 b hb]
          constructor
          · rintro ⟨i, q1, q2⟩
            exact ⟨i, by omega, by rw [if_neg (by omega)]; exact q2⟩
          · rintro ⟨i, q1, q2⟩
            by_cases e2 : i = K
            · rw [if_pos e2] at q2; omega
            · rw [if_neg e2] at q2; exact ⟨i, by omega, q2⟩
    · have mb' : (W (Gt A τ / 64)).testBit (Gt A τ % 64) = true := by simpa using mb
      refine wp_neg (fun q => mb ((met_bit m1 (Nat.mod_lt _ (by omega))).mp q)) ?_
      rw [wp_some]
      exact ⟨nI_1 τ, sm, s12, K, ks, ts, W, eK, kd.skip (Or.inr (m4.mp mb')), met⟩
  · rintro ⟨q, g, l⟩ ⟨rfl, sm, s12, K, ks, ts, W, eK, kd, met⟩
    dsimp only at sm s12 eK kd met
    have g10 : g 12 10 = nI (3 ^ A.w) := by rw [s12 10 (by omega)]; exact h10
    unfold B_TurnTable_gatherKinds_12
    dsimp only
    refine wp_pos (by rw [g10]; exact nI_le (Nat.le_refl _) (by omega)) ?_
    rw [wp_some]
    exact ⟨sm, s12, K, ks, ts, eK, kd⟩
/-- the most so far -/
def Mst (A : St) (τ M T : Nat) : Prop := (∀ t, t < τ → popN (Gt A t) ≤ M) ∧ ((M = 0 ∧ T = 0) ∨ (0 < M ∧ T < τ ∧ popN (Gt A T) = M ∧ ∀ t, t < T → popN (Gt A t) < M))
theorem pop_0 {n : Nat} (hn : n < 65536) : popN n = 0 ↔ n = 0 := by
  unfold popN
  rw [fb_ct_zero]
  constructor
  · intro h
    refine Nat.eq_of_testBit_eq (fun i => ?_)
    rw [Nat.zero_testBit]
    by_cases q : i < 16
    · exact h i q
    · have h2 : 2 ^ 16 ≤ 2 ^ i := Nat.pow_le_pow_right (by omega) (by omega)
      exact Nat.testBit_lt_two_pow (by omega)
  · intro h k _
    rw [h, Nat.zero_testBit]
theorem Mst.keep {A : St} {τ M T : Nat} (h : Mst A τ M T) (hp : popN (Gt A τ) ≤ M) : Mst A (τ + 1) M T := by
  refine ⟨fun t ht => ?_, ?_⟩
  · by_cases e : t = τ
    · rw [e]; exact hp
    · exact h.1 t (by omega)
  · rcases h.2 with q | ⟨q1, q2, q3⟩
    · exact Or.inl q
    · exact Or.inr ⟨q1, by omega, q3⟩
theorem Mst.new {A : St} {τ M T : Nat} (h : Mst A τ M T) (hp : M < popN (Gt A τ)) : Mst A (τ + 1) (popN (Gt A τ)) τ := by
  refine ⟨fun t ht => ?_, Or.inr ⟨by omega, by omega, rfl, fun t ht => ?_⟩⟩
  · by_cases e : t = τ
    · rw [e]; exact Nat.le_refl _
    · have := h.1 t (by omega); omega
  · have := h.1 t ht; omega
theorem LsI_0 {A : St} (hw : WF A) (h : Nat → Nat) (t : Nat) : LsI A h t = 0 ↔ Lst A h t = 0 := by
  unfold LsI
  rcases Lst_cases hw h t with ⟨e, _⟩ | ⟨e, _⟩
  · rw [if_pos e]; exact ⟨fun q => absurd q (by decide), fun q => by omega⟩
  · rw [if_neg (by omega)]; exact nI_eq (b := 0) (by omega) (by omega)
theorem c_tally {N : Nat} (hN : 70000 ≤ N) {A : St} (hw : WF A) {hi : HI} {hl : HL} (h10 : hi 12 10 = nI (3 ^ A.w)) (hg : ∀ t, t < 3 ^ A.w → TR A hi t) : wp (f_TurnTable_tally N hi hl) (fun o => Sam [12] hi o.2.1 ∧ (∀ j, 6 < j → o.2.1 12 j = hi 12 j) ∧ o.2.1 12 3 = nI (fb_ct (fun t => decide (Lst A A.st t = 0)) (3 ^ A.w)) ∧ o.2.1 12 4 = nI (fb_ct (fun t => decide (Gt A t ≠ 0)) (3 ^ A.w)) ∧ MostOK A popN (o.2.1 12 5) (o.2.1 12 6)) := by
  unfold f_TurnTable_tally
  have w6 := hw.w6
  have p3 := pow3_le w6
  refine wp.bnd (P := fun z => Sam [12] hi z.1 ∧ (∀ j, 6 < j → z.1 12 j = hi 12 j) ∧ z.1 12 3 = nI (fb_ct (fun t => decide (Lst A A.st t = 0)) (3 ^ A.w)) ∧ z.1 12 4 = nI (fb_ct (fun t => decide (Gt A t ≠ 0)) (3 ^ A.w)) ∧ MostOK A popN (z.1 12 5) (z.1 12 6)) ?_ (fun z hz => by rw [wp_some]; exact hz)
  refine wp_for (3 ^ A.w) (fun τ s => s.1 = nI τ ∧ Sam [12] hi s.2.1 ∧ (∀ j, 6 < j → s.2.1 12 j = hi 12 j) ∧ s.2.1 12 3 = nI (fb_ct (fun t => decide (Lst A A.st t = 0)) τ) ∧ s.2.1 12 4 = nI (fb_ct (fun t => decide (Gt A t ≠ 0)) τ) ∧ ∃ M T, s.2.1 12 5 = nI M ∧ s.2.1 12 6 = nI T ∧ Mst A τ M T) ?_ ?_ (i := 0) (Nat.zero_le _) ⟨rfl, ((((Sam.refl _ _).wr (by decide)).wr (by decide)).wr (by decide)).wr (by decide), fun j hj => ?_, ?_, ?_, 0, 0, ?_, ?_, fun t ht => by omega, Or.inl ⟨rfl, rfl⟩⟩ (by omega)
  · rintro τ ⟨q, g, l⟩ ht ⟨rfl, sm, s12, c3, c4, M, T, c5, c6, ms⟩
    dsimp only at sm s12 c3 c4 c5 c6
    have g10 : g 12 10 = nI (3 ^ A.w) := by rw [s12 10 (by omega)]; exact h10
    have g13 : g 13 τ = nI (Gt A τ) := by rw [sm 13 (by decide)]; exact (hg τ ht).1
    have g14 : g 14 τ = LsI A A.st τ := by rw [sm 14 (by decide)]; exact (hg τ ht).2
    have gl := Gt_lt hw τ
    have ct : (nI τ).toNatClampNeg = τ := nI_clamp (by omega)
    have pl : popN (Gt A τ) ≤ 16 := fb_ct_le _ _
    have Ml : M ≤ 16 := by
      rcases ms.2 with q | ⟨_, _, q, _⟩
      · omega
      · rw [← q]; exact fb_ct_le _ _
    unfold B_TurnTable_tally_22
    dsimp only
    simp only [ct, g13]
    refine wp_neg (by rw [g10]; exact nI_ge ht (by omega)) (wp_neg (nI_in' (by omega) (by omega)) ?_)
    rw [e_bitCount gl, Option.bind_some]
    dsimp only
    refine wp_neg (nI_in' (by omega) (by omega)) ?_
    rw [c3]
    have k1 : ∀ (g : HI) (a b : Int32), g 12 5 = nI M → g 12 6 = nI T → wp (J_TurnTable_tally_77 N (nI τ) (nI (popN (Gt A τ))) a b g l) (fun z => match z with
        | .inl s => s.1 = nI (τ + 1) ∧ (Sam [12] g s.2.1 ∧ (∀ j, j ≠ 4 → j ≠ 5 → j ≠ 6 → s.2.1 12 j = g 12 j) ∧ s.2.1 12 4 = b + a ∧ ∃ M T, s.2.1 12 5 = nI M ∧ s.2.1 12 6 = nI T ∧ Mst A (τ + 1) M T)
        | .inr _ => False) := by
      intro g a b d5 d6
      unfold J_TurnTable_tally_77 J_TurnTable_tally_99
      by_cases e : popN (Gt A τ) ≤ M
      · refine wp_pos (by rw [wr_k (by omega), d5]; exact nI_le e (by omega)) ?_
        rw [wp_some]
        refine ⟨nI_1 τ, (Sam.refl _ _).wr (by decide), fun j h1 _ _ => (by dsimp only; rw [wr_k h1]), (by dsimp only; rw [wr_s]), M, T, ?_, ?_, ms.keep e⟩
        · simp (disch := first | decide | omega) only [wr_o, wr_k, wr_s]; exact d5
        · simp (disch := first | decide | omega) only [wr_o, wr_k, wr_s]; exact d6
      · refine wp_neg (by rw [wr_k (by omega), d5]; exact nI_ge (by omega) (by omega)) ?_
        rw [wp_some]
        refine ⟨nI_1 τ, (((Sam.refl _ _).wr (by decide)).wr (by decide)).wr (by decide), fun j h1 h2 h3 => ?_, ?_, popN (Gt A τ), τ, ?_, ?_, ms.new (by omega)⟩
        · dsimp only; rw [wr_k h3, wr_k h2, wr_k h1]
        · simp (disch := first | decide | omega) only [wr_o, wr_k, wr_s]
        · simp (disch := first | decide | omega) only [wr_o, wr_k, wr_s]
        · simp (disch := first | decide | omega) only [wr_o, wr_k, wr_s]
    have k2 : ∀ (a : Nat), a = (if Lst A A.st τ = 0 then 1 else 0) → wp (J_TurnTable_tally_59 N (nI τ) (nI (popN (Gt A τ))) (nI a) (nI (fb_ct (fun t => decide (Lst A A.st t = 0)) τ)) g l) (fun z => match z with
        | .inl s => s.1 = nI (τ + 1) ∧ Sam [12] hi s.2.1 ∧ (∀ j, 6 < j → s.2.1 12 j = hi 12 j) ∧ s.2.1 12 3 = nI (fb_ct (fun t => decide (Lst A A.st t = 0)) (τ + 1)) ∧ s.2.1 12 4 = nI (fb_ct (fun t => decide (Gt A t ≠ 0)) (τ + 1)) ∧ ∃ M T, s.2.1 12 5 = nI M ∧ s.2.1 12 6 = nI T ∧ Mst A (τ + 1) M T
        | .inr _ => False) := by
      intro a ha
      unfold J_TurnTable_tally_59
      have sub : ∀ b : Nat, b = (if Gt A τ ≠ 0 then 1 else 0) → wp (J_TurnTable_tally_77 N (nI τ) (nI (popN (Gt A τ))) (nI b) ((wr g 12 3 (nI (fb_ct (fun t => decide (Lst A A.st t = 0)) τ) + nI a)) 12 4) (wr g 12 3 (nI (fb_ct (fun t => decide (Lst A A.st t = 0)) τ) + nI a)) l) (fun z => match z with
          | .inl s => s.1 = nI (τ + 1) ∧ Sam [12] hi s.2.1 ∧ (∀ j, 6 < j → s.2.1 12 j = hi 12 j) ∧ s.2.1 12 3 = nI (fb_ct (fun t => decide (Lst A A.st t = 0)) (τ + 1)) ∧ s.2.1 12 4 = nI (fb_ct (fun t => decide (Gt A t ≠ 0)) (τ + 1)) ∧ ∃ M T, s.2.1 12 5 = nI M ∧ s.2.1 12 6 = nI T ∧ Mst A (τ + 1) M T
          | .inr _ => False) := by
        intro b hb
        refine (k1 (wr g 12 3 (nI (fb_ct (fun t => decide (Lst A A.st t = 0)) τ) + nI a)) (nI b) _ (by rw [wr_k (by omega)]; exact c5) (by rw [wr_k (by omega)]; exact c6)).mono (fun z hz => ?_)
        cases z with
        | inr _ => exact hz
        | inl s =>
          obtain ⟨h1, h2, h3, h4, h5⟩ := hz
          refine ⟨h1, Sam.trans (sm.wr (by decide)) h2 _ (by decide) (by decide), fun j hj => ?_, ?_, ?_, h5⟩
          · rw [h3 j (by omega) (by omega) (by omega), wr_k (by omega)]; exact s12 j hj
          · rw [h3 3 (by omega) (by omega) (by omega), wr_s, nI_add, fb_ct_succ, ha]
            simp only [decide_eq_true_eq]
          · rw [h4, wr_k (by omega), c4, nI_add, fb_ct_succ, hb]
            simp only [decide_eq_true_eq]
      have p0 := pop_0 gl
      by_cases z : Gt A τ = 0
      · refine wp_pos ?_ (sub 0 (by rw [if_neg (fun q => q z)]))
        rw [p0.mpr z]; exact nI_le (a := 0) (b := 0) (by omega) (by omega)
      · refine wp_neg ?_ (sub 1 (by rw [if_pos z]))
        have : popN (Gt A τ) ≠ 0 := fun q => z (p0.mp q)
        exact nI_nle (by omega) (by omega)
    by_cases z : Lst A A.st τ = 0
    · refine wp_pos (by rw [g14, LsI_0 hw]; exact z) ((k2 1 (by rw [if_pos z])).mono (fun z hz => by cases z <;> first | exact hz | exact hz.elim))
    · refine wp_neg (by rw [g14, LsI_0 hw]; exact z) ((k2 0 (by rw [if_neg z])).mono (fun z hz => by cases z <;> first | exact hz | exact hz.elim))
  · rintro ⟨q, g, l⟩ ⟨rfl, sm, s12, c3, c4, M, T, c5, c6, ms⟩
    dsimp only at sm s12 c3 c4 c5 c6
    have g10 : g 12 10 = nI (3 ^ A.w) := by rw [s12 10 (by omega)]; exact h10
    unfold B_TurnTable_tally_22
    dsimp only
    refine wp_pos (by rw [g10]; exact nI_le (Nat.le_refl _) (by omega)) ?_
    rw [wp_some]
    exact ⟨sm, s12, c3, c4, M, T, c5, c6, ms⟩
  · dsimp only; rw [wr_k (by omega), wr_k (by omega), wr_k (by omega), wr_k (by omega)]
  · simp (disch := first | decide | omega) only [wr_o, wr_k, wr_s]; rfl
  · simp (disch := first | decide | omega) only [wr_o, wr_k, wr_s]; rfl
  · simp (disch := first | decide | omega) only [wr_o, wr_k, wr_s]; rfl
  · simp (disch := first | decide | omega) only [wr_o, wr_k, wr_s]; rfl
