/-! turns, alone, astray, sets -/
theorem Mst.one {A : St} {τ M T M' T' : Nat} (h : Mst A τ M T) (h' : Mst A τ M' T') : M = M' ∧ T = T' := by
  obtain ⟨a1, a2⟩ := h
  obtain ⟨b1, b2⟩ := h'
  rcases a2 with ⟨rfl, rfl⟩ | ⟨c1, c2, c3, c4⟩
  · rcases b2 with ⟨rfl, rfl⟩ | ⟨d1, d2, d3, d4⟩
    · exact ⟨rfl, rfl⟩
    · have := a1 T' d2; omega
  · rcases b2 with ⟨rfl, rfl⟩ | ⟨d1, d2, d3, d4⟩
    · have := b1 T c2; omega
    · have e1 := a1 T' d2
      have e2 := b1 T c2
      have : M = M' := by omega
      refine ⟨this, ?_⟩
      by_cases q : T < T'
      · have := d4 T q; omega
      · by_cases q2 : T' < T
        · have := c4 T' q2; omega
        · omega
theorem Mst.ex (A : St) : ∀ τ, ∃ M T, Mst A τ M T := by
  intro τ
  induction τ with
  | zero => exact ⟨0, 0, fun t ht => by omega, Or.inl ⟨rfl, rfl⟩⟩
  | succ τ ih =>
    obtain ⟨M, T, h⟩ := ih
    by_cases q : popN (Gt A τ) ≤ M
    · exact ⟨M, T, h.keep q⟩
    · exact ⟨_, _, h.new (by omega)⟩
theorem S_turns {N : Nat} (hN : 70000 ≤ N) (p : Int32) : Sim (f_LW_turns N p) (f_MD_turns N p) := by
  refine Sim.of (fun A hw => ?_)
  have w6 := hw.w6
  have p3 := pow3_le w6
  have hb : ∀ (hi : HI) (hl : HL), f_MD_in N p.toInt64 0 3 hi hl = some (b2i (rg p 0 4), hi, hl) := fun hi hl => e_in32 N p _ _ hi hl (x := 0) (y := 4) (ltL64 0 (by decide)) (ltL64 3 (by decide))
  rcases rgE p 0 4 with ⟨e, e1⟩ | ⟨e, _⟩
  · refine Sim.bad (ans := -1) hw (fun hi hl hR => ?_) (fun hi hl hR => ?_)
    · unfold f_LW_turns
      simp (disch := omega) only [lit_I, fa_lt, fa_le, nI_toInt, decide_eq_true_eq]
      repeat' split
      all_goals first | rfl | (exfalso; omega)
    · unfold f_MD_turns
      rw [hb, e]; rfl
  obtain ⟨k, _, k1, rfl⟩ := rg_t (by omega) e
  obtain ⟨M, T, ms⟩ := Mst.ex A (3 ^ A.w)
  have n0 : (nI k = 0) ↔ k = 0 := nI_eq (b := 0) (by omega) (by omega)
  have n1 : (nI k = 1) ↔ k = 1 := nI_eq (b := 1) (by omega) (by omega)
  have n2 : (nI k = 2) ↔ k = 2 := nI_eq (b := 2) (by omega) (by omega)
  refine ⟨if k = 0 then nI (fb_ct (fun t => decide (Lst A A.st t = 0)) (3 ^ A.w)) else if k = 1 then nI (fb_ct (fun t => decide (Gt A t ≠ 0)) (3 ^ A.w)) else if k = 2 then nI M else nI T, A, hw, fun hi hl hR => ?_, fun hi hl hR => ?_⟩
  · unfold f_LW_turns
    refine wp_neg (nI_pos (by omega)) (wp_pos (nI_le (b := 3) (by omega) (by omega)) ?_)
    refine (c_fillTable hN hw hR).bnd (fun x hx => ?_)
    obtain ⟨r1, r2, r3, ⟨M', T', r4, r5, r6⟩, K, ks, ts, tf⟩ := hx
    have eMT := Mst.one ms r6
    have hh : HiC hi x.2.1 := HiC.of r2 (by decide)
    by_cases c0 : k = 0
    · refine wp_pos (n0.mpr c0) ?_
      rw [wp_some, if_pos c0]
      exact ⟨tf.sh, r1, hh⟩
    refine wp_neg (fun q => c0 (n0.mp q)) ?_
    by_cases c1 : k = 1
    · refine wp_pos (n1.mpr c1) ?_
      rw [wp_some, if_neg c0, if_pos c1]
      exact ⟨tf.br, r1, hh⟩
    refine wp_neg (fun q => c1 (n1.mp q)) ?_
    by_cases c2 : k = 2
    · refine wp_pos (n2.mpr c2) ?_
      rw [wp_some, if_neg c0, if_neg c1, if_pos c2, eMT.1]
      exact ⟨r4, r1, hh⟩
    refine wp_neg (fun q => c2 (n2.mp q)) ?_
    rw [wp_some, if_neg c0, if_neg c1, if_neg c2, eMT.2]
    exact ⟨r5, r1, hh⟩
  · unfold f_MD_turns
    rw [hb, e]
    simp only [Option.bind_some, b2i_tt, if_false]
    refine (m_freshens hN hw hR).bnd (fun x hx => ?_)
    obtain ⟨r1, r2, r3, mf⟩ := hx
    refine wp.bnd (P := fun z => z = (nI (fb_ct (fun t => decide (Lst A A.st t = 0)) (3 ^ A.w)), nI (fb_ct (fun t => decide (Gt A t ≠ 0)) (3 ^ A.w)), nI M, nI T, x.2.1, x.2.2)) ?_ (fun z hz => ?_)
    · refine wp_for (3 ^ A.w) (fun τ s => ∃ M T, Mst A τ M T ∧ s = (nI (fb_ct (fun t => decide (Lst A A.st t = 0)) τ), nI (fb_ct (fun t => decide (Gt A t ≠ 0)) τ), nI M, nI T, nI τ, x.2.1, x.2.2)) ?_ ?_ (i := 0) (Nat.zero_le _) ⟨0, 0, ⟨fun t ht => by omega, Or.inl ⟨rfl, rfl⟩⟩, rfl⟩ (by omega)
      · rintro τ s ht ⟨M, T, ms, rfl⟩
        unfold B_MD_turns_31
        dsimp only
        have gl := Gt_lt hw τ
        have ct : (nI τ).toNatClampNeg = τ := nI_clamp (by omega)
        have pl : popN (Gt A τ) ≤ 16 := fb_ct_le _ _
        have Ml : M ≤ 16 := by
          rcases ms.2 with q | ⟨_, _, q, _⟩
          · omega
          · rw [← q]; exact fb_ct_le _ _
        rw [m_turnsOf r1.bd.w w6 hN, Option.bind_some]
        refine wp_neg (nI_ge ht (by omega)) (wp_neg (nI_in (by omega) (by omega)) ?_)
        rw [ct, mf.g τ ht, m_bits hN gl, Option.bind_some]
        dsimp only
        refine wp_neg (nI_in' (by omega) (by omega)) ?_
        have go : ∀ a : Nat, a = (if Lst A A.st τ = 0 then 1 else 0) → wp (J_MD_turns_68 N (nI k) (nI (fb_ct (fun t => decide (Gt A t ≠ 0)) τ)) (nI M) (nI T) (nI τ) (nI (popN (Gt A τ))) (nI a) (nI (fb_ct (fun t => decide (Lst A A.st t = 0)) τ)) x.2.1 x.2.2) (fun z => match z with
            | .inl s => ∃ M T, Mst A (τ + 1) M T ∧ s = (nI (fb_ct (fun t => decide (Lst A A.st t = 0)) (τ + 1)), nI (fb_ct (fun t => decide (Gt A t ≠ 0)) (τ + 1)), nI M, nI T, nI (τ + 1), x.2.1, x.2.2)
            | .inr _ => False) := by
          intro a ha
          have ea : nI (fb_ct (fun t => decide (Lst A A.st t = 0)) τ) + nI a = nI (fb_ct (fun t => decide (Lst A A.st t = 0)) (τ + 1)) := by
            rw [nI_add, fb_ct_succ, ha]; simp only [decide_eq_true_eq]
          have p0 := pop_0 gl
          have eb : ∀ b : Nat, b = (if Gt A τ ≠ 0 then 1 else 0) → nI (fb_ct (fun t => decide (Gt A t ≠ 0)) τ) + nI b = nI (fb_ct (fun t => decide (Gt A t ≠ 0)) (τ + 1)) := by
            intro b hb
            rw [nI_add, fb_ct_succ, hb]; simp only [decide_eq_true_eq]
          have go2 : ∀ b : Nat, b = (if Gt A τ ≠ 0 then 1 else 0) → wp (J_MD_turns_81 N (nI k) (nI (fb_ct (fun t => decide (Lst A A.st t = 0)) (τ + 1))) (nI M) (nI T) (nI τ) (nI (popN (Gt A τ))) (nI b) (nI (fb_ct (fun t => decide (Gt A t ≠ 0)) τ)) x.2.1 x.2.2) (fun z => match z with
              | .inl s => ∃ M T, Mst A (τ + 1) M T ∧ s = (nI (fb_ct (fun t => decide (Lst A A.st t = 0)) (τ + 1)), nI (fb_ct (fun t => decide (Gt A t ≠ 0)) (τ + 1)), nI M, nI T, nI (τ + 1), x.2.1, x.2.2)
              | .inr _ => False) := by
            intro b hb
            unfold J_MD_turns_81 J_MD_turns_97 J_MD_turns_113
            rw [eb b hb]
            by_cases c : popN (Gt A τ) ≤ M
            · refine wp_pos (nI_le c (by omega)) (wp_pos (nI_le c (by omega)) ?_)
              rw [wp_some]
              exact ⟨M, T, ms.keep c, by rw [nI_1]⟩
            · refine wp_neg (nI_ge (by omega) (by omega)) (wp_neg (nI_ge (by omega) (by omega)) ?_)
              rw [wp_some]
              exact ⟨_, _, ms.new (by omega), by rw [nI_1]⟩
          unfold J_MD_turns_68
          rw [ea]
          by_cases z : Gt A τ = 0
          · refine wp_pos ?_ (go2 0 (by rw [if_neg (fun q => q z)]))
            rw [p0.mpr z]; exact nI_le (a := 0) (b := 0) (by omega) (by omega)
          · refine wp_neg ?_ (go2 1 (by rw [if_pos z]))
            have : popN (Gt A τ) ≠ 0 := fun q => z (p0.mp q)
            exact nI_nle (by omega) (by omega)
        by_cases z : Lst A A.st τ = 0
        · refine wp_neg (by rw [mf.i τ ht, if_pos z]; decide) ((go 1 (by rw [if_pos z])).mono (fun z hz => by cases z <;> first | exact hz | exact hz.elim))
        · refine wp_pos (by rw [mf.i τ ht, if_neg z]) ((go 0 (by rw [if_neg z])).mono (fun z hz => by cases z <;> first | exact hz | exact hz.elim))
      · rintro s ⟨M', T', ms', rfl⟩
        unfold B_MD_turns_31
        dsimp only
        rw [m_turnsOf r1.bd.w w6 hN, Option.bind_some]
        refine wp_pos (nI_le (Nat.le_refl _) (by omega)) ?_
        rw [wp_some]
        dsimp only
        rw [(Mst.one ms ms').1, (Mst.one ms ms').2]
    · subst hz
      dsimp only
      by_cases c0 : k = 0
      · refine wp_pos (n0.mpr c0) ?_
        rw [wp_some, if_pos c0]
        exact ⟨rfl, r1, r2⟩
      refine wp_neg (fun q => c0 (n0.mp q)) ?_
      by_cases c1 : k = 1
      · refine wp_pos (n1.mpr c1) ?_
        rw [wp_some, if_neg c0, if_pos c1]
        exact ⟨rfl, r1, r2⟩
      refine wp_neg (fun q => c1 (n1.mp q)) ?_
      by_cases c2 : k = 2
      · refine wp_pos (n2.mpr c2) ?_
        rw [wp_some, if_neg c0, if_neg c1, if_pos c2]
        exact ⟨rfl, r1, r2⟩
      refine wp_neg (fun q => c2 (n2.mp q)) ?_
      rw [wp_some, if_neg c0, if_neg c1, if_neg c2]
      exact ⟨rfl, r1, r2⟩
/-- the first number with P, or NONE -/
noncomputable def fstA (P : Nat → Prop) : Int32 := if cD (∃ t, P t) then nI (lst P 0) else -4
theorem fstA_some {P : Nat → Prop} {t : Nat} (h : P t) (h2 : ∀ k, k < t → ¬ P k) : fstA P = nI t := by
  unfold fstA
  rw [if_pos (cD_t.mpr ⟨t, h⟩), lst_eq h (fun k hk => Nat.le_of_not_lt (fun q => h2 k q hk))]
theorem fstA_none {P : Nat → Prop} (h : ∀ t, ¬ P t) : fstA P = -4 := by
  unfold fstA
  rw [if_neg (fun q => by obtain ⟨t, ht⟩ := cD_t.mp q; exact h t ht)]
theorem S_alone {N : Nat} (hN : 70000 ≤ N) (p : Int32) : Sim (f_LW_alone N p) (f_MD_alone N p) := by
  refine Sim.of (fun A hw => ?_)
  have w6 := hw.w6
  have p3 := pow3_le w6
  have n16 := hw.n16
  rcases rgE p 0 A.n with ⟨e, _⟩ | ⟨e, _⟩
  · refine Sim.bad (ans := -1) hw (fun hi hl hR => ?_) (fun hi hl hR => ?_)
    · unfold f_LW_alone
      rw [e_isLamp hR.bd.n (by omega), e]; rfl
    · unfold f_MD_alone
      rw [m_isLamp hR.bd.n (by omega), e]; rfl
  obtain ⟨l, _, l1, rfl⟩ := rg_t (by omega) e
  have e1 : (1 : Int32) <<< (nI l &&& 31) = nI (2 ^ l) := ni_one (by omega)
  have pl : 2 ^ l ≤ 65536 := pow2_le (by omega)
  have pl0 : 0 < 2 ^ l := Nat.two_pow_pos l
  refine ⟨fstA (fun t => t < 3 ^ A.w ∧ Gt A t = 2 ^ l), A, hw, fun hi hl hR => ?_, fun hi hl hR => ?_⟩
  · unfold f_LW_alone
    rw [e_isLamp hR.bd.n (by omega), e]
    simp only [Option.bind_some, b2i_tt, if_false]
    refine (c_fillTable hN hw hR).bnd (fun x hx => ?_)
    obtain ⟨r1, r2, r3, _, K, ks, ts, tf⟩ := hx
    have hh : HiC hi x.2.1 := HiC.of r2 (by decide)
    rw [e1]
    unfold f_TurnTable_leastTurnOf
    have kl := tf.kN
    have ksl : ∀ i, i < K → ks i < 65536 := fun i hi => by rw [(tf.ks i hi).1]; exact Gt_lt hw _
    refine wp.bnd (P := fun z => z.1 = fstA (fun t => t < 3 ^ A.w ∧ Gt A t = 2 ^ l) ∧ z.2.1 = x.2.1) ?_ (fun z hz => by rw [wp_some]; dsimp only; rw [hz.2]; exact ⟨hz.1, r1, hh⟩)
    refine wp.bnd (P := fun z => (z.1 = 0 ∧ z.2.2.1 = x.2.1 ∧ ∀ i, i < K → ks i ≠ 2 ^ l) ∨ (z.1 = 1 ∧ z.2.2.1 = x.2.1 ∧ ∃ i, i < K ∧ ks i = 2 ^ l ∧ z.2.1 = nI i)) ?_ (fun z hz => ?_)
    · refine wp_for K (fun i s => s.1 = nI i ∧ s.2.1 = x.2.1 ∧ ∀ j, j < i → ks j ≠ 2 ^ l) ?_ ?_ (i := 0) (Nat.zero_le _) ⟨rfl, rfl, fun j hj => by omega⟩ (by omega)
      · rintro i ⟨q, g, gl⟩ hi1 ⟨rfl, hg, h⟩
        unfold B_TurnTable_leastTurnOf_2
        dsimp only at hg h ⊢
        subst hg
        rw [nI_clamp (by omega)]
        refine wp_neg (by rw [tf.k]; exact nI_ge hi1 (by omega)) (wp_neg (nI_in' (by omega) (by omega)) ?_)
        have := ksl i hi1
        by_cases c : ks i = 2 ^ l
        · refine wp_pos (by rw [tf.kd i hi1, c]) ?_
          rw [wp_some]
          exact Or.inr ⟨rfl, rfl, i, hi1, c, rfl⟩
        · refine wp_neg (by rw [tf.kd i hi1]; exact fun q => c ((nI_eq (by omega) (by omega)).mp q)) ?_
          rw [wp_some]
          refine ⟨nI_1 i, rfl, fun j hj => ?_⟩
          by_cases d : j = i
          · rw [d]; exact c
          · exact h j (by omega)
      · rintro ⟨q, g, gl⟩ ⟨rfl, hg, h⟩
        unfold B_TurnTable_leastTurnOf_2
        dsimp only at hg h ⊢
        subst hg
        refine wp_pos (by rw [tf.k]; exact nI_le (Nat.le_refl _) (by omega)) ?_
        rw [wp_some]
        exact Or.inl ⟨rfl, rfl, h⟩
    · rcases hz with ⟨z0, z1, z2⟩ | ⟨z0, z1, i, i1, i2, i3⟩
      · refine wp_pos z0 ?_
        rw [wp_some]
        refine ⟨(fstA_none (fun t q => ?_)).symm, z1⟩
        obtain ⟨i, a1, a2, _⟩ := tf.all t q.1 (by rw [q.2]; omega)
        exact z2 i a1 (by rw [a2, q.2])
      · refine wp_neg (by rw [z0]; omega) ?_
        rw [i3, z1]
        refine wp_neg (nI_in (by omega) (by omega)) ?_
        rw [wp_some, nI_clamp (by omega)]
        refine ⟨?_, rfl⟩
        dsimp only
        rw [tf.kt i i1]
        have ki := tf.ks i i1
        refine (fstA_some ⟨ki.2.2, by rw [← ki.1]; exact i2⟩ (fun k hk q => ?_)).symm
        obtain ⟨j, a1, a2, a3⟩ := tf.all k q.1 (by rw [q.2]; omega)
        have : j = i := by
          by_cases c1 : j < i
          · exact absurd (by rw [a2, q.2, i2]) (tf.ne j i c1 i1)
          · by_cases c2 : i < j
            · exact absurd (by rw [a2, q.2, i2]) (tf.ne i j c2 a1)
            · omega
        subst this
        omega
  · unfold f_MD_alone
    rw [m_isLamp hR.bd.n (by omega), e]
    simp only [Option.bind_some, b2i_tt, if_false]
    refine (m_freshens hN hw hR).bnd (fun x hx => ?_)
    obtain ⟨r1, r2, r3, mf⟩ := hx
    refine wp.bnd (P := fun z => (z.1 = 0 ∧ z.2.2.1 = x.2.1 ∧ ∀ i, i < 3 ^ A.w → Gt A i ≠ 2 ^ l) ∨ (z.1 = 1 ∧ z.2.2.1 = x.2.1 ∧ ∃ i, i < 3 ^ A.w ∧ Gt A i = 2 ^ l ∧ (∀ j, j < i → Gt A j ≠ 2 ^ l) ∧ z.2.1 = nI i)) ?_ (fun z hz => ?_)
    · refine wp_for (3 ^ A.w) (fun i s => s.1 = nI i ∧ s.2.1 = x.2.1 ∧ ∀ j, j < i → Gt A j ≠ 2 ^ l) ?_ ?_ (i := 0) (Nat.zero_le _) ⟨rfl, rfl, fun j hj => by omega⟩ (by omega)
      · rintro i ⟨q, g, gl⟩ hi1 ⟨rfl, hg, h⟩
        unfold B_MD_alone_16
        dsimp only at hg h ⊢
        subst hg
        rw [m_turnsOf r1.bd.w w6 hN, Option.bind_some]
        dsimp only
        rw [nI_clamp (by omega), e1]
        refine wp_neg (nI_ge hi1 (by omega)) (wp_neg (nI_in' (by omega) (by omega)) ?_)
        have := Gt_lt hw i
        by_cases c : Gt A i = 2 ^ l
        · refine wp_pos (by rw [mf.g i hi1, c]) ?_
          rw [wp_some]
          exact Or.inr ⟨rfl, rfl, i, hi1, c, h, rfl⟩
        · refine wp_neg (by rw [mf.g i hi1]; exact fun q => c ((nI_eq (by omega) (by omega)).mp q)) ?_
          rw [wp_some]
          refine ⟨nI_1 i, rfl, fun j hj => ?_⟩
          by_cases d : j = i
          · rw [d]; exact c
          · exact h j (by omega)
      · rintro ⟨q, g, gl⟩ ⟨rfl, hg, h⟩
        unfold B_MD_alone_16
        dsimp only at hg h ⊢
        subst hg
        rw [m_turnsOf r1.bd.w w6 hN, Option.bind_some]
        refine wp_pos (nI_le (Nat.le_refl _) (by omega)) ?_
        rw [wp_some]
        exact Or.inl ⟨rfl, rfl, h⟩
    · rcases hz with ⟨z0, z1, z2⟩ | ⟨z0, z1, i, i1, i2, i3, i4⟩
      · refine wp_pos z0 ?_
        rw [wp_some]
        dsimp only
        rw [z1]
        exact ⟨(fstA_none (fun t q => z2 t q.1 q.2)).symm, r1, r2⟩
      · refine wp_neg (by rw [z0]; omega) ?_
        rw [wp_some]
        dsimp only
        rw [z1, i4]
        exact ⟨(fstA_some ⟨i1, i2⟩ (fun k hk q => i3 k hk q.2)).symm, r1, r2⟩
