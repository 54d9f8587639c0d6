/-! astray, sets -/
theorem e_isFree {N t x : Nat} {hi : HI} {hl : HL} (ht : t < 2 ^ 31) (hx : x ≤ 6) : f_TurnTable_isFree N (nI t) (nI (3 ^ x)) hi hl = some (b2i (decide (fig t x = 0)), hi, hl) := by
  have p0 : 0 < 3 ^ x := Nat.pow_pos (by omega)
  have p1 := pow3_le hx
  have dk : t / 3 ^ x < 2 ^ 31 := Nat.lt_of_le_of_lt (Nat.div_le_self _ _) ht
  unfold f_TurnTable_isFree J_TurnTable_isFree_16
  have e3 : nI (t / 3 ^ x) - nI (t / 3 ^ x) / 3 * 3 = nI (fig t x) := pk_rem (d := 3) dk (by omega) (by omega)
  rw [if_neg (nI_nle p0 (by omega)), if_neg (nI_ne0 p0 (by omega)), pk_div ht p0 (by omega), e3]
  have f3 := fig_lt t x
  by_cases c : fig t x = 0
  · rw [if_pos (by rw [c]; rfl), decide_eq_true c]; rfl
  · have nz : ¬ nI (fig t x) = 0 := fun q => c ((nI_eq (b := 0) (by omega) (by omega)).mp q)
    rw [if_neg nz, decide_eq_false c]; rfl
theorem m_driven {N t x : Nat} {hi : HI} {hl : HL} (hN : 70000 ≤ N) (ht : t < 2 ^ 31) (hx : x ≤ 100) : f_MD_driven N (nI t) (nI x) hi hl = some (nI (fig t x), hi, hl) := by
  have key : wp (lpN (fun s => B_MD_driven_4 N (nI x) s.1 s.2.1 s.2.2.1 s.2.2.2) N (nI t, 0, hi, hl)) (fun z => z = (nI (t / 3 ^ x), hi, hl)) := by
    refine wp_for x (fun i s => s = (nI (t / 3 ^ i), nI i, hi, hl)) ?_ ?_ (i := 0) (by omega) (by rw [Nat.pow_zero, Nat.div_one]; rfl) (by omega)
    · rintro i s hi1 rfl
      have dk : t / 3 ^ i < 2 ^ 31 := Nat.lt_of_le_of_lt (Nat.div_le_self _ _) ht
      unfold B_MD_driven_4
      dsimp only
      refine wp_neg (nI_ge hi1 (by omega)) ?_
      rw [wp_some]
      show (nI (t / 3 ^ i) / nI 3, nI i + 1, hi, hl) = _
      rw [pk_div dk (by omega) (by omega), nI_1, Nat.pow_succ, Nat.div_div_eq_div_mul]
    · rintro s rfl
      unfold B_MD_driven_4
      dsimp only
      refine wp_pos (nI_le (Nat.le_refl _) (by omega)) ?_
      rw [wp_some]
  obtain ⟨z, h1, rfl⟩ := key
  unfold f_MD_driven
  rw [h1, Option.bind_some]
  have dk : t / 3 ^ x < 2 ^ 31 := Nat.lt_of_le_of_lt (Nat.div_le_self _ _) ht
  have e3 : nI (t / 3 ^ x) - nI (t / 3 ^ x) / 3 * 3 = nI (fig t x) := pk_rem (d := 3) dk (by omega) (by omega)
  dsimp only
  rw [e3]
theorem ni_bit1 {n j : Nat} (h : n < 2 ^ 31) (hj : j < 32) : ((nI n >>> (nI j &&& nI 31)) &&& nI 1 = nI 1) ↔ n.testBit j = true := by
  rw [ni_shr hj h, fa_and, nI_eq (Nat.lt_of_le_of_lt Nat.and_le_right (by decide)) (by decide), Nat.and_one_is_mod, Nat.testBit_eq_decide_div_mod_eq]
  have := Nat.mod_two_eq_zero_or_one (n / 2 ^ j)
  rcases this with h1 | h1 <;> simp [h1]
theorem S_astray {N : Nat} (hN : 70000 ≤ N) (p : Int32) : Sim (f_LW_astray N p) (f_MD_astray N p) := by
  refine Sim.of (fun A hw => ?_)
  have w6 := hw.w6
  have p3 := pow3_le w6
  have n16 := hw.n16
  rcases rgE p 0 A.n with ⟨e, _⟩ | ⟨e, _⟩
  · refine Sim.bad (ans := -1) hw (fun hi hl hR => ?_) (fun hi hl hR => ?_)
    · unfold f_LW_astray
      rw [e_isLamp hR.bd.n (by omega), e]; rfl
    · unfold f_MD_astray
      rw [m_isLamp hR.bd.n (by omega), e]; rfl
  obtain ⟨l, _, l1, rfl⟩ := rg_t (by omega) e
  have lu := hw.lf l l1
  have lv := hw.lt l l1
  have cl : (nI l).toNatClampNeg = l := nI_clamp (by omega)
  refine ⟨fstA (fun t => t < 3 ^ A.w ∧ (Gt A t).testBit l = true ∧ (fig t (A.lf l) = 0 ∨ fig t (A.lt l) = 0)), A, hw, fun hi hl hR => ?_, fun hi hl hR => ?_⟩
  · unfold f_LW_astray
    rw [e_isLamp hR.bd.n (by omega), e]
    simp only [Option.bind_some, b2i_tt, if_false]
    refine (c_fillTable hN hw hR).bnd (fun x hx => ?_)
    obtain ⟨r1, r2, r3, _, K, ks, ts, tf⟩ := hx
    have hh : HiC hi x.2.1 := HiC.of r2 (by decide)
    have g2 := r1.bd.f l l1
    have g3 := r1.bd.t l l1
    have c2 : (nI (A.lf l)).toNatClampNeg = A.lf l := nI_clamp (by omega)
    have c3 : (nI (A.lt l)).toNatClampNeg = A.lt l := nI_clamp (by omega)
    simp only [cl, g2, g3, c2, c3]
    refine wp_neg (nI_in' (by omega) (by omega)) (wp_neg (nI_in' (by omega) (by omega)) (wp_neg (nI_in' (by omega) (by omega)) (wp_neg (nI_in' (by omega) (by omega)) ?_)))
    rw [powT_eq _ (by omega), powT_eq _ (by omega)]
    unfold f_TurnTable_leastTurnAstray
    refine wp.bnd (P := fun z => z.1 = fstA (fun t => t < 3 ^ A.w ∧ (Gt A t).testBit l = true ∧ (fig t (A.lf l) = 0 ∨ fig t (A.lt l) = 0)) ∧ z.2.1 = x.2.1) ?_ (fun z hz => by rw [wp_some]; dsimp only; rw [hz.2]; exact ⟨hz.1, r1, hh⟩)
    refine wp.bnd (P := fun z => (z.1 = 0 ∧ z.2.2.1 = x.2.1 ∧ ∀ i, i < 3 ^ A.w → ¬ ((Gt A i).testBit l = true ∧ (fig i (A.lf l) = 0 ∨ fig i (A.lt l) = 0))) ∨ (z.1 = 1 ∧ z.2.2.1 = x.2.1 ∧ ∃ i, i < 3 ^ A.w ∧ ((Gt A i).testBit l = true ∧ (fig i (A.lf l) = 0 ∨ fig i (A.lt l) = 0)) ∧ (∀ j, j < i → ¬ ((Gt A j).testBit l = true ∧ (fig j (A.lf l) = 0 ∨ fig j (A.lt l) = 0))) ∧ z.2.1 = nI i)) ?_ (fun z hz => ?_)
    · refine wp_for (3 ^ A.w) (fun i s => s.1 = nI i ∧ s.2.1 = x.2.1 ∧ ∀ j, j < i → ¬ ((Gt A j).testBit l = true ∧ (fig j (A.lf l) = 0 ∨ fig j (A.lt l) = 0))) ?_ ?_ (i := 0) (Nat.zero_le _) ⟨rfl, rfl, fun j hj => by omega⟩ (by omega)
      · rintro i ⟨q, g, gl⟩ hi1 ⟨rfl, hg, h⟩
        unfold B_TurnTable_leastTurnAstray_3 J_TurnTable_leastTurnAstray_30
        dsimp only at hg h ⊢
        subst hg
        refine wp_neg (by rw [tf.tc]; exact nI_ge hi1 (by omega)) ?_
        have gi := Gt_lt hw i
        have nx : ¬ ((Gt A i).testBit l = true ∧ (fig i (A.lf l) = 0 ∨ fig i (A.lt l) = 0)) → wp (J_TurnTable_leastTurnAstray_59 N (nI l) (nI (3 ^ A.lf l)) (nI (3 ^ A.lt l)) (nI i) x.2.1 gl) (fun z => match z with
            | .inl s => s.1 = nI (i + 1) ∧ s.2.1 = x.2.1 ∧ ∀ j, j < i + 1 → ¬ ((Gt A j).testBit l = true ∧ (fig j (A.lf l) = 0 ∨ fig j (A.lt l) = 0))
            | .inr z => (z.1 = 0 ∧ z.2.2.1 = x.2.1 ∧ ∀ i, i < 3 ^ A.w → ¬ ((Gt A i).testBit l = true ∧ (fig i (A.lf l) = 0 ∨ fig i (A.lt l) = 0))) ∨ (z.1 = 1 ∧ z.2.2.1 = x.2.1 ∧ ∃ i, i < 3 ^ A.w ∧ ((Gt A i).testBit l = true ∧ (fig i (A.lf l) = 0 ∨ fig i (A.lt l) = 0)) ∧ (∀ j, j < i → ¬ ((Gt A j).testBit l = true ∧ (fig j (A.lf l) = 0 ∨ fig j (A.lt l) = 0))) ∧ z.2.1 = nI i)) := by
          intro c
          unfold J_TurnTable_leastTurnAstray_59
          rw [wp_some]
          refine ⟨nI_1 i, rfl, fun j hj => ?_⟩
          by_cases d : j = i
          · rw [d]; exact c
          · exact h j (by omega)
        have fr : (fig i (A.lf l) = 0 ∨ fig i (A.lt l) = 0) → wp (J_TurnTable_leastTurnAstray_35 N (nI l) (nI (3 ^ A.lf l)) (nI (3 ^ A.lt l)) (nI i) 1 x.2.1 gl) (fun z => match z with
            | .inl s => s.1 = nI (i + 1) ∧ s.2.1 = x.2.1 ∧ ∀ j, j < i + 1 → ¬ ((Gt A j).testBit l = true ∧ (fig j (A.lf l) = 0 ∨ fig j (A.lt l) = 0))
            | .inr z => (z.1 = 0 ∧ z.2.2.1 = x.2.1 ∧ ∀ i, i < 3 ^ A.w → ¬ ((Gt A i).testBit l = true ∧ (fig i (A.lf l) = 0 ∨ fig i (A.lt l) = 0))) ∨ (z.1 = 1 ∧ z.2.2.1 = x.2.1 ∧ ∃ i, i < 3 ^ A.w ∧ ((Gt A i).testBit l = true ∧ (fig i (A.lf l) = 0 ∨ fig i (A.lt l) = 0)) ∧ (∀ j, j < i → ¬ ((Gt A j).testBit l = true ∧ (fig j (A.lf l) = 0 ∨ fig j (A.lt l) = 0))) ∧ z.2.1 = nI i)) := by
          intro c
          unfold J_TurnTable_leastTurnAstray_35
          refine wp_neg (by decide) (wp_neg (nI_in (by omega) (by omega)) ?_)
          rw [nI_clamp (by omega), tf.g i hi1]
          by_cases b : (Gt A i).testBit l = false
          · refine wp_pos ((ni_bit (by omega) (by omega)).mpr b) (nx (fun q => by rw [b] at q; cases q.1))
          · have b' : (Gt A i).testBit l = true := by simpa using b
            refine wp_neg (fun q => b ((ni_bit (by omega) (by omega)).mp q)) ?_
            rw [wp_some]
            exact Or.inr ⟨rfl, rfl, i, hi1, ⟨b', c⟩, h, rfl⟩
        rw [e_isFree (by omega) (by omega), Option.bind_some]
        dsimp only
        by_cases c1 : fig i (A.lf l) = 0
        · refine wp_neg (by rw [decide_eq_true c1]; decide) ((fr (Or.inl c1)).mono (fun z hz => by cases z <;> exact hz))
        · refine wp_pos (by rw [decide_eq_false c1]; rfl) ?_
          rw [e_isFree (by omega) (by omega), Option.bind_some]
          dsimp only
          by_cases c2 : fig i (A.lt l) = 0
          · refine wp_neg (by rw [decide_eq_true c2]; decide) ((fr (Or.inr c2)).mono (fun z hz => by cases z <;> exact hz))
          · refine wp_pos (by rw [decide_eq_false c2]; rfl) ?_
            unfold J_TurnTable_leastTurnAstray_35
            refine wp_pos rfl ((nx (fun q => q.2.elim c1 c2)).mono (fun z hz => by cases z <;> exact hz))
      · rintro ⟨q, g, gl⟩ ⟨rfl, hg, h⟩
        unfold B_TurnTable_leastTurnAstray_3
        dsimp only at hg h ⊢
        subst hg
        refine wp_pos (by rw [tf.tc]; exact nI_le (Nat.le_refl _) (by omega)) ?_
        rw [wp_some]
        exact Or.inl ⟨rfl, rfl, h⟩
    · rcases hz with ⟨z0, z1, z2⟩ | ⟨z0, z1, i, i1, i2, i3, i4⟩
      · refine wp_pos z0 ?_
        rw [wp_some]
        exact ⟨(fstA_none (fun t q => z2 t q.1 q.2)).symm, z1⟩
      · refine wp_neg (by rw [z0]; omega) ?_
        rw [wp_some]
        dsimp only
        rw [i4]
        exact ⟨(fstA_some ⟨i1, i2⟩ (fun k hk q => i3 k hk q.2)).symm, z1⟩
  · unfold f_MD_astray
    rw [m_isLamp hR.bd.n (by omega), e]
    simp only [Option.bind_some, b2i_tt, if_false]
    refine (m_freshens hN hw hR).bnd (fun x hx => ?_)
    obtain ⟨r1, r2, r3, mf⟩ := hx
    have g2 := r1.bd.f l l1
    have g3 := r1.bd.t l l1
    refine wp.bnd (P := fun z => (z.1 = 0 ∧ z.2.2.1 = x.2.1 ∧ ∀ i, i < 3 ^ A.w → ¬ ((Gt A i).testBit l = true ∧ (fig i (A.lf l) = 0 ∨ fig i (A.lt l) = 0))) ∨ (z.1 = 1 ∧ z.2.2.1 = x.2.1 ∧ ∃ i, i < 3 ^ A.w ∧ ((Gt A i).testBit l = true ∧ (fig i (A.lf l) = 0 ∨ fig i (A.lt l) = 0)) ∧ (∀ j, j < i → ¬ ((Gt A j).testBit l = true ∧ (fig j (A.lf l) = 0 ∨ fig j (A.lt l) = 0))) ∧ z.2.1 = nI i)) ?_ (fun z hz => ?_)
    · refine wp_for (3 ^ A.w) (fun i s => s.1 = nI i ∧ s.2.1 = x.2.1 ∧ ∀ j, j < i → ¬ ((Gt A j).testBit l = true ∧ (fig j (A.lf l) = 0 ∨ fig j (A.lt l) = 0))) ?_ ?_ (i := 0) (Nat.zero_le _) ⟨rfl, rfl, fun j hj => by omega⟩ (by omega)
      · rintro i ⟨q, g, gl⟩ hi1 ⟨rfl, hg, h⟩
        unfold B_MD_astray_16
        dsimp only at hg h ⊢
        subst hg
        rw [m_turnsOf r1.bd.w w6 hN, Option.bind_some]
        dsimp only
        have ci : (nI i).toNatClampNeg = i := nI_clamp (by omega)
        have gi := Gt_lt hw i
        have f1 := fig_lt i (A.lf l)
        have f2 := fig_lt i (A.lt l)
        have nx : ¬ ((Gt A i).testBit l = true ∧ (fig i (A.lf l) = 0 ∨ fig i (A.lt l) = 0)) → wp (J_MD_astray_66 N (nI l) (nI i) x.2.1 gl) (fun z => match z with
            | .inl s => s.1 = nI (i + 1) ∧ s.2.1 = x.2.1 ∧ ∀ j, j < i + 1 → ¬ ((Gt A j).testBit l = true ∧ (fig j (A.lf l) = 0 ∨ fig j (A.lt l) = 0))
            | .inr z => (z.1 = 0 ∧ z.2.2.1 = x.2.1 ∧ ∀ i, i < 3 ^ A.w → ¬ ((Gt A i).testBit l = true ∧ (fig i (A.lf l) = 0 ∨ fig i (A.lt l) = 0))) ∨ (z.1 = 1 ∧ z.2.2.1 = x.2.1 ∧ ∃ i, i < 3 ^ A.w ∧ ((Gt A i).testBit l = true ∧ (fig i (A.lf l) = 0 ∨ fig i (A.lt l) = 0)) ∧ (∀ j, j < i → ¬ ((Gt A j).testBit l = true ∧ (fig j (A.lf l) = 0 ∨ fig j (A.lt l) = 0))) ∧ z.2.1 = nI i)) := by
          intro c
          unfold J_MD_astray_66
          rw [wp_some]
          refine ⟨nI_1 i, rfl, fun j hj => ?_⟩
          by_cases d : j = i
          · rw [d]; exact c
          · exact h j (by omega)
        simp only [ci, cl, mf.g i hi1, g2, g3]
        refine wp_neg (nI_ge hi1 (by omega)) (wp_neg (nI_in' (by omega) (by omega)) ?_)
        by_cases b : (Gt A i).testBit l = true
        · refine wp_pos ((ni_bit1 (by omega) (by omega)).mpr b) (wp_neg (nI_in' (by omega) (by omega)) ?_)
          rw [m_driven hN (by omega) (by omega), Option.bind_some]
          dsimp only
          by_cases c1 : fig i (A.lf l) = 0
          · refine wp_pos (by rw [c1]; rfl) ?_
            rw [wp_some]
            exact Or.inr ⟨rfl, rfl, i, hi1, ⟨b, Or.inl c1⟩, h, rfl⟩
          · refine wp_neg (fun q => c1 ((nI_eq (b := 0) (by omega) (by omega)).mp q)) (wp_neg (nI_in' (by omega) (by omega)) ?_)
            rw [g3, m_driven hN (by omega) (by omega), Option.bind_some]
            dsimp only
            by_cases c2 : fig i (A.lt l) = 0
            · refine wp_pos (by rw [c2]; rfl) ?_
              rw [wp_some]
              exact Or.inr ⟨rfl, rfl, i, hi1, ⟨b, Or.inr c2⟩, h, rfl⟩
            · refine wp_neg (fun q => c2 ((nI_eq (b := 0) (by omega) (by omega)).mp q)) ((nx (fun q => q.2.elim c1 c2)).mono (fun z hz => by cases z <;> exact hz))
        · refine wp_neg (fun q => b ((ni_bit1 (by omega) (by omega)).mp q)) ((nx (fun q => b q.1)).mono (fun z hz => by cases z <;> exact hz))
      · rintro ⟨q, g, gl⟩ ⟨rfl, hg, h⟩
        unfold B_MD_astray_16
        dsimp only at hg h ⊢
        subst hg
        rw [m_turnsOf r1.bd.w w6 hN, Option.bind_some]
        refine wp_pos (nI_le (Nat.le_refl _) (by omega)) ?_
        rw [wp_some]
        exact Or.inl ⟨rfl, rfl, h⟩
    · rcases hz with ⟨z0, z1, z2⟩ | ⟨z0, z1, i, i1, i2, i3, i4⟩
      · refine wp_pos z0 ?_
        rw [wp_some]
        dsimp only
        rw [z1]
        exact ⟨(fstA_none (fun t q => z2 t q.1 q.2)).symm, r1, r2⟩
      · refine wp_neg (by rw [z0]; omega) ?_
        rw [wp_some]
        dsimp only
        rw [z1, i4]
        exact ⟨(fstA_some ⟨i1, i2⟩ (fun k hk q => i3 k hk q.2)).symm, r1, r2⟩
/-! sets -/
theorem choice_fn {n : Nat} {P : Nat → Nat → Prop} (h : ∀ i, i < n → ∃ k, P i k) : ∃ f : Nat → Nat, ∀ i, i < n → P i (f i) := by
  refine ⟨fun i => lst (P i) 0, fun i hi => (lst_spec (h i hi)).1⟩
theorem sets_eq {A : St} (hw : WF A) {K S : Nat} {ks ts sv : Nat → Nat} (k1 : ∀ i, i < K → IsSet A (ks i) ∧ ks i ≠ 0) (k2 : ∀ i j, i < j → j < K → ks i ≠ ks j) (k3 : ∀ s, IsSet A s → s ≠ 0 → ∃ i, i < K ∧ ks i = s) (s1 : ∀ k, k < S → IsSet A (sv k)) (s2 : ∀ k j, k < j → j < S → sv k ≠ sv j) (s3 : ∀ s, IsSet A s → ∃ k, k < S ∧ sv k = s) : K + 1 = S := by
  have s2' : ∀ k j, k < S → j < S → sv k = sv j → k = j := fun k j hk hj e => by
    by_cases c1 : k < j
    · exact absurd e (s2 k j c1 hj)
    · by_cases c2 : j < k
      · exact absurd e.symm (s2 j k c2 hk)
      · omega
  have k2' : ∀ k j, k < K → j < K → ks k = ks j → k = j := fun k j hk hj e => by
    by_cases c1 : k < j
    · exact absurd e (k2 k j c1 hj)
    · by_cases c2 : j < k
      · exact absurd e.symm (k2 j k c2 hk)
      · omega
  have a : K + 1 ≤ S := by
    obtain ⟨f, hf⟩ := choice_fn (n := K + 1) (P := fun i k => k < S ∧ sv k = if i = K then 0 else ks i) (fun i hi => by
      by_cases e : i = K
      · rw [if_pos e]; exact s3 0 (IsSet.zero hw)
      · rw [if_neg e]; exact s3 _ (k1 i (by omega)).1)
    refine fb_holes S (K + 1) f (fun i hi => (hf i hi).1) (fun i j hij hj e => ?_)
    have e1 := (hf i (by omega)).2
    have e2 := (hf j hj).2
    rw [e, e2, if_neg (show ¬ i = K by omega)] at e1
    by_cases c : j = K
    · rw [if_pos c] at e1; exact (k1 i (by omega)).2 e1.symm
    · rw [if_neg c] at e1; exact k2 i j hij (by omega) e1.symm
  have b : S ≤ K + 1 := by
    obtain ⟨f, hf⟩ := choice_fn (n := S) (P := fun k i => (sv k = 0 ∧ i = K) ∨ (i < K ∧ ks i = sv k)) (fun k hk => by
      by_cases e : sv k = 0
      · exact ⟨K, Or.inl ⟨e, rfl⟩⟩
      · obtain ⟨i, i1, i2⟩ := k3 _ (s1 k hk) e
        exact ⟨i, Or.inr ⟨i1, i2⟩⟩)
    refine fb_holes (K + 1) S f (fun i hi => by rcases hf i hi with ⟨_, h⟩ | ⟨h, _⟩ <;> omega) (fun i j hij hj e => ?_)
    refine s2 i j hij hj ?_
    rcases hf i (by omega) with ⟨h1, h2⟩ | ⟨h1, h2⟩ <;> rcases hf j hj with ⟨g1, g2⟩ | ⟨g1, g2⟩
    · rw [h1, g1]
    · omega
    · omega
    · rw [← h2, ← g2, e]
  omega
theorem S_sets {N : Nat} (hN : 70000 ≤ N) : Sim (f_LW_sets N) (f_MD_sets N) := by
  intro A hi hl hw hc hm
  unfold f_LW_sets
  refine (c_fillTable hN hw hc).bnd (fun x hx => ?_)
  obtain ⟨r1, r2, r3, _, K, ks, ts, tf⟩ := hx
  rw [wp_some]
  unfold f_MD_sets
  refine (m_freshens hN hw (hm.hiC (HiC.of r2 (by decide)))).bnd (fun y hy => ?_)
  obtain ⟨q1, q2, q3, mf⟩ := hy
  rw [wp_some]
  obtain ⟨S, sv, eS, s0, s1, s2, s3⟩ := mf.sets
  refine ⟨?_, A, hw, r1.lo q2, q1⟩
  dsimp only
  rw [tf.k, eS, nI_1]
  congr 1
  refine sets_eq hw (ks := ks) (ts := ts) (sv := sv) (fun i hi => ?_) tf.ne (fun s hs h0 => ?_) (fun k hk => (s1 k hk).2) s2 s3
  · have := tf.ks i hi
    exact ⟨⟨ts i, this.2.2, this.1.symm⟩, this.2.1⟩
  · obtain ⟨t, t1, t2⟩ := hs
    obtain ⟨i, i1, i2, _⟩ := tf.all t t1 (by rw [t2]; exact h0)
    exact ⟨i, i1, by rw [i2, t2]⟩
