/-! the reference's glows -/
abbrev FZ (t k : Nat) (hi : HI) : Prop :=
  (∀ y, y < k → hi 71 y = nI (fig t y)) ∧
  (∀ y, y < k → hi 72 y = nI (if fig t y = 1 then 0 else 10000)) ∧
  (∀ y, y < k → hi 73 y = nI (if fig t y = 2 then 0 else 10000))
theorem FZ.d {t k : Nat} {hi : HI} (h_ : FZ t k hi) : ∀ y, y < k → hi 71 y = nI (fig t y) := h_.1
theorem FZ.f {t k : Nat} {hi : HI} (h_ : FZ t k hi) : ∀ y, y < k → hi 72 y = nI (if fig t y = 1 then 0 else 10000) := h_.2.1
theorem FZ.n {t k : Nat} {hi : HI} (h_ : FZ t k hi) : ∀ y, y < k → hi 73 y = nI (if fig t y = 2 then 0 else 10000) := h_.2.2
theorem m_first {N : Nat} (hN : 70000 ≤ N) {A : St} (hw : WF A) {h : Nat → Nat} {t p : Nat} {hi : HI} {hl : HL} (ht : t < 3 ^ A.w) (gb : GB A h p hi) : wp (lpN (fun s => B_MD_glows_5 N p s.1 s.2.1 s.2.2.1 s.2.2.2) N (nI t, 0, hi, hl)) (fun o => Sam [71, 72, 73] hi o.1 ∧ FZ t A.w o.1) := by
  have w6 := hw.w6
  have p3 := pow3_le w6
  refine wp_for A.w (fun k s => s.1 = nI (t / 3 ^ k) ∧ s.2.1 = nI k ∧ Sam [71, 72, 73] hi s.2.2.1 ∧ FZ t k s.2.2.1) ?_ ?_ (i := 0) (by omega) ⟨by rw [Nat.pow_zero, Nat.div_one], rfl, Sam.refl _ _, fun y hy => by omega, fun y hy => by omega, fun y hy => by omega⟩ (by omega)
  · rintro k ⟨q, q2, g, l⟩ hk ⟨rfl, rfl, sm, f0⟩
    dsimp only at sm f0
    have gb1 := gb.sam sm
    have dk : t / 3 ^ k < 2 ^ 31 := Nat.lt_of_le_of_lt (Nat.div_le_self _ _) (by omega)
    have e3 : nI (t / 3 ^ k) - nI (t / 3 ^ k) / 3 * 3 = nI (fig t k) := pk_rem (d := 3) dk (by omega) (by omega)
    have e4 : nI (t / 3 ^ k) / 3 = nI (t / 3 ^ (k + 1)) := by rw [lit_I, pk_div dk (by decide) (by decide), Nat.pow_succ, Nat.div_div_eq_div_mul]
    have f3 := fig_lt t k
    unfold B_MD_glows_5 J_MD_glows_52 J_MD_glows_77
    dsimp only
    rw [e3, e4]
    simp (disch := omega) only [nI_clamp, wr_s]
    refine wp_neg (by rw [gb1.w]; exact nI_ge hk (by omega)) (wp_neg (nI_in' (by omega) (by omega)) (wp_neg (nI_in' (by omega) (by omega)) ?_))
    have n1 : (nI (fig t k) = 1) ↔ fig t k = 1 := nI_eq (b := 1) (by omega) (by omega)
    have n2 : (nI (fig t k) = 2) ↔ fig t k = 2 := nI_eq (b := 2) (by omega) (by omega)
    have r71 : ∀ x, wr (wr g 71 k (nI (fig t k))) 72 k x 71 k = nI (fig t k) := fun x => by rw [wr_o (by omega), wr_s]
    have fin : ∀ x y, x = nI (if fig t k = 1 then 0 else 10000) → y = nI (if fig t k = 2 then 0 else 10000) → Sam [71, 72, 73] hi (wr (wr (wr g 71 k (nI (fig t k))) 72 k x) 73 k y) ∧ FZ t (k + 1) (wr (wr (wr g 71 k (nI (fig t k))) 72 k x) 73 k y) := by
      rintro x y rfl rfl
      refine ⟨((sm.wr (by decide)).wr (by decide)).wr (by decide), fun z hz => ?_, fun z hz => ?_, fun z hz => ?_⟩
      · rw [wr_o (by omega), wr_o (by omega), wr_i]
        by_cases e : z = k
        · rw [if_pos e, e]
        · rw [if_neg e]; exact f0.d z (by omega)
      · rw [wr_o (by omega), wr_i, wr_o (by omega)]
        by_cases e : z = k
        · rw [if_pos e, e]
        · rw [if_neg e]; exact f0.f z (by omega)
      · rw [wr_i, wr_o (by omega), wr_o (by omega)]
        by_cases e : z = k
        · rw [if_pos e, e]
        · rw [if_neg e]; exact f0.n z (by omega)
    rcases (show fig t k = 0 ∨ fig t k = 1 ∨ fig t k = 2 by omega) with e | e | e
    · refine wp_neg (by rw [n1]; omega) (wp_neg (nI_in' (by omega) (by omega)) (wp_neg (nI_in' (by omega) (by omega)) (wp_neg (by rw [r71, n2]; omega) (wp_neg (nI_in' (by omega) (by omega)) ?_))))
      rw [wp_some]
      exact ⟨rfl, nI_1 k, fin _ _ (by rw [if_neg (by omega)]; rfl) (by rw [if_neg (by omega)]; rfl)⟩
    · refine wp_pos (by rw [n1]; omega) (wp_neg (nI_in' (by omega) (by omega)) (wp_neg (nI_in' (by omega) (by omega)) (wp_neg (by rw [r71, n2]; omega) (wp_neg (nI_in' (by omega) (by omega)) ?_))))
      rw [wp_some]
      exact ⟨rfl, nI_1 k, fin _ _ (by rw [if_pos e]; rfl) (by rw [if_neg (by omega)]; rfl)⟩
    · refine wp_neg (by rw [n1]; omega) (wp_neg (nI_in' (by omega) (by omega)) (wp_neg (nI_in' (by omega) (by omega)) (wp_pos (by rw [r71, n2]; omega) (wp_neg (nI_in' (by omega) (by omega)) ?_))))
      rw [wp_some]
      exact ⟨rfl, nI_1 k, fin _ _ (by rw [if_neg (by omega)]; rfl) (by rw [if_pos e]; rfl)⟩
  · rintro ⟨q, q2, g, l⟩ ⟨rfl, rfl, sm, f0⟩
    dsimp only at sm f0
    have gb1 := gb.sam sm
    unfold B_MD_glows_5
    dsimp only
    refine wp_pos (by rw [gb1.w]; exact nI_le (Nat.le_refl _) (by omega)) ?_
    rw [wp_some]
    exact ⟨sm, f0⟩
theorem m_least {N : Nat} (hN : 70000 ≤ N) {A : St} (hw : WF A) {h : Nat → Nat} {t p : Nat} {hi : HI} {hl : HL} {far near : Nat → Nat} (gb : GB A h p hi) (fn : FN A h t hi far near) (fk : FK A h t (2 * A.w) far) : wp (lpN (fun s => B_MD_glows_213 N p s.1 s.2.1 s.2.2) N (0, wr hi 65 12 10000, hl)) (fun o => o.1 = wr hi 65 12 (nI (Lst A h t))) := by
  have w6 := hw.w6
  have w2 := hw.w2
  refine wp_for A.w (fun k s => s.1 = nI k ∧ ∃ L, s.2.1 = wr hi 65 12 (nI L) ∧ L ≤ 10000 ∧ (∀ v, v < k → fig t v = 2 → L ≤ far v) ∧ (L = 10000 ∨ ∃ v, v < A.w ∧ fig t v = 2 ∧ far v = L)) ?_ ?_ (i := 0) (by omega) ⟨rfl, 10000, rfl, by omega, fun v hv => by omega, Or.inl rfl⟩ (by omega)
  · rintro k ⟨q, g, l⟩ hk ⟨rfl, L, rfl, l1, l2, l3⟩
    unfold B_MD_glows_213 J_MD_glows_258 J_MD_glows_262
    dsimp only
    have f3 := fig_lt t k
    have n2 : (nI (fig t k) = 2) ↔ fig t k = 2 := nI_eq (b := 2) (by omega) (by omega)
    have e0 : wr hi 65 12 (nI L) 65 0 = nI A.w := by rw [wr_k (by omega)]; exact gb.w
    have e71 : wr hi 65 12 (nI L) 71 k = nI (fig t k) := by rw [wr_o (by omega)]; exact fn.d k hk
    have e72 : wr hi 65 12 (nI L) 72 k = nI (far k) := by rw [wr_o (by omega)]; exact fn.f k hk
    have ww : ∀ x y, wr (wr hi 65 12 x) 65 12 y = wr hi 65 12 y := fun x y => by
      funext a j
      by_cases e : a = 65
      · subst e
        rw [wr_i, wr_i, wr_i]
        split <;> rfl
      · rw [wr_o e, wr_o e, wr_o e]
    simp (disch := omega) only [nI_clamp, wr_s, ww, e0, e71, e72]
    have lf := fn.fs.le hk
    refine wp_neg (nI_ge hk (by omega)) (wp_neg (nI_in' (by omega) (by omega)) ?_)
    by_cases e : fig t k = 2
    · refine wp_pos (n2.mpr e) (wp_neg (nI_in' (by omega) (by omega)) ?_)
      by_cases kl : L ≤ far k
      · refine wp_pos (nI_le kl (by omega)) ?_
        rw [wp_some]
        refine ⟨nI_1 k, L, rfl, l1, fun v hv hv2 => ?_, l3⟩
        by_cases q : v = k
        · subst q; exact kl
        · exact l2 v (by omega) hv2
      · refine wp_neg (nI_ge (by omega) (by omega)) (wp_neg (nI_in' (by omega) (by omega)) ?_)
        rw [wp_some]
        refine ⟨nI_1 k, far k, rfl, lf, fun v hv hv2 => ?_, Or.inr ⟨k, hk, e, rfl⟩⟩
        by_cases q : v = k
        · subst q; exact Nat.le_refl _
        · have := l2 v (by omega) hv2
          omega
    · refine wp_neg (fun q => e (n2.mp q)) ?_
      rw [wp_some]
      refine ⟨nI_1 k, L, rfl, l1, fun v hv hv2 => ?_, l3⟩
      by_cases q : v = k
      · subst q; exact absurd hv2 e
      · exact l2 v (by omega) hv2
  · rintro ⟨q, g, l⟩ ⟨rfl, L, rfl, l1, l2, l3⟩
    unfold B_MD_glows_213
    dsimp only
    refine wp_pos (by rw [wr_k (by omega), gb.w]; exact nI_le (Nat.le_refl _) (by omega)) ?_
    rw [wp_some]
    dsimp only
    rw [far_Lst hw fn.fs fk (by omega) l2 l1 l3]
theorem bit_addN {f k : Nat} {p : Nat → Prop} (c : Nat) (hf : ∀ x, f.testBit x = true ↔ x < k ∧ p x) (hc : (p k ∧ c = 2 ^ k) ∨ (¬ p k ∧ c = 0)) : ∀ x, (f ||| c).testBit x = true ↔ x < k + 1 ∧ p x := fun _ => bit_add c hf hc
theorem m_lamps {N : Nat} (hN : 70000 ≤ N) {A : St} (hw : WF A) {h : Nat → Nat} {t p : Nat} {hi : HI} {hl : HL} {far near : Nat → Nat} (gb : GB A h p hi) (fn : FN A h t hi far near) (fk : FK A h t (2 * A.w) far) (nk : NK A h t (2 * A.w) near) (h12 : hi 65 12 = nI (Lst A h t)) : wp (lpN (fun s => B_MD_glows_277 N p s.1 s.2.1 s.2.2.1 s.2.2.2) N (0, 0, hi, hl)) (fun o => o.1 = nI (GM A h t) ∧ o.2.1 = hi) := by
  have w6 := hw.w6
  have w2 := hw.w2
  have n16 := hw.n16
  have sup := hw.s30
  have hL : Lst A h t ≤ 10000 := by rcases Lst_cases hw h t with q | q <;> omega
  have ein : ∀ hl, f_MD_in N (nI (Lst A h t)).toInt64 1 (nI A.sup).toInt64 hi hl = some (b2i (decide (1 ≤ Lst A h t ∧ Lst A h t ≤ A.sup)), hi, hl) := by
    intro hl
    rw [e_in, Int32.toInt_toInt64, Int32.toInt_toInt64, nI_toInt (by omega), nI_toInt (by omega)]
    have : (1 : Int64).toInt = 1 := by decide
    rw [this]
    congr 3
    apply decide_eq_decide.mpr
    omega
  by_cases hin : 1 ≤ Lst A h t ∧ Lst A h t ≤ A.sup
  · refine wp_for A.n (fun i s => ∃ M, s = (nI M, nI i, hi, hl) ∧ ∀ x, M.testBit x = true ↔ x < i ∧ ∃ m, Way A h t (Lst A h t) m ∧ m.testBit x = true) ?_ ?_ (i := 0) (by omega) ⟨0, rfl, fun x => by simp⟩ (by omega)
    · rintro i s hin2 ⟨M, rfl, hM⟩
      unfold B_MD_glows_277
      dsimp only
      refine wp_neg (by rw [gb.n]; exact nI_ge hin2 (by omega)) ?_
      have r1 := gb.f i hin2
      have r2 := gb.t i hin2
      have r3 := gb.v i hin2
      have r4 := gb.p i hin2
      have lu := hw.lf i hin2
      have lv := hw.lt i hin2
      have lv9 := hw.lv9 i hin2
      have q1 := fn.d _ lu
      have q2 := fn.d _ lv
      have q3 := fn.f _ lu
      have q4 := fn.n _ lv
      have c3 := fn.fs.le lu
      have c4 := fn.ns.le lv
      have k1 := fig_lt t (A.lf i)
      have k2 := fig_lt t (A.lt i)
      have h3 := gb.p3 i hin2
      have iff := far_lamp hw fn.fs fn.ns fk nk (by omega) (by omega) hin2
      rw [h12, gb.s, ein, Option.bind_some]
      dsimp only
      rw [decide_eq_true hin]
      have j0 : J_MD_glows_384 N p (nI M) (nI i) hi hl = some (.inl (nI (M ||| 0), nI i + 1, hi, hl)) := by
        unfold J_MD_glows_384 J_MD_glows_385 J_MD_glows_402
        rw [if_pos rfl, ← fa_or]; rfl
      have j1 : J_MD_glows_385 N p (nI M) (nI i) 1 hi hl = some (.inl (nI (M ||| 2 ^ i), nI i + 1, hi, hl)) := by
        unfold J_MD_glows_385 J_MD_glows_402
        have e1 : (1 : Int32) <<< (nI i &&& 31) = nI (2 ^ i) := ni_one (by omega)
        rw [if_neg (by decide), ← fa_or, e1]
      have ci : (nI i).toNatClampNeg = i := nI_clamp (by omega)
      have cu : (nI (A.lf i)).toNatClampNeg = A.lf i := nI_clamp (by omega)
      have cv : (nI (A.lt i)).toNatClampNeg = A.lt i := nI_clamp (by omega)
      simp only [ci, r1, r2, r3, r4, cu, cv]
      simp only [q1, q2, q3, q4, nI_add]
      refine wp_neg (by decide) (wp_neg (nI_in' (by omega) (by omega)) (wp_neg (nI_in' (by omega) (by omega)) (wp_pos gb.g (wp_neg (nI_in' (by omega) (by omega)) ?_))))
      have yes : (h i = 0 ∧ fig t (A.lf i) ≠ 2 ∧ fig t (A.lt i) ≠ 1 ∧ far (A.lf i) + A.lv i + near (A.lt i) = Lst A h t) → ∃ M', (nI (M ||| 2 ^ i), nI i + 1, hi, hl) = (nI M', nI (i + 1), hi, hl) ∧ ∀ x, M'.testBit x = true ↔ x < i + 1 ∧ ∃ m, Way A h t (Lst A h t) m ∧ m.testBit x = true := fun q => ⟨_, by rw [nI_1], bit_addN _ hM (Or.inl ⟨iff.mpr q, rfl⟩)⟩
      have no : ¬ (h i = 0 ∧ fig t (A.lf i) ≠ 2 ∧ fig t (A.lt i) ≠ 1 ∧ far (A.lf i) + A.lv i + near (A.lt i) = Lst A h t) → ∃ M', (nI (M ||| 0), nI i + 1, hi, hl) = (nI M', nI (i + 1), hi, hl) ∧ ∀ x, M'.testBit x = true ↔ x < i + 1 ∧ ∃ m, Way A h t (Lst A h t) m ∧ m.testBit x = true := fun q => ⟨_, by rw [nI_1], bit_addN _ hM (Or.inr ⟨fun z => q (iff.mp z), rfl⟩)⟩
      by_cases b0 : h i = 0
      · refine wp_pos (by rw [b0]; rfl) (wp_neg (nI_in' (by omega) (by omega)) ?_)
        by_cases b1 : fig t (A.lf i) = 2
        · refine wp_pos (by rw [b1]; rfl) ?_
          rw [j0, wp_some]
          exact no (fun q => q.2.1 b1)
        refine wp_neg (fun q => b1 ((nI_eq (b := 2) (by omega) (by omega)).mp q)) (wp_neg (nI_in' (by omega) (by omega)) ?_)
        by_cases b2 : fig t (A.lt i) = 1
        · refine wp_pos (by rw [b2]; rfl) ?_
          rw [j0, wp_some]
          exact no (fun q => q.2.2.1 b2)
        refine wp_neg (fun q => b2 ((nI_eq (b := 1) (by omega) (by omega)).mp q)) (wp_neg (nI_in' (by omega) (by omega)) (wp_neg (nI_in' (by omega) (by omega)) (wp_neg (nI_in' (by omega) (by omega)) ?_)))
        by_cases b3 : far (A.lf i) + A.lv i + near (A.lt i) = Lst A h t
        · refine wp_pos (by rw [b3, h12]) ?_
          rw [j1, wp_some]
          exact yes ⟨b0, b1, b2, b3⟩
        · refine wp_neg (fun q => b3 ((nI_eq (by omega) (by omega)).mp (q.trans h12))) ?_
          rw [j0, wp_some]
          exact no (fun q => b3 q.2.2.2)
      · refine wp_neg (fun q => b0 ((nI_eq (b := 0) (by omega) (by omega)).mp q)) ?_
        rw [j0, wp_some]
        exact no (fun q => b0 q.1)
    · rintro s ⟨M, rfl, hM⟩
      unfold B_MD_glows_277
      dsimp only
      refine wp_pos (by rw [gb.n]; exact nI_le (Nat.le_refl _) (by omega)) ?_
      rw [wp_some]
      refine ⟨?_, rfl⟩
      dsimp only
      unfold GM
      rw [if_pos hin, ← msk_eq hM]
  · have eG : GM A h t = 0 := by unfold GM; rw [if_neg hin]
    refine wp_lp (fun k s => s = (0, 0, hi, hl)) ?_ 0 _ N rfl (by omega)
    rintro k s rfl
    unfold B_MD_glows_277
    dsimp only
    by_cases n0 : A.n = 0
    · refine wp_pos (by rw [gb.n, n0]; exact nI_le (a := 0) (b := 0) (by omega) (by omega)) ?_
      rw [wp_some, eG]; exact ⟨rfl, rfl⟩
    · refine wp_neg (by rw [gb.n]; exact nI_ge (a := 0) (by omega) (by omega)) ?_
      rw [h12, gb.s, ein, Option.bind_some]
      dsimp only
      rw [decide_eq_false hin]
      refine wp_pos (by decide) ?_
      rw [wp_some, eG]; exact ⟨rfl, rfl⟩
theorem m_glows {N : Nat} (hN : 70000 ≤ N) {A : St} (hw : WF A) {h : Nat → Nat} {t p : Nat} {hi : HI} {hl : HL} (ht : t < 3 ^ A.w) (gb : GB A h p hi) : wp (f_MD_glows N (nI t) p hi hl) (fun o => o.1 = nI (GM A h t) ∧ Sam [65, 71, 72, 73] hi o.2.1 ∧ (∀ j, j ≠ 12 → o.2.1 65 j = hi 65 j) ∧ o.2.1 65 12 = nI (Lst A h t)) := by
  unfold f_MD_glows
  refine (m_first hN hw ht gb).bnd (fun x1 h1 => ?_)
  obtain ⟨s1, f0⟩ := h1
  have fn : FN A h t x1.1 (fun y => if fig t y = 1 then 0 else 10000) (fun y => if fig t y = 2 then 0 else 10000) := ⟨f0.d, f0.f, f0.n, ⟨fun v _ q => if_pos q, fun v _ q => Or.inl (if_neg q)⟩, ⟨fun v _ q => if_pos q, fun v _ q => Or.inl (if_neg q)⟩⟩
  refine (m_rounds hN hw (gb.sam s1) fn).bnd (fun x2 h2 => ?_)
  obtain ⟨s2, far, near, fn2, fk, nk⟩ := h2
  have s12 : Sam [71, 72, 73] hi x2.1 := Sam.trans s1 s2 _ (by decide) (by decide)
  have gb2 := gb.sam s12
  refine (m_least hN hw gb2 fn2 fk).bnd (fun x3 h3 => ?_)
  have fn3 : FN A h t x3.1 far near := by
    rw [h3]
    refine ⟨fun y hy => ?_, fun y hy => ?_, fun y hy => ?_, fn2.fs, fn2.ns⟩
    · rw [wr_o (by omega)]; exact fn2.d y hy
    · rw [wr_o (by omega)]; exact fn2.f y hy
    · rw [wr_o (by omega)]; exact fn2.n y hy
  have gb3 : GB A h p x3.1 := by
    obtain ⟨a1, a2, a3, a4, a5, a6, a7, a8, a9, b1⟩ := gb2
    rw [h3]
    refine ⟨?_, ?_, ?_, ?_, ?_, ?_, ?_, a8, a9, b1⟩
    · rw [wr_k (by omega)]; exact a1
    · rw [wr_k (by omega)]; exact a2
    · rw [wr_k (by omega)]; exact a3
    · rw [wr_o (by omega)]; exact a4
    · rw [wr_o (by omega)]; exact a5
    · rw [wr_o (by omega)]; exact a6
    · rw [wr_o (by omega)]; exact a7
  refine (m_lamps hN hw gb3 fn3 fk nk (by rw [h3, wr_s])).bnd (fun x4 h4 => ?_)
  rw [wp_some]
  dsimp only
  rw [h4.2, h3]
  refine ⟨h4.1, Sam.trans s12 ((Sam.refl [65] _).wr (by decide)) _ (by decide) (by decide), fun j hj => ?_, wr_s _ _ _ _⟩
  rw [wr_k hj, s12 65 (by decide)]
