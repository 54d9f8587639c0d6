/-! the reference's search in the code -/
theorem m_steps {N : Nat} {hi : HI} {hl : HL} {t w u v c : Nat} {far near : Nat → Nat} (hw : w ≤ 6) (hu : u < w) (hv : v < w) (hc : c ≤ 9) (h1 : ∀ y, y < w → hi 71 y = nI (fig t y)) (h2 : ∀ y, y < w → hi 72 y = nI (far y)) (h3 : ∀ y, y < w → hi 73 y = nI (near y)) (f1 : ∀ y, y < w → far y ≤ 10000) (f2 : ∀ y, y < w → near y ≤ 10000) : wp (f_MD_steps N (nI u) (nI v) (nI c) hi hl) (fun o => Sam [72, 73] hi o.2.1 ∧ ((fig t u = 2 ∨ fig t v = 1) ∧ o.2.1 = hi ∨ (fig t u ≠ 2 ∧ fig t v ≠ 1 ∧ (∀ y, y < w → o.2.1 72 y = nI (rx far u v c y)) ∧ ∀ y, y < w → o.2.1 73 y = nI (rx near v u c y)))) := by
  unfold f_MD_steps
  have a1 := h1 u hu
  have a2 := h1 v hv
  have b1 := h2 u hu
  have b2 := h2 v hv
  have c1 := h3 u hu
  have c2 := h3 v hv
  have g1 := f1 u hu
  have g2 := f1 v hv
  have g3 := f2 u hu
  have g4 := f2 v hv
  have k1 := fig_lt t u
  have k2 := fig_lt t v
  simp (disch := omega) only [nI_clamp, a1, a2, b1, b2]
  refine wp_neg (nI_in' (by omega) (by omega)) ?_
  by_cases e1 : fig t u = 2
  · refine wp_pos (by rw [e1]; rfl) ?_
    rw [wp_some]
    exact ⟨Sam.refl _ _, Or.inl ⟨Or.inl e1, rfl⟩⟩
  refine wp_neg (fun q => e1 ((nI_eq (b := 2) (by omega) (by omega)).mp q)) (wp_neg (nI_in' (by omega) (by omega)) ?_)
  by_cases e2 : fig t v = 1
  · refine wp_pos (by rw [e2]; rfl) ?_
    rw [wp_some]
    exact ⟨Sam.refl _ _, Or.inl ⟨Or.inr e2, rfl⟩⟩
  refine wp_neg (fun q => e2 ((nI_eq (b := 1) (by omega) (by omega)).mp q)) (wp_neg (nI_in' (by omega) (by omega)) (wp_neg (nI_in' (by omega) (by omega)) ?_))
  have rest : ∀ x, x = rx far u v c v → wp (J_MD_steps_59 N (nI u) (nI v) (nI c) (nI x) (nI v) hi hl) (fun o => Sam [72, 73] hi o.2.1 ∧ ((fig t u = 2 ∨ fig t v = 1) ∧ o.2.1 = hi ∨ (fig t u ≠ 2 ∧ fig t v ≠ 1 ∧ (∀ y, y < w → o.2.1 72 y = nI (rx far u v c y)) ∧ ∀ y, y < w → o.2.1 73 y = nI (rx near v u c y)))) := by
    rintro x rfl
    unfold J_MD_steps_59 J_MD_steps_99
    have r : ∀ y, wr hi 72 v (nI (rx far u v c v)) 73 y = hi 73 y := fun y => by rw [wr_o (by omega)]
    have fin : ∀ x, x = rx near v u c u → Sam [72, 73] hi (wr (wr hi 72 v (nI (rx far u v c v))) 73 u (nI x)) ∧ ((fig t u = 2 ∨ fig t v = 1) ∧ (wr (wr hi 72 v (nI (rx far u v c v))) 73 u (nI x)) = hi ∨ (fig t u ≠ 2 ∧ fig t v ≠ 1 ∧ (∀ y, y < w → (wr (wr hi 72 v (nI (rx far u v c v))) 73 u (nI x)) 72 y = nI (rx far u v c y)) ∧ ∀ y, y < w → (wr (wr hi 72 v (nI (rx far u v c v))) 73 u (nI x)) 73 y = nI (rx near v u c y))) := by
      rintro x rfl
      refine ⟨((Sam.refl _ _).wr (by decide)).wr (by decide), Or.inr ⟨e1, e2, fun y hy => ?_, fun y hy => ?_⟩⟩
      · rw [wr_o (by omega), wr_i]
        by_cases q : y = v
        · rw [if_pos q, q]
        · rw [if_neg q, h2 y hy]; unfold rx; rw [if_neg q]
      · rw [wr_i, wr_o (by omega)]
        by_cases q : y = u
        · rw [if_pos q, q]
        · rw [if_neg q, h3 y hy]; unfold rx; rw [if_neg q]
    simp (disch := omega) only [nI_clamp, r, c1, c2]
    refine wp_neg (nI_in' (by omega) (by omega)) (wp_neg (nI_in' (by omega) (by omega)) (wp_neg (nI_in' (by omega) (by omega)) ?_))
    rw [nI_add]
    by_cases k : near u ≤ near v + c
    · refine wp_pos (nI_le k (by omega)) (wp_neg (nI_in' (by omega) (by omega)) (wp_neg (nI_in' (by omega) (by omega)) ?_))
      rw [wp_some]
      exact fin _ (by unfold rx; rw [if_pos rfl, if_pos k])
    · refine wp_neg (nI_ge (by omega) (by omega)) (wp_neg (nI_in' (by omega) (by omega)) (wp_neg (nI_in' (by omega) (by omega)) ?_))
      rw [wp_some]
      exact fin _ (by unfold rx; rw [if_pos rfl, if_neg k])
  rw [nI_add]
  by_cases k : far v ≤ far u + c
  · refine wp_pos (nI_le k (by omega)) (wp_neg (nI_in' (by omega) (by omega)) ?_)
    exact rest _ (by unfold rx; rw [if_pos rfl, if_pos k])
  · refine wp_neg (nI_ge (by omega) (by omega)) (wp_neg (nI_in' (by omega) (by omega)) ?_)
    exact rest _ (by unfold rx; rw [if_pos rfl, if_neg k])
abbrev FN (A : St) (h : Nat → Nat) (t : Nat) (hi : HI) (far near : Nat → Nat) : Prop :=
  (∀ y, y < A.w → hi 71 y = nI (fig t y)) ∧
  (∀ y, y < A.w → hi 72 y = nI (far y)) ∧
  (∀ y, y < A.w → hi 73 y = nI (near y)) ∧
  (FS A h t far) ∧
  (NS A h t near)
theorem FN.d {A : St} {h : Nat → Nat} {t : Nat} {hi : HI} {far near : Nat → Nat} (h_ : FN A h t hi far near) : ∀ y, y < A.w → hi 71 y = nI (fig t y) := h_.1
theorem FN.f {A : St} {h : Nat → Nat} {t : Nat} {hi : HI} {far near : Nat → Nat} (h_ : FN A h t hi far near) : ∀ y, y < A.w → hi 72 y = nI (far y) := h_.2.1
theorem FN.n {A : St} {h : Nat → Nat} {t : Nat} {hi : HI} {far near : Nat → Nat} (h_ : FN A h t hi far near) : ∀ y, y < A.w → hi 73 y = nI (near y) := h_.2.2.1
theorem FN.fs {A : St} {h : Nat → Nat} {t : Nat} {hi : HI} {far near : Nat → Nat} (h_ : FN A h t hi far near) : FS A h t far := h_.2.2.2.1
theorem FN.ns {A : St} {h : Nat → Nat} {t : Nat} {hi : HI} {far near : Nat → Nat} (h_ : FN A h t hi far near) : NS A h t near := h_.2.2.2.2
/-- an edge of lamp l -/
def LE (A : St) (h : Nat → Nat) (l u v c : Nat) : Prop := (h l = 0 ∧ A.lf l = u ∧ A.lt l = v ∧ c = A.lv l) ∨ (h l = 2 ∧ ((A.lf l = u ∧ A.lt l = v) ∨ (A.lf l = v ∧ A.lt l = u)) ∧ c = 0)
/-- the edge is gone over -/
def Rlx (t : Nat) (far0 near0 far near : Nat → Nat) (u v c : Nat) : Prop := fig t u ≠ 2 → fig t v ≠ 1 → far v ≤ far0 u + c ∧ near u ≤ near0 v + c
theorem m_edge {N : Nat} {A : St} (hw : WF A) {h : Nat → Nat} {t u v c m : Nat} {hi : HI} {hl : HL} {far near far0 near0 : Nat → Nat} (e : Stg A h u v c m) (fn : FN A h t hi far near) (l1 : ∀ y, far y ≤ far0 y) (l2 : ∀ y, near y ≤ near0 y) : wp (f_MD_steps N (nI u) (nI v) (nI c) hi hl) (fun o => Sam [72, 73] hi o.2.1 ∧ ∃ far' near', FN A h t o.2.1 far' near' ∧ (∀ y, far' y ≤ far y) ∧ (∀ y, near' y ≤ near y) ∧ Rlx t far0 near0 far' near' u v c) := by
  refine (m_steps hw.w6 (Stg.lw hw _ _ _ _ e) (Stg.rw hw _ _ _ _ e) (Stg.le9 hw _ _ _ _ e) fn.d fn.f fn.n (fun y hy => fn.fs.le hy) (fun y hy => fn.ns.le hy)).mono (fun o ho => ?_)
  obtain ⟨s, ⟨q, e1⟩ | ⟨q1, q2, q3, q4⟩⟩ := ho
  · refine ⟨s, far, near, ?_, fun y => Nat.le_refl _, fun y => Nat.le_refl _, fun z1 z2 => ?_⟩
    · rw [e1]; exact fn
    · omega
  · refine ⟨s, _, _, ⟨fun y hy => ?_, q3, q4, fn.fs.rel hw e q1 q2, fn.ns.rel hw e q1 q2⟩, rx_le far u v c, rx_le near v u c, fun _ _ => ⟨?_, ?_⟩⟩
    · rw [s 71 (by decide)]; exact fn.d y hy
    · have := rx_at far u v c
      have := l1 u
      omega
    · have := rx_at near v u c
      have := l2 v
      omega
theorem Rlx.mono {t u v c : Nat} {far0 near0 far near far' near' : Nat → Nat} (h : Rlx t far0 near0 far near u v c) (l1 : ∀ y, far' y ≤ far y) (l2 : ∀ y, near' y ≤ near y) : Rlx t far0 near0 far' near' u v c := fun a b => by
  have := h a b
  have := l1 v
  have := l2 u
  omega
abbrev GB (A : St) (h : Nat → Nat) (p : Nat) (hi : HI) : Prop :=
  (hi 65 0 = nI A.w) ∧
  (hi 65 1 = nI A.sup) ∧
  (hi 65 2 = nI A.n) ∧
  (∀ l, l < A.n → hi 66 l = nI (A.lf l)) ∧
  (∀ l, l < A.n → hi 67 l = nI (A.lt l)) ∧
  (∀ l, l < A.n → hi 68 l = nI (A.lv l)) ∧
  (∀ l, l < A.n → hi p l = nI (h l)) ∧
  (∀ l, l < A.n → h l ≤ 2) ∧
  (gA16 p) ∧
  (p = 69 ∨ p = 89)
theorem GB.w {A : St} {h : Nat → Nat} {p : Nat} {hi : HI} (h_ : GB A h p hi) : hi 65 0 = nI A.w := h_.1
theorem GB.s {A : St} {h : Nat → Nat} {p : Nat} {hi : HI} (h_ : GB A h p hi) : hi 65 1 = nI A.sup := h_.2.1
theorem GB.n {A : St} {h : Nat → Nat} {p : Nat} {hi : HI} (h_ : GB A h p hi) : hi 65 2 = nI A.n := h_.2.2.1
theorem GB.f {A : St} {h : Nat → Nat} {p : Nat} {hi : HI} (h_ : GB A h p hi) : ∀ l, l < A.n → hi 66 l = nI (A.lf l) := h_.2.2.2.1
theorem GB.t {A : St} {h : Nat → Nat} {p : Nat} {hi : HI} (h_ : GB A h p hi) : ∀ l, l < A.n → hi 67 l = nI (A.lt l) := h_.2.2.2.2.1
theorem GB.v {A : St} {h : Nat → Nat} {p : Nat} {hi : HI} (h_ : GB A h p hi) : ∀ l, l < A.n → hi 68 l = nI (A.lv l) := h_.2.2.2.2.2.1
theorem GB.p {A : St} {h : Nat → Nat} {p : Nat} {hi : HI} (h_ : GB A h p hi) : ∀ l, l < A.n → hi p l = nI (h l) := h_.2.2.2.2.2.2.1
theorem GB.p3 {A : St} {h : Nat → Nat} {p : Nat} {hi : HI} (h_ : GB A h p hi) : ∀ l, l < A.n → h l ≤ 2 := h_.2.2.2.2.2.2.2.1
theorem GB.g {A : St} {h : Nat → Nat} {p : Nat} {hi : HI} (h_ : GB A h p hi) : gA16 p := h_.2.2.2.2.2.2.2.2.1
theorem GB.o {A : St} {h : Nat → Nat} {p : Nat} {hi : HI} (h_ : GB A h p hi) : p = 69 ∨ p = 89 := h_.2.2.2.2.2.2.2.2.2
theorem GB.sam {A : St} {h : Nat → Nat} {p : Nat} {hi h1 : HI} (q : GB A h p hi) (s : Sam [71, 72, 73] hi h1) : GB A h p h1 := by
  obtain ⟨a1, a2, a3, a4, a5, a6, a7, a8, a9, b1⟩ := q
  refine ⟨?_, ?_, ?_, ?_, ?_, ?_, ?_, a8, a9, b1⟩
  · rw [s 65 (by decide)]; exact a1
  · rw [s 65 (by decide)]; exact a2
  · rw [s 65 (by decide)]; exact a3
  · rw [s 66 (by decide)]; exact a4
  · rw [s 67 (by decide)]; exact a5
  · rw [s 68 (by decide)]; exact a6
  · rw [s p (by simp; omega)]; exact a7
theorem m_round {N : Nat} (hN : 70000 ≤ N) {A : St} (hw : WF A) {h : Nat → Nat} {t p : Nat} {hi : HI} {hl : HL} {v4 : Int32} {far near : Nat → Nat} (gb : GB A h p hi) (fn : FN A h t hi far near) : wp (lpN (fun s => B_MD_glows_101 N p v4 s.1 s.2.1 s.2.2) N (0, hi, hl)) (fun o => Sam [72, 73] hi o.1 ∧ ∃ far' near', FN A h t o.1 far' near' ∧ ∀ u v c m, Stg A h u v c m → Rlx t far near far' near' u v c) := by
  have n16 := hw.n16
  refine wp_for A.n (fun i s => s.1 = nI i ∧ Sam [72, 73] hi s.2.1 ∧ ∃ far' near', FN A h t s.2.1 far' near' ∧ (∀ y, far' y ≤ far y) ∧ (∀ y, near' y ≤ near y) ∧ ∀ l u v c, l < i → LE A h l u v c → Rlx t far near far' near' u v c) ?_ ?_ (i := 0) (by omega) ⟨rfl, Sam.refl _ _, far, near, fn, fun _ => Nat.le_refl _, fun _ => Nat.le_refl _, fun l u v c hl => by omega⟩ (by omega)
  · rintro i ⟨q, g, l⟩ hin ⟨rfl, sm, far1, near1, fn1, l1, l2, done⟩
    dsimp only at sm fn1
    have gb1 := gb.sam (sm.sub (T := [71, 72, 73]) (by decide))
    unfold B_MD_glows_101 J_MD_glows_191
    dsimp only
    have h3 := gb.p3 i hin
    refine wp_neg (by rw [gb1.n]; exact nI_ge hin (by omega)) (wp_pos gb.g (wp_neg (nI_in (by omega) (by omega)) ?_))
    have ext : ∀ (far' near' : Nat → Nat), (∀ y, far' y ≤ far1 y) → (∀ y, near' y ≤ near1 y) → (∀ u v c, LE A h i u v c → Rlx t far near far' near' u v c) → ∀ l u v c, l < i + 1 → LE A h l u v c → Rlx t far near far' near' u v c := by
      intro far' near' m1 m2 hi' l u v c hl e
      by_cases k : l = i
      · subst k; exact hi' u v c e
      · exact (done l u v c (by omega) e).mono m1 m2
    have ci : (nI i).toNatClampNeg = i := nI_clamp (by omega)
    have r1 := gb1.f i hin
    have r2 := gb1.t i hin
    have r3 := gb1.v i hin
    have r4 := gb1.p i hin
    simp only [ci, r1, r2, r3, r4]
    by_cases k2 : h i = 2
    · have ed1 : Stg A h (A.lf i) (A.lt i) 0 0 := Or.inr ⟨i, hin, k2, Or.inl ⟨rfl, rfl⟩, rfl, rfl⟩
      have ed2 : Stg A h (A.lt i) (A.lf i) 0 0 := Or.inr ⟨i, hin, k2, Or.inr ⟨rfl, rfl⟩, rfl, rfl⟩
      refine wp_pos (by rw [k2]; rfl) (wp_neg (nI_in' (by omega) (by omega)) (wp_neg (nI_in' (by omega) (by omega)) ?_))
      refine (m_edge hw ed1 fn1 l1 l2).bnd (fun y hy => ?_)
      obtain ⟨s1, far2, near2, fn2, m1, m2, rl1⟩ := hy
      have e1 : y.2.1 67 i = nI (A.lt i) := by rw [s1 67 (by decide)]; exact r2
      have e2 : y.2.1 66 i = nI (A.lf i) := by rw [s1 66 (by decide)]; exact r1
      refine wp_neg (nI_in' (by omega) (by omega)) (wp_neg (nI_in' (by omega) (by omega)) ?_)
      rw [e1, e2]
      refine (m_edge hw ed2 fn2 (fun y => Nat.le_trans (m1 y) (l1 y)) (fun y => Nat.le_trans (m2 y) (l2 y))).bnd (fun z hz => ?_)
      obtain ⟨s2, far3, near3, fn3, n1, n2, rl2⟩ := hz
      rw [wp_some]
      refine ⟨nI_1 i, Sam.trans sm (Sam.trans s1 s2 [72, 73] (by decide) (by decide)) _ (by decide) (by decide), far3, near3, fn3, fun y => Nat.le_trans (n1 y) (Nat.le_trans (m1 y) (l1 y)), fun y => Nat.le_trans (n2 y) (Nat.le_trans (m2 y) (l2 y)), ext far3 near3 (fun y => Nat.le_trans (n1 y) (m1 y)) (fun y => Nat.le_trans (n2 y) (m2 y)) ?_⟩
      rintro u v c (⟨q, _⟩ | ⟨_, ⟨rfl, rfl⟩ | ⟨rfl, rfl⟩, rfl⟩)
      · omega
      · exact rl1.mono n1 n2
      · exact rl2
    · refine wp_neg (fun q => k2 ((nI_eq (b := 2) (by omega) (by omega)).mp q)) (wp_neg (nI_in' (by omega) (by omega)) ?_)
      by_cases k0 : h i = 0
      · have ed1 : Stg A h (A.lf i) (A.lt i) (A.lv i) (2 ^ i) := Or.inl ⟨i, hin, k0, rfl, rfl, rfl, rfl⟩
        refine wp_pos (by rw [k0]; rfl) (wp_neg (nI_in' (by omega) (by omega)) (wp_neg (nI_in' (by omega) (by omega)) (wp_neg (nI_in' (by omega) (by omega)) ?_)))
        refine (m_edge hw ed1 fn1 l1 l2).bnd (fun y hy => ?_)
        obtain ⟨s1, far2, near2, fn2, m1, m2, rl1⟩ := hy
        rw [wp_some]
        refine ⟨nI_1 i, Sam.trans sm s1 _ (by decide) (by decide), far2, near2, fn2, fun y => Nat.le_trans (m1 y) (l1 y), fun y => Nat.le_trans (m2 y) (l2 y), ext far2 near2 m1 m2 ?_⟩
        rintro u v c (⟨_, rfl, rfl, rfl⟩ | ⟨q, _⟩)
        · exact rl1
        · omega
      · refine wp_neg (fun q => k0 ((nI_eq (b := 0) (by omega) (by omega)).mp q)) ?_
        rw [wp_some]
        refine ⟨nI_1 i, sm, far1, near1, fn1, l1, l2, ext far1 near1 (fun _ => Nat.le_refl _) (fun _ => Nat.le_refl _) ?_⟩
        rintro u v c (⟨q, _⟩ | ⟨q, _⟩) <;> omega
  · rintro ⟨q, g, l⟩ ⟨rfl, sm, far1, near1, fn1, l1, l2, done⟩
    dsimp only at sm fn1
    have gb1 := gb.sam (sm.sub (T := [71, 72, 73]) (by decide))
    unfold B_MD_glows_101
    dsimp only
    refine wp_pos (by rw [gb1.n]; exact nI_le (Nat.le_refl _) (by omega)) ?_
    rw [wp_some]
    refine ⟨sm, far1, near1, fn1, ?_⟩
    rintro u v c m (⟨l', q1, q2, q3, q4, q5, q6⟩ | ⟨l', q1, q2, q3, q4, q5⟩)
    · exact done l' u v c q1 (Or.inl ⟨q2, q3, q4, q5⟩)
    · exact done l' u v c q1 (Or.inr ⟨q2, q3, q4⟩)
theorem m_rounds {N : Nat} (hN : 70000 ≤ N) {A : St} (hw : WF A) {h : Nat → Nat} {t p : Nat} {hi : HI} {hl : HL} {far near : Nat → Nat} (gb : GB A h p hi) (fn : FN A h t hi far near) : wp (lpN (fun s => B_MD_glows_87 N p s.1 s.2.1 s.2.2) N (0, hi, hl)) (fun o => Sam [72, 73] hi o.1 ∧ ∃ far' near', FN A h t o.1 far' near' ∧ FK A h t (2 * A.w) far' ∧ NK A h t (2 * A.w) near') := by
  have w6 := hw.w6
  refine wp_for (2 * A.w) (fun i s => s.1 = nI i ∧ Sam [72, 73] hi s.2.1 ∧ ∃ far' near', FN A h t s.2.1 far' near' ∧ FK A h t i far' ∧ NK A h t i near') ?_ ?_ (i := 0) (by omega) ⟨rfl, Sam.refl _ _, far, near, fn, fun n a v c m q => by omega, fun n a v c m q => by omega⟩ (by omega)
  · rintro i ⟨q, g, l⟩ hin ⟨rfl, sm, far1, near1, fn1, k1, k2⟩
    dsimp only at sm fn1
    have gb1 := gb.sam (sm.sub (T := [71, 72, 73]) (by decide))
    unfold B_MD_glows_87
    dsimp only
    have e2 : (2 : Int32) * nI A.w = nI (2 * A.w) := pk_mul 2 A.w
    refine wp_neg (by rw [gb1.w, e2]; exact nI_ge hin (by omega)) ?_
    refine (m_round hN hw gb1 fn1).bnd (fun y hy => ?_)
    obtain ⟨s1, far2, near2, fn2, rl⟩ := hy
    rw [wp_some]
    exact ⟨nI_1 i, Sam.trans sm s1 _ (by decide) (by decide), far2, near2, fn2, k1.succ hw fn1.fs (fun u v c m e a b => (rl u v c m e a b).1), k2.succ hw fn1.ns (fun u v c m e a b => (rl u v c m e a b).2)⟩
  · rintro ⟨q, g, l⟩ ⟨rfl, sm, far1, near1, fn1, k1, k2⟩
    dsimp only at sm fn1
    have gb1 := gb.sam (sm.sub (T := [71, 72, 73]) (by decide))
    unfold B_MD_glows_87
    dsimp only
    have e2 : (2 : Int32) * nI A.w = nI (2 * A.w) := pk_mul 2 A.w
    refine wp_pos (by rw [gb1.w, e2]; exact nI_le (Nat.le_refl _) (by omega)) ?_
    rw [wp_some]
    exact ⟨sm, far1, near1, fn1, k1, k2⟩
