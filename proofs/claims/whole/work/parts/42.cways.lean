/-! the class's search -/
theorem nle_F {m j : Nat} (h : j < m) : (m ≤ j) = False := eq_false (Nat.not_le_of_lt h)
theorem nlt_F {m j : Nat} (h : j ≤ m) : (m < j) = False := eq_false (Nat.not_lt_of_le h)
theorem le_T {m j : Nat} (h : m ≤ j) : (m ≤ j) = True := eq_true h
theorem lt_T {m j : Nat} (h : m < j) : (m < j) = True := eq_true h
theorem nI_in' {c N : Nat} (h : c < N) (h2 : c < 2 ^ 31) : ¬ (nI c < 0 ∨ N ≤ c) := by
  rintro (q | q)
  · exact nI_pos h2 q
  · omega
theorem c_fill {N : Nat} (hN : 70000 ≤ N) (p : Nat) (v : Int32) (hg : gA p) (hl6 : lenW p ≤ 65536) (hi : HI) (hl : HL) : wp (f_Arrays_fill_I N p v hi hl) (fun o => Sam [p] hi o.2.1 ∧ ∀ j, j < lenW p → o.2.1 p j = v) := by
  unfold f_Arrays_fill_I
  refine wp_pos hg ?_
  refine wp.bnd (P := fun x => Sam [p] hi x.1 ∧ ∀ j, j < lenW p → x.1 p j = v) ?_ (fun x hx => by rw [wp_some]; exact hx)
  refine wp_for (lenW p) (fun i s => s.1 = nI i ∧ Sam [p] hi s.2.1 ∧ ∀ k, k < i → s.2.1 p k = v) ?_ ?_ (i := 0) (by omega) ⟨rfl, Sam.refl _ _, fun k hk => by omega⟩ (by omega)
  · rintro i ⟨q, h, l⟩ hi8 ⟨rfl, h1, h2⟩
    unfold B_Arrays_fill_I_5
    dsimp only at h1 h2 ⊢
    refine wp_neg (nI_ge hi8 (by omega)) (wp_pos hg (wp_neg (nI_in hi8 (by omega)) ?_))
    rw [nI_clamp (by omega), wp_some]
    refine ⟨nI_1 i, h1.wr (by simp), fun k hk => ?_⟩
    dsimp only
    rw [wr_i]
    split
    · rfl
    · exact h2 k (by omega)
  · rintro ⟨q, h, l⟩ ⟨rfl, h1, h2⟩
    unfold B_Arrays_fill_I_5
    dsimp only at h1 h2 ⊢
    refine wp_pos (nI_le (Nat.le_refl _) (by omega)) ?_
    rw [wp_some]
    exact ⟨h1, h2⟩
/-- two rows of 36 hold a matrix of sums and one of lamps -/
def Mat (hi : HI) (a b : Nat) (D L : Nat → Nat → Nat) : Prop := ∀ u v, u < 6 → v < 6 → hi a (u * 6 + v) = nI (D u v) ∧ hi b (u * 6 + v) = nI (L u v)
abbrev Ld (E : Nat → Nat → Nat → Nat → Prop) (D L : Nat → Nat → Nat) : Prop :=
  (∀ u v c m, E u v c m → D u v ≤ c) ∧
  (∀ u v, D u v ≠ 1000 → D u v ≤ 9 ∧ E u v (D u v) (L u v)) ∧
  (∀ u v, D u v = 1000 → ∀ c m, ¬ E u v c m) ∧
  (∀ u v m, E u v (D u v) m → m = L u v)
theorem Ld.lo {E : Nat → Nat → Nat → Nat → Prop} {D L : Nat → Nat → Nat} (h_ : Ld E D L) : ∀ u v c m, E u v c m → D u v ≤ c := h_.1
theorem Ld.is {E : Nat → Nat → Nat → Nat → Prop} {D L : Nat → Nat → Nat} (h_ : Ld E D L) : ∀ u v, D u v ≠ 1000 → D u v ≤ 9 ∧ E u v (D u v) (L u v) := h_.2.1
theorem Ld.no {E : Nat → Nat → Nat → Nat → Prop} {D L : Nat → Nat → Nat} (h_ : Ld E D L) : ∀ u v, D u v = 1000 → ∀ c m, ¬ E u v c m := h_.2.2.1
theorem Ld.un {E : Nat → Nat → Nat → Nat → Prop} {D L : Nat → Nat → Nat} (h_ : Ld E D L) : ∀ u v m, E u v (D u v) m → m = L u v := h_.2.2.2
def adE (E : Nat → Nat → Nat → Nat → Prop) (u0 v0 c0 m0 : Nat) : Nat → Nat → Nat → Nat → Prop := fun u v c m => E u v c m ∨ (u = u0 ∧ v = v0 ∧ c = c0 ∧ m = m0)
def adD (D L : Nat → Nat → Nat) (u0 v0 c0 z : Nat) : Nat → Nat → Nat := fun u v => if u = u0 ∧ v = v0 ∧ c0 < D u v then z else L u v
theorem Ld.le {E : Nat → Nat → Nat → Nat → Prop} {D L : Nat → Nat → Nat} (h : Ld E D L) (u v : Nat) : D u v ≤ 1000 := by
  by_cases e : D u v = 1000
  · omega
  · have := (h.is u v e).1
    omega
theorem Ld.add {E : Nat → Nat → Nat → Nat → Prop} {D L : Nat → Nat → Nat} {u0 v0 c0 m0 : Nat} (h : Ld E D L) (hc : c0 ≤ 9) (hu : ∀ m, E u0 v0 c0 m → m = m0) : Ld (adE E u0 v0 c0 m0) (adD D D u0 v0 c0 c0) (adD D L u0 v0 c0 m0) := by
  unfold Ld adE adD
  refine ⟨?_, ?_, ?_, ?_⟩
  · rintro u v c m (q | ⟨rfl, rfl, rfl, rfl⟩)
    · have := h.lo u v c m q
      split
      · omega
      · exact this
    · split
      · exact Nat.le_refl _
      · omega
  · intro u v
    by_cases k : u = u0 ∧ v = v0 ∧ c0 < D u v
    · rw [if_pos k, if_pos k]
      obtain ⟨rfl, rfl, _⟩ := k
      exact fun _ => ⟨hc, Or.inr ⟨rfl, rfl, rfl, rfl⟩⟩
    · rw [if_neg k, if_neg k]
      exact fun q => ⟨(h.is u v q).1, Or.inl (h.is u v q).2⟩
  · intro u v
    by_cases k : u = u0 ∧ v = v0 ∧ c0 < D u v
    · rw [if_pos k]
      intro q; omega
    · rw [if_neg k]
      rintro q c m (r | ⟨rfl, rfl, rfl, rfl⟩)
      · exact h.no u v q c m r
      · exact k ⟨rfl, rfl, by omega⟩
  · intro u v m
    by_cases k : u = u0 ∧ v = v0 ∧ c0 < D u v
    · rw [if_pos k, if_pos k]
      obtain ⟨rfl, rfl, k3⟩ := k
      rintro (r | ⟨_, _, _, rfl⟩)
      · exact hu m r
      · rfl
    · rw [if_neg k, if_neg k]
      rintro (r | ⟨rfl, rfl, r, rfl⟩)
      · exact h.un u v m r
      · have := h.le u v
        have q : D u v ≠ 1000 := by omega
        have e := (h.is u v q).2
        rw [r] at e
        exact (hu _ e).symm
theorem Ld.cong {E E' : Nat → Nat → Nat → Nat → Prop} {D L : Nat → Nat → Nat} (h : Ld E D L) (hE : ∀ u v c m, E u v c m ↔ E' u v c m) : Ld E' D L := by
  have e : E = E' := funext fun u => funext fun v => funext fun c => funext fun m => propext (hE u v c m)
  rw [← e]; exact h
theorem Ld.op {E : Nat → Nat → Nat → Nat → Prop} {D L : Nat → Nat → Nat} (h : Ld E D L) (u v : Nat) : Op E (fun _ => False) u v (D u v) (L u v) := by
  have k : ∀ c m, Wk E (fun _ => False) u v c m ↔ E u v c m := fun c m => ⟨fun ⟨n, q⟩ => by
    cases n with
    | zero => exact q
    | succ n => obtain ⟨x, _, _, _, _, _, q, _⟩ := q; exact q.elim, Wk.one⟩
  have hle := h.le u v
  refine ⟨fun c m q => h.lo u v c m ((k c m).mp q), fun q c m r => h.no u v (by omega) c m ((k c m).mp r), fun q => ⟨_, Wk.one (h.is u v (by omega)).2⟩, fun q i => ⟨fun r => ⟨_, Wk.one (h.is u v (by omega)).2, r⟩, ?_⟩⟩
  rintro ⟨m, q1, q2⟩
  rw [← h.un u v m ((k _ m).mp q1)]
  exact q2
theorem c_step {N : Nat} {hi : HI} {hl : HL} {D L : Nat → Nat → Nat} {u v c m : Nat} (hu : u < 6) (hv : v < 6) (hm : Mat hi 8 9 D L) (hD : ∀ u v, D u v ≤ 1000) (hc : c ≤ 9) : wp (f_Ways_step N (nI u * 6 + nI v) (nI c) (nI m) hi hl) (fun o => Sam [8, 9] hi o.2.1 ∧ Mat o.2.1 8 9 (adD D D u v c c) (adD D L u v c m)) := by
  unfold f_Ways_step
  have hk := hD u v
  simp (disch := omega) only [lit_I, nI_clamp, nI_leI, nI_ltI, nI_eq, nI_add, pk_mul, fa_or, nI_1, nle_F, nlt_F, le_T, lt_T, Nat.not_lt_zero, false_or, or_false, or_self, if_false, if_true, wp_some, Option.bind_some, wr_o, wr_s, wr_k, (hm u v hu hv).1, (hm u v hu hv).2]
  by_cases k : D u v ≤ c
  · simp only [k, if_true, wp_some]
    refine ⟨Sam.refl _ _, fun a b ha hb => ?_⟩
    unfold adD
    rw [if_neg, if_neg]
    · exact hm a b ha hb
    · rintro ⟨rfl, rfl, q⟩; omega
    · rintro ⟨rfl, rfl, q⟩; omega
  · simp only [k, if_false, wp_some]
    refine ⟨((Sam.refl _ _).wr (by decide)).wr (by decide), fun a b ha hb => ?_⟩
    unfold adD
    rw [wr_o (by omega), wr_i, wr_i, wr_o (by omega)]
    by_cases e : a = u ∧ b = v
    · obtain ⟨rfl, rfl⟩ := e
      rw [if_pos rfl, if_pos rfl, if_pos ⟨rfl, rfl, by omega⟩, if_pos ⟨rfl, rfl, by omega⟩]
      exact ⟨rfl, rfl⟩
    · have e1 : ¬ (a * 6 + b = u * 6 + v) := by omega
      have e2 : ¬ (a = u ∧ b = v ∧ c < D a b) := fun q => e ⟨q.1, q.2.1⟩
      simp only [if_neg e1, if_neg e2]
      exact hm a b ha hb
def SgI (A : St) (h : Nat → Nat) (i u v c m : Nat) : Prop :=
  (∃ l, l < i ∧ h l = 0 ∧ A.lf l = u ∧ A.lt l = v ∧ c = A.lv l ∧ m = 2 ^ l) ∨ (∃ l, l < i ∧ h l = 2 ∧ ((A.lf l = u ∧ A.lt l = v) ∨ (A.lf l = v ∧ A.lt l = u)) ∧ c = 0 ∧ m = 0)
abbrev Lo (A : St) (h : Nat → Nat) (i : Nat) (hi h1 : HI) : Prop :=
  (Sam [8, 9] hi h1) ∧
  (∃ D L, Mat h1 8 9 D L ∧ Ld (SgI A h i) D L)
theorem Lo.s {A : St} {h : Nat → Nat} {i : Nat} {hi h1 : HI} (h_ : Lo A h i hi h1) : Sam [8, 9] hi h1 := h_.1
theorem Lo.e {A : St} {h : Nat → Nat} {i : Nat} {hi h1 : HI} (h_ : Lo A h i hi h1) : ∃ D L, Mat h1 8 9 D L ∧ Ld (SgI A h i) D L := h_.2
theorem c_load {N : Nat} (hN : 70000 ≤ N) {A : St} (hw : WF A) {hi : HI} {hl : HL} {p : Nat} {h : Nat → Nat} (bd : Bd A (hi 1) (hi 2) (hi 3) (hi 4) (hi 5) (hi 6)) (hp : ∀ l, l < A.n → hi p l = nI (h l)) (hp3 : ∀ l, l < A.n → h l ≤ 2) (hg : gA16 p) (hp7 : p < 7 ∨ 11 < p) : wp (f_Ways_load N p hi hl) (fun o => Sam [7, 8, 9] hi o.2.1 ∧ o.2.1 7 2 = nI A.w ∧ o.2.1 7 3 = nI A.sup ∧ ∃ D L, Mat o.2.1 8 9 D L ∧ Ld (Stg A h) D L) := by
  unfold f_Ways_load
  have hn := hw.n16
  refine (c_fill hN 8 _ rfl (by decide) _ _).bnd (fun x1 hx1 => (c_fill hN 9 _ rfl (by decide) _ _).bnd (fun x2 hx2 => ?_))
  have s0 : Sam [7, 8, 9] hi x2.2.1 := Sam.trans (Sam.trans (((Sam.refl [7] hi).wr (by decide)).wr (by decide)) hx1.1 [7, 8, 9] (by decide) (by decide)) hx2.1 [7, 8, 9] (by decide) (by decide)
  have m0 : Mat x2.2.1 8 9 (fun _ _ => 1000) (fun _ _ => 0) := fun u v hu hv => ⟨by
    rw [hx2.1 8 (by decide)]; exact hx1.2 _ (by show _ < 36; omega), hx2.2 _ (by show _ < 36; omega)⟩
  have e7 : x2.2.1 7 = wr (wr hi 7 2 (hi 1 0)) 7 3 (wr hi 7 2 (hi 1 0) 1 1) 7 := by rw [hx2.1 7 (by decide), hx1.1 7 (by decide)]
  have e72 : x2.2.1 7 2 = nI A.w := by rw [e7, wr_k (by omega), wr_s]; exact bd.w
  have e73 : x2.2.1 7 3 = nI A.sup := by rw [e7, wr_s, wr_o (by omega)]; exact bd.s
  refine wp.bnd (P := fun x => Sam [8, 9] x2.2.1 x.1 ∧ ∃ D L, Mat x.1 8 9 D L ∧ Ld (Stg A h) D L) ?_ (fun x hx => by
    rw [wp_some]
    refine ⟨Sam.trans s0 hx.1 _ (by decide) (by decide), ?_, ?_, hx.2⟩
    · rw [hx.1 7 (by decide)]; exact e72
    · rw [hx.1 7 (by decide)]; exact e73)
  refine wp_for A.n (fun i s => s.1 = nI i ∧ Lo A h i x2.2.1 s.2.1) ?_ ?_ (i := 0) (by omega) ⟨rfl, Sam.refl _ _, _, _, m0, ⟨?_, ?_, ?_, ?_⟩⟩ (by omega)
  · rintro i ⟨q, g, l⟩ hin ⟨rfl, sm, D, L, hm, hd⟩
    dsimp only at sm hm
    have r : ∀ a, a ∉ [7, 8, 9] → g a = hi a := fun a ha => (sm a (fun q => ha (by revert q; simp; omega))).trans (s0 a ha)
    have f1 : g 1 2 = nI A.n := by rw [r 1 (by decide)]; exact bd.n
    have f2 : g 2 i = nI (A.lf i) := by rw [r 2 (by decide)]; exact bd.f i hin
    have f3 : g 3 i = nI (A.lt i) := by rw [r 3 (by decide)]; exact bd.t i hin
    have f4 : g 4 i = nI (A.lv i) := by rw [r 4 (by decide)]; exact bd.v i hin
    have f5 : g p i = nI (h i) := by rw [r p (by simp; omega)]; exact hp i hin
    have h3 := hp3 i hin
    have lu := hw.lf i hin
    have lv := hw.lt i hin
    have w6 := hw.w6
    have v9 := hw.lv9 i hin
    have v1 := hw.lv1 i hin
    unfold B_Ways_load_36 J_Ways_load_127
    dsimp only
    refine wp_neg (by rw [f1]; exact nI_ge hin (by omega)) ?_
    refine wp_neg (nI_in (by omega) (by omega)) (wp_neg (nI_in (by omega) (by omega)) (wp_neg (nI_in (by omega) (by omega)) (wp_neg (nI_in (by omega) (by omega)) (wp_pos hg (wp_neg (nI_in (by omega) (by omega)) ?_)))))
    simp only [nI_clamp (show i < 2 ^ 31 by omega), f2, f3, f4, f5]
    by_cases k2 : h i = 2
    · refine wp_pos (by rw [k2]; rfl) ?_
      refine (c_step (c := 0) (m := 0) (by omega) (by omega) hm hd.le (by omega)).bnd (fun y1 hy1 => ?_)
      have d1 := hd.add (u0 := A.lf i) (v0 := A.lt i) (c0 := 0) (m0 := 0) (by omega) (by
        rintro m (⟨l', a1, a2, a3, a4, a5, a6⟩ | ⟨l', a1, a2, a3, a4, a5⟩)
        · have := hw.lv1 l' (by omega); omega
        · exact a5)
      refine (c_step (c := 0) (m := 0) (by omega) (by omega) hy1.2 d1.le (by omega)).bnd (fun y2 hy2 => ?_)
      have d2 := d1.add (u0 := A.lt i) (v0 := A.lf i) (c0 := 0) (m0 := 0) (by omega) (by
        rintro m ((⟨l', a1, a2, a3, a4, a5, a6⟩ | ⟨l', a1, a2, a3, a4, a5⟩) | ⟨_, _, _, a5⟩)
        · have := hw.lv1 l' (by omega); omega
        · exact a5
        · exact a5)
      rw [wp_some]
      refine ⟨nI_1 i, Sam.trans sm (Sam.trans hy1.1 hy2.1 [8, 9] (by decide) (by decide)) _ (by decide) (by decide), _, _, hy2.2, d2.cong ?_⟩
      intro u v c m
      constructor
      · rintro (((⟨l', a1, a2⟩ | ⟨l', a1, a2⟩) | ⟨rfl, rfl, rfl, rfl⟩) | ⟨rfl, rfl, rfl, rfl⟩)
        · exact Or.inl ⟨l', by omega, a2⟩
        · exact Or.inr ⟨l', by omega, a2⟩
        · exact Or.inr ⟨i, by omega, k2, Or.inl ⟨rfl, rfl⟩, rfl, rfl⟩
        · exact Or.inr ⟨i, by omega, k2, Or.inr ⟨rfl, rfl⟩, rfl, rfl⟩
      · rintro (⟨l', a1, a2, a3⟩ | ⟨l', a1, a2, a3, a4, a5⟩)
        · refine Or.inl (Or.inl (Or.inl ⟨l', ?_, a2, a3⟩))
          by_cases q : l' = i
          · subst q; omega
          · omega
        · by_cases q : l' = i
          · subst q
            rcases a3 with ⟨rfl, rfl⟩ | ⟨rfl, rfl⟩
            · exact Or.inl (Or.inr ⟨rfl, rfl, a4, a5⟩)
            · exact Or.inr ⟨rfl, rfl, a4, a5⟩
          · exact Or.inl (Or.inl (Or.inr ⟨l', by omega, a2, a3, a4, a5⟩))
    · refine wp_neg (fun q => k2 ((nI_eq (by omega) (by omega)).mp q)) (wp_neg (nI_in' (by omega) (by omega)) ?_)
      by_cases k0 : h i = 0
      · refine wp_pos (by rw [k0]; rfl) (wp_neg (nI_in' (by omega) (by omega)) ?_)
        have e1 : (1 : Int32) <<< (nI i &&& 31) = nI (2 ^ i) := ni_one (by omega)
        rw [e1]
        refine (c_step (by omega) (by omega) hm hd.le v9).bnd (fun y1 hy1 => ?_)
        have d1 := hd.add (u0 := A.lf i) (v0 := A.lt i) (c0 := A.lv i) (m0 := 2 ^ i) v9 (by
          rintro m (⟨l', a1, a2, a3, a4, a5, a6⟩ | ⟨l', a1, a2, a3, a4, a5⟩)
          · have := hw.one l' i (by omega) hin a3 a4; omega
          · omega)
        rw [wp_some]
        refine ⟨nI_1 i, Sam.trans sm hy1.1 _ (by decide) (by decide), _, _, hy1.2, d1.cong ?_⟩
        intro u v c m
        constructor
        · rintro ((⟨l', a1, a2⟩ | ⟨l', a1, a2⟩) | ⟨rfl, rfl, rfl, rfl⟩)
          · exact Or.inl ⟨l', by omega, a2⟩
          · exact Or.inr ⟨l', by omega, a2⟩
          · exact Or.inl ⟨i, by omega, k0, rfl, rfl, rfl, rfl⟩
        · rintro (⟨l', a1, a2, a3, a4, a5, a6⟩ | ⟨l', a1, a2, a3⟩)
          · by_cases q : l' = i
            · subst q
              exact Or.inr ⟨a3.symm, a4.symm, a5, a6⟩
            · exact Or.inl (Or.inl ⟨l', by omega, a2, a3, a4, a5, a6⟩)
          · refine Or.inl (Or.inr ⟨l', ?_, a2, a3⟩)
            by_cases q : l' = i
            · subst q; omega
            · omega
      · refine wp_neg (fun q => k0 ((nI_eq (b := 0) (by omega) (by omega)).mp q)) ?_
        rw [wp_some]
        refine ⟨nI_1 i, sm, _, _, hm, hd.cong ?_⟩
        intro u v c m
        constructor
        · rintro (⟨l', a1, a2⟩ | ⟨l', a1, a2⟩)
          · exact Or.inl ⟨l', by omega, a2⟩
          · exact Or.inr ⟨l', by omega, a2⟩
        · rintro (⟨l', a1, a2, a3⟩ | ⟨l', a1, a2, a3⟩)
          · refine Or.inl ⟨l', ?_, a2, a3⟩
            by_cases q : l' = i
            · subst q; omega
            · omega
          · refine Or.inr ⟨l', ?_, a2, a3⟩
            by_cases q : l' = i
            · subst q; omega
            · omega
  · rintro ⟨q, g, l⟩ ⟨rfl, sm, D, L, hm, hd⟩
    dsimp only at sm hm
    have f1 : g 1 2 = nI A.n := by rw [sm 1 (by decide), s0 1 (by decide)]; exact bd.n
    unfold B_Ways_load_36
    dsimp only
    refine wp_pos (by rw [f1]; exact nI_le (Nat.le_refl _) (by omega)) ?_
    rw [wp_some]
    exact ⟨sm, D, L, hm, hd⟩
  · rintro u v c m (⟨l', a1, a2⟩ | ⟨l', a1, a2⟩) <;> omega
  · intro u v q; exact absurd rfl q
  · rintro u v _ c m (⟨l', a1, a2⟩ | ⟨l', a1, a2⟩) <;> omega
  · rintro u v m (⟨l', a1, a2⟩ | ⟨l', a1, a2⟩) <;> omega
