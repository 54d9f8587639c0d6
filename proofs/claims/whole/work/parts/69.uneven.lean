/-! uneven -/
/-- R is the most by which x differs between two lamps in the pairs P -/
def Mx (x : Nat → Nat) (P : Nat → Nat → Prop) (R : Nat) : Prop := (R = 0 ∨ ∃ l m, P l m ∧ (x l = x m + R ∨ x m = x l + R)) ∧ ∀ l m, P l m → x l ≤ x m + R ∧ x m ≤ x l + R
theorem Mx.one {x : Nat → Nat} {P : Nat → Nat → Prop} {R R' : Nat} (h : Mx x P R) (h' : Mx x P R') : R = R' := by
  have a : ∀ {R R'}, Mx x P R → Mx x P R' → R ≤ R' := by
    intro R R' h h'
    rcases h.1 with q | ⟨l, m, p, q⟩
    · omega
    · have := h'.2 l m p
      omega
  exact Nat.le_antisymm (a h h') (a h' h)
theorem Mx.le {x : Nat → Nat} {P : Nat → Nat → Prop} {R B : Nat} (h : Mx x P R) (hb : ∀ l m, P l m → x l ≤ B ∧ x m ≤ B) : R ≤ B := by
  rcases h.1 with q | ⟨l, m, p, q⟩
  · omega
  · have := hb l m p; omega
theorem Mx.cong {x : Nat → Nat} {P P' : Nat → Nat → Prop} {R : Nat} (h : Mx x P R) (e : ∀ l m, P l m ↔ P' l m) : Mx x P' R := by
  have : P = P' := funext fun l => funext fun m => propext (e l m)
  rw [← this]; exact h
def Lvl (A : St) (l m : Nat) : Prop := l < A.n ∧ m < A.n ∧ A.lev l = A.lev m ∧ 0 < A.lev l
/-- the pairs below l, and those of l with one below m -/
def Prs (A : St) (l m : Nat) (j k : Nat) : Prop := Lvl A j k ∧ k < j ∧ (j < l ∨ (j = l ∧ k < m))
theorem Mx.grow {A : St} {x : Nat → Nat} {l m R R' : Nat} (hm : m < l) (mx : Mx x (Prs A l m) R) (h1 : Lvl A l m → (R ≤ R' ∧ (R' = R ∨ (x l = x m + R' ∨ x m = x l + R')) ∧ x l ≤ x m + R' ∧ x m ≤ x l + R')) (h2 : ¬ Lvl A l m → R' = R) : Mx x (Prs A l (m + 1)) R' := by
  by_cases c : Lvl A l m
  · obtain ⟨a1, a2, a3, a4⟩ := h1 c
    refine ⟨?_, fun j k h => ?_⟩
    · rcases a2 with rfl | a2
      · rcases mx.1 with q | ⟨j, k, p, q⟩
        · exact Or.inl q
        · exact Or.inr ⟨j, k, ⟨p.1, p.2.1, by have := p.2.2; omega⟩, q⟩
      · exact Or.inr ⟨l, m, ⟨c, hm, by omega⟩, a2⟩
    · by_cases e : j = l ∧ k = m
      · rw [e.1, e.2]; exact ⟨a3, a4⟩
      · have := mx.2 j k ⟨h.1, h.2.1, by have := h.2.2; omega⟩
        omega
  · rw [h2 c]
    refine mx.cong (fun j k => ⟨fun h => ⟨h.1, h.2.1, by have := h.2.2; omega⟩, fun h => ⟨h.1, h.2.1, ?_⟩⟩)
    by_cases e : j = l ∧ k = m
    · rw [e.1, e.2] at h; exact absurd h.1 c
    · have := h.2.2; omega
theorem Mx.row {A : St} {x : Nat → Nat} {l R : Nat} (mx : Mx x (Prs A l l) R) : Mx x (Prs A (l + 1) 0) R :=
  mx.cong (fun j k => ⟨fun h => ⟨h.1, h.2.1, by have := h.2; omega⟩, fun h => ⟨h.1, h.2.1, by have := h.2; omega⟩⟩)
theorem Mx.full {A : St} {x : Nat → Nat} {l R : Nat} (hl : A.n ≤ l) (mx : Mx x (Prs A l 0) R) : Mx x (Lvl A) R := by
  refine ⟨?_, fun j k h => ?_⟩
  · rcases mx.1 with q | ⟨j, k, p, q⟩
    · exact Or.inl q
    · exact Or.inr ⟨j, k, p.1, q⟩
  · have h1 := h.1
    have h2 := h.2.1
    by_cases c : k < j
    · exact mx.2 j k ⟨h, c, by omega⟩
    · by_cases d : j < k
      · have := mx.2 k j ⟨⟨h2, h1, h.2.2.1.symm, by have := h.2.2; omega⟩, d, by omega⟩
        exact ⟨this.2, this.1⟩
      · have : j = k := by omega
        subst this; omega
/-- Math.abs of a difference -/
theorem dif_abs {a b : Nat} (ha : a < 2 ^ 29) (hb : b < 2 ^ 29) : (if (0 : Int32) ≤ nI a - nI b then nI a - nI b else 0 - (nI a - nI b)) = nI (if b ≤ a then a - b else b - a) := by
  by_cases h : b ≤ a
  · have e : nI a - nI b = nI (a - b) := pk_sub h
    rw [if_pos h, e, if_pos (show (0 : Int32) ≤ nI (a - b) from nI_le (a := 0) (b := a - b) (by omega) (by omega))]
  · have e : nI b - nI a = nI (b - a) := pk_sub (by omega)
    have t : (nI a - nI b).toInt = (a : Int) - b := by
      have t1 := nI_toInt (n := a) (by omega)
      have t2 := nI_toInt (n := b) (by omega)
      rw [fb_subI (by omega) (by omega), t1, t2]
    rw [if_neg h, if_neg (by rw [fa_le, t]; have z : (0 : Int32).toInt = 0 := by decide
                             rw [z]; omega), ← e, Int32.zero_sub, Int32.neg_sub]
theorem c_apart {N : Nat} (hN : 70000 ≤ N) {A : St} (hw : WF A) {hi : HI} {hl : HL} (hR : RC A hi) {x : Nat → Nat} (h42 : ∀ l, l < A.n → hi 42 l = nI (x l)) (hx : ∀ l, l < A.n → x l < 2 ^ 29) {l R : Nat} (hl1 : l < A.n) (hR1 : R < 2 ^ 29) (mx : Mx x (Prs A l 0) R) : wp (lpN (fun s => B_LW_farthestApart_17 N (nI l) s.1 s.2.1 s.2.2.1 s.2.2.2) N (nI R, 0, hi, hl)) (fun o => o.2 = (hi, hl) ∧ ∃ R, o.1 = nI R ∧ R < 2 ^ 29 ∧ Mx x (Prs A (l + 1) 0) R) := by
  have n16 := hw.n16
  refine wp_for l (fun m s => s.2.1 = nI m ∧ s.2.2 = (hi, hl) ∧ ∃ R, s.1 = nI R ∧ R < 2 ^ 29 ∧ Mx x (Prs A l m) R) ?_ ?_ (i := 0) (Nat.zero_le _) ⟨rfl, rfl, R, rfl, hR1, mx⟩ (by omega)
  · rintro m ⟨v, q, g⟩ hm ⟨rfl, hg, R, rfl, R1, mx⟩
    dsimp only at hg
    subst hg
    have cl : (nI l).toNatClampNeg = l := nI_clamp (by omega)
    have cm : (nI m).toNatClampNeg = m := nI_clamp (by omega)
    have hm1 : m < A.n := by omega
    have x1 := hx l hl1
    have x2 := hx m hm1
    have v1 := hw.lev l hl1
    have v2 := hw.lev m hm1
    unfold B_LW_farthestApart_17 J_LW_farthestApart_76
    dsimp only
    simp only [cl, cm, h42 l hl1, h42 m hm1, dif_abs x1 x2, hR.bd.e l hl1, hR.bd.e m hm1]
    refine wp_neg (nI_ge hm (by omega)) (wp_neg (nI_in' (by omega) (by omega)) ?_)
    by_cases c0 : A.lev l = 0
    · refine wp_pos (by rw [c0]; exact nI_le (a := 0) (b := 0) (by omega) (by omega)) ?_
      rw [wp_some]
      exact ⟨nI_1 m, rfl, R, rfl, R1, mx.grow hm (fun h => by have := h.2.2.2; omega) (fun _ => rfl)⟩
    · refine wp_neg (nI_nle (by omega) (by omega)) (wp_neg (nI_in' (by omega) (by omega)) (wp_neg (nI_in' (by omega) (by omega)) ?_))
      by_cases c1 : A.lev l = A.lev m
      · refine wp_pos (by rw [c1]) (wp_neg (nI_in' (by omega) (by omega)) (wp_neg (nI_in' (by omega) (by omega)) ?_))
        rw [wp_some]
        obtain ⟨d, d0⟩ : ∃ d, d = if x m ≤ x l then x l - x m else x m - x l := ⟨_, rfl⟩
        have d2 : x l = x m + d ∨ x m = x l + d := by
          rw [d0]; split <;> omega
        have d1 : d < 2 ^ 29 := by omega
        rw [← d0]
        by_cases c2 : R < d
        · refine ⟨nI_1 m, rfl, d, ?_, d1, mx.grow hm (fun _ => by omega) (fun h => absurd ⟨hl1, hm1, c1, by omega⟩ h)⟩
          dsimp only
          rw [if_pos (nI_lt c2 (by omega))]
        · refine ⟨nI_1 m, rfl, R, ?_, R1, mx.grow hm (fun _ => by omega) (fun _ => rfl)⟩
          dsimp only
          rw [if_neg (nI_nlt (by omega) (by omega))]
      · refine wp_neg (fun q => c1 ((nI_eq (by omega) (by omega)).mp q)) ?_
        rw [wp_some]
        exact ⟨nI_1 m, rfl, R, rfl, R1, mx.grow hm (fun h => absurd h.2.2.1 c1) (fun _ => rfl)⟩
  · rintro ⟨v, q, g⟩ ⟨rfl, hg, R, rfl, R1, mx⟩
    dsimp only at hg
    subst hg
    unfold B_LW_farthestApart_17
    dsimp only
    refine wp_pos (nI_le (Nat.le_refl _) (by omega)) ?_
    rw [wp_some]
    exact ⟨rfl, R, rfl, R1, mx.row⟩
theorem c_farthest {N : Nat} (hN : 70000 ≤ N) {A : St} (hw : WF A) {hi : HI} {hl : HL} (hR : RC A hi) {x : Nat → Nat} (h42 : ∀ l, l < A.n → hi 42 l = nI (x l)) (hx : ∀ l, l < A.n → x l < 2 ^ 29) : wp (f_LW_farthestApart N hi hl) (fun o => o.2 = (hi, hl) ∧ ∃ R, o.1 = nI R ∧ R < 2 ^ 29 ∧ Mx x (Lvl A) R) := by
  unfold f_LW_farthestApart
  have n16 := hw.n16
  obtain ⟨B, b1, b2, b3⟩ : ∃ B, 1 ≤ B ∧ A.n ≤ B ∧ (B = 1 ∨ B = A.n) := by
    by_cases c : A.n = 0
    · exact ⟨1, by omega, by omega, Or.inl rfl⟩
    · exact ⟨A.n, by omega, by omega, Or.inr rfl⟩
  refine wp.bnd (P := fun z => z.2 = (hi, hl) ∧ ∃ R, z.1 = nI R ∧ R < 2 ^ 29 ∧ Mx x (Lvl A) R) ?_ (fun z hz => by rw [wp_some]; exact hz)
  refine wp_for B (fun l s => 1 ≤ l ∧ s.2.1 = nI l ∧ s.2.2 = (hi, hl) ∧ ∃ R, s.1 = nI R ∧ R < 2 ^ 29 ∧ Mx x (Prs A l 0) R) ?_ ?_ (i := 1) b1 ⟨Nat.le_refl _, rfl, rfl, 0, rfl, by omega, Or.inl rfl, fun l m h => by have := h.2; omega⟩ (by omega)
  · rintro l ⟨r, q, g⟩ hlB ⟨l1, rfl, hg, R, rfl, R1, mx⟩
    dsimp only at hg
    subst hg
    have hl1 : l < A.n := by omega
    unfold B_LW_farthestApart_4
    dsimp only
    refine wp_neg (by rw [hR.bd.n]; exact nI_ge hl1 (by omega)) ?_
    refine (c_apart hN hw hR h42 hx hl1 R1 mx).bnd (fun z hz => ?_)
    obtain ⟨z1, R2, z2, z3, z4⟩ := hz
    rw [wp_some, z1]
    exact ⟨by omega, nI_1 l, rfl, R2, z2, z3, z4⟩
  · rintro ⟨r, q, g⟩ ⟨l1, rfl, hg, R, rfl, R1, mx⟩
    dsimp only at hg
    subst hg
    unfold B_LW_farthestApart_4
    dsimp only
    refine wp_pos (by rw [hR.bd.n]; exact nI_le b2 (by omega)) ?_
    rw [wp_some]
    exact ⟨rfl, R, rfl, R1, mx.full b2⟩
theorem lgle {a b : Nat} (ha : a < 2 ^ 62) (hb : b < 2 ^ 62) : (lg_cmp (lN a) (lN b) ≤ 0) ↔ a ≤ b := by
  have h := cmp_gt (lN a) (lN b)
  rw [pk_lT (by omega), pk_lT (by omega)] at h
  constructor
  · intro q
    refine Nat.le_of_not_lt (fun c => ?_)
    have := h.mpr (by omega)
    rw [fa_lt] at this
    rw [fa_le] at q
    omega
  · intro q
    have n : ¬ 0 < lg_cmp (lN a) (lN b) := fun c => by have := h.mp c; omega
    rw [fa_lt] at n
    rw [fa_le]
    omega
theorem m_uneven1 {N : Nat} {A : St} (hw : WF A) {hi : HI} {hl : HL} (hR : RM A hi) {x : Nat → Nat} (hx : ∀ l, l < A.n → x l < 2 ^ 29) {p : Int32} {l : Nat} (hl1 : l < A.n) (h82 : ∀ j, j < l + 1 → hl 82 j = lN (x j)) {R : Nat} (hR1 : R < 2 ^ 29) (mx : Mx x (fun j m => Lvl A j m ∧ m < j ∧ j < l) R) (hN : 70000 ≤ N) : wp (lpN (fun s => B_MD_uneven_56 N p (nI l) s.1 s.2.1 s.2.2.1 s.2.2.2) N (lN R, 0, hi, hl)) (fun o => o.2 = (hi, hl) ∧ ∃ R, o.1 = lN R ∧ R < 2 ^ 29 ∧ Mx x (fun j m => Lvl A j m ∧ m < j ∧ j < l + 1) R) := by
  have n16 := hw.n16
  refine wp_for l (fun m s => s.2.1 = nI m ∧ s.2.2 = (hi, hl) ∧ ∃ R, s.1 = lN R ∧ R < 2 ^ 29 ∧ Mx x (fun j k => Lvl A j k ∧ k < j ∧ (j < l ∨ (j = l ∧ k < m))) R) ?_ ?_ (i := 0) (Nat.zero_le _) ⟨rfl, rfl, R, rfl, hR1, mx.cong (fun j m => ⟨fun h => ⟨h.1, h.2.1, by omega⟩, fun h => ⟨h.1, h.2.1, by omega⟩⟩)⟩ (by omega)
  · rintro m ⟨v, q, g⟩ hm ⟨rfl, hg, R, rfl, R1, mx⟩
    dsimp only at hg
    subst hg
    have cl : (nI l).toNatClampNeg = l := nI_clamp (by omega)
    have cm : (nI m).toNatClampNeg = m := nI_clamp (by omega)
    have e1 := h82 l (by omega)
    have e2 := h82 m (by omega)
    have x1 := hx l hl1
    have x2 := hx m (by omega)
    have v1 := hw.lev l hl1
    have v2 := hw.lev m (by omega)
    have ext : ∀ R', (Lvl A l m → (R ≤ R' ∧ (R' = R ∨ (x l = x m + R' ∨ x m = x l + R')) ∧ x l ≤ x m + R' ∧ x m ≤ x l + R')) → (¬ Lvl A l m → R' = R) → Mx x (fun j k => Lvl A j k ∧ k < j ∧ (j < l ∨ (j = l ∧ k < m + 1))) R' := by
      intro R' h1 h2
      by_cases c : Lvl A l m
      · obtain ⟨a1, a2, a3, a4⟩ := h1 c
        refine ⟨?_, fun j k h => ?_⟩
        · rcases a2 with rfl | a2
          · rcases mx.1 with q | ⟨j, k, p, q⟩
            · exact Or.inl q
            · exact Or.inr ⟨j, k, ⟨p.1, p.2.1, by omega⟩, q⟩
          · exact Or.inr ⟨l, m, ⟨c, hm, by omega⟩, a2⟩
        · by_cases e : j = l ∧ k = m
          · rw [e.1, e.2]; exact ⟨a3, a4⟩
          · have := mx.2 j k ⟨h.1, h.2.1, by omega⟩
            omega
      · rw [h2 c]
        refine mx.cong (fun j k => ⟨fun h => ⟨h.1, h.2.1, by omega⟩, fun h => ⟨h.1, h.2.1, ?_⟩⟩)
        by_cases e : j = l ∧ k = m
        · rw [e.1, e.2] at h; exact absurd h.1 c
        · omega
    have rest : ∀ d, d < 2 ^ 29 → (x l = x m + d ∨ x m = x l + d) → wp (J_MD_uneven_114 N p (lN R) (nI l) (nI m) (lN d) hi hl) (fun z => match z with
        | .inl s => s.2.1 = nI (m + 1) ∧ s.2.2 = (hi, hl) ∧ ∃ R, s.1 = lN R ∧ R < 2 ^ 29 ∧ Mx x (fun j k => Lvl A j k ∧ k < j ∧ (j < l ∨ (j = l ∧ k < m + 1))) R
        | .inr _ => False) := by
      intro d d1 d2
      unfold J_MD_uneven_114 J_MD_uneven_155 J_MD_uneven_156
      rw [cl, cm, hR.bd.e l hl1, hR.bd.e m (by omega)]
      refine wp_neg (nI_in' (by omega) (by omega)) ?_
      by_cases c0 : A.lev l = 0
      · refine wp_pos (by rw [c0]; exact nI_le (a := 0) (b := 0) (by omega) (by omega)) ?_
        rw [wp_some]
        exact ⟨nI_1 m, rfl, R, rfl, R1, ext R (fun h => by have := h.2.2.2; omega) (fun _ => rfl)⟩
      · refine wp_neg (nI_nle (by omega) (by omega)) (wp_neg (nI_in' (by omega) (by omega)) (wp_neg (nI_in' (by omega) (by omega)) ?_))
        by_cases c1 : A.lev l = A.lev m
        · refine wp_pos (by rw [c1]) ?_
          by_cases c2 : d ≤ R
          · refine wp_pos ((lgle (by omega) (by omega)).mpr c2) ?_
            rw [wp_some]
            exact ⟨nI_1 m, rfl, R, rfl, R1, ext R (fun _ => by omega) (fun _ => rfl)⟩
          · refine wp_neg (fun q => c2 ((lgle (by omega) (by omega)).mp q)) ?_
            rw [wp_some]
            exact ⟨nI_1 m, rfl, d, rfl, d1, ext d (fun _ => by omega) (fun h => absurd ⟨hl1, by omega, c1, by omega⟩ h)⟩
        · refine wp_neg (fun q => c1 ((nI_eq (by omega) (by omega)).mp q)) ?_
          rw [wp_some]
          exact ⟨nI_1 m, rfl, R, rfl, R1, ext R (fun h => absurd h.2.2.1 c1) (fun _ => rfl)⟩
    unfold B_MD_uneven_56
    dsimp only
    simp only [cl, cm, e1, e2]
    refine wp_neg (nI_ge hm (by omega)) (wp_neg (nI_in' (by omega) (by omega)) (wp_neg (nI_in' (by omega) (by omega)) ?_))
    by_cases c : x l ≤ x m
    · refine wp_pos ((lgle (by omega) (by omega)).mpr c) (wp_neg (nI_in' (by omega) (by omega)) (wp_neg (nI_in' (by omega) (by omega)) ?_))
      rw [lN_sub c]
      exact (rest (x m - x l) (by omega) (by omega)).mono (fun z hz => by cases z <;> first | exact hz | exact hz.elim)
    · refine wp_neg (fun q => c ((lgle (by omega) (by omega)).mp q)) (wp_neg (nI_in' (by omega) (by omega)) (wp_neg (nI_in' (by omega) (by omega)) ?_))
      rw [lN_sub (by omega)]
      exact (rest (x l - x m) (by omega) (by omega)).mono (fun z hz => by cases z <;> first | exact hz | exact hz.elim)
  · rintro ⟨v, q, g⟩ ⟨rfl, hg, R, rfl, R1, mx⟩
    dsimp only at hg
    subst hg
    unfold B_MD_uneven_56
    dsimp only
    refine wp_pos (nI_le (Nat.le_refl _) (by omega)) ?_
    rw [wp_some]
    exact ⟨rfl, R, rfl, R1, mx.cong (fun j k => ⟨fun h => ⟨h.1, h.2.1, by omega⟩, fun h => ⟨h.1, h.2.1, by omega⟩⟩)⟩
theorem S_uneven {N : Nat} (hN : 70000 ≤ N) (b : Int32) : Sim (f_LW_uneven N b) (f_MD_uneven N b) := by
  refine Sim.of (fun A hw => ?_)
  have n16 := hw.n16
  have hc : ∀ (hi : HI) (hl : HL), f_MD_in N b.toInt64 0 1 hi hl = some (b2i (rg b 0 2), hi, hl) := fun hi hl => e_in32 N b _ _ hi hl (x := 0) (y := 2) (ltL64 0 (by decide)) (ltL64 1 (by decide))
  rcases rgE b 0 2 with ⟨f, _⟩ | ⟨f, _⟩
  · refine Sim.bad (ans := -1) hw (fun hi hl hR => ?_) (fun hi hl hR => ?_)
    · unfold f_LW_uneven
      rw [e_isFrac, f]; rfl
    · unfold f_MD_uneven
      rw [hc, f]; rfl
  obtain ⟨k, _, k1, rfl⟩ := rg_t (by omega) f
  have ex : Plnd A → ∃ R, R < 2 ^ 29 ∧ Mx (fun l => ltP A l 4) (Lvl A) R := fun pl => by

    have bnd : ∀ l, ltP A l 4 < 2 ^ 29 := fun l => by have := ltP_le hw pl (l := l) (p := 4) (Nat.le_refl _); omega
    obtain ⟨R, h1, h2⟩ := least_of (p := fun R => ∀ l m, Lvl A l m → ltP A l 4 ≤ ltP A m 4 + R ∧ ltP A m 4 ≤ ltP A l 4 + R) ⟨2 ^ 29, fun l m _ => by have := bnd l; have := bnd m; omega⟩
    have mx : Mx (fun l => ltP A l 4) (Lvl A) R := by
      refine ⟨?_, h1⟩
      by_cases z : R = 0
      · exact Or.inl z
      · right
        refine Classical.byContradiction (fun no => ?_)
        have : ∀ l m, Lvl A l m → ltP A l 4 ≤ ltP A m 4 + (R - 1) ∧ ltP A m 4 ≤ ltP A l 4 + (R - 1) := fun l m h => by
          have a := h1 l m h
          have b : ¬ (ltP A l 4 = ltP A m 4 + R ∨ ltP A m 4 = ltP A l 4 + R) := fun q => no ⟨l, m, h, q⟩
          omega
        have := h2 (R - 1) this
        omega
    exact ⟨R, by have := mx.le (B := 2 ^ 29 - 1) (fun l m _ => by have := bnd l; have := bnd m; omega); omega, mx⟩
  by_cases pl : Plnd A
  · obtain ⟨R, R1, mx⟩ := ex pl
    have bnd : ∀ l, ltP A l 4 < 2 ^ 29 := fun l => by have := ltP_le hw pl (l := l) (p := 4) (Nat.le_refl _); omega
    refine ⟨frc R k, A, hw, fun hi hl hR => ?_, fun hi hl hR => ?_⟩
    · unfold f_LW_uneven
      rw [e_isFrac, f]
      simp only [Option.bind_some, b2i_tt, if_false]
      refine (c_planLight hN hw hR).bnd (fun x hx => ?_)
      obtain ⟨x1, x2, x3⟩ := hx
      rcases x1 with ⟨x1, _, h42⟩ | ⟨_, q⟩
      · refine wp_neg (by rw [x1]; decide) ?_
        refine (c_farthest hN hw x2 h42 (fun l _ => bnd l)).bnd (fun y hy => ?_)
        obtain ⟨y1, R', y2, y3, y4⟩ := hy
        have := mx.one y4
        subst this
        rw [y1, y2]
        refine (e_frac hN R1 k1).bnd (fun z hz => ?_)
        subst hz
        rw [wp_some]
        exact ⟨rfl, x2, x3⟩
      · exact absurd pl q
    · unfold f_MD_uneven
      rw [hc, f]
      simp only [Option.bind_some, b2i_tt, if_false]
      refine (m_isPlanned hN hw hR).bnd (fun x hx => ?_)
      obtain ⟨x1, x2, x3⟩ := hx
      rcases x1 with ⟨x1, _⟩ | ⟨_, q⟩
      · refine wp_neg (by rw [x1]; decide) ?_
        refine (m_findPlan hN hw pl x2).bnd (fun y hy => ?_)
        obtain ⟨y1, y2, pd⟩ := hy
        refine wp.bnd (P := fun z => z.2.1 = y.2.1 ∧ z.1 = lN R) ?_ (fun z hz => ?_)
        · refine wp_for A.n (fun l s => s.2.1 = nI l ∧ s.2.2.1 = y.2.1 ∧ (∀ j, j < l → s.2.2.2 82 j = lN (ltP A j 4)) ∧ ∃ R, s.1 = lN R ∧ R < 2 ^ 29 ∧ Mx (fun l => ltP A l 4) (fun j m => Lvl A j m ∧ m < j ∧ j < l) R) ?_ ?_ (i := 0) (Nat.zero_le _) ⟨rfl, rfl, (fun j hj => by omega), 0, rfl, by omega, Or.inl rfl, fun l m h => by omega⟩ (by omega)
          · rintro l ⟨v, q, g, gl⟩ hl1 ⟨rfl, hg, h82, R2, rfl, r1, mx2⟩
            dsimp only at hg h82
            subst hg
            unfold B_MD_uneven_31
            dsimp only
            refine wp_neg (by rw [y1.bd.n]; exact nI_ge hl1 (by omega)) ?_
            refine (m_lightOf hN hw pl pd (by omega)).bnd (fun u hu => ?_)
            subst hu
            dsimp only
            rw [nI_clamp (by omega)]
            refine wp_neg (nI_in' (by omega) (by omega)) ?_
            refine (m_uneven1 hw y1 (x := fun l => ltP A l 4) (fun l _ => bnd l) hl1 (fun j hj => ?_) r1 mx2 hN).bnd (fun w hw' => ?_)
            · rw [wrL_i]
              by_cases e : j = l
              · rw [if_pos e, e]
              · rw [if_neg e]; exact h82 j (by omega)
            · obtain ⟨w1, R3, w2, w3, w4⟩ := hw'
              rw [wp_some, w1]
              refine ⟨nI_1 l, rfl, fun j hj => ?_, R3, w2, w3, w4⟩
              dsimp only
              rw [wrL_i]
              by_cases e : j = l
              · rw [if_pos e, e]
              · rw [if_neg e]; exact h82 j (by omega)
          · rintro ⟨v, q, g, gl⟩ ⟨rfl, hg, h82, R2, rfl, r1, mx2⟩
            dsimp only at hg h82
            subst hg
            unfold B_MD_uneven_31
            dsimp only
            refine wp_pos (by rw [y1.bd.n]; exact nI_le (Nat.le_refl _) (by omega)) ?_
            rw [wp_some]
            refine ⟨rfl, ?_⟩
            dsimp only
            have : Mx (fun l => ltP A l 4) (Lvl A) R2 := by
              refine ⟨?_, fun l m h => ?_⟩
              · rcases mx2.1 with q | ⟨l, m, p, q⟩
                · exact Or.inl q
                · exact Or.inr ⟨l, m, p.1, q⟩
              · by_cases c : m < l
                · exact mx2.2 l m ⟨h, c, h.1⟩
                · by_cases d : l < m
                  · have := mx2.2 m l ⟨⟨h.2.1, h.1, h.2.2.1.symm, by have := h.2.2; omega⟩, d, h.2.1⟩
                    exact ⟨this.2, this.1⟩
                  · have : l = m := by omega
                    subst this; dsimp only; omega
            rw [this.one mx]
        · rw [hz.2]
          refine (m_low hN R1 k1).bnd (fun u hu => ?_)
          subst hu
          rw [wp_some]
          dsimp only
          rw [hz.1]
          exact ⟨rfl, y1, x3.trans y2⟩
      · exact absurd pl q
  · refine ⟨-4, A, hw, fun hi hl hR => ?_, fun hi hl hR => ?_⟩
    · unfold f_LW_uneven
      rw [e_isFrac, f]
      simp only [Option.bind_some, b2i_tt, if_false]
      refine (c_planLight hN hw hR).bnd (fun x hx => ?_)
      obtain ⟨x1, x2, x3⟩ := hx
      rcases x1 with ⟨_, q, _⟩ | ⟨x1, _⟩
      · exact absurd q pl
      · refine wp_pos x1 ?_
        rw [wp_some]
        exact ⟨rfl, x2, x3⟩
    · unfold f_MD_uneven
      rw [hc, f]
      simp only [Option.bind_some, b2i_tt, if_false]
      refine (m_isPlanned hN hw hR).bnd (fun x hx => ?_)
      obtain ⟨x1, x2, x3⟩ := hx
      rcases x1 with ⟨_, q⟩ | ⟨x1, _⟩
      · exact absurd q pl
      · refine wp_pos x1 ?_
        rw [wp_some]
        exact ⟨rfl, x2, x3⟩
