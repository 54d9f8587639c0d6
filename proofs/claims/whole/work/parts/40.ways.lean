/-! ways: their mathematics -/
section
variable {E : Nat → Nat → Nat → Nat → Prop} {F F' : Nat → Prop} {u v x c m c1 m1 c2 m2 w : Nat}
theorem Wk.mono (hF : ∀ x, F x → F' x) (h : Wk E F u v c m) : Wk E F' u v c m :=
  Wk.ind (P := fun v c m => Wk E F' u v c m) (fun _ _ _ e => Wk.one e) (fun x _ _ _ _ _ _ ih hx hE => ih.snoc (hF x hx) hE) h
theorem Wk.app (h1 : Wk E F u x c1 m1) (hF : F x) (h2 : Wk E F x v c2 m2) : Wk E F u v (c1 + c2) (m1 ||| m2) := by
  refine Wk.ind (P := fun v c m => Wk E F u v (c1 + c) (m1 ||| m)) ?_ ?_ h2
  · intro v c m e; exact h1.snoc hF e
  · intro y v c m d k _ ih hy e
    have := ih.snoc hy e
    rwa [Nat.add_assoc, Nat.or_assoc] at this
theorem Wk.zero (hZ : ∀ u v m, E u v 0 m → m = 0) (h : Wk E F u v c m) : c = 0 → m = 0 := by
  refine Wk.ind (P := fun v c m => c = 0 → m = 0) ?_ ?_ h
  · intro v c m e hc; subst hc; exact hZ _ _ _ e
  · intro y v c m d k _ ih hy e hc
    have h1 := ih (by omega)
    have h2 : d = 0 := by omega
    subst h2
    rw [h1, hZ _ _ _ e]; rfl
theorem Wk.bits {n : Nat} (hE : ∀ u v c m, E u v c m → ∀ i, m.testBit i = true → i < n) (h : Wk E F u v c m) : ∀ i, m.testBit i = true → i < n := by
  refine Wk.ind (P := fun v c m => ∀ i, m.testBit i = true → i < n) ?_ ?_ h
  · intro v c m e; exact hE _ _ _ _ e
  · intro y v c m d k _ ih hy e i hi
    rw [Nat.testBit_or, Bool.or_eq_true] at hi
    exact hi.elim (ih i) (hE _ _ _ _ e i)
theorem Wk.inW (hE : ∀ u v c m, E u v c m → u < w) (h : Wk E F u v c m) : Wk E (fun x => F x ∧ x < w) u v c m :=
  Wk.ind (P := fun v c m => Wk E (fun x => F x ∧ x < w) u v c m) (fun _ _ _ e => Wk.one e) (fun _ _ _ _ _ _ _ ih hx e => ih.snoc ⟨hx, hE _ _ _ _ e⟩ e) h
theorem Wk.cut (hZ : ∀ u v m, E u v 0 m → m = 0) (h : Wk E (fun y => F y ∨ y = x) u v c m) : Wk E F u v c m ∨ ∃ c1 m1 c0 m0 c2 m2, Wk E F u x c1 m1 ∧ (c0 = 0 → m0 = 0) ∧ Wk E F x v c2 m2 ∧ c = c1 + c0 + c2 ∧ m = m1 ||| m0 ||| m2 := by
  refine Wk.ind (P := fun v c m => Wk E F u v c m ∨ ∃ c1 m1 c0 m0 c2 m2, Wk E F u x c1 m1 ∧ (c0 = 0 → m0 = 0) ∧ Wk E F x v c2 m2 ∧ c = c1 + c0 + c2 ∧ m = m1 ||| m0 ||| m2) ?_ ?_ h
  · intro v c m e; exact Or.inl (Wk.one e)
  · intro y v c m d k _ ih hy e
    rcases hy with hy | rfl
    · rcases ih with ih | ⟨c1, m1, c0, m0, c2, m2, a1, a2, a3, rfl, rfl⟩
      · exact Or.inl (ih.snoc hy e)
      · exact Or.inr ⟨c1, m1, c0, m0, c2 + d, m2 ||| k, a1, a2, a3.snoc hy e, by omega, by rw [Nat.or_assoc]⟩
    · rcases ih with ih | ⟨c1, m1, c0, m0, c2, m2, a1, a2, a3, rfl, rfl⟩
      · exact Or.inr ⟨c, m, 0, 0, d, k, ih, fun _ => rfl, Wk.one e, by omega, by rw [Nat.or_zero]⟩
      · refine Or.inr ⟨c1, m1, c0 + c2, m0 ||| m2, d, k, a1, fun h0 => ?_, Wk.one e, by omega, by rw [Nat.or_assoc m1]⟩
        rw [a2 (by omega), a3.zero hZ (by omega)]; rfl
end
/-- d is the least sum from u to v over F (from 1000 on: there is no way), l the lamps on ways with it -/
abbrev Op (E : Nat → Nat → Nat → Nat → Prop) (F : Nat → Prop) (u v d l : Nat) : Prop :=
  (∀ c m, Wk E F u v c m → d ≤ c) ∧
  (1000 ≤ d → ∀ c m, ¬ Wk E F u v c m) ∧
  (d < 1000 → ∃ m, Wk E F u v d m) ∧
  (d < 1000 → ∀ i, l.testBit i = true ↔ ∃ m, Wk E F u v d m ∧ m.testBit i = true)
theorem Op.lo {E : Nat → Nat → Nat → Nat → Prop} {F : Nat → Prop} {u v d l : Nat} (h_ : Op E F u v d l) : ∀ c m, Wk E F u v c m → d ≤ c := h_.1
theorem Op.no {E : Nat → Nat → Nat → Nat → Prop} {F : Nat → Prop} {u v d l : Nat} (h_ : Op E F u v d l) : 1000 ≤ d → ∀ c m, ¬ Wk E F u v c m := h_.2.1
theorem Op.is {E : Nat → Nat → Nat → Nat → Prop} {F : Nat → Prop} {u v d l : Nat} (h_ : Op E F u v d l) : d < 1000 → ∃ m, Wk E F u v d m := h_.2.2.1
theorem Op.bt {E : Nat → Nat → Nat → Nat → Prop} {F : Nat → Prop} {u v d l : Nat} (h_ : Op E F u v d l) : d < 1000 → ∀ i, l.testBit i = true ↔ ∃ m, Wk E F u v d m ∧ m.testBit i = true := h_.2.2.2
theorem Op.cong {E : Nat → Nat → Nat → Nat → Prop} {F F' : Nat → Prop} {u v d l : Nat} (h : Op E F u v d l) (hh : ∀ c m, Wk E F u v c m ↔ Wk E F' u v c m) : Op E F' u v d l := by
  have e : ∀ c, Wk E F u v c = Wk E F' u v c := fun c => funext fun m => propext (hh c m)
  unfold Op at *
  simp only [← e]
  exact h
def ofr (d l s k : Nat) : Nat × Nat := if s < d then (s, k) else if s = d then (d, l ||| k) else (d, l)
theorem Op.elim {E : Nat → Nat → Nat → Nat → Prop} {F : Nat → Prop} {u v x d l d1 l1 d2 l2 : Nat} (hZ : ∀ u v m, E u v 0 m → m = 0) (h : Op E F u v d l) (h1 : Op E F u x d1 l1) (h2 : Op E F x v d2 l2) (hd1 : d1 < 1000) (hd2 : d2 < 1000) (hs : d1 + d2 < 1000) : Op E (fun y => F y ∨ y = x) u v (ofr d l (d1 + d2) (l1 ||| l2)).1 (ofr d l (d1 + d2) (l1 ||| l2)).2 := by
  have mo : ∀ {a b c m}, Wk E F a b c m → Wk E (fun y => F y ∨ y = x) a b c m := fun q => q.mono (fun y hy => Or.inl hy)
  obtain ⟨n1, w1⟩ := h1.is hd1
  obtain ⟨n2, w2⟩ := h2.is hd2
  have new : Wk E (fun y => F y ∨ y = x) u v (d1 + d2) (n1 ||| n2) := (mo w1).app (Or.inr rfl) (mo w2)
  have lo : ∀ c m, Wk E (fun y => F y ∨ y = x) u v c m → d ≤ c ∨ d1 + d2 ≤ c := fun c m q => by
    rcases q.cut hZ with q | ⟨e1, m1, e0, m0, e2, m2, a1, a2, a3, rfl, rfl⟩
    · exact Or.inl (h.lo _ _ q)
    · have := h1.lo _ _ a1
      have := h2.lo _ _ a3
      exact Or.inr (by omega)
  have bt : ∀ i m, Wk E (fun y => F y ∨ y = x) u v (d1 + d2) m → m.testBit i = true → (∃ m, Wk E F u v (d1 + d2) m ∧ m.testBit i = true) ∨ (l1 ||| l2).testBit i = true := fun i m q hi => by
    rcases q.cut hZ with q | ⟨e1, m1, e0, m0, e2, m2, a1, a2, a3, a4, rfl⟩
    · exact Or.inl ⟨m, q, hi⟩
    · have b1 := h1.lo _ _ a1
      have b2 := h2.lo _ _ a3
      have c1 : e1 = d1 := by omega
      have c2 : e2 = d2 := by omega
      have c0 := a2 (by omega)
      subst c1 c2 c0
      rw [Nat.or_zero, Nat.testBit_or, Bool.or_eq_true] at hi
      rw [Nat.testBit_or, Bool.or_eq_true]
      exact Or.inr (hi.imp (fun q => (h1.bt hd1 i).mpr ⟨_, a1, q⟩) (fun q => (h2.bt hd2 i).mpr ⟨_, a3, q⟩))
  have bt2 : ∀ i, (l1 ||| l2).testBit i = true → ∃ m, Wk E (fun y => F y ∨ y = x) u v (d1 + d2) m ∧ m.testBit i = true := fun i hi => by
    rw [Nat.testBit_or, Bool.or_eq_true] at hi
    rcases hi with hi | hi
    · obtain ⟨m, q1, q2⟩ := (h1.bt hd1 i).mp hi
      exact ⟨m ||| n2, (mo q1).app (Or.inr rfl) (mo w2), by rw [Nat.testBit_or, q2]; rfl⟩
    · obtain ⟨m, q1, q2⟩ := (h2.bt hd2 i).mp hi
      exact ⟨n1 ||| m, (mo w1).app (Or.inr rfl) (mo q1), by rw [Nat.testBit_or, q2, Bool.or_true]⟩
  unfold ofr
  by_cases g1 : d1 + d2 < d
  · rw [if_pos g1]
    refine ⟨fun c m q => ?_, fun q => by dsimp only at q; omega, fun _ => ⟨_, new⟩, fun _ i => ⟨bt2 i, fun ⟨m, q, hi⟩ => ?_⟩⟩
    · have := lo c m q
      dsimp only; omega
    · rcases bt i m q hi with ⟨m', q', _⟩ | q'
      · have := h.lo _ _ q'
        omega
      · exact q'
  · rw [if_neg g1]
    by_cases g2 : d1 + d2 = d
    · rw [if_pos g2]
      subst g2
      refine ⟨fun c m q => ?_, fun q => by dsimp only at q; omega, fun _ => ⟨_, new⟩, fun _ i => ?_⟩
      · have := lo c m q
        dsimp only; omega
      · dsimp only
        rw [Nat.testBit_or l, Bool.or_eq_true]
        constructor
        · rintro (hi | hi)
          · obtain ⟨m, q1, q2⟩ := (h.bt hs i).mp hi
            exact ⟨m, mo q1, q2⟩
          · exact bt2 i hi
        · rintro ⟨m, q, hi⟩
          rcases bt i m q hi with q' | q'
          · exact Or.inl ((h.bt hs i).mpr q')
          · exact Or.inr q'
    · rw [if_neg g2]
      have hd : d < 1000 := by omega
      refine ⟨fun c m q => ?_, fun q => by dsimp only at q; omega, fun _ => ?_, fun _ i => ?_⟩
      · have := lo c m q
        dsimp only; omega
      · obtain ⟨m, q⟩ := h.is hd
        exact ⟨m, mo q⟩
      · dsimp only
        rw [h.bt hd i]
        constructor
        · rintro ⟨m, q, hi⟩
          exact ⟨m, mo q, hi⟩
        · rintro ⟨m, q, hi⟩
          rcases q.cut hZ with q | ⟨e1, m1, e0, m0, e2, m2, a1, a2, a3, a4, rfl⟩
          · exact ⟨m, q, hi⟩
          · have := h1.lo _ _ a1
            have := h2.lo _ _ a3
            omega
theorem Op.pass {E : Nat → Nat → Nat → Nat → Prop} {F : Nat → Prop} {u v x d l d1 l1 d2 l2 : Nat} (hZ : ∀ u v m, E u v 0 m → m = 0) (h : Op E F u v d l) (h1 : Op E F u x d1 l1) (h2 : Op E F x v d2 l2) (hd : 1000 ≤ d1 ∨ 1000 ≤ d2) : Op E (fun y => F y ∨ y = x) u v d l := by
  refine h.cong (fun c m => ⟨fun q => q.mono (fun y hy => Or.inl hy), fun q => ?_⟩)
  rcases q.cut hZ with q | ⟨e1, m1, e0, m0, e2, m2, a1, a2, a3, a4, rfl⟩
  · exact q
  · rcases hd with hd | hd
    · exact absurd a1 (h1.no hd _ _)
    · exact absurd a3 (h2.no hd _ _)
/-! a way that is long has a shorter one -/
theorem pigeon : ∀ (w n : Nat) (x : Nat → Nat), w < n → (∀ i, i < n → x i < w) → ∃ i j, i < j ∧ j < n ∧ x i = x j := by
  intro w
  induction w with
  | zero => intro n x hn hx; exact absurd (hx 0 hn) (Nat.not_lt_zero _)
  | succ w ih =>
    intro n x hn hx
    by_cases q : ∃ i, i < n - 1 ∧ x i = x (n - 1)
    · obtain ⟨i, h1, h2⟩ := q
      exact ⟨i, n - 1, h1, by omega, h2⟩
    · have hne : ∀ i, i < n - 1 → x i ≠ x (n - 1) := fun i h1 h2 => q ⟨i, h1, h2⟩
      have hl := hx (n - 1) (by omega)
      obtain ⟨i, j, h1, h2, h3⟩ := ih (n - 1) (fun i => if x (n - 1) < x i then x i - 1 else x i) (by omega) (fun i hi => by
        have := hne i hi
        have := hx i (by omega)
        split <;> omega)
      refine ⟨i, j, h1, by omega, ?_⟩
      have a1 := hne i (by omega)
      have a2 := hne j h2
      split at h3 <;> split at h3 <;> omega
section
variable {E : Nat → Nat → Nat → Nat → Prop} {F : Nat → Prop} {u v x w : Nat}
theorem WkN.cat : ∀ (j : Nat) {i v c1 m1 c2 m2 : Nat}, WkN E F i u x c1 m1 → F x → WkN E F j x v c2 m2 → WkN E F (i + j + 1) u v (c1 + c2) (m1 ||| m2) := by
  intro j
  induction j with
  | zero => intro i v c1 m1 c2 m2 h1 hF h2; exact ⟨x, c1, m1, c2, m2, h1, hF, h2, rfl, rfl⟩
  | succ j ih =>
    intro i v c1 m1 c2 m2 h1 hF h2
    obtain ⟨y, c, m, d, k, a1, a2, a3, rfl, rfl⟩ := h2
    exact ⟨y, c1 + c, m1 ||| m, d, k, ih h1 hF a1, a2, a3, by omega, by rw [Nat.or_assoc]⟩
theorem WkN.front : ∀ (n : Nat) {v c m : Nat}, WkN E F (n + 1) u v c m → ∃ x d k c1 m1, E u x d k ∧ F x ∧ WkN E F n x v c1 m1 ∧ c = d + c1 ∧ m = k ||| m1 := by
  intro n
  induction n with
  | zero => rintro v c m ⟨x, c1, m1, d, k, h1, hF, h2, rfl, rfl⟩; exact ⟨x, c1, m1, d, k, h1, hF, h2, rfl, rfl⟩
  | succ n ih =>
    rintro v c m ⟨x, c1, m1, d, k, h1, hF, h2, rfl, rfl⟩
    obtain ⟨y, d', k', c', m', a1, a2, a3, rfl, rfl⟩ := ih h1
    exact ⟨y, d', k', c' + d, m' ||| k, a1, a2, ⟨x, c', m', d, k, a3, hF, h2, rfl, rfl⟩, by omega, by rw [Nat.or_assoc]⟩
theorem WkN.nodes : ∀ (n : Nat) {v c m : Nat}, WkN E F n u v c m → ∃ x C : Nat → Nat, (∀ i, i < n → F (x i)) ∧ (∀ i j, i ≤ j → j < n → C i ≤ C j) ∧ ∀ i, i < n → C i ≤ c ∧ (∃ m1, WkN E F i u (x i) (C i) m1) ∧ ∃ m2, WkN E F (n - 1 - i) (x i) v (c - C i) m2 := by
  intro n
  induction n with
  | zero => intro v c m _; exact ⟨fun _ => 0, fun _ => 0, fun i hi => absurd hi (Nat.not_lt_zero i), fun i j _ hi => absurd hi (Nat.not_lt_zero j), fun i hi => absurd hi (Nat.not_lt_zero i)⟩
  | succ n ih =>
    rintro v c m ⟨y, c1, m1, d, k, h1, hF, h2, rfl, rfl⟩
    obtain ⟨x, C, b1, b2, b3⟩ := ih h1
    refine ⟨fun i => if i = n then y else x i, fun i => if i = n then c1 else C i, fun i hi => ?_, fun i j hij hj => ?_, fun i hi => ?_⟩
    · dsimp only; split
      · exact hF
      · exact b1 i (by omega)
    · dsimp only
      by_cases e : j = n
      · rw [if_pos e]
        split
        · exact Nat.le_refl _
        · exact (b3 i (by omega)).1
      · rw [if_neg e, if_neg (by omega)]
        exact b2 i j hij (by omega)
    · dsimp only
      by_cases e : i = n
      · subst e
        rw [if_pos rfl, if_pos rfl]
        refine ⟨by omega, ⟨m1, h1⟩, k, ?_⟩
        rw [show i + 1 - 1 - i = 0 by omega, show c1 + d - c1 = d by omega]
        exact h2
      · rw [if_neg e, if_neg e]
        obtain ⟨e1, e2, m2, e3⟩ := b3 i (by omega)
        refine ⟨by omega, e2, m2 ||| k, ?_⟩
        rw [show n + 1 - 1 - i = n - 1 - i + 1 by omega]
        exact ⟨y, c1 - C i, m2, d, k, e3, hF, h2, by omega, rfl⟩
theorem WkN.short (hF : ∀ x, F x → x < w) : ∀ (n : Nat) {c m : Nat}, WkN E F n u v c m → ∃ n' c' m', n' ≤ w ∧ c' ≤ c ∧ WkN E F n' u v c' m' := by
  intro n
  induction n using Nat.strongRecOn with
  | ind n ih =>
    intro c m h
    by_cases hn : n ≤ w
    · exact ⟨n, c, m, hn, Nat.le_refl _, h⟩
    · obtain ⟨x, C, b1, b2, b3⟩ := WkN.nodes n h
      obtain ⟨i, j, h1, h2, h3⟩ := pigeon w n x (by omega) (fun i hi => hF _ (b1 i hi))
      obtain ⟨d1, ⟨k1, d2⟩, _⟩ := b3 i (by omega)
      obtain ⟨e1, _, k2, e2⟩ := b3 j h2
      rw [← h3] at e2
      have hc := WkN.cat _ d2 (b1 i (by omega)) e2
      obtain ⟨n', c', m', f1, f2, f3⟩ := ih _ (by omega) hc
      have := b2 i j (by omega) h2
      exact ⟨n', c', m', f1, by omega, f3⟩
theorem WkN.cost (hE : ∀ u v c m, E u v c m → c ≤ 9) : ∀ (n : Nat) {v c m : Nat}, WkN E F n u v c m → c ≤ 9 * (n + 1) := by
  intro n
  induction n with
  | zero => intro v c m h; have := hE _ _ _ _ h; omega
  | succ n ih =>
    rintro v c m ⟨y, c1, m1, d, k, h1, hF, h2, rfl, rfl⟩
    have := ih h1
    have := hE _ _ _ _ h2
    omega
end
/-! of the lamps -/
section
variable {A : St} {h : Nat → Nat}
theorem Stg.zero (hw : WF A) : ∀ u v m, Stg A h u v 0 m → m = 0 := by
  rintro u v m (⟨l, h1, _, _, _, h2, _⟩ | ⟨l, _, _, _, _, h2⟩)
  · have := hw.lv1 l h1
    omega
  · exact h2
theorem Stg.lw (hw : WF A) : ∀ u v c m, Stg A h u v c m → u < A.w := by
  rintro u v c m (⟨l, h1, _, rfl, rfl, h2, _⟩ | ⟨l, h1, _, (⟨rfl, rfl⟩ | ⟨rfl, rfl⟩), _, h2⟩)
  · exact hw.lf l h1
  · exact hw.lf l h1
  · exact hw.lt l h1
theorem Stg.rw (hw : WF A) : ∀ u v c m, Stg A h u v c m → v < A.w := by
  rintro u v c m (⟨l, h1, _, rfl, rfl, h2, _⟩ | ⟨l, h1, _, (⟨rfl, rfl⟩ | ⟨rfl, rfl⟩), _, h2⟩)
  · exact hw.lt l h1
  · exact hw.lt l h1
  · exact hw.lf l h1
theorem Stg.le9 (hw : WF A) : ∀ u v c m, Stg A h u v c m → c ≤ 9 := by
  rintro u v c m (⟨l, h1, _, _, _, rfl, _⟩ | ⟨l, h1, _, _, rfl, _⟩)
  · exact hw.lv9 l h1
  · omega
theorem Stg.bits : ∀ u v c m, Stg A h u v c m → ∀ i, m.testBit i = true → i < A.n := by
  rintro u v c m (⟨l, h1, _, _, _, _, rfl⟩ | ⟨l, h1, _, _, _, rfl⟩) i hi
  · rw [Nat.testBit_two_pow] at hi
    have : l = i := by simpa using hi
    omega
  · rw [Nat.zero_testBit] at hi; cases hi
theorem Way.bits {t c m : Nat} (q : Way A h t c m) : ∀ i, m.testBit i = true → i < A.n := by
  obtain ⟨a, b, _, _, _, _, q⟩ := q
  exact q.bits Stg.bits
theorem WkN.mono {E : Nat → Nat → Nat → Nat → Prop} {F F' : Nat → Prop} (hF : ∀ x, F x → F' x) {u : Nat} : ∀ (n : Nat) {v c m : Nat}, WkN E F n u v c m → WkN E F' n u v c m := by
  intro n
  induction n with
  | zero => exact id
  | succ n ih =>
    rintro v c m ⟨y, c1, m1, d, k, h1, h2, h3, rfl, rfl⟩
    exact ⟨y, c1, m1, d, k, ih h1, hF _ h2, h3, rfl, rfl⟩
theorem Wk.few (hw : WF A) {F : Nat → Prop} {u v c m : Nat} (q : Wk (Stg A h) F u v c m) : ∃ n' c' m', n' ≤ A.w ∧ c' ≤ c ∧ c' ≤ 63 ∧ WkN (Stg A h) F n' u v c' m' := by
  obtain ⟨n, q⟩ := q.inW (Stg.lw hw)
  obtain ⟨n', c', m', h1, h2, h3⟩ := WkN.short (w := A.w) (fun x hx => hx.2) n q
  have h4 := WkN.cost (Stg.le9 hw) n' h3
  have := hw.w6
  exact ⟨n', c', m', h1, h2, by omega, h3.mono (fun x hx => hx.1)⟩
theorem Lst_none {t : Nat} (q : ∀ c m, ¬ Way A h t c m) : Lst A h t = 10000 := lst_none (fun ⟨c, m, k⟩ => q c m k)
theorem Lst_eq {t c m : Nat} (q : Way A h t c m) (q2 : ∀ c' m', Way A h t c' m' → c ≤ c') : Lst A h t = c := lst_eq ⟨m, q⟩ (fun k ⟨m', hk⟩ => q2 k m' hk)
theorem Lst_cases (hw : WF A) (h : Nat → Nat) (t : Nat) : (Lst A h t = 10000 ∧ ∀ c m, ¬ Way A h t c m) ∨ (Lst A h t ≤ 63 ∧ (∃ m, Way A h t (Lst A h t) m) ∧ ∀ c m, Way A h t c m → Lst A h t ≤ c) := by
  by_cases q : ∃ c m, Way A h t c m
  · have k := lst_spec (p := fun c => ∃ m, Way A h t c m) (z := 10000) q
    refine Or.inr ⟨?_, k.1, fun c m hc => k.2 c ⟨m, hc⟩⟩
    obtain ⟨c, m, a, b, h1, h2, h3, h4, h5⟩ := q
    obtain ⟨n', c', m', e1, e2, e3, e4⟩ := h5.few hw
    exact Nat.le_trans (k.2 c' ⟨m', a, b, h1, h2, h3, h4, n', e4⟩) e3
  · have q2 : ∀ c m, ¬ Way A h t c m := fun c m k => q ⟨c, m, k⟩
    exact Or.inl ⟨Lst_none q2, q2⟩
/-- what the class's search brings -/
theorem GM_of {t d k : Nat} (hsup : A.sup ≤ 30) (h1 : d < 1000 → (∃ m, Way A h t d m) ∧ (∀ c m, Way A h t c m → d ≤ c) ∧ ∀ i, k.testBit i = true ↔ ∃ m, Way A h t d m ∧ m.testBit i = true) (h2 : 1000 ≤ d → ∀ c m, ¬ Way A h t c m) : (if d < 1000 then nI d else -4) = LsI A h t ∧ (if 1 ≤ d ∧ d ≤ A.sup then k else 0) = GM A h t := by
  unfold LsI GM
  by_cases hd : d < 1000
  · obtain ⟨⟨m, a1⟩, a2, a3⟩ := h1 hd
    have e := Lst_eq a1 a2
    rw [e, if_pos hd, if_neg (by omega)]
    refine ⟨rfl, ?_⟩
    by_cases hs : 1 ≤ d ∧ d ≤ A.sup
    · rw [if_pos hs, if_pos hs]
      refine msk_eq (fun i => ?_)
      rw [a3]
      exact ⟨fun ⟨m, q1, q2⟩ => ⟨q1.bits i q2, m, q1, q2⟩, fun q => q.2⟩
    · rw [if_neg hs, if_neg hs]
  · have e := Lst_none (h2 (by omega))
    rw [e, if_neg hd, if_pos rfl]
    refine ⟨rfl, ?_⟩
    rw [if_neg (by omega), if_neg (by omega)]
end
