/-! the reference's search: far from the high wires, near to the low ones -/
def Fre (t : Nat) : Nat → Prop := fun x => fig t x = 0
theorem fig_lt (t x : Nat) : fig t x < 3 := Nat.mod_lt _ (by omega)
abbrev FS (A : St) (h : Nat → Nat) (t : Nat) (far : Nat → Nat) : Prop :=
  (∀ v, v < A.w → fig t v = 1 → far v = 0) ∧
  (∀ v, v < A.w → fig t v ≠ 1 → far v = 10000 ∨ (far v < 10000 ∧ ∃ a m, a < A.w ∧ fig t a = 1 ∧ Wk (Stg A h) (Fre t) a v (far v) m))
theorem FS.hi {A : St} {h : Nat → Nat} {t : Nat} {far : Nat → Nat} (h_ : FS A h t far) : ∀ v, v < A.w → fig t v = 1 → far v = 0 := h_.1
theorem FS.ot {A : St} {h : Nat → Nat} {t : Nat} {far : Nat → Nat} (h_ : FS A h t far) : ∀ v, v < A.w → fig t v ≠ 1 → far v = 10000 ∨ (far v < 10000 ∧ ∃ a m, a < A.w ∧ fig t a = 1 ∧ Wk (Stg A h) (Fre t) a v (far v) m) := h_.2
abbrev NS (A : St) (h : Nat → Nat) (t : Nat) (near : Nat → Nat) : Prop :=
  (∀ v, v < A.w → fig t v = 2 → near v = 0) ∧
  (∀ v, v < A.w → fig t v ≠ 2 → near v = 10000 ∨ (near v < 10000 ∧ ∃ b m, b < A.w ∧ fig t b = 2 ∧ Wk (Stg A h) (Fre t) v b (near v) m))
theorem NS.lo {A : St} {h : Nat → Nat} {t : Nat} {near : Nat → Nat} (h_ : NS A h t near) : ∀ v, v < A.w → fig t v = 2 → near v = 0 := h_.1
theorem NS.ot {A : St} {h : Nat → Nat} {t : Nat} {near : Nat → Nat} (h_ : NS A h t near) : ∀ v, v < A.w → fig t v ≠ 2 → near v = 10000 ∨ (near v < 10000 ∧ ∃ b m, b < A.w ∧ fig t b = 2 ∧ Wk (Stg A h) (Fre t) v b (near v) m) := h_.2
def FK (A : St) (h : Nat → Nat) (t k : Nat) (far : Nat → Nat) : Prop := ∀ n a v c m, n + 1 ≤ k → a < A.w → fig t a = 1 → fig t v ≠ 1 → WkN (Stg A h) (Fre t) n a v c m → far v ≤ c
def NK (A : St) (h : Nat → Nat) (t k : Nat) (near : Nat → Nat) : Prop := ∀ n u b c m, n + 1 ≤ k → b < A.w → fig t b = 2 → fig t u ≠ 2 → WkN (Stg A h) (Fre t) n u b c m → near u ≤ c
def rx (f : Nat → Nat) (u v c : Nat) : Nat → Nat := fun y => if y = v then (if f v ≤ f u + c then f v else f u + c) else f y
theorem rx_le (f : Nat → Nat) (u v c y : Nat) : rx f u v c y ≤ f y := by
  unfold rx
  by_cases e : y = v
  · subst e; rw [if_pos rfl]; split <;> omega
  · rw [if_neg e]; exact Nat.le_refl _
theorem rx_at (f : Nat → Nat) (u v c : Nat) : rx f u v c v ≤ f u + c := by
  unfold rx
  rw [if_pos rfl]; split <;> omega
theorem FS.le {A : St} {h far : Nat → Nat} {t : Nat} (q : FS A h t far) {v : Nat} (hv : v < A.w) : far v ≤ 10000 := by
  by_cases e : fig t v = 1
  · rw [q.hi v hv e]; omega
  · rcases q.ot v hv e with k | ⟨k, _⟩ <;> omega
theorem NS.le {A : St} {h near : Nat → Nat} {t : Nat} (q : NS A h t near) {v : Nat} (hv : v < A.w) : near v ≤ 10000 := by
  by_cases e : fig t v = 2
  · rw [q.lo v hv e]; omega
  · rcases q.ot v hv e with k | ⟨k, _⟩ <;> omega
section
variable {A : St} {h far near : Nat → Nat} {t u v c m : Nat}
theorem FS.rel (hw : WF A) (q : FS A h t far) (e : Stg A h u v c m) (hu : fig t u ≠ 2) (hv : fig t v ≠ 1) : FS A h t (rx far u v c) := by
  have lu := Stg.lw hw _ _ _ _ e
  have lv := Stg.rw hw _ _ _ _ e
  refine ⟨fun y hy h1 => ?_, fun y hy h1 => ?_⟩
  · unfold rx
    rw [if_neg (fun k : y = v => hv (k ▸ h1))]; exact q.hi y hy h1
  · unfold rx
    by_cases k : y = v
    · subst k
      rw [if_pos rfl]
      have := q.le hy
      split
      · exact q.ot y hy h1
      · refine Or.inr ⟨by omega, ?_⟩
        by_cases g : fig t u = 1
        · rw [q.hi u lu g, Nat.zero_add]
          exact ⟨u, m, lu, g, Wk.one e⟩
        · have g0 : fig t u = 0 := by have := fig_lt t u; omega
          rcases q.ot u lu g with g1 | ⟨g1, a, m1, g2, g3, g4⟩
          · omega
          · exact ⟨a, m1 ||| m, g2, g3, g4.snoc g0 e⟩
    · rw [if_neg k]; exact q.ot y hy h1
theorem NS.rel (hw : WF A) (q : NS A h t near) (e : Stg A h u v c m) (hu : fig t u ≠ 2) (hv : fig t v ≠ 1) : NS A h t (rx near v u c) := by
  have lu := Stg.lw hw _ _ _ _ e
  have lv := Stg.rw hw _ _ _ _ e
  refine ⟨fun y hy h1 => ?_, fun y hy h1 => ?_⟩
  · unfold rx
    rw [if_neg (fun k : y = u => hu (k ▸ h1))]; exact q.lo y hy h1
  · unfold rx
    by_cases k : y = u
    · subst k
      rw [if_pos rfl]
      have := q.le hy
      split
      · exact q.ot y hy h1
      · refine Or.inr ⟨by omega, ?_⟩
        by_cases g : fig t v = 2
        · rw [q.lo v lv g, Nat.zero_add]
          exact ⟨v, m, lv, g, Wk.one e⟩
        · have g0 : fig t v = 0 := by have := fig_lt t v; omega
          rcases q.ot v lv g with g1 | ⟨g1, b, m1, g2, g3, g4⟩
          · omega
          · refine ⟨b, m ||| m1, g2, g3, ?_⟩
            rw [Nat.add_comm]
            exact (Wk.one e).app g0 g4
    · rw [if_neg k]; exact q.ot y hy h1
/-- one round more -/
theorem FK.succ {far0 : Nat → Nat} {k : Nat} (hw : WF A) (q0 : FS A h t far0) (q : FK A h t k far0) (r : ∀ u v c m, Stg A h u v c m → fig t u ≠ 2 → fig t v ≠ 1 → far v ≤ far0 u + c) : FK A h t (k + 1) far := by
  intro n a v c m hn ha h1 hv hk
  cases n with
  | zero =>
    have := r a v c m hk (by omega) hv
    rw [q0.hi a ha h1] at this
    omega
  | succ n =>
    obtain ⟨x, c1, m1, d, k', b1, b2, b3, rfl, rfl⟩ := hk
    have b2' : fig t x = 0 := b2
    have := q n a x c1 m1 (by omega) ha h1 (by omega) b1
    have := r x v d k' b3 (by omega) hv
    omega
theorem NK.succ {near0 : Nat → Nat} {k : Nat} (hw : WF A) (q0 : NS A h t near0) (q : NK A h t k near0) (r : ∀ u v c m, Stg A h u v c m → fig t u ≠ 2 → fig t v ≠ 1 → near u ≤ near0 v + c) : NK A h t (k + 1) near := by
  intro n u b c m hn ha h1 hv hk
  cases n with
  | zero =>
    have := r u b c m hk hv (by omega)
    rw [q0.lo b ha h1] at this
    omega
  | succ n =>
    obtain ⟨x, d, k', c1, m1, b3, b2, b1, rfl, rfl⟩ := WkN.front n hk
    have b2' : fig t x = 0 := b2
    have := q n x b c1 m1 (by omega) ha h1 (by omega) b1
    have := r u x d k' b3 hv (by omega)
    omega
theorem FK.all (hw : WF A) {k : Nat} (q : FK A h t k far) (hk : A.w + 1 ≤ k) {a : Nat} (ha : a < A.w) (h1 : fig t a = 1) (hv : fig t v ≠ 1) (hp : Wk (Stg A h) (Fre t) a v c m) : far v ≤ c := by
  obtain ⟨n', c', m', e1, e2, e3, e4⟩ := hp.few hw
  exact Nat.le_trans (q n' a v c' m' (by omega) ha h1 hv e4) e2
theorem NK.all (hw : WF A) {k : Nat} (q : NK A h t k near) (hk : A.w + 1 ≤ k) {b : Nat} (hb : b < A.w) (h1 : fig t b = 2) (hu : fig t u ≠ 2) (hp : Wk (Stg A h) (Fre t) u b c m) : near u ≤ c := by
  obtain ⟨n', c', m', e1, e2, e3, e4⟩ := hp.few hw
  exact Nat.le_trans (q n' u b c' m' (by omega) hb h1 hu e4) e2
theorem far_Lst (hw : WF A) (q : FS A h t far) {k : Nat} (qk : FK A h t k far) (hk : A.w + 1 ≤ k) {L : Nat} (h1 : ∀ v, v < A.w → fig t v = 2 → L ≤ far v) (h2 : L ≤ 10000) (h3 : L = 10000 ∨ ∃ v, v < A.w ∧ fig t v = 2 ∧ far v = L) : L = Lst A h t := by
  rcases Lst_cases hw h t with ⟨e1, e2⟩ | ⟨e1, ⟨m, a, b, b1, b2, b3, b4, b5⟩, e3⟩
  · rw [e1]
    rcases h3 with h3 | ⟨v, g1, g2, g3⟩
    · exact h3
    · rcases q.ot v g1 (by omega) with g | ⟨g, a, m, g4, g5, g6⟩
      · omega
      · exact absurd ⟨a, v, g4, g1, g5, g2, g6⟩ (e2 (far v) m)
  · have f1 := qk.all hw hk b1 b3 (by omega) b5
    have f2 := h1 b b2 b4
    rcases h3 with h3 | ⟨v, g1, g2, g3⟩
    · omega
    · rcases q.ot v g1 (by omega) with g | ⟨g, a, m, g4, g5, g6⟩
      · omega
      · have := e3 (far v) m ⟨a, v, g4, g1, g5, g2, g6⟩
        omega
theorem Wk.has {E : Nat → Nat → Nat → Nat → Prop} {F : Nat → Prop} {a b l : Nat} (hp : Wk E F a b c m) : m.testBit l = true → ∃ u v e k c1 c2, E u v e k ∧ k.testBit l = true ∧ ((u = a ∧ c1 = 0) ∨ (F u ∧ ∃ m, Wk E F a u c1 m)) ∧ ((v = b ∧ c2 = 0) ∨ (F v ∧ ∃ m, Wk E F v b c2 m)) ∧ c = c1 + e + c2 := by
  refine Wk.ind (P := fun b c m => m.testBit l = true → ∃ u v e k c1 c2, E u v e k ∧ k.testBit l = true ∧ ((u = a ∧ c1 = 0) ∨ (F u ∧ ∃ m, Wk E F a u c1 m)) ∧ ((v = b ∧ c2 = 0) ∨ (F v ∧ ∃ m, Wk E F v b c2 m)) ∧ c = c1 + e + c2) ?_ ?_ hp
  · intro v c m e hm
    exact ⟨a, v, c, m, 0, 0, e, hm, Or.inl ⟨rfl, rfl⟩, Or.inl ⟨rfl, rfl⟩, by omega⟩
  · intro x b c m d k hx ih hF he hm
    rw [Nat.testBit_or, Bool.or_eq_true] at hm
    rcases hm with hm | hm
    · obtain ⟨u, v, e, k', c1, c2, g1, g2, g3, g4, rfl⟩ := ih hm
      rcases g4 with ⟨rfl, rfl⟩ | ⟨g4, m', g5⟩
      · exact ⟨u, v, e, k', c1, d, g1, g2, g3, Or.inr ⟨hF, k, Wk.one he⟩, by omega⟩
      · exact ⟨u, v, e, k', c1, c2 + d, g1, g2, g3, Or.inr ⟨g4, _, g5.snoc hF he⟩, by omega⟩
    · exact ⟨x, b, d, k, c, 0, he, hm, Or.inr ⟨hF, m, hx⟩, Or.inl ⟨rfl, rfl⟩, by omega⟩
theorem far_comb (hw : WF A) (q : FS A h t far) (p : NS A h t near) {l : Nat} (hl : l < A.n) (h0 : h l = 0) (hu : fig t (A.lf l) ≠ 2) (hv : fig t (A.lt l) ≠ 1) (f1 : far (A.lf l) < 10000) (f2 : near (A.lt l) < 10000) : ∃ m, Way A h t (far (A.lf l) + A.lv l + near (A.lt l)) m ∧ m.testBit l = true := by
  have lu := hw.lf l hl
  have lv := hw.lt l hl
  have e : Stg A h (A.lf l) (A.lt l) (A.lv l) (2 ^ l) := Or.inl ⟨l, hl, h0, rfl, rfl, rfl, rfl⟩
  have pre : ∃ a m, a < A.w ∧ fig t a = 1 ∧ Wk (Stg A h) (Fre t) a (A.lt l) (far (A.lf l) + A.lv l) m ∧ m.testBit l = true := by
    by_cases g : fig t (A.lf l) = 1
    · rw [q.hi _ lu g, Nat.zero_add]
      exact ⟨_, _, lu, g, Wk.one e, by rw [Nat.testBit_two_pow]; simp⟩
    · rcases q.ot _ lu g with k | ⟨_, a, m, k1, k2, k3⟩
      · omega
      · exact ⟨a, m ||| 2 ^ l, k1, k2, k3.snoc (by have := fig_lt t (A.lf l); show fig t _ = 0; omega) e, by rw [Nat.testBit_or, Nat.testBit_two_pow]; simp⟩
  obtain ⟨a, m, a1, a2, a3, a4⟩ := pre
  by_cases g : fig t (A.lt l) = 2
  · rw [p.lo _ lv g]
    exact ⟨m, ⟨a, _, a1, lv, a2, g, a3⟩, a4⟩
  · rcases p.ot _ lv g with k | ⟨_, b, m', k1, k2, k3⟩
    · omega
    · exact ⟨m ||| m', ⟨a, b, a1, k1, a2, k2, a3.app (by have := fig_lt t (A.lt l); show fig t _ = 0; omega) k3⟩, by rw [Nat.testBit_or, a4]; rfl⟩
theorem far_lamp (hw : WF A) (q : FS A h t far) (p : NS A h t near) {k : Nat} (qk : FK A h t k far) (pk : NK A h t k near) (hk : A.w + 1 ≤ k) (hL : Lst A h t < 10000) {l : Nat} (hl : l < A.n) : (∃ m, Way A h t (Lst A h t) m ∧ m.testBit l = true) ↔ (h l = 0 ∧ fig t (A.lf l) ≠ 2 ∧ fig t (A.lt l) ≠ 1 ∧ far (A.lf l) + A.lv l + near (A.lt l) = Lst A h t) := by
  constructor
  · rintro ⟨m, ⟨a, b, b1, b2, b3, b4, b5⟩, hm⟩
    obtain ⟨u, v, e, k', c1, c2, g1, g2, g3, g4, g5⟩ := b5.has hm
    rcases g1 with ⟨l', i1, i2, rfl, rfl, rfl, rfl⟩ | ⟨l', i1, i2, i3, rfl, rfl⟩
    · have : l' = l := by rw [Nat.testBit_two_pow] at g2; simpa using g2
      subst this
      have hu : fig t (A.lf l') ≠ 2 := by
        rcases g3 with ⟨g3, _⟩ | ⟨g3, _⟩
        · rw [g3]; omega
        · have : fig t (A.lf l') = 0 := g3
          omega
      have hv : fig t (A.lt l') ≠ 1 := by
        rcases g4 with ⟨g4, _⟩ | ⟨g4, _⟩
        · rw [g4]; omega
        · have : fig t (A.lt l') = 0 := g4
          omega
      have f1 : far (A.lf l') ≤ c1 := by
        rcases g3 with ⟨g3, _⟩ | ⟨g3, m', g6⟩
        · rw [g3, q.hi a b1 b3]; omega
        · have : fig t (A.lf l') = 0 := g3
          exact qk.all hw hk b1 b3 (by omega) g6
      have f2 : near (A.lt l') ≤ c2 := by
        rcases g4 with ⟨g4, _⟩ | ⟨g4, m', g6⟩
        · rw [g4, p.lo b b2 b4]; omega
        · have : fig t (A.lt l') = 0 := g4
          exact pk.all hw hk b2 b4 (by omega) g6
      obtain ⟨m', w1, _⟩ := far_comb hw q p hl i2 hu hv (by omega) (by omega)
      have hmin : Lst A h t ≤ far (A.lf l') + A.lv l' + near (A.lt l') := by
        rcases Lst_cases hw h t with ⟨e1, e2⟩ | ⟨e1, _, e3⟩
        · omega
        · exact e3 _ _ w1
      exact ⟨i2, hu, hv, by omega⟩
    · rw [Nat.zero_testBit] at g2; cases g2
  · rintro ⟨h0, hu, hv, he⟩
    rw [← he]
    exact far_comb hw q p hl h0 hu hv (by omega) (by omega)
end
