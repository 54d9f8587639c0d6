/-! the state that the calls speak of, told once for class and reference -/
abbrev St : Type := (Nat → Nat) × (Nat → Nat → Nat) × (Nat → Nat → Int32)
def St.w (A : St) : Nat := A.1 0
def St.sup (A : St) : Nat := A.1 1
def St.n (A : St) : Nat := A.1 2
def St.lines (A : St) : Nat := A.1 3
def St.taped (A : St) : Nat := A.1 4
def St.fault (A : St) : Nat := A.1 5
def St.lf (A : St) : Nat → Nat := A.2.1 0
def St.lt (A : St) : Nat → Nat := A.2.1 1
def St.lv (A : St) : Nat → Nat := A.2.1 2
def St.st (A : St) : Nat → Nat := A.2.1 3
def St.lev (A : St) : Nat → Nat := A.2.1 4
def St.pt (A : St) : Nat → Nat := A.2.1 5
def St.pk (A : St) : Nat → Nat := A.2.1 6
def St.tape (A : St) : Nat → Nat := A.2.1 7
def St.has (A : St) : Nat → Nat := A.2.1 8
def St.lane (A : St) : Nat → Nat := A.2.1 9
def St.size (A : St) : Nat → Nat := A.2.1 10
def St.sn (A : St) : Nat → Int32 := A.2.2 0
def St.cel (A : St) (k : Nat) : Nat → Int32 := A.2.2 (k + 1)
def St.setN (A : St) (i v : Nat) : St := (fun j => if j = i then v else A.1 j, A.2)
def St.setA (A : St) (i : Nat) (f : Nat → Nat) : St := (A.1, fun j => if j = i then f else A.2.1 j, A.2.2)
def St.setI (A : St) (i : Nat) (f : Nat → Int32) : St := (A.1, A.2.1, fun j => if j = i then f else A.2.2 j)
noncomputable def cD (p : Prop) : Bool := @decide p (Classical.propDecidable p)
theorem cD_t {p : Prop} : cD p = true ↔ p := by unfold cD; exact @decide_eq_true_iff p (Classical.propDecidable p)
theorem cD_f {p : Prop} : cD p = false ↔ ¬ p := by unfold cD; exact @decide_eq_false_iff_not p (Classical.propDecidable p)
abbrev WF (A : St) : Prop :=
  (2 ≤ A.w) ∧
  (A.w ≤ 6) ∧
  (1 ≤ A.sup) ∧
  (A.sup ≤ 30) ∧
  (A.n ≤ 16) ∧
  (∀ l, l < A.n → A.lf l < A.w) ∧
  (∀ l, l < A.n → A.lt l < A.w) ∧
  (∀ l, l < A.n → A.lf l ≠ A.lt l) ∧
  (∀ l, l < A.n → 1 ≤ A.lv l) ∧
  (∀ l, l < A.n → A.lv l ≤ 9) ∧
  (∀ l, l < A.n → A.st l ≤ 2) ∧
  (∀ l, l < A.n → A.lev l ≤ 15) ∧
  (∀ l k, l < A.n → k < A.n → A.lf l = A.lf k → A.lt l = A.lt k → l = k) ∧
  (A.lines ≤ 12) ∧
  (∀ k, k < A.lines → A.pt k < 3 ^ A.w) ∧
  (∀ k, k < A.lines → 1 ≤ A.pk k) ∧
  (∀ k, k < A.lines → A.pk k ≤ 60) ∧
  (∀ k, k < A.lines → A.sn k = -4 ∨ ∃ p, p < 2 ^ A.n ∧ A.sn k = nI p) ∧
  (A.taped ≤ 200) ∧
  (∀ i, i < A.taped → A.tape i < 256) ∧
  (A.fault ≤ 5) ∧
  (∀ k, k < 4 → A.lane k ≤ 2) ∧
  (∀ k, k < 4 → A.size k ≤ 40)
theorem WF.w2 {A : St} (h_ : WF A) : 2 ≤ A.w := h_.1
theorem WF.w6 {A : St} (h_ : WF A) : A.w ≤ 6 := h_.2.1
theorem WF.s1 {A : St} (h_ : WF A) : 1 ≤ A.sup := h_.2.2.1
theorem WF.s30 {A : St} (h_ : WF A) : A.sup ≤ 30 := h_.2.2.2.1
theorem WF.n16 {A : St} (h_ : WF A) : A.n ≤ 16 := h_.2.2.2.2.1
theorem WF.lf {A : St} (h_ : WF A) : ∀ l, l < A.n → A.lf l < A.w := h_.2.2.2.2.2.1
theorem WF.lt {A : St} (h_ : WF A) : ∀ l, l < A.n → A.lt l < A.w := h_.2.2.2.2.2.2.1
theorem WF.ne {A : St} (h_ : WF A) : ∀ l, l < A.n → A.lf l ≠ A.lt l := h_.2.2.2.2.2.2.2.1
theorem WF.lv1 {A : St} (h_ : WF A) : ∀ l, l < A.n → 1 ≤ A.lv l := h_.2.2.2.2.2.2.2.2.1
theorem WF.lv9 {A : St} (h_ : WF A) : ∀ l, l < A.n → A.lv l ≤ 9 := h_.2.2.2.2.2.2.2.2.2.1
theorem WF.st2 {A : St} (h_ : WF A) : ∀ l, l < A.n → A.st l ≤ 2 := h_.2.2.2.2.2.2.2.2.2.2.1
theorem WF.lev {A : St} (h_ : WF A) : ∀ l, l < A.n → A.lev l ≤ 15 := h_.2.2.2.2.2.2.2.2.2.2.2.1
theorem WF.one {A : St} (h_ : WF A) : ∀ l k, l < A.n → k < A.n → A.lf l = A.lf k → A.lt l = A.lt k → l = k := h_.2.2.2.2.2.2.2.2.2.2.2.2.1
theorem WF.l12 {A : St} (h_ : WF A) : A.lines ≤ 12 := h_.2.2.2.2.2.2.2.2.2.2.2.2.2.1
theorem WF.pt {A : St} (h_ : WF A) : ∀ k, k < A.lines → A.pt k < 3 ^ A.w := h_.2.2.2.2.2.2.2.2.2.2.2.2.2.2.1
theorem WF.pk1 {A : St} (h_ : WF A) : ∀ k, k < A.lines → 1 ≤ A.pk k := h_.2.2.2.2.2.2.2.2.2.2.2.2.2.2.2.1
theorem WF.pk60 {A : St} (h_ : WF A) : ∀ k, k < A.lines → A.pk k ≤ 60 := h_.2.2.2.2.2.2.2.2.2.2.2.2.2.2.2.2.1
theorem WF.sn {A : St} (h_ : WF A) : ∀ k, k < A.lines → A.sn k = -4 ∨ ∃ p, p < 2 ^ A.n ∧ A.sn k = nI p := h_.2.2.2.2.2.2.2.2.2.2.2.2.2.2.2.2.2.1
theorem WF.t200 {A : St} (h_ : WF A) : A.taped ≤ 200 := h_.2.2.2.2.2.2.2.2.2.2.2.2.2.2.2.2.2.2.1
theorem WF.tb {A : St} (h_ : WF A) : ∀ i, i < A.taped → A.tape i < 256 := h_.2.2.2.2.2.2.2.2.2.2.2.2.2.2.2.2.2.2.2.1
theorem WF.f5 {A : St} (h_ : WF A) : A.fault ≤ 5 := h_.2.2.2.2.2.2.2.2.2.2.2.2.2.2.2.2.2.2.2.2.1
theorem WF.lane {A : St} (h_ : WF A) : ∀ k, k < 4 → A.lane k ≤ 2 := h_.2.2.2.2.2.2.2.2.2.2.2.2.2.2.2.2.2.2.2.2.2.1
theorem WF.size {A : St} (h_ : WF A) : ∀ k, k < 4 → A.size k ≤ 40 := h_.2.2.2.2.2.2.2.2.2.2.2.2.2.2.2.2.2.2.2.2.2.2
/-! ways -/
/-- a single step from wire u to wire v: its volts c, its lamp as a bit (none: 0) -/
def Stg (A : St) (h : Nat → Nat) (u v c m : Nat) : Prop :=
  (∃ l, l < A.n ∧ h l = 0 ∧ A.lf l = u ∧ A.lt l = v ∧ c = A.lv l ∧ m = 2 ^ l) ∨ (∃ l, l < A.n ∧ h l = 2 ∧ ((A.lf l = u ∧ A.lt l = v) ∨ (A.lf l = v ∧ A.lt l = u)) ∧ c = 0 ∧ m = 0)
/-- a way from a to b whose inner wires are in F -/
def WkN (E : Nat → Nat → Nat → Nat → Prop) (F : Nat → Prop) : Nat → Nat → Nat → Nat → Nat → Prop
  | 0, u, v, c, m => E u v c m
  | n + 1, u, v, c, m => ∃ x c1 m1 d k, WkN E F n u x c1 m1 ∧ F x ∧ E x v d k ∧ c = c1 + d ∧ m = m1 ||| k
def Wk (E : Nat → Nat → Nat → Nat → Prop) (F : Nat → Prop) (u v c m : Nat) : Prop := ∃ n, WkN E F n u v c m
theorem Wk.one {E : Nat → Nat → Nat → Nat → Prop} {F : Nat → Prop} {u v c m : Nat} (h : E u v c m) : Wk E F u v c m := ⟨0, h⟩
theorem Wk.snoc {E : Nat → Nat → Nat → Nat → Prop} {F : Nat → Prop} {u x v c m d k : Nat} (h : Wk E F u x c m) (hF : F x) (hE : E x v d k) : Wk E F u v (c + d) (m ||| k) := by
  obtain ⟨n, hn⟩ := h
  exact ⟨n + 1, x, c, m, d, k, hn, hF, hE, rfl, rfl⟩
theorem Wk.ind {E : Nat → Nat → Nat → Nat → Prop} {F : Nat → Prop} {u : Nat} (P : Nat → Nat → Nat → Prop) (h1 : ∀ v c m, E u v c m → P v c m) (h2 : ∀ x v c m d k, Wk E F u x c m → P x c m → F x → E x v d k → P v (c + d) (m ||| k)) : ∀ {v c m : Nat}, Wk E F u v c m → P v c m := by
  intro v c m ⟨n, hn⟩
  induction n generalizing v c m with
  | zero => exact h1 v c m hn
  | succ n ih =>
    obtain ⟨x, c1, m1, d, k, a1, a2, a3, rfl, rfl⟩ := hn
    exact h2 x v c1 m1 d k ⟨n, a1⟩ (ih a1) a2 a3
def fig (t x : Nat) : Nat := t / 3 ^ x % 3
/-- a way of turn t from a high wire to a low one -/
def Way (A : St) (h : Nat → Nat) (t c m : Nat) : Prop := ∃ a b, a < A.w ∧ b < A.w ∧ fig t a = 1 ∧ fig t b = 2 ∧ Wk (Stg A h) (fun x => fig t x = 0) a b c m
theorem least_of {p : Nat → Prop} (h : ∃ n, p n) : ∃ n, p n ∧ ∀ k, p k → n ≤ k := by
  obtain ⟨n, hn⟩ := h
  induction n using Nat.strongRecOn with
  | ind n ih =>
    by_cases q : ∃ k, k < n ∧ p k
    · obtain ⟨k, hk, hp⟩ := q
      exact ih k hk hp
    · exact ⟨n, hn, fun k hk => Nat.le_of_not_lt (fun hlt => q ⟨k, hlt, hk⟩)⟩
/-- the least number with p, or z where there is none -/
noncomputable def lst (p : Nat → Prop) (z : Nat) : Nat := @dite _ (∃ n, p n) (Classical.propDecidable _) (fun h => Classical.choose (least_of h)) (fun _ => z)
theorem lst_spec {p : Nat → Prop} {z : Nat} (h : ∃ n, p n) : p (lst p z) ∧ ∀ k, p k → lst p z ≤ k := by
  unfold lst
  rw [dif_pos h]
  exact Classical.choose_spec (least_of h)
theorem lst_none {p : Nat → Prop} {z : Nat} (h : ¬ ∃ n, p n) : lst p z = z := by
  unfold lst
  rw [dif_neg h]
theorem lst_eq {p : Nat → Prop} {z n : Nat} (h : p n) (h2 : ∀ k, p k → n ≤ k) : lst p z = n := by
  have q := lst_spec (z := z) ⟨n, h⟩
  exact Nat.le_antisymm (q.2 n h) (h2 _ q.1)
/-- the set of the numbers below n with p, as bits -/
noncomputable def msk (p : Nat → Prop) : Nat → Nat
  | 0 => 0
  | n + 1 => msk p n ||| (@ite _ (p n) (Classical.propDecidable _) (2 ^ n) 0)
theorem msk_bit (p : Nat → Prop) : ∀ n i, (msk p n).testBit i = true ↔ i < n ∧ p i := by
  intro n
  induction n with
  | zero => intro i; simp [msk]
  | succ n ih =>
    intro i
    unfold msk
    rw [Nat.testBit_or, Bool.or_eq_true, ih]
    by_cases h : p n
    · rw [if_pos h, Nat.testBit_two_pow]
      constructor
      · rintro (⟨h1, h2⟩ | h1)
        · exact ⟨by omega, h2⟩
        · have : n = i := by simpa using h1
          subst this; exact ⟨by omega, h⟩
      · rintro ⟨h1, h2⟩
        by_cases e : n = i
        · right; simp [e]
        · left; exact ⟨by omega, h2⟩
    · rw [if_neg h, Nat.zero_testBit]
      constructor
      · rintro (⟨h1, h2⟩ | h1)
        · exact ⟨by omega, h2⟩
        · cases h1
      · rintro ⟨h1, h2⟩
        left
        refine ⟨?_, h2⟩
        by_cases e : n = i
        · subst e; exact absurd h2 h
        · omega
theorem msk_lt (p : Nat → Prop) (n : Nat) : msk p n < 2 ^ n := by
  refine Nat.lt_pow_two_of_testBit _ (fun i hi => ?_)
  cases h : (msk p n).testBit i with
  | false => rfl
  | true => exact absurd ((msk_bit p n i).mp h).1 (by omega)
theorem msk_eq {p : Nat → Prop} {n x : Nat} (h : ∀ i, x.testBit i = true ↔ i < n ∧ p i) : x = msk p n := by
  refine Nat.eq_of_testBit_eq (fun i => ?_)
  have a := h i
  rw [← msk_bit p n i] at a
  cases hx : x.testBit i <;> cases hy : (msk p n).testBit i <;> simp_all
noncomputable def Lst (A : St) (h : Nat → Nat) (t : Nat) : Nat := lst (fun c => ∃ m, Way A h t c m) 10000
noncomputable def GM (A : St) (h : Nat → Nat) (t : Nat) : Nat := if 1 ≤ Lst A h t ∧ Lst A h t ≤ A.sup then msk (fun l => ∃ m, Way A h t (Lst A h t) m ∧ m.testBit l = true) A.n else 0
theorem GM_lt (A : St) (h : Nat → Nat) (t : Nat) : GM A h t < 2 ^ A.n := by
  unfold GM
  split
  · exact msk_lt _ _
  · exact Nat.two_pow_pos _
/-! sets that glow, their unions -/
noncomputable def Gt (A : St) (t : Nat) : Nat := GM A A.st t
def IsSet (A : St) (s : Nat) : Prop := ∃ t, t < 3 ^ A.w ∧ Gt A t = s
def Uni (A : St) : Nat → Nat → Prop
  | 0, p => p = 0
  | k + 1, p => ∃ q s, Uni A k q ∧ IsSet A s ∧ p = q ||| s
noncomputable def Few (A : St) (p : Nat) : Nat := lst (fun k => Uni A k p) 100
/-- so many sets within p cover p together with s -/
def Cov (A : St) (p : Nat) : Nat → Nat → Prop
  | 0, s => s = p
  | k + 1, s => ∃ g, IsSet A g ∧ g ||| p = p ∧ Cov A p k (s ||| g)
noncomputable def Need (A : St) (p s : Nat) : Nat := lst (fun k => Cov A p k s) 100
/-- the lowest bit of p that s lacks -/
def IsLack (p s b : Nat) : Prop := p.testBit b = true ∧ s.testBit b = false ∧ ∀ i, i < b → p.testBit i = true → s.testBit i = true
noncomputable def shownBy (A : St) (ts : Nat → Nat) : Nat → Nat
  | 0 => 0
  | i + 1 => shownBy A ts i ||| Gt A (ts i)
/-- turn t is good as the next one, where s is shown and so many are left behind it -/
def Good (A : St) (p s left t : Nat) : Prop := (∃ b, IsLack p s b ∧ (Gt A t).testBit b = true) ∧ Gt A t ||| p = p ∧ Need A p (s ||| Gt A t) = left
/-- the turns of picture p's frame -/
def IsFrame (A : St) (p : Nat) (ts : Nat → Nat) : Prop := ∀ i, i < Few A p → ts i < 3 ^ A.w ∧ Good A p (shownBy A ts i) (Few A p - i - 1) (ts i) ∧ ∀ t, t < ts i → ¬ Good A p (shownBy A ts i) (Few A p - i - 1) t
noncomputable def cntFew (A : St) (m : Nat) : Nat := fb_ct (fun p => decide (Few A p ≤ m)) (2 ^ A.n)
/-! guesses -/
def gst (f g : Int32) (l : Nat) : Nat := if g ≠ -4 ∧ g.toNatClampNeg / 2 = l then 1 + g.toNatClampNeg % 2 else if f ≠ -4 ∧ f.toNatClampNeg / 2 = l then 1 + f.toNatClampNeg % 2 else 0
def Expl (A : St) (f g : Int32) : Prop := ∀ k, k < A.lines → A.sn k ≠ -4 → A.sn k = nI (GM A (gst f g) (A.pt k))
noncomputable def gl0 (A : St) : List (Int32 × Int32) := [((-4 : Int32), (-4 : Int32))].filter (fun q => cD (Expl A q.1 q.2))
noncomputable def gl1 (A : St) : List (Int32 × Int32) := ((List.range (2 * A.n)).map (fun f => (nI f, (-4 : Int32)))).filter (fun q => cD (Expl A q.1 q.2))
noncomputable def gl2 (A : St) : List (Int32 × Int32) := ((List.range (2 * A.n)).flatMap (fun f => ((List.range' (f + 1) (2 * A.n - (f + 1))).filter (fun g => decide (f / 2 ≠ g / 2))).map (fun g => (nI f, nI g)))).filter (fun q => cD (Expl A q.1 q.2))
noncomputable def glL (A : St) : List (Int32 × Int32) := if (gl0 A).isEmpty then (if (gl1 A).isEmpty then gl2 A else gl1 A) else gl0 A
noncomputable def glF (A : St) : Int32 := if (gl0 A).isEmpty then (if (gl1 A).isEmpty then (if (gl2 A).isEmpty then -4 else 2) else 1) else 0
def Tells (A : St) (f : Nat) : Prop := ∃ k, k < A.lines ∧ GM A (gst (nI f) (-4)) (A.pt k) ≠ GM A (gst (-4) (-4)) (A.pt k)
noncomputable def telN (A : St) : Nat := fb_ct (fun f => cD (Tells A f)) (2 * A.n)
noncomputable def telF (A : St) : Int32 := if cD (∃ f, f < 2 * A.n ∧ ¬ Tells A f) then nI (lst (fun f => f < 2 * A.n ∧ ¬ Tells A f) 0) else -4
/-! what the class holds -/
abbrev Bd (A : St) (b f t v s e : Nat → Int32) : Prop :=
  (b 0 = nI A.w) ∧
  (b 1 = nI A.sup) ∧
  (b 2 = nI A.n) ∧
  (∀ l, l < A.n → f l = nI (A.lf l)) ∧
  (∀ l, l < A.n → t l = nI (A.lt l)) ∧
  (∀ l, l < A.n → v l = nI (A.lv l)) ∧
  (∀ l, l < A.n → s l = nI (A.st l)) ∧
  (∀ l, l < A.n → e l = nI (A.lev l))
theorem Bd.w {A : St} {b f t v s e : Nat → Int32} (h_ : Bd A b f t v s e) : b 0 = nI A.w := h_.1
theorem Bd.s {A : St} {b f t v s e : Nat → Int32} (h_ : Bd A b f t v s e) : b 1 = nI A.sup := h_.2.1
theorem Bd.n {A : St} {b f t v s e : Nat → Int32} (h_ : Bd A b f t v s e) : b 2 = nI A.n := h_.2.2.1
theorem Bd.f {A : St} {b f t v s e : Nat → Int32} (h_ : Bd A b f t v s e) : ∀ l, l < A.n → f l = nI (A.lf l) := h_.2.2.2.1
theorem Bd.t {A : St} {b f t v s e : Nat → Int32} (h_ : Bd A b f t v s e) : ∀ l, l < A.n → t l = nI (A.lt l) := h_.2.2.2.2.1
theorem Bd.v {A : St} {b f t v s e : Nat → Int32} (h_ : Bd A b f t v s e) : ∀ l, l < A.n → v l = nI (A.lv l) := h_.2.2.2.2.2.1
theorem Bd.st {A : St} {b f t v s e : Nat → Int32} (h_ : Bd A b f t v s e) : ∀ l, l < A.n → s l = nI (A.st l) := h_.2.2.2.2.2.2.1
theorem Bd.e {A : St} {b f t v s e : Nat → Int32} (h_ : Bd A b f t v s e) : ∀ l, l < A.n → e l = nI (A.lev l) := h_.2.2.2.2.2.2.2
noncomputable def LsI (A : St) (h : Nat → Nat) (t : Nat) : Int32 := if Lst A h t = 10000 then -4 else nI (Lst A h t)
abbrev TbFull (A : St) (b g l kd kt : Nat → Int32) (K : Nat) (ks ts : Nat → Nat) : Prop :=
  (∀ t, t < 3 ^ A.w → g t = nI (Gt A t)) ∧
  (∀ t, t < 3 ^ A.w → l t = LsI A A.st t) ∧
  (b 10 = nI (3 ^ A.w)) ∧
  (b 3 = nI (fb_ct (fun t => decide (Lst A A.st t = 0)) (3 ^ A.w))) ∧
  (b 4 = nI (fb_ct (fun t => decide (Gt A t ≠ 0)) (3 ^ A.w))) ∧
  (b 7 = nI K) ∧
  (K < 729) ∧
  (∀ i, i < K → kd i = nI (ks i)) ∧
  (∀ i, i < K → kt i = nI (ts i)) ∧
  (∀ i, i < K → ks i = Gt A (ts i) ∧ ks i ≠ 0 ∧ ts i < 3 ^ A.w) ∧
  (∀ i j, i < j → j < K → ts i < ts j) ∧
  (∀ i j, i < j → j < K → ks i ≠ ks j) ∧
  (∀ t, t < 3 ^ A.w → Gt A t ≠ 0 → ∃ i, i < K ∧ ks i = Gt A t ∧ ts i ≤ t)
theorem TbFull.g {A : St} {b g l kd kt : Nat → Int32} {K : Nat} {ks ts : Nat → Nat} (h_ : TbFull A b g l kd kt K ks ts) : ∀ t, t < 3 ^ A.w → g t = nI (Gt A t) := h_.1
theorem TbFull.l {A : St} {b g l kd kt : Nat → Int32} {K : Nat} {ks ts : Nat → Nat} (h_ : TbFull A b g l kd kt K ks ts) : ∀ t, t < 3 ^ A.w → l t = LsI A A.st t := h_.2.1
theorem TbFull.tc {A : St} {b g l kd kt : Nat → Int32} {K : Nat} {ks ts : Nat → Nat} (h_ : TbFull A b g l kd kt K ks ts) : b 10 = nI (3 ^ A.w) := h_.2.2.1
theorem TbFull.sh {A : St} {b g l kd kt : Nat → Int32} {K : Nat} {ks ts : Nat → Nat} (h_ : TbFull A b g l kd kt K ks ts) : b 3 = nI (fb_ct (fun t => decide (Lst A A.st t = 0)) (3 ^ A.w)) := h_.2.2.2.1
theorem TbFull.br {A : St} {b g l kd kt : Nat → Int32} {K : Nat} {ks ts : Nat → Nat} (h_ : TbFull A b g l kd kt K ks ts) : b 4 = nI (fb_ct (fun t => decide (Gt A t ≠ 0)) (3 ^ A.w)) := h_.2.2.2.2.1
theorem TbFull.k {A : St} {b g l kd kt : Nat → Int32} {K : Nat} {ks ts : Nat → Nat} (h_ : TbFull A b g l kd kt K ks ts) : b 7 = nI K := h_.2.2.2.2.2.1
theorem TbFull.kN {A : St} {b g l kd kt : Nat → Int32} {K : Nat} {ks ts : Nat → Nat} (h_ : TbFull A b g l kd kt K ks ts) : K < 729 := h_.2.2.2.2.2.2.1
theorem TbFull.kd {A : St} {b g l kd kt : Nat → Int32} {K : Nat} {ks ts : Nat → Nat} (h_ : TbFull A b g l kd kt K ks ts) : ∀ i, i < K → kd i = nI (ks i) := h_.2.2.2.2.2.2.2.1
theorem TbFull.kt {A : St} {b g l kd kt : Nat → Int32} {K : Nat} {ks ts : Nat → Nat} (h_ : TbFull A b g l kd kt K ks ts) : ∀ i, i < K → kt i = nI (ts i) := h_.2.2.2.2.2.2.2.2.1
theorem TbFull.ks {A : St} {b g l kd kt : Nat → Int32} {K : Nat} {ks ts : Nat → Nat} (h_ : TbFull A b g l kd kt K ks ts) : ∀ i, i < K → ks i = Gt A (ts i) ∧ ks i ≠ 0 ∧ ts i < 3 ^ A.w := h_.2.2.2.2.2.2.2.2.2.1
theorem TbFull.up {A : St} {b g l kd kt : Nat → Int32} {K : Nat} {ks ts : Nat → Nat} (h_ : TbFull A b g l kd kt K ks ts) : ∀ i j, i < j → j < K → ts i < ts j := h_.2.2.2.2.2.2.2.2.2.2.1
theorem TbFull.ne {A : St} {b g l kd kt : Nat → Int32} {K : Nat} {ks ts : Nat → Nat} (h_ : TbFull A b g l kd kt K ks ts) : ∀ i j, i < j → j < K → ks i ≠ ks j := h_.2.2.2.2.2.2.2.2.2.2.2.1
theorem TbFull.all {A : St} {b g l kd kt : Nat → Int32} {K : Nat} {ks ts : Nat → Nat} (h_ : TbFull A b g l kd kt K ks ts) : ∀ t, t < 3 ^ A.w → Gt A t ≠ 0 → ∃ i, i < K ∧ ks i = Gt A t ∧ ts i ≤ t := h_.2.2.2.2.2.2.2.2.2.2.2.2
/-- the most lamps that glow together, and the first turn with so many -/
def MostOK (A : St) (cnt : Nat → Nat) (m mt : Int32) : Prop := ∃ M T, m = nI M ∧ mt = nI T ∧ (∀ t, t < 3 ^ A.w → cnt (Gt A t) ≤ M) ∧ ((M = 0 ∧ T = 0) ∨ (0 < M ∧ T < 3 ^ A.w ∧ cnt (Gt A T) = M ∧ ∀ t, t < T → cnt (Gt A t) < M))
def popN (x : Nat) : Nat := fb_ct (fun i => x.testBit i) 16
def TbOK (A : St) (b g l kd kt : Nat → Int32) : Prop := b 0 = 0 ∨ (b 0 = 1 ∧ MostOK A popN (b 5) (b 6) ∧ ∃ K ks ts, TbFull A b g l kd kt K ks ts)
def UnOK (A : St) (b m : Nat → Int32) : Prop := b 0 = 0 ∨ (b 0 = 1 ∧ ∀ k, k ≤ 16 → m k = nI (cntFew A k))
def FrKnown (A : St) (b t : Nat → Int32) : Prop := ∃ p, p < 2 ^ A.n ∧ b 1 = nI p ∧ ((Few A p = 100 ∧ b 2 = -4) ∨ (Few A p ≤ 16 ∧ b 2 = nI (Few A p) ∧ ∃ ts, IsFrame A p ts ∧ ∀ i, i < Few A p → t i = nI (ts i)))
def FrOK (A : St) (b t : Nat → Int32) : Prop := b 0 = 0 ∨ (b 0 = 1 ∧ FrKnown A b t)
abbrev ScC (A : St) (b t k s : Nat → Int32) : Prop :=
  (b 0 = nI A.lines) ∧
  (∀ i, i < A.lines → t i = nI (A.pt i)) ∧
  (∀ i, i < A.lines → k i = nI (A.pk i)) ∧
  (∀ i, i < A.lines → s i = A.sn i)
theorem ScC.n {A : St} {b t k s : Nat → Int32} (h_ : ScC A b t k s) : b 0 = nI A.lines := h_.1
theorem ScC.t {A : St} {b t k s : Nat → Int32} (h_ : ScC A b t k s) : ∀ i, i < A.lines → t i = nI (A.pt i) := h_.2.1
theorem ScC.k {A : St} {b t k s : Nat → Int32} (h_ : ScC A b t k s) : ∀ i, i < A.lines → k i = nI (A.pk i) := h_.2.2.1
theorem ScC.s {A : St} {b t k s : Nat → Int32} (h_ : ScC A b t k s) : ∀ i, i < A.lines → s i = A.sn i := h_.2.2.2
abbrev TpC (A : St) (b y : Nat → Int32) : Prop :=
  (b 0 = nI A.taped) ∧
  (b 1 = nI A.fault) ∧
  (∀ i, i < A.taped → y i = (nI (A.tape i)).toInt8.toInt32)
theorem TpC.n {A : St} {b y : Nat → Int32} (h_ : TpC A b y) : b 0 = nI A.taped := h_.1
theorem TpC.f {A : St} {b y : Nat → Int32} (h_ : TpC A b y) : b 1 = nI A.fault := h_.2.1
theorem TpC.y {A : St} {b y : Nat → Int32} (h_ : TpC A b y) : ∀ i, i < A.taped → y i = (nI (A.tape i)).toInt8.toInt32 := h_.2.2
def GsL (A : St) (b f s : Nat → Int32) : Prop := b 1 = glF A ∧ b 2 = nI (glL A).length ∧ (glL A).length ≤ 480 ∧ ∀ i, i < (glL A).length → f i = ((glL A).getD i (0, 0)).1 ∧ s i = ((glL A).getD i (0, 0)).2
def GsW (A : St) (b : Nat → Int32) : Prop := b 6 = nI (telN A) ∧ b 7 = telF A
abbrev GsOK (A : St) (b f s : Nat → Int32) : Prop :=
  (b 0 = 0 ∨ (b 0 = 1 ∧ GsL A b f s)) ∧
  (b 5 = 0 ∨ (b 5 = 1 ∧ GsW A b))
theorem GsOK.l {A : St} {b f s : Nat → Int32} (h_ : GsOK A b f s) : b 0 = 0 ∨ (b 0 = 1 ∧ GsL A b f s) := h_.1
theorem GsOK.w {A : St} {b f s : Nat → Int32} (h_ : GsOK A b f s) : b 5 = 0 ∨ (b 5 = 1 ∧ GsW A b) := h_.2
abbrev ShC (A : St) (k : Nat) (b c : Nat → Int32) : Prop :=
  (b 1 = if A.has k = 1 then nI (A.size k) else -4) ∧
  (A.has k = 1 → b 0 = nI (A.lane k)) ∧
  (A.has k = 1 → ∀ i, i < 40 → c i = A.cel k i)
theorem ShC.z {A : St} {k : Nat} {b c : Nat → Int32} (h_ : ShC A k b c) : b 1 = if A.has k = 1 then nI (A.size k) else -4 := h_.1
theorem ShC.l {A : St} {k : Nat} {b c : Nat → Int32} (h_ : ShC A k b c) : A.has k = 1 → b 0 = nI (A.lane k) := h_.2.1
theorem ShC.c {A : St} {k : Nat} {b c : Nat → Int32} (h_ : ShC A k b c) : A.has k = 1 → ∀ i, i < 40 → c i = A.cel k i := h_.2.2
abbrev RC (A : St) (hi : HI) : Prop :=
  (Bd A (hi 1) (hi 2) (hi 3) (hi 4) (hi 5) (hi 6)) ∧
  (TbOK A (hi 12) (hi 13) (hi 14) (hi 15) (hi 16)) ∧
  (∀ j, j < 64 → hi 17 j = figT j) ∧
  (∃ x, x < 8 ∧ hi 18 1 = nI x) ∧
  (∀ i, i < 8 → FrOK A (hi (20 + 2 * i)) (hi (21 + 2 * i))) ∧
  (UnOK A (hi 38) (hi 39)) ∧
  (TpC A (hi 43) (hi 46)) ∧
  (ScC A (hi 47) (hi 48) (hi 49) (hi 50)) ∧
  (GsOK A (hi 51) (hi 52) (hi 53)) ∧
  (∀ k, k < 4 → ShC A k (hi (57 + 2 * k)) (hi (58 + 2 * k)))
theorem RC.bd {A : St} {hi : HI} (h_ : RC A hi) : Bd A (hi 1) (hi 2) (hi 3) (hi 4) (hi 5) (hi 6) := h_.1
theorem RC.tb {A : St} {hi : HI} (h_ : RC A hi) : TbOK A (hi 12) (hi 13) (hi 14) (hi 15) (hi 16) := h_.2.1
theorem RC.fg {A : St} {hi : HI} (h_ : RC A hi) : ∀ j, j < 64 → hi 17 j = figT j := h_.2.2.1
theorem RC.nx {A : St} {hi : HI} (h_ : RC A hi) : ∃ x, x < 8 ∧ hi 18 1 = nI x := h_.2.2.2.1
theorem RC.fr {A : St} {hi : HI} (h_ : RC A hi) : ∀ i, i < 8 → FrOK A (hi (20 + 2 * i)) (hi (21 + 2 * i)) := h_.2.2.2.2.1
theorem RC.un {A : St} {hi : HI} (h_ : RC A hi) : UnOK A (hi 38) (hi 39) := h_.2.2.2.2.2.1
theorem RC.tp {A : St} {hi : HI} (h_ : RC A hi) : TpC A (hi 43) (hi 46) := h_.2.2.2.2.2.2.1
theorem RC.sc {A : St} {hi : HI} (h_ : RC A hi) : ScC A (hi 47) (hi 48) (hi 49) (hi 50) := h_.2.2.2.2.2.2.2.1
theorem RC.gs {A : St} {hi : HI} (h_ : RC A hi) : GsOK A (hi 51) (hi 52) (hi 53) := h_.2.2.2.2.2.2.2.2.1
theorem RC.sh {A : St} {hi : HI} (h_ : RC A hi) : ∀ k, k < 4 → ShC A k (hi (57 + 2 * k)) (hi (58 + 2 * k)) := h_.2.2.2.2.2.2.2.2.2
/-! what the reference holds -/
abbrev MFull (A : St) (b g i so fw : Nat → Int32) : Prop :=
  (∀ t, t < 3 ^ A.w → g t = nI (Gt A t)) ∧
  (∀ t, t < 3 ^ A.w → i t = if Lst A A.st t = 0 then 1 else 0) ∧
  (∃ S, ∃ sv : Nat → Nat, b 15 = nI S ∧ S ≤ 729 ∧ (∀ k, k < S → so k = nI (sv k) ∧ IsSet A (sv k)) ∧ (∀ k j, k < j → j < S → sv k ≠ sv j) ∧ ∀ s, IsSet A s → ∃ k, k < S ∧ sv k = s) ∧
  (∀ p, p < 2 ^ A.n → fw p = nI (Few A p))
theorem MFull.g {A : St} {b g i so fw : Nat → Int32} (h_ : MFull A b g i so fw) : ∀ t, t < 3 ^ A.w → g t = nI (Gt A t) := h_.1
theorem MFull.i {A : St} {b g i so fw : Nat → Int32} (h_ : MFull A b g i so fw) : ∀ t, t < 3 ^ A.w → i t = if Lst A A.st t = 0 then 1 else 0 := h_.2.1
theorem MFull.sets {A : St} {b g i so fw : Nat → Int32} (h_ : MFull A b g i so fw) : ∃ S, ∃ sv : Nat → Nat, b 15 = nI S ∧ S ≤ 729 ∧ (∀ k, k < S → so k = nI (sv k) ∧ IsSet A (sv k)) ∧ (∀ k j, k < j → j < S → sv k ≠ sv j) ∧ ∀ s, IsSet A s → ∃ k, k < S ∧ sv k = s := h_.2.2.1
theorem MFull.fw {A : St} {b g i so fw : Nat → Int32} (h_ : MFull A b g i so fw) : ∀ p, p < 2 ^ A.n → fw p = nI (Few A p) := h_.2.2.2
abbrev RM (A : St) (hi : HI) : Prop :=
  (Bd A (hi 65) (hi 66) (hi 67) (hi 68) (hi 69) (hi 70)) ∧
  (hi 65 8 = 0 ∨ (hi 65 8 = 1 ∧ MFull A (hi 65) (hi 74) (hi 75) (hi 76) (hi 77))) ∧
  (hi 65 23 = nI A.lines) ∧
  (∀ i, i < A.lines → hi 83 i = nI (A.pt i)) ∧
  (∀ i, i < A.lines → hi 84 i = nI (A.pk i)) ∧
  (∀ i, i < A.lines → hi 85 i = A.sn i) ∧
  (hi 65 31 = nI A.taped) ∧
  (∀ i, i < A.taped → hi 88 i = nI (A.tape i)) ∧
  (hi 65 36 = nI A.fault) ∧
  (∀ k, k < 4 → hi 92 k = if A.has k = 1 then nI (A.lane k) else -4) ∧
  (∀ k, k < 4 → A.has k = 1 → hi 93 k = nI (A.size k)) ∧
  (∀ k, k < 4 → A.has k = 1 → ∀ i, i < 40 → hi 94 (40 * k + i) = A.cel k i)
theorem RM.bd {A : St} {hi : HI} (h_ : RM A hi) : Bd A (hi 65) (hi 66) (hi 67) (hi 68) (hi 69) (hi 70) := h_.1
theorem RM.fr {A : St} {hi : HI} (h_ : RM A hi) : hi 65 8 = 0 ∨ (hi 65 8 = 1 ∧ MFull A (hi 65) (hi 74) (hi 75) (hi 76) (hi 77)) := h_.2.1
theorem RM.ln {A : St} {hi : HI} (h_ : RM A hi) : hi 65 23 = nI A.lines := h_.2.2.1
theorem RM.pt {A : St} {hi : HI} (h_ : RM A hi) : ∀ i, i < A.lines → hi 83 i = nI (A.pt i) := h_.2.2.2.1
theorem RM.pk {A : St} {hi : HI} (h_ : RM A hi) : ∀ i, i < A.lines → hi 84 i = nI (A.pk i) := h_.2.2.2.2.1
theorem RM.sn {A : St} {hi : HI} (h_ : RM A hi) : ∀ i, i < A.lines → hi 85 i = A.sn i := h_.2.2.2.2.2.1
theorem RM.tn {A : St} {hi : HI} (h_ : RM A hi) : hi 65 31 = nI A.taped := h_.2.2.2.2.2.2.1
theorem RM.ty {A : St} {hi : HI} (h_ : RM A hi) : ∀ i, i < A.taped → hi 88 i = nI (A.tape i) := h_.2.2.2.2.2.2.2.1
theorem RM.ft {A : St} {hi : HI} (h_ : RM A hi) : hi 65 36 = nI A.fault := h_.2.2.2.2.2.2.2.2.1
theorem RM.la {A : St} {hi : HI} (h_ : RM A hi) : ∀ k, k < 4 → hi 92 k = if A.has k = 1 then nI (A.lane k) else -4 := h_.2.2.2.2.2.2.2.2.2.1
theorem RM.sz {A : St} {hi : HI} (h_ : RM A hi) : ∀ k, k < 4 → A.has k = 1 → hi 93 k = nI (A.size k) := h_.2.2.2.2.2.2.2.2.2.2.1
theorem RM.ce {A : St} {hi : HI} (h_ : RM A hi) : ∀ k, k < 4 → A.has k = 1 → ∀ i, i < 40 → hi 94 (40 * k + i) = A.cel k i := h_.2.2.2.2.2.2.2.2.2.2.2
def st_0 : St := (fun j => if j = 0 then 4 else if j = 1 then 5 else 0, fun _ _ => 0, fun _ _ => 0)
