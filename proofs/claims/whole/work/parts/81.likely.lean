/-! likely: lists of guesses -/
def Rk (L : List (Int32 × Int32)) (n : Int32) (f s : Nat → Int32) : Prop := n = nI L.length ∧ ∀ i, i < L.length → f i = (L.getD i (0, 0)).1 ∧ s i = (L.getD i (0, 0)).2
theorem Rk.nil (f s : Nat → Int32) : Rk [] 0 f s := ⟨rfl, fun i hi => absurd hi (by simp)⟩
theorem getD_l {L : List (Int32 × Int32)} {x d : Int32 × Int32} {i : Nat} (h : i < L.length) : (L ++ [x]).getD i d = L.getD i d := by
  rw [List.getD_eq_getElem?_getD, List.getD_eq_getElem?_getD, List.getElem?_append_left h]
theorem getD_r {L : List (Int32 × Int32)} {x d : Int32 × Int32} : (L ++ [x]).getD L.length d = x := by
  rw [List.getD_eq_getElem?_getD, List.getElem?_append_right (Nat.le_refl _), Nat.sub_self]; rfl
theorem Rk.snoc {L : List (Int32 × Int32)} {n : Int32} {f s f1 s1 : Nat → Int32} (h : Rk L n f s) {a b : Int32} (hf : ∀ j, f1 j = if j = L.length then a else f j) (hs : ∀ j, s1 j = if j = L.length then b else s j) : Rk (L ++ [(a, b)]) (n + 1) f1 s1 := by
  obtain ⟨h1, h2⟩ := h
  refine ⟨?_, fun i hi => ?_⟩
  · rw [h1, List.length_append]; exact nI_1 _
  · rw [hf, hs]
    rw [List.length_append] at hi
    by_cases c : i = L.length
    · rw [if_pos c, if_pos c, c, getD_r]; exact ⟨rfl, rfl⟩
    · have hi' : i < L.length := by have : ([(a, b)] : List (Int32 × Int32)).length = 1 := rfl
                                    omega
      rw [if_neg c, if_neg c, getD_l hi']; exact h2 i hi'
theorem flt1 {α : Type} (p : α → Bool) (x : α) : [x].filter p = if p x then [x] else [] := by
  cases h : p x <;> simp [List.filter, h]
/-- the list behind one guess more -/
noncomputable def exS (A : St) (L : List (Int32 × Int32)) (f g : Int32) : List (Int32 × Int32) := if cD (Expl A f g) then L ++ [(f, g)] else L
theorem exS_f {A : St} {L : List (Int32 × Int32)} {f g : Int32} : exS A (L.filter (fun q => cD (Expl A q.1 q.2))) f g = (L ++ [(f, g)]).filter (fun q => cD (Expl A q.1 q.2)) := by
  unfold exS
  rw [List.filter_append, flt1]
  cases cD (Expl A f g) with
  | true => rfl
  | false => simp
def lkRow (n f g : Nat) : List (Int32 × Int32) := ((List.range' (f + 1) (g - (f + 1))).filter (fun g => decide (f / 2 ≠ g / 2))).map (fun g => (nI f, nI g))
def lkP (n f : Nat) : List (Int32 × Int32) := (List.range f).flatMap (fun f => lkRow n f (2 * n))
theorem lkP_s (n f : Nat) : lkP n (f + 1) = lkP n f ++ lkRow n f (2 * n) := by
  unfold lkP
  rw [List.range_succ, List.flatMap_append]
  simp only [List.flatMap_cons, List.flatMap_nil, List.append_nil]
theorem lkRow_s {n f g : Nat} (h : f + 1 ≤ g) : lkRow n f (g + 1) = lkRow n f g ++ (if f / 2 = g / 2 then [] else [(nI f, nI g)]) := by
  unfold lkRow
  have e : g + 1 - (f + 1) = (g - (f + 1)) + 1 := by omega
  rw [e, List.range'_1_concat, List.filter_append, List.map_append, show f + 1 + (g - (f + 1)) = g by omega, flt1]
  by_cases c : f / 2 = g / 2
  · rw [if_pos c]; simp [c]
  · rw [if_neg c]; simp [c]
theorem lkRow_0 (n f : Nat) : lkRow n f (f + 1) = [] := by
  unfold lkRow
  rw [Nat.sub_self]; rfl
theorem lkRow_len {n f : Nat} : ∀ k g, f + 1 ≤ g → (lkRow n f g).length ≤ (lkRow n f (g + k)).length := by
  intro k
  induction k with
  | zero => intro g _; exact Nat.le_refl _
  | succ k ih =>
    intro g hg
    refine Nat.le_trans (ih g hg) ?_
    rw [← Nat.add_assoc, lkRow_s (by omega), List.length_append]; omega
theorem lkP_len {n : Nat} : ∀ k f, (lkP n f).length ≤ (lkP n (f + k)).length := by
  intro k
  induction k with
  | zero => intro f; exact Nat.le_refl _
  | succ k ih =>
    intro f
    refine Nat.le_trans (ih f) ?_
    rw [← Nat.add_assoc, lkP_s, List.length_append]; omega
theorem lk_480 : ∀ n, n < 17 → (lkP n (2 * n)).length ≤ 480 := by decide +kernel
theorem lk_len {n f g : Nat} (hn : n ≤ 16) (hf : f < g) (hg : g < 2 * n) (hne : ¬ f / 2 = g / 2) : (lkP n f ++ lkRow n f g).length < 480 := by
  have h1 := lk_480 n (by omega)
  have h2 := lkP_len (n := n) (2 * n - (f + 1)) (f + 1)
  rw [show f + 1 + (2 * n - (f + 1)) = 2 * n by omega, lkP_s, List.length_append] at h2
  have h3 := lkRow_len (n := n) (f := f) (2 * n - (g + 1)) (g + 1) (by omega)
  rw [show g + 1 + (2 * n - (g + 1)) = 2 * n by omega, lkRow_s (by omega), if_neg hne, List.length_append] at h3
  rw [List.length_append]
  have : ([(nI f, nI g)] : List (Int32 × Int32)).length = 1 := rfl
  omega
theorem filter_lt {L : List (Int32 × Int32)} {p : Int32 × Int32 → Bool} {m : Nat} (h : L.length < m) : (L.filter p).length < m := Nat.lt_of_le_of_lt (List.length_filter_le _ _) h
theorem gl2_eq (A : St) : gl2 A = (lkP A.n (2 * A.n)).filter (fun q => cD (Expl A q.1 q.2)) := rfl
/-- one guess tried, by class or reference -/
def Tr (A : St) (c : Nat) (T : Int32 → Int32 → HI → HL → Option (Unit × HI × HL)) (R : List (Int32 × Int32) → HI → Prop) : Prop := (∀ L h, R L h → h c 2 = nI A.n) ∧ ∀ f g L h l, FOK A f → FOK A g → L.length < 480 → R L h → wp (T f g h l) (fun o => R (exS A L f g) o.2.1)
theorem lk_one {N : Nat} (hN : 70000 ≤ N) {A : St} (hw : WF A) {c : Nat} {T : Int32 → Int32 → HI → HL → Option (Unit × HI × HL)} {R : List (Int32 × Int32) → HI → Prop} (t : Tr A c T R) {h : HI} {l : HL} (r : R [] h) : wp (lpN (fun s : Int32 × HI × HL => if (2 : Int32) * (s.2.1 c 2) ≤ s.1 then (some (.inr (s.2.1, s.2.2)) : Option ((Int32 × HI × HL) ⊕ (HI × HL))) else (T s.1 (-4) s.2.1 s.2.2).bind fun z => some (.inl (s.1 + 1, z.2.1, z.2.2))) N (0, h, l)) (fun o => R (gl1 A) o.1) := by
  have n16 := hw.n16
  have e2 : (2 : Int32) * nI A.n = nI (2 * A.n) := pk_mul 2 A.n
  refine wp_for (2 * A.n) (fun f s => s.1 = nI f ∧ R (((List.range f).map (fun f => (nI f, (-4 : Int32)))).filter (fun q => cD (Expl A q.1 q.2))) s.2.1) ?_ ?_ (i := 0) (Nat.zero_le _) ⟨rfl, by exact r⟩ (by omega)
  · rintro f ⟨q, g, gl⟩ hf ⟨rfl, rr⟩
    dsimp only at rr ⊢
    refine wp_neg (by rw [t.1 _ _ rr, e2]; exact nI_ge hf (by omega)) ?_
    refine (t.2 _ _ _ _ _ (FOK.of hf) (FOK.none A) (filter_lt ?_) rr).bnd (fun x hx => ?_)
    · rw [List.length_map, List.length_range]; omega
    · rw [wp_some]
      refine ⟨nI_1 f, ?_⟩
      rw [exS_f] at hx
      rw [List.range_succ, List.map_append]
      exact hx
  · rintro ⟨q, g, gl⟩ ⟨rfl, rr⟩
    dsimp only at rr ⊢
    refine wp_pos (by rw [t.1 _ _ rr, e2]; exact nI_le (Nat.le_refl _) (by omega)) ?_
    rw [wp_some]
    exact rr
theorem lk_in {N : Nat} (hN : 70000 ≤ N) {A : St} (hw : WF A) {c : Nat} {T : Int32 → Int32 → HI → HL → Option (Unit × HI × HL)} {R : List (Int32 × Int32) → HI → Prop} (t : Tr A c T R) {f : Nat} (hf : f < 2 * A.n) {h : HI} {l : HL} (r : R ((lkP A.n f).filter (fun q => cD (Expl A q.1 q.2))) h) : wp (lpN (fun s : Int32 × HI × HL => if (2 : Int32) * (s.2.1 c 2) ≤ s.1 then (some (.inr (s.2.1, s.2.2)) : Option ((Int32 × HI × HL) ⊕ (HI × HL))) else if nI f / 2 = s.1 / 2 then some (.inl (s.1 + 1, s.2.1, s.2.2)) else (T (nI f) s.1 s.2.1 s.2.2).bind fun z => some (.inl (s.1 + 1, z.2.1, z.2.2))) N (nI f + 1, h, l)) (fun o => R ((lkP A.n (f + 1)).filter (fun q => cD (Expl A q.1 q.2))) o.1) := by
  have n16 := hw.n16
  have e2 : (2 : Int32) * nI A.n = nI (2 * A.n) := pk_mul 2 A.n
  have ed : ∀ j, j < 2 * A.n → nI j / 2 = nI (j / 2) := fun j hj => pk_div (d := 2) (by omega) (by omega) (by omega)
  refine wp_for (2 * A.n) (fun g s => s.1 = nI g ∧ f + 1 ≤ g ∧ R ((lkP A.n f ++ lkRow A.n f g).filter (fun q => cD (Expl A q.1 q.2))) s.2.1) ?_ ?_ (i := f + 1) (by omega) ⟨nI_1 f, Nat.le_refl _, by rw [lkRow_0, List.append_nil]; exact r⟩ (by omega)
  · rintro g ⟨q, h1, l1⟩ hg ⟨rfl, hfg, rr⟩
    dsimp only at rr ⊢
    refine wp_neg (by rw [t.1 _ _ rr, e2]; exact nI_ge hg (by omega)) ?_
    rw [lkRow_s hfg]
    by_cases c : f / 2 = g / 2
    · refine wp_pos (by rw [ed f hf, ed g hg, c]) ?_
      rw [wp_some, if_pos c, List.append_nil]
      exact ⟨nI_1 g, by omega, rr⟩
    · refine wp_neg (by rw [ed f hf, ed g hg]; exact fun q => c ((nI_eq (by omega) (by omega)).mp q)) ?_
      rw [if_neg c]
      refine (t.2 _ _ _ _ _ (FOK.of hf) (FOK.of hg) (filter_lt (lk_len n16 (by omega) hg c)) rr).bnd (fun x hx => ?_)
      rw [wp_some]
      rw [exS_f, List.append_assoc] at hx
      exact ⟨nI_1 g, by omega, hx⟩
  · rintro ⟨q, h1, l1⟩ ⟨rfl, hfg, rr⟩
    dsimp only at rr ⊢
    refine wp_pos (by rw [t.1 _ _ rr, e2]; exact nI_le (Nat.le_refl _) (by omega)) ?_
    rw [wp_some, lkP_s]
    exact rr
theorem lk_two {N : Nat} (hN : 70000 ≤ N) {A : St} (hw : WF A) {c : Nat} {T : Int32 → Int32 → HI → HL → Option (Unit × HI × HL)} {R : List (Int32 × Int32) → HI → Prop} (t : Tr A c T R) {h : HI} {l : HL} (r : R [] h) : wp (lpN (fun s : Int32 × HI × HL => if (2 : Int32) * (s.2.1 c 2) ≤ s.1 then (some (.inr (s.2.1, s.2.2)) : Option ((Int32 × HI × HL) ⊕ (HI × HL))) else (lpN (fun s1 : Int32 × HI × HL => if (2 : Int32) * (s1.2.1 c 2) ≤ s1.1 then (some (.inr (s1.2.1, s1.2.2)) : Option ((Int32 × HI × HL) ⊕ (HI × HL))) else if s.1 / 2 = s1.1 / 2 then some (.inl (s1.1 + 1, s1.2.1, s1.2.2)) else (T s.1 s1.1 s1.2.1 s1.2.2).bind fun z => some (.inl (s1.1 + 1, z.2.1, z.2.2))) N (s.1 + 1, s.2.1, s.2.2)).bind fun z => some (.inl (s.1 + 1, z.1, z.2))) N (0, h, l)) (fun o => R (gl2 A) o.1) := by
  have n16 := hw.n16
  have e2 : (2 : Int32) * nI A.n = nI (2 * A.n) := pk_mul 2 A.n
  refine wp_for (2 * A.n) (fun f s => s.1 = nI f ∧ R ((lkP A.n f).filter (fun q => cD (Expl A q.1 q.2))) s.2.1) ?_ ?_ (i := 0) (Nat.zero_le _) ⟨rfl, by exact r⟩ (by omega)
  · rintro f ⟨q, h1, l1⟩ hf ⟨rfl, rr⟩
    dsimp only at rr ⊢
    refine wp_neg (by rw [t.1 _ _ rr, e2]; exact nI_ge hf (by omega)) ?_
    refine (lk_in hN hw t hf rr).bnd (fun x hx => ?_)
    rw [wp_some]
    exact ⟨nI_1 f, hx⟩
  · rintro ⟨q, h1, l1⟩ ⟨rfl, rr⟩
    dsimp only at rr ⊢
    refine wp_pos (by rw [t.1 _ _ rr, e2]; exact nI_le (Nat.le_refl _) (by omega)) ?_
    rw [wp_some, gl2_eq]
    exact rr
