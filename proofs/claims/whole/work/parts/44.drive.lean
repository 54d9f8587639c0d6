/-! driving, solving -/
abbrev Dr (D L : Nat → Nat → Nat) (P : Nat → Nat → Prop) (d l : Nat) : Prop :=
  (d ≤ 1000) ∧
  (∀ u v, P u v → d ≤ D u v) ∧
  (d < 1000 → ∃ u v, P u v ∧ D u v = d) ∧
  (d < 1000 → ∀ i, l.testBit i = true ↔ ∃ u v, P u v ∧ D u v = d ∧ (L u v).testBit i = true)
theorem Dr.le {D L : Nat → Nat → Nat} {P : Nat → Nat → Prop} {d l : Nat} (h_ : Dr D L P d l) : d ≤ 1000 := h_.1
theorem Dr.lo {D L : Nat → Nat → Nat} {P : Nat → Nat → Prop} {d l : Nat} (h_ : Dr D L P d l) : ∀ u v, P u v → d ≤ D u v := h_.2.1
theorem Dr.is {D L : Nat → Nat → Nat} {P : Nat → Nat → Prop} {d l : Nat} (h_ : Dr D L P d l) : d < 1000 → ∃ u v, P u v ∧ D u v = d := h_.2.2.1
theorem Dr.bt {D L : Nat → Nat → Nat} {P : Nat → Nat → Prop} {d l : Nat} (h_ : Dr D L P d l) : d < 1000 → ∀ i, l.testBit i = true ↔ ∃ u v, P u v ∧ D u v = d ∧ (L u v).testBit i = true := h_.2.2.2
theorem Dr.cong {D L : Nat → Nat → Nat} {P P' : Nat → Nat → Prop} {d l : Nat} (h : Dr D L P d l) (e : ∀ u v, P u v ↔ P' u v) : Dr D L P' d l := by
  have e' : P = P' := funext fun u => funext fun v => propext (e u v)
  rw [← e']; exact h
theorem Dr.more {D L : Nat → Nat → Nat} {P : Nat → Nat → Prop} {d l a b : Nat} (h : Dr D L P d l) (hd : d < D a b) : Dr D L (fun u v => P u v ∨ (u = a ∧ v = b)) d l := by
  refine ⟨h.le, ?_, fun q => ?_, fun q i => ?_⟩
  · rintro u v (k | ⟨rfl, rfl⟩)
    · exact h.lo u v k
    · omega
  · obtain ⟨u, v, k1, k2⟩ := h.is q
    exact ⟨u, v, Or.inl k1, k2⟩
  · rw [h.bt q i]
    constructor
    · rintro ⟨u, v, k1, k2⟩
      exact ⟨u, v, Or.inl k1, k2⟩
    · rintro ⟨u, v, k1 | ⟨rfl, rfl⟩, k2, k3⟩
      · exact ⟨u, v, k1, k2, k3⟩
      · omega
theorem Dr.same {D L : Nat → Nat → Nat} {P : Nat → Nat → Prop} {d l a b : Nat} (h : Dr D L P d l) (hd : D a b = d) : Dr D L (fun u v => P u v ∨ (u = a ∧ v = b)) d (l ||| L a b) := by
  refine ⟨h.le, ?_, fun q => ⟨a, b, Or.inr ⟨rfl, rfl⟩, hd⟩, fun q i => ?_⟩
  · rintro u v (k | ⟨rfl, rfl⟩)
    · exact h.lo u v k
    · omega
  · rw [Nat.testBit_or, Bool.or_eq_true, h.bt q i]
    constructor
    · rintro (⟨u, v, k1, k2⟩ | k)
      · exact ⟨u, v, Or.inl k1, k2⟩
      · exact ⟨a, b, Or.inr ⟨rfl, rfl⟩, hd, k⟩
    · rintro ⟨u, v, k1 | ⟨rfl, rfl⟩, k2, k3⟩
      · exact Or.inl ⟨u, v, k1, k2, k3⟩
      · exact Or.inr k3
theorem Dr.less {D L : Nat → Nat → Nat} {P : Nat → Nat → Prop} {d l a b : Nat} (h : Dr D L P d l) (hd : D a b < d) : Dr D L (fun u v => P u v ∨ (u = a ∧ v = b)) (D a b) (L a b) := by
  have hle := h.le
  refine ⟨by omega, ?_, fun q => ⟨a, b, Or.inr ⟨rfl, rfl⟩, rfl⟩, fun q i => ?_⟩
  · rintro u v (k | ⟨rfl, rfl⟩)
    · have := h.lo u v k; omega
    · exact Nat.le_refl _
  · constructor
    · intro k
      exact ⟨a, b, Or.inr ⟨rfl, rfl⟩, rfl, k⟩
    · rintro ⟨u, v, k1 | ⟨rfl, rfl⟩, k2, k3⟩
      · have := h.lo u v k1; omega
      · exact k3
/-- the pairs that are gone through before (a, b) -/
def dP (w H Lo a b : Nat) : Nat → Nat → Prop := fun u v => (u < w ∧ v < w ∧ H.testBit u = true ∧ Lo.testBit v = true) ∧ (u < a ∨ (u = a ∧ v < b))
theorem c_drive {N : Nat} (hN : 70000 ≤ N) {hi : HI} {hl : HL} {D L : Nat → Nat → Nat} {w H Lo S : Nat} (hw : w ≤ 6) (hH : H < 64) (hLo : Lo < 64) (h7 : hi 7 2 = nI w) (hS : hi 7 3 = nI S) (hS30 : S ≤ 30) (mt : Mat hi 10 11 D L) (hD : ∀ u v, D u v ≤ 1000) : wp (f_Ways_drive N (nI H) (nI Lo) hi hl) (fun o => ∃ d l, Dr D L (fun u v => u < w ∧ v < w ∧ H.testBit u = true ∧ Lo.testBit v = true) d l ∧ o.2.1 = wr (wr hi 7 0 (if d < 1000 then nI d else -4)) 7 1 (nI (if 1 ≤ d ∧ d ≤ S then l else 0))) := by
  unfold f_Ways_drive
  refine wp.bnd (P := fun z => ∃ d l, Dr D L (fun u v => u < w ∧ v < w ∧ H.testBit u = true ∧ Lo.testBit v = true) d l ∧ z = (nI d, nI l, hi, hl)) ?_ (fun z hz => ?_)
  · refine wp_for w (fun a s => ∃ d l, Dr D L (dP w H Lo a 0) d l ∧ s = (nI d, nI l, nI a, hi, hl)) ?_ ?_ (i := 0) (by omega) ⟨1000, 0, ⟨by omega, ?_, fun q => absurd q (by omega), fun q => absurd q (by omega)⟩, rfl⟩ (by omega)
    · rintro a s ha ⟨d, l, dr, rfl⟩
      unfold B_Ways_drive_10 J_Ways_drive_123
      dsimp only
      refine wp_neg (by rw [h7]; exact nI_ge ha (by omega)) ?_
      by_cases ob : H.testBit a = false
      · refine wp_pos ((ni_bit (by omega) (by omega)).mpr ob) ?_
        rw [wp_some]
        refine ⟨d, l, dr.cong (fun u v => ?_), by rw [nI_1]⟩
        unfold dP
        constructor
        · rintro ⟨q1, q2⟩
          exact ⟨q1, by omega⟩
        · rintro ⟨q1, q2⟩
          refine ⟨q1, ?_⟩
          have : u ≠ a := fun e => by rw [e, ob] at q1; cases q1.2.2.1
          omega
      · have ob' : H.testBit a = true := by simpa using ob
        refine wp_neg (fun q => ob ((ni_bit (by omega) (by omega)).mp q)) ?_
        refine wp.bnd (P := fun z => ∃ d l, Dr D L (dP w H Lo (a + 1) 0) d l ∧ z = (nI d, nI l, hi, hl)) ?_ (fun z hz => ?_)
        · refine wp_for w (fun b s => ∃ d l, Dr D L (dP w H Lo a b) d l ∧ s = (nI d, nI l, nI b, hi, hl)) ?_ ?_ (i := 0) (by omega) ⟨d, l, dr, rfl⟩ (by omega)
          · rintro b s hb ⟨d, l, dr, rfl⟩
            have ext : Lo.testBit b = true → ∀ u v, (dP w H Lo a b u v ∨ (u = a ∧ v = b)) ↔ dP w H Lo a (b + 1) u v := by
              intro lb u v
              unfold dP
              constructor
              · rintro (⟨q1, q2⟩ | ⟨rfl, rfl⟩)
                · exact ⟨q1, by omega⟩
                · exact ⟨⟨by omega, by omega, ob', lb⟩, by omega⟩
              · rintro ⟨q1, q2⟩
                by_cases e : u = a ∧ v = b
                · exact Or.inr e
                · exact Or.inl ⟨q1, by omega⟩
            unfold B_Ways_drive_34 J_Ways_drive_107 J_Ways_drive_117
            dsimp only
            refine wp_neg (by rw [h7]; exact nI_ge hb (by omega)) ?_
            by_cases lb : Lo.testBit b = false
            · refine wp_pos ((ni_bit (by omega) (by omega)).mpr lb) ?_
              rw [wp_some]
              refine ⟨d, l, dr.cong (fun u v => ?_), by rw [nI_1]⟩
              unfold dP
              constructor
              · rintro ⟨q1, q2⟩
                exact ⟨q1, by omega⟩
              · rintro ⟨q1, q2⟩
                refine ⟨q1, ?_⟩
                have : v ≠ b := fun e => by rw [e, lb] at q1; cases q1.2.2.2
                omega
            · have lb' : Lo.testBit b = true := by simpa using lb
              refine wp_neg (fun q => lb ((ni_bit (by omega) (by omega)).mp q)) ?_
              have e7 : nI a * 6 + nI b = nI (a * 6 + b) := by rw [lit_I, pk_mul, nI_add]
              have r := mt a b (by omega) (by omega)
              have hd := dr.le
              have hab := hD a b
              rw [e7]
              simp (disch := omega) only [nI_clamp, r.1, r.2]
              refine wp_neg (nI_in' (by omega) (by omega)) ?_
              by_cases k : D a b ≤ d
              · refine wp_pos (nI_le k (by omega)) (wp_neg (nI_in' (by omega) (by omega)) ?_)
                by_cases k2 : d ≤ D a b
                · refine wp_pos (nI_le k2 (by omega)) (wp_neg (nI_in' (by omega) (by omega)) (wp_neg (nI_in' (by omega) (by omega)) ?_))
                  rw [wp_some, fa_or]
                  exact ⟨D a b, _, ((show d = D a b by omega) ▸ dr.same (by omega)).cong (ext lb'), by rw [nI_1]⟩
                · refine wp_neg (nI_ge (by omega) (by omega)) (wp_neg (nI_in' (by omega) (by omega)) (wp_neg (nI_in' (by omega) (by omega)) ?_))
                  rw [wp_some]
                  exact ⟨D a b, _, (dr.less (by omega)).cong (ext lb'), by rw [nI_1]⟩
              · refine wp_neg (nI_ge (by omega) (by omega)) ?_
                rw [wp_some]
                exact ⟨d, l, (dr.more (by omega)).cong (ext lb'), by rw [nI_1]⟩
          · rintro s ⟨d, l, dr, rfl⟩
            unfold B_Ways_drive_34
            dsimp only
            refine wp_pos (by rw [h7]; exact nI_le (Nat.le_refl _) (by omega)) ?_
            rw [wp_some]
            refine ⟨d, l, dr.cong (fun u v => ?_), rfl⟩
            unfold dP
            constructor
            · rintro ⟨q1, q2⟩
              exact ⟨q1, by omega⟩
            · rintro ⟨q1, q2⟩
              have := q1.2.1
              exact ⟨q1, by omega⟩
        · obtain ⟨d, l, dr, rfl⟩ := hz
          rw [wp_some]
          exact ⟨d, l, dr, by rw [nI_1]⟩
    · rintro s ⟨d, l, dr, rfl⟩
      unfold B_Ways_drive_10
      dsimp only
      refine wp_pos (by rw [h7]; exact nI_le (Nat.le_refl _) (by omega)) ?_
      rw [wp_some]
      refine ⟨d, l, dr.cong (fun u v => ?_), rfl⟩
      unfold dP
      constructor
      · rintro ⟨q1, q2⟩
        exact q1
      · intro q1
        exact ⟨q1, by omega⟩
    · rintro u v ⟨_, q⟩; omega
  · obtain ⟨d, l, dr, rfl⟩ := hz
    have hd := dr.le
    dsimp only
    have rest : ∀ s0, wp (J_Ways_drive_143 N (nI d) (nI l) s0 hi hl) (fun o => o.2.1 = wr (wr hi 7 0 s0) 7 1 (nI (if 1 ≤ d ∧ d ≤ S then l else 0))) := by
      intro s0
      unfold J_Ways_drive_143 J_Ways_drive_165
      by_cases k1 : d < 1
      · refine wp_pos (nI_lt (b := 1) k1 (by omega)) ?_
        rw [wp_some, if_neg (by omega)]; rfl
      · refine wp_neg (nI_nlt (b := 1) (by omega) (by omega)) ?_
        by_cases k2 : S < d
        · refine wp_pos (by rw [wr_k (by omega), hS]; exact nI_lt k2 (by omega)) ?_
          rw [wp_some, if_neg (by omega)]; rfl
        · refine wp_neg (by rw [wr_k (by omega), hS]; exact nI_nlt (by omega) (by omega)) ?_
          rw [wp_some, if_pos (by omega)]
    by_cases k : d < 1000
    · refine wp_neg (nI_ge (b := 1000) k (by omega)) ((rest _).mono (fun o ho => ⟨d, l, dr, ?_⟩))
      rw [if_pos k]; exact ho
    · refine wp_pos (nI_le (a := 1000) (by omega) (by omega)) ((rest _).mono (fun o ho => ⟨d, l, dr, ?_⟩))
      rw [if_neg k]; exact ho
/-- the wires that are free, high and low in turn t -/
abbrev Msk (w t f H Lo : Nat) : Prop :=
  (f < 64) ∧
  (H < 64) ∧
  (Lo < 64) ∧
  (∀ x, x < w → (f.testBit x = true ↔ fig t x = 0)) ∧
  (∀ x, x < w → (H.testBit x = true ↔ fig t x = 1)) ∧
  (∀ x, x < w → (Lo.testBit x = true ↔ fig t x = 2))
theorem Msk.f6 {w t f H Lo : Nat} (h_ : Msk w t f H Lo) : f < 64 := h_.1
theorem Msk.h6 {w t f H Lo : Nat} (h_ : Msk w t f H Lo) : H < 64 := h_.2.1
theorem Msk.l6 {w t f H Lo : Nat} (h_ : Msk w t f H Lo) : Lo < 64 := h_.2.2.1
theorem Msk.f {w t f H Lo : Nat} (h_ : Msk w t f H Lo) : ∀ x, x < w → (f.testBit x = true ↔ fig t x = 0) := h_.2.2.2.1
theorem Msk.h {w t f H Lo : Nat} (h_ : Msk w t f H Lo) : ∀ x, x < w → (H.testBit x = true ↔ fig t x = 1) := h_.2.2.2.2.1
theorem Msk.l {w t f H Lo : Nat} (h_ : Msk w t f H Lo) : ∀ x, x < w → (Lo.testBit x = true ↔ fig t x = 2) := h_.2.2.2.2.2
theorem way_masks {A : St} (hw : WF A) {h : Nat → Nat} {t f H Lo d l : Nat} {D L : Nat → Nat → Nat} (mk : Msk A.w t f H Lo) (lv : Lv (Stg A h) A.w f A.w D L) (dr : Dr D L (fun u v => u < A.w ∧ v < A.w ∧ H.testBit u = true ∧ Lo.testBit v = true) d l) : (if d < 1000 then nI d else -4) = LsI A h t ∧ (if 1 ≤ d ∧ d ≤ A.sup then l else 0) = GM A h t := by
  have eW : ∀ u v c m, Wk (Stg A h) (fLow f A.w) u v c m ↔ Wk (Stg A h) (fun x => fig t x = 0) u v c m := fun u v c m => ⟨fun q => q.mono (fun x hx => (mk.f x hx.1).mp hx.2), fun q => (q.inW (Stg.lw hw)).mono (fun x hx => ⟨hx.2, (mk.f x hx.2).mpr hx.1⟩)⟩
  have op : ∀ u v, (u < A.w ∧ v < A.w ∧ H.testBit u = true ∧ Lo.testBit v = true) → Op (Stg A h) (fLow f A.w) u v (D u v) (L u v) := by
    rintro u v ⟨q1, q2, q3, q4⟩
    have f1 := (mk.h u q1).mp q3
    have f2 := (mk.l v q2).mp q4
    refine lv.op u v q1 q2 (fun k => ?_) (fun k => ?_) (fun k => ?_)
    · have := (mk.f u q1).mp k.2; omega
    · have := (mk.f v q2).mp k.2; omega
    · subst k; omega
  have wy : ∀ c m, Way A h t c m ↔ ∃ u v, (u < A.w ∧ v < A.w ∧ H.testBit u = true ∧ Lo.testBit v = true) ∧ Wk (Stg A h) (fLow f A.w) u v c m := by
    intro c m
    constructor
    · rintro ⟨a, b, q1, q2, q3, q4, q5⟩
      exact ⟨a, b, ⟨q1, q2, (mk.h a q1).mpr q3, (mk.l b q2).mpr q4⟩, (eW a b c m).mpr q5⟩
    · rintro ⟨a, b, ⟨q1, q2, q3, q4⟩, q5⟩
      exact ⟨a, b, q1, q2, (mk.h a q1).mp q3, (mk.l b q2).mp q4, (eW a b c m).mp q5⟩
  refine GM_of hw.s30 (fun hd => ⟨?_, ?_, fun i => ?_⟩) (fun hd c m q => ?_)
  · obtain ⟨u, v, q1, q2⟩ := dr.is hd
    obtain ⟨m, q3⟩ := (op u v q1).is (by omega)
    exact ⟨m, (wy d m).mpr ⟨u, v, q1, q2 ▸ q3⟩⟩
  · intro c m q
    obtain ⟨u, v, q1, q2⟩ := (wy c m).mp q
    have := dr.lo u v q1
    have := (op u v q1).lo c m q2
    omega
  · rw [dr.bt hd i]
    constructor
    · rintro ⟨u, v, q1, q2, q3⟩
      obtain ⟨m, q4, q5⟩ := ((op u v q1).bt (by omega) i).mp q3
      exact ⟨m, (wy d m).mpr ⟨u, v, q1, q2 ▸ q4⟩, q5⟩
    · rintro ⟨m, q, q5⟩
      obtain ⟨u, v, q1, q2⟩ := (wy d m).mp q
      have e1 := dr.lo u v q1
      have e2 := (op u v q1).lo d m q2
      have e3 : D u v = d := by omega
      refine ⟨u, v, q1, e3, ((op u v q1).bt (by omega) i).mpr ⟨m, ?_, q5⟩⟩
      rw [e3]; exact q2
  · obtain ⟨u, v, q1, q2⟩ := (wy c m).mp q
    have := dr.lo u v q1
    exact (op u v q1).no (by omega) c m q2
theorem or_bit_lt {a b k : Nat} (ha : a < 2 ^ k) (hb : b < 2 ^ k) : a ||| b < 2 ^ k := Nat.or_lt_two_pow ha hb
theorem bit_add {f k x : Nat} {p : Nat → Prop} (c : Nat) (hf : ∀ x, f.testBit x = true ↔ x < k ∧ p x) (hc : (p k ∧ c = 2 ^ k) ∨ (¬ p k ∧ c = 0)) : (f ||| c).testBit x = true ↔ x < k + 1 ∧ p x := by
  rw [Nat.testBit_or, Bool.or_eq_true, hf]
  rcases hc with ⟨h1, rfl⟩ | ⟨h1, rfl⟩
  · rw [Nat.testBit_two_pow, decide_eq_true_iff]
    constructor
    · rintro (q | rfl)
      · exact ⟨by omega, q.2⟩
      · exact ⟨by omega, h1⟩
    · rintro ⟨q1, q2⟩
      by_cases e : k = x
      · exact Or.inr e
      · exact Or.inl ⟨by omega, q2⟩
  · rw [Nat.zero_testBit]
    constructor
    · rintro (q | q)
      · exact ⟨by omega, q.2⟩
      · cases q
    · rintro ⟨q1, q2⟩
      have : x ≠ k := fun e => h1 (e ▸ q2)
      exact Or.inl ⟨by omega, q2⟩
def bL (f k : Nat) (p : Nat → Prop) : Prop := f < 64 ∧ ∀ x, f.testBit x = true ↔ x < k ∧ p x
theorem bL.add {f k c : Nat} {p : Nat → Prop} (h : bL f k p) (hk : k < 6) (hc : (p k ∧ c = 2 ^ k) ∨ (¬ p k ∧ c = 0)) : bL (f ||| c) (k + 1) p := by
  have h2 : 2 ^ k < 2 ^ 6 := Nat.pow_lt_pow_right (by omega) hk
  exact ⟨or_bit_lt (k := 6) h.1 (by rcases hc with ⟨_, rfl⟩ | ⟨_, rfl⟩ <;> omega), fun x => bit_add c h.2 hc⟩
theorem c_solve {N : Nat} (hN : 70000 ≤ N) {A : St} (hw : WF A) {h : Nat → Nat} {hi : HI} {hl : HL} {t : Nat} {D L : Nat → Nat → Nat} (ht : t < 3 ^ A.w) (h7 : hi 7 2 = nI A.w) (hS : hi 7 3 = nI A.sup) (hm : Mat hi 8 9 D L) (hL : Ld (Stg A h) D L) : wp (f_Ways_solve N (nI t) hi hl) (fun o => Sam [7, 10, 11] hi o.2.1 ∧ o.2.1 7 2 = nI A.w ∧ o.2.1 7 3 = nI A.sup ∧ o.2.1 7 0 = LsI A h t ∧ o.2.1 7 1 = nI (GM A h t)) := by
  unfold f_Ways_solve
  have w6 := hw.w6
  have p3 := pow3_le w6
  refine wp.bnd (P := fun z => ∃ f H Lo, bL f A.w (fun x => fig t x = 0) ∧ bL H A.w (fun x => fig t x = 1) ∧ bL Lo A.w (fun x => fig t x = 2) ∧ z = (nI f, nI H, nI Lo, hi, hl)) ?_ (fun z hz => ?_)
  · refine wp_for A.w (fun k s => ∃ f H Lo, bL f k (fun x => fig t x = 0) ∧ bL H k (fun x => fig t x = 1) ∧ bL Lo k (fun x => fig t x = 2) ∧ s = (nI f, nI H, nI Lo, nI k, hi, hl)) ?_ ?_ (i := 0) (by omega) ⟨0, 0, 0, ⟨by omega, fun x => by simp⟩, ⟨by omega, fun x => by simp⟩, ⟨by omega, fun x => by simp⟩, rfl⟩ (by omega)
    · rintro k s hk ⟨f, H, Lo, b1, b2, b3, rfl⟩
      unfold B_Ways_solve_10 J_Ways_solve_45 J_Ways_solve_62 J_Ways_solve_80
      dsimp only
      refine wp_neg (by rw [h7]; exact nI_ge hk (by omega)) (wp_neg (nI_in (by omega) (by omega)) ?_)
      have pk0 : 0 < 3 ^ k := Nat.pow_pos (by omega)
      have pk1 : 3 ^ k ≤ 729 := pow3_le (by omega)
      have e1 : (1 : Int32) <<< (nI k &&& 31) = nI (2 ^ k) := ni_one (by omega)
      have e2 : nI t / powT.getD (nI k).toNatClampNeg 0 = nI (t / 3 ^ k) := by rw [nI_clamp (by omega), powT_eq k (by omega), pk_div (by omega) pk0 (by omega)]
      have dk : t / 3 ^ k < 2 ^ 31 := Nat.lt_of_le_of_lt (Nat.div_le_self _ _) (by omega)
      have e3 : nI (t / 3 ^ k) - nI (t / 3 ^ k) / 3 * 3 = nI (fig t k) := pk_rem (d := 3) dk (by omega) (by omega)
      have hne : ¬ powT.getD (nI k).toNatClampNeg 0 = 0 := by
        rw [nI_clamp (by omega), powT_eq k (by omega)]
        exact nI_ne0 pk0 (by omega)
      refine wp_neg hne ?_
      rw [e2, e3, e1]
      have f3 := fig_lt t k
      have l6 : k < 6 := by omega
      have n0 : (nI (fig t k) = 0) ↔ fig t k = 0 := nI_eq (b := 0) (by omega) (by omega)
      have n1 : (nI (fig t k) = 1) ↔ fig t k = 1 := nI_eq (b := 1) (by omega) (by omega)
      have n2 : (nI (fig t k) = 2) ↔ fig t k = 2 := nI_eq (b := 2) (by omega) (by omega)
      have z0 : ∀ f, nI f ||| 0 = nI (f ||| 0) := fun f => fa_or f 0
      rcases (show fig t k = 0 ∨ fig t k = 1 ∨ fig t k = 2 by omega) with e | e | e
      · refine wp_pos (n0.mpr e) (wp_neg (by rw [n1]; omega) (wp_neg (by rw [n2]; omega) ?_))
        rw [wp_some]
        refine ⟨_, _, _, b1.add l6 (Or.inl ⟨e, rfl⟩), b2.add (c := 0) l6 (Or.inr ⟨by omega, rfl⟩), b3.add (c := 0) l6 (Or.inr ⟨by omega, rfl⟩), ?_⟩
        rw [fa_or, z0, z0, nI_1]
      · refine wp_neg (by rw [n0]; omega) (wp_pos (n1.mpr e) (wp_neg (by rw [n2]; omega) ?_))
        rw [wp_some]
        refine ⟨_, _, _, b1.add (c := 0) l6 (Or.inr ⟨by omega, rfl⟩), b2.add l6 (Or.inl ⟨e, rfl⟩), b3.add (c := 0) l6 (Or.inr ⟨by omega, rfl⟩), ?_⟩
        rw [fa_or, z0, z0, nI_1]
      · refine wp_neg (by rw [n0]; omega) (wp_neg (by rw [n1]; omega) (wp_pos (n2.mpr e) ?_))
        rw [wp_some]
        refine ⟨_, _, _, b1.add (c := 0) l6 (Or.inr ⟨by omega, rfl⟩), b2.add (c := 0) l6 (Or.inr ⟨by omega, rfl⟩), b3.add l6 (Or.inl ⟨e, rfl⟩), ?_⟩
        rw [fa_or, z0, z0, nI_1]
    · rintro s ⟨f, H, Lo, b1, b2, b3, rfl⟩
      unfold B_Ways_solve_10
      dsimp only
      refine wp_pos (by rw [h7]; exact nI_le (Nat.le_refl _) (by omega)) ?_
      rw [wp_some]
      exact ⟨f, H, Lo, b1, b2, b3, rfl⟩
  · obtain ⟨f, H, Lo, b1, b2, b3, rfl⟩ := hz
    dsimp only
    refine (c_leave hN (Stg.zero hw) w6 b1.1 h7 hm hL).bnd (fun y hy => ?_)
    obtain ⟨s1, D', L', m', lv⟩ := hy
    have y7 : y.2.1 7 = hi 7 := s1 7 (by decide)
    refine (c_drive hN w6 b2.1 b3.1 (by rw [y7]; exact h7) (by rw [y7]; exact hS) hw.s30 m' lv.le).bnd (fun z hz => ?_)
    obtain ⟨d, l, dr, ez⟩ := hz
    rw [wp_some]
    have mk : Msk A.w t f H Lo := ⟨b1.1, b2.1, b3.1, fun x hx => ⟨fun q => ((b1.2 x).mp q).2, fun q => (b1.2 x).mpr ⟨hx, q⟩⟩, fun x hx => ⟨fun q => ((b2.2 x).mp q).2, fun q => (b2.2 x).mpr ⟨hx, q⟩⟩, fun x hx => ⟨fun q => ((b3.2 x).mp q).2, fun q => (b3.2 x).mpr ⟨hx, q⟩⟩⟩
    have r := way_masks hw mk lv dr
    rw [r.1, r.2] at ez
    dsimp only
    rw [ez]
    refine ⟨Sam.trans s1 (((Sam.refl [7] _).wr (by decide)).wr (by decide)) _ (by decide) (by decide), ?_, ?_, ?_, ?_⟩
    · rw [wr_k (by omega), wr_k (by omega), y7]; exact h7
    · rw [wr_k (by omega), wr_k (by omega), y7]; exact hS
    · rw [wr_k (by omega), wr_s]
    · rw [wr_s]
