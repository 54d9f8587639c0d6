/-! the fewest sets for a picture -/
section
variable {A : St}
theorem IsSet.lt (hw : WF A) {s : Nat} (h : IsSet A s) : s < 2 ^ A.n := by
  obtain ⟨t, _, rfl⟩ := h
  exact GM_lt A A.st t
theorem IsSet.zero (hw : WF A) : IsSet A 0 := ⟨0, Nat.pow_pos (by omega), Gt_0 hw⟩
theorem Uni.lt (hw : WF A) : ∀ {k p : Nat}, Uni A k p → p < 2 ^ A.n := by
  intro k
  induction k with
  | zero => intro p h; have h' : p = 0 := h; subst h'; exact Nat.two_pow_pos _
  | succ k ih =>
    rintro p ⟨q, s, h1, h2, rfl⟩
    exact Nat.or_lt_two_pow (ih h1) (h2.lt hw)
theorem Uni.succ (hw : WF A) {k p : Nat} (h : Uni A k p) : Uni A (k + 1) p := ⟨p, 0, h, IsSet.zero hw, (Nat.or_zero p).symm⟩
theorem Uni.mono (hw : WF A) {k j p : Nat} (h : Uni A k p) (hj : k ≤ j) : Uni A j p := by
  obtain ⟨d, rfl⟩ : ∃ d, j = k + d := ⟨j - k, by omega⟩
  clear hj
  induction d with
  | zero => exact h
  | succ d ih => exact ih.succ hw
theorem PC_lt {n p q : Nat} (h : ∀ i, q.testBit i = true → p.testBit i = true) {i : Nat} (hi : i < n) (h1 : p.testBit i = true) (h2 : q.testBit i = false) : PC n q < PC n p := by
  unfold PC
  have e : fb_ct (fun i => p.testBit i) n = fb_ct (fun i => q.testBit i || (p.testBit i && !q.testBit i)) n := fb_ct_cong (fun k _ => by
    cases a : q.testBit k with
    | false => cases p.testBit k <;> rfl
    | true => rw [h k a]; rfl)
  rw [e, fb_ct_or (fun k _ => by cases q.testBit k <;> simp)]
  have : 0 < fb_ct (fun i => p.testBit i && !q.testBit i) n := fb_ct_pos.mpr ⟨i, hi, by rw [h1, h2]; rfl⟩
  exact Nat.lt_add_of_pos_right this
theorem ne_bit {p q : Nat} (h : p ≠ q) : ∃ i, p.testBit i ≠ q.testBit i := by
  by_cases k : ∃ i, p.testBit i ≠ q.testBit i
  · exact k
  · exact absurd (Nat.eq_of_testBit_eq (fun i => by
      by_cases e : p.testBit i = q.testBit i
      · exact e
      · exact absurd ⟨i, e⟩ k)) h
theorem Uni.few (hw : WF A) : ∀ {k p : Nat}, Uni A k p → ∃ j, j ≤ PC A.n p ∧ Uni A j p := by
  intro k
  induction k with
  | zero => intro p h; exact ⟨0, Nat.zero_le _, h⟩
  | succ k ih =>
    rintro p ⟨q, s, h1, h2, rfl⟩
    obtain ⟨j, h3, h4⟩ := ih h1
    by_cases e : q ||| s = q
    · rw [e]; exact ⟨j, h3, h4⟩
    · obtain ⟨i, hi⟩ := ne_bit e
      refine ⟨j + 1, ?_, q, s, h4, h2, rfl⟩
      have hb : (q ||| s).testBit i = true ∧ q.testBit i = false := by
        rw [Nat.testBit_or] at hi ⊢
        cases a : q.testBit i <;> cases b : s.testBit i <;> simp_all
      have := PC_lt (n := A.n) (p := q ||| s) (q := q) (fun i hi => by rw [Nat.testBit_or, hi]; rfl) (bit_lt (Nat.or_lt_two_pow (Uni.lt hw h1) (h2.lt hw)) hb.1) hb.1 hb.2
      omega
theorem Few_iff (hw : WF A) {k p : Nat} (hk : k < 100) : Uni A k p ↔ Few A p ≤ k := by
  unfold Few
  constructor
  · intro h
    exact (lst_spec ⟨k, h⟩).2 k h
  · intro h
    by_cases e : ∃ k, Uni A k p
    · exact (lst_spec (z := 100) e).1.mono hw h
    · rw [lst_none e] at h; omega
theorem Few_cases (hw : WF A) (p : Nat) : (Few A p = 100 ∧ ∀ k, ¬ Uni A k p) ∨ (Few A p ≤ A.n ∧ Uni A (Few A p) p) := by
  by_cases e : ∃ k, Uni A k p
  · right
    obtain ⟨k, h⟩ := e
    obtain ⟨j, h1, h2⟩ := h.few hw
    have h3 : PC A.n p ≤ A.n := fb_ct_le _ _
    have s := lst_spec (p := fun k => Uni A k p) (z := 100) ⟨k, h⟩
    exact ⟨Nat.le_trans (s.2 j h2) (by omega), s.1⟩
  · left
    exact ⟨lst_none e, fun k h => e ⟨k, h⟩⟩
theorem Few_0 (hw : WF A) {p : Nat} : Few A p = 0 ↔ p = 0 := by
  constructor
  · intro h
    exact (Few_iff hw (k := 0) (by omega)).mpr (by omega)
  · intro h
    have := (Few_iff hw (k := 0) (p := p) (by omega)).mp h
    omega
theorem Few_le (hw : WF A) (p : Nat) : Few A p ≤ 100 := by
  have := hw.n16
  rcases Few_cases hw p with h | h <;> omega
end
/-- the row of the fewest in the midst of a level -/
def FV (A : St) (m : Nat) (P : Nat → Prop) (q v : Nat) : Prop := (Few A q ≤ m ∧ v = Few A q) ∨ (m < Few A q ∧ ((P q ∧ v = m + 1) ∨ (¬ P q ∧ v = 100)))
theorem FV.cong {A : St} {m q v : Nat} {P P' : Nat → Prop} (h : FV A m P q v) (e : P q ↔ P' q) : FV A m P' q v := by
  unfold FV at *
  rw [← e]; exact h
theorem FV.lev {A : St} (hw : WF A) {m q v : Nat} (hm : m < 50) (h : FV A m (fun q => ∃ p s, p < 2 ^ A.n ∧ Few A p = m ∧ IsSet A s ∧ q = p ||| s) q v) : FV A (m + 1) (fun _ => False) q v := by
  rcases h with ⟨h1, h2⟩ | ⟨h1, ⟨⟨p, s, a1, a2, a3, a4⟩, h2⟩ | ⟨h3, h2⟩⟩
  · exact Or.inl ⟨by omega, h2⟩
  · have : Uni A (m + 1) q := ⟨p, s, (Few_iff hw (by omega)).mpr (by omega), a3, a4⟩
    have := (Few_iff hw (by omega)).mp this
    exact Or.inl ⟨this, by omega⟩
  · refine Or.inr ⟨?_, Or.inr ⟨id, h2⟩⟩
    refine Nat.lt_of_not_le (fun c => h3 ?_)
    obtain ⟨p, s, b1, b2, b3⟩ := (Few_iff hw (k := m + 1) (by omega)).mpr c
    have b4 := (Few_iff hw (by omega)).mp b1
    refine ⟨p, s, Uni.lt hw b1, ?_, b2, b3⟩
    refine Nat.le_antisymm b4 (Nat.le_of_not_lt (fun d => ?_))
    have : Uni A (Few A p + 1) q := ⟨p, s, (Few_iff hw (by omega)).mpr (Nat.le_refl _), b2, b3⟩
    have := (Few_iff hw (by omega)).mp this
    omega
/-! the reference's table -/
abbrev Sv (A : St) (τ S : Nat) (sv : Nat → Nat) (b : Nat → Int32) : Prop :=
  (S ≤ τ) ∧
  (∀ k, k < S → b k = nI (sv k) ∧ ∃ t, t < τ ∧ Gt A t = sv k) ∧
  (∀ k j, k < j → j < S → sv k ≠ sv j) ∧
  (∀ t, t < τ → ∃ k, k < S ∧ sv k = Gt A t)
theorem Sv.le {A : St} {τ S : Nat} {sv : Nat → Nat} {b : Nat → Int32} (h_ : Sv A τ S sv b) : S ≤ τ := h_.1
theorem Sv.is {A : St} {τ S : Nat} {sv : Nat → Nat} {b : Nat → Int32} (h_ : Sv A τ S sv b) : ∀ k, k < S → b k = nI (sv k) ∧ ∃ t, t < τ ∧ Gt A t = sv k := h_.2.1
theorem Sv.ne {A : St} {τ S : Nat} {sv : Nat → Nat} {b : Nat → Int32} (h_ : Sv A τ S sv b) : ∀ k j, k < j → j < S → sv k ≠ sv j := h_.2.2.1
theorem Sv.all {A : St} {τ S : Nat} {sv : Nat → Nat} {b : Nat → Int32} (h_ : Sv A τ S sv b) : ∀ t, t < τ → ∃ k, k < S ∧ sv k = Gt A t := h_.2.2.2
theorem m_isNewSet {N : Nat} (hN : 70000 ≤ N) {hi : HI} {hl : HL} {S v : Nat} {sv : Nat → Nat} (hS : hi 65 15 = nI S) (h729 : S ≤ 729) (hv : v < 2 ^ 31) (h76 : ∀ k, k < S → hi 76 k = nI (sv k) ∧ sv k < 2 ^ 31) : wp (f_MD_isNewSet N (nI v) hi hl) (fun o => o.2.1 = hi ∧ ((o.1 = 1 ∧ ∀ k, k < S → sv k ≠ v) ∨ (o.1 = 0 ∧ ∃ k, k < S ∧ sv k = v))) := by
  unfold f_MD_isNewSet
  refine wp.bnd (P := fun z => z.2.1 = hi ∧ ((z.1 = 1 ∧ ∀ k, k < S → sv k ≠ v) ∨ (z.1 = 0 ∧ ∃ k, k < S ∧ sv k = v))) ?_ (fun z hz => ?_)
  · refine wp_for S (fun i s => s.2.1 = nI i ∧ s.2.2.1 = hi ∧ ((s.1 = 1 ∧ ∀ k, k < i → sv k ≠ v) ∨ (s.1 = 0 ∧ ∃ k, k < S ∧ sv k = v))) ?_ ?_ (i := 0) (Nat.zero_le _) ⟨rfl, rfl, Or.inl ⟨rfl, fun k hk => by omega⟩⟩ (by omega)
    · rintro i ⟨b, q, g, l⟩ hiS ⟨rfl, hg, h⟩
      unfold B_MD_isNewSet_4 J_MD_isNewSet_30 J_MD_isNewSet_31
      dsimp only at h hg ⊢
      subst hg
      refine wp_neg (by rw [hS]; exact nI_ge hiS (by omega)) ?_
      obtain ⟨e1, e2⟩ := h76 i hiS
      rcases h with ⟨rfl, h⟩ | ⟨rfl, h⟩
      · refine wp_neg (by decide) (wp_neg (nI_in (by omega) (by omega)) ?_)
        by_cases e : sv i = v
        · refine wp_pos (by rw [nI_clamp (by omega), e1, e]) ?_
          rw [wp_some]
          exact ⟨nI_1 i, rfl, Or.inr ⟨rfl, i, hiS, e⟩⟩
        · refine wp_neg (by rw [nI_clamp (by omega), e1]; exact fun q => e ((nI_eq e2 hv).mp q)) ?_
          rw [wp_some]
          refine ⟨nI_1 i, rfl, Or.inl ⟨rfl, fun k hk => ?_⟩⟩
          by_cases d : k = i
          · rw [d]; exact e
          · exact h k (by omega)
      · refine wp_pos rfl ?_
        rw [wp_some]
        exact ⟨nI_1 i, rfl, Or.inr ⟨rfl, h⟩⟩
    · rintro ⟨b, q, g, l⟩ ⟨rfl, hg, h⟩
      unfold B_MD_isNewSet_4
      dsimp only at h hg ⊢
      subst hg
      refine wp_pos (by rw [hS]; exact nI_le (Nat.le_refl _) (by omega)) ?_
      rw [wp_some]
      exact ⟨rfl, h⟩
  · obtain ⟨h1, h2⟩ := hz
    refine wp_pos ?_ (by rw [wp_some]; exact ⟨h1, h2⟩)
    rcases h2 with ⟨h, _⟩ | ⟨h, _⟩
    · exact Or.inr h
    · exact Or.inl h
abbrev Fr1 (A : St) (hi h1 : HI) (τ : Nat) : Prop :=
  (Sam [65, 71, 72, 73, 74, 75, 76] hi h1) ∧
  (∀ j, j ≠ 8 → j ≠ 12 → j ≠ 15 → h1 65 j = hi 65 j) ∧
  (h1 65 8 = 1) ∧
  (∀ t, t < τ → h1 74 t = nI (Gt A t)) ∧
  (∀ t, t < τ → h1 75 t = if Lst A A.st t = 0 then 1 else 0) ∧
  (∃ S sv, h1 65 15 = nI S ∧ Sv A τ S sv (h1 76))
theorem Fr1.s {A : St} {hi h1 : HI} {τ : Nat} (h_ : Fr1 A hi h1 τ) : Sam [65, 71, 72, 73, 74, 75, 76] hi h1 := h_.1
theorem Fr1.s65 {A : St} {hi h1 : HI} {τ : Nat} (h_ : Fr1 A hi h1 τ) : ∀ j, j ≠ 8 → j ≠ 12 → j ≠ 15 → h1 65 j = hi 65 j := h_.2.1
theorem Fr1.f {A : St} {hi h1 : HI} {τ : Nat} (h_ : Fr1 A hi h1 τ) : h1 65 8 = 1 := h_.2.2.1
theorem Fr1.g {A : St} {hi h1 : HI} {τ : Nat} (h_ : Fr1 A hi h1 τ) : ∀ t, t < τ → h1 74 t = nI (Gt A t) := h_.2.2.2.1
theorem Fr1.i {A : St} {hi h1 : HI} {τ : Nat} (h_ : Fr1 A hi h1 τ) : ∀ t, t < τ → h1 75 t = if Lst A A.st t = 0 then 1 else 0 := h_.2.2.2.2.1
theorem Fr1.v {A : St} {hi h1 : HI} {τ : Nat} (h_ : Fr1 A hi h1 τ) : ∃ S sv, h1 65 15 = nI S ∧ Sv A τ S sv (h1 76) := h_.2.2.2.2.2
theorem m_fresh1 {N : Nat} (hN : 70000 ≤ N) {A : St} (hw : WF A) {hi : HI} {hl : HL} (gb : GB A A.st 69 hi) : wp (lpN (fun s => B_MD_freshens_20 N s.1 s.2.1 s.2.2) N (0, wr (wr hi 65 8 1) 65 15 0, hl)) (fun o => Fr1 A hi o.1 (3 ^ A.w)) := by
  have w6 := hw.w6
  have p3 := pow3_le w6
  refine wp_for (3 ^ A.w) (fun τ s => s.1 = nI τ ∧ Fr1 A hi s.2.1 τ) ?_ ?_ (i := 0) (Nat.zero_le _) ⟨rfl, ((Sam.refl _ _).wr (by decide)).wr (by decide), fun j h1 _ h3 => (by dsimp only; rw [wr_k h3, wr_k h1]), (by dsimp only; rw [wr_k (by omega), wr_s]), fun t ht => by omega, fun t ht => by omega, 0, fun _ => 0, (by dsimp only; rw [wr_s]; rfl), Nat.le_refl _, fun k hk => by omega, fun k j _ hk => by omega, fun t ht => by omega⟩ (by omega)
  · rintro τ ⟨q, g, l⟩ ht ⟨rfl, sm, s65, sf, sg, si, S, sv, eS, hv⟩
    dsimp only at sm s65 sf sg si eS hv
    have gb1 : GB A A.st 69 g := by
      obtain ⟨a1, a2, a3, a4, a5, a6, a7, a8, a9, b1⟩ := gb
      refine ⟨?_, ?_, ?_, ?_, ?_, ?_, ?_, a8, a9, b1⟩
      · rw [s65 0 (by omega) (by omega) (by omega)]; exact a1
      · rw [s65 1 (by omega) (by omega) (by omega)]; exact a2
      · rw [s65 2 (by omega) (by omega) (by omega)]; exact a3
      · rw [sm 66 (by decide)]; exact a4
      · rw [sm 67 (by decide)]; exact a5
      · rw [sm 68 (by decide)]; exact a6
      · rw [sm 69 (by decide)]; exact a7
    unfold B_MD_freshens_20
    dsimp only
    rw [m_turnsOf gb1.w w6 hN, Option.bind_some]
    refine wp_neg (nI_ge ht (by omega)) ?_
    refine (m_glows hN hw ht gb1).bnd (fun x hx => ?_)
    obtain ⟨x1, x2, x3, x4⟩ := hx
    have ct : (nI τ).toNatClampNeg = τ := nI_clamp (by omega)
    refine wp_neg (nI_in (by omega) (by omega)) ?_
    rw [ct, x1]
    have gl := Gt_lt hw τ
    have sle := hv.le
    have rest : ∀ b : Int32, b = (if Lst A A.st τ = 0 then 1 else 0) → wp (J_MD_freshens_60 N (nI τ) b (nI τ) (wr x.2.1 74 τ (nI (GM A A.st τ))) x.2.2) (fun z => match z with
        | .inl s => s.1 = nI (τ + 1) ∧ Fr1 A hi s.2.1 (τ + 1)
        | .inr _ => False) := by
      intro b hb
      unfold J_MD_freshens_60 J_MD_freshens_99
      have b1 : b &&& 1 = b := fa_bool_and (by rw [hb]; split <;> simp)
      rw [b1]
      rw [ct]
      refine wp_neg (nI_in' (by omega) (by omega)) (wp_neg (nI_in' (by omega) (by omega)) ?_)
      generalize hy : wr (wr x.2.1 74 τ (nI (GM A A.st τ))) 75 τ b = y
      have y74 : ∀ t, t < τ + 1 → y 74 t = nI (Gt A t) := fun t h => by
        rw [← hy, wr_o (by omega), wr_i]
        by_cases e : t = τ
        · rw [if_pos e, e]; rfl
        · rw [if_neg e, x2 74 (by decide)]; exact sg t (by omega)
      have y75 : ∀ t, t < τ + 1 → y 75 t = if Lst A A.st t = 0 then 1 else 0 := fun t h => by
        rw [← hy, wr_i, wr_o (by omega)]
        by_cases e : t = τ
        · rw [if_pos e, e]; exact hb
        · rw [if_neg e, x2 75 (by decide)]; exact si t (by omega)
      have ys : Sam [65, 71, 72, 73, 74, 75, 76] hi y := by
        rw [← hy]
        exact ((Sam.trans sm x2 _ (by decide) (by decide)).wr (by decide)).wr (by decide)
      have y65 : ∀ j, j ≠ 12 → y 65 j = g 65 j := fun j hj => by rw [← hy, wr_o (by omega), wr_o (by omega)]; exact x3 j hj
      have y76 : y 76 = g 76 := by rw [← hy, wr_o (by omega), wr_o (by omega)]; exact x2 76 (by decide)
      have yS : y 65 15 = nI S := by rw [y65 15 (by omega)]; exact eS
      rw [y74 τ (by omega)]
      refine (m_isNewSet hN (sv := sv) yS (by omega) (by omega) (fun k hk => by
        rw [y76]
        obtain ⟨a1, t, a2, a3⟩ := hv.is k hk
        exact ⟨a1, by rw [← a3]; have := Gt_lt hw t; omega⟩)).bnd (fun z hz => ?_)
      obtain ⟨rfl, hz2⟩ := hz
      rcases hz2 with ⟨e1, new⟩ | ⟨e0, k, hk, old⟩
      · refine wp_neg (by rw [e1]; decide) (wp_neg (nI_in' (by omega) (by omega)) ?_)
        have cS : (nI S).toNatClampNeg = S := nI_clamp (by omega)
        have q15 : ∀ v, wr z.2.1 76 S v 65 15 = nI S := fun v => by rw [wr_o (by omega)]; exact yS
        rw [yS, cS, q15, y74 τ (by omega)]
        refine wp_neg (nI_in' (by omega) (by omega)) ?_
        rw [wp_some]
        refine ⟨nI_1 τ, (ys.wr (by decide)).wr (by decide), fun j h1 h2 h3 => ?_, ?_, fun t h => ?_, fun t h => ?_, S + 1, fun k => if k = S then Gt A τ else sv k, ?_, by omega, fun k hk => ?_, fun k j hkj hj => ?_, fun t h => ?_⟩
        · dsimp only
          rw [wr_k h3, wr_o (by omega), y65 j h2]; exact s65 j h1 h2 h3
        · dsimp only
          rw [wr_k (by omega), wr_o (by omega), y65 8 (by omega)]; exact sf
        · dsimp only
          rw [wr_o (by omega), wr_o (by omega)]; exact y74 t h
        · dsimp only
          rw [wr_o (by omega), wr_o (by omega)]; exact y75 t h
        · dsimp only
          rw [wr_s]; exact nI_1 S
        · dsimp only
          rw [wr_o (by omega), wr_i]
          by_cases e : k = S
          · rw [if_pos e, if_pos e]; exact ⟨rfl, τ, by omega, rfl⟩
          · rw [if_neg e, if_neg e, y76]
            obtain ⟨a1, t, a2, a3⟩ := hv.is k (by omega)
            exact ⟨a1, t, by omega, a3⟩
        · dsimp only
          rw [if_neg (by omega)]
          split
          · exact new k (by omega)
          · exact hv.ne k j hkj (by omega)
        · by_cases e : t = τ
          · exact ⟨S, by omega, by dsimp only; rw [if_pos rfl, e]⟩
          · obtain ⟨k, a1, a2⟩ := hv.all t (by omega)
            exact ⟨k, by omega, by dsimp only; rw [if_neg (by omega)]; exact a2⟩
      · refine wp_pos e0 ?_
        rw [wp_some]
        refine ⟨nI_1 τ, ys, fun j h1 h2 h3 => ?_, ?_, y74, y75, S, sv, yS, by omega, fun k hk => ?_, hv.ne, fun t h => ?_⟩
        · rw [y65 j h2]; exact s65 j h1 h2 h3
        · rw [y65 8 (by omega)]; exact sf
        · rw [y76]
          obtain ⟨a1, t, a2, a3⟩ := hv.is k hk
          exact ⟨a1, t, by omega, a3⟩
        · by_cases e : t = τ
          · exact ⟨k, hk, by rw [e]; exact old⟩
          · exact hv.all t (by omega)
    have w12 : wr x.2.1 74 τ (nI (GM A A.st τ)) 65 12 = nI (Lst A A.st τ) := by rw [wr_o (by omega)]; exact x4
    have ll : Lst A A.st τ ≤ 10000 := by rcases Lst_cases hw A.st τ with q | q <;> omega
    by_cases z : Lst A A.st τ = 0
    · refine wp_pos (by rw [w12, z]; rfl) ((rest 1 (by rw [if_pos z])).mono (fun z hz => by cases z <;> first | exact hz | exact hz.elim))
    · refine wp_neg (by rw [w12]; exact fun q => z ((nI_eq (b := 0) (by omega) (by omega)).mp q)) ((rest 0 (by rw [if_neg z])).mono (fun z hz => by cases z <;> first | exact hz | exact hz.elim))
  · rintro ⟨q, g, l⟩ ⟨rfl, fr⟩
    dsimp only at fr
    have g0 : g 65 0 = nI A.w := by rw [fr.s65 0 (by omega) (by omega) (by omega)]; exact gb.w
    unfold B_MD_freshens_20
    dsimp only
    rw [m_turnsOf g0 w6 hN, Option.bind_some]
    refine wp_pos (nI_le (Nat.le_refl _) (by omega)) ?_
    rw [wp_some]
    exact fr
