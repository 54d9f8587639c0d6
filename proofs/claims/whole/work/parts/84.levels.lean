/-! levels -/
/-- lamp l's cell is in the sheet -/
def lvI (f : Int32) (sz l : Nat) : Prop := 0 ≤ f.toInt + l ∧ f.toInt + l < sz
def lvC (f : Int32) (l : Nat) : Nat := (f.toInt + l).toNat
theorem lv_add {f : Int32} {l : Nat} (hl : l < 16) : (f + nI l).toInt = f.toInt + l ∨ ((f + nI l).toInt < 0 ∧ 2147483648 ≤ f.toInt + l) := by
  have h1 := Int32.toInt_lt f
  have h2 := Int32.le_toInt f
  have e : (nI l).toInt = l := nI_toInt (by omega)
  by_cases c : f.toInt + l < 2147483648
  · left
    rw [fb_addI (by rw [e]; omega) (by rw [e]; omega), e]
  · right
    refine ⟨?_, by omega⟩
    rw [Int32.toInt_add, e, Int.bmod_def]
    split <;> omega
theorem lv_rg {f : Int32} {l sz : Nat} (hl : l < 16) (hs : sz ≤ 40) : rg (f + nI l) 0 sz = true ↔ lvI f sz l := by
  rw [rg_iff]
  unfold lvI
  rcases lv_add (f := f) hl with h | h <;> omega
theorem lv_nI {f : Int32} {l sz : Nat} (hl : l < 16) (hs : sz ≤ 40) (h : lvI f sz l) : f + nI l = nI (lvC f l) ∧ lvC f l < sz := by
  obtain ⟨h1, h2⟩ := h
  have e : lvC f l < sz := by unfold lvC; omega
  refine ⟨?_, e⟩
  apply Int32.toInt_inj.mp
  rw [nI_toInt (by omega)]
  unfold lvC
  rcases lv_add (f := f) hl with h | h <;> omega
theorem lv_64 {f : Int32} {l : Nat} (hl : l < 16) : (f.toInt64 + (nI l).toInt64).toInt = f.toInt + l := by
  have h1 := Int32.toInt_lt f
  have h2 := Int32.le_toInt f
  have e : (nI l).toInt = l := nI_toInt (by omega)
  rw [Int64.toInt_add, Int32.toInt_toInt64, Int32.toInt_toInt64, e, Int.bmod_def]
  split <;> omega
theorem lv_32 (f g : Int32) : (f.toInt64 + g.toInt64).toInt32 = f + g := by
  rw [Int64.toInt32_add, Int32.toInt32_toInt64, Int32.toInt32_toInt64]
/-- how the first walk ends at lamp m -/
def LvE (A : St) (f : Int32) (k m : Nat) (r : Nat) : Prop := (m = A.n ∧ r = 0) ∨ (m < A.n ∧ ¬ lvI f (A.size k) m ∧ r = 1) ∨ (m < A.n ∧ lvI f (A.size k) m ∧ rg (A.cel k (lvC f m)) 0 16 = false ∧ r = 2)
def LvG (A : St) (f : Int32) (k m : Nat) : Prop := ∀ l, l < m → lvI f (A.size k) l ∧ rg (A.cel k (lvC f l)) 0 16 = true
theorem lv_ex (A : St) (f : Int32) (k : Nat) : ∃ m r, m ≤ A.n ∧ LvG A f k m ∧ LvE A f k m r := by
  by_cases all : LvG A f k A.n
  · exact ⟨A.n, 0, Nat.le_refl _, all, Or.inl ⟨rfl, rfl⟩⟩
  · have ex : ∃ l, l < A.n ∧ ¬ (lvI f (A.size k) l ∧ rg (A.cel k (lvC f l)) 0 16 = true) := Classical.byContradiction (fun h => all (fun l hl => Classical.byContradiction (fun q => h ⟨l, hl, q⟩)))
    obtain ⟨m, ⟨h1, h2⟩, h3⟩ := least_of ex
    have g : LvG A f k m := fun l hl => Classical.byContradiction (fun q => by have := h3 l ⟨by omega, q⟩; omega)
    by_cases c : lvI f (A.size k) m
    · refine ⟨m, 2, by omega, g, Or.inr (Or.inr ⟨h1, c, ?_, rfl⟩)⟩
      cases e : rg (A.cel k (lvC f m)) 0 16 with
      | false => rfl
      | true => exact absurd ⟨c, e⟩ h2
    · exact ⟨m, 1, by omega, g, Or.inr (Or.inl ⟨h1, c, rfl⟩)⟩
theorem c_lv1 {N : Nat} (hN : 70000 ≤ N) {A : St} (hw : WF A) {f : Int32} {k m r : Nat} (hk : k < 4) (has : A.has k = 1) (hm : m ≤ A.n) (g : LvG A f k m) (e : LvE A f k m r) {hi : HI} {hl : HL} (hR : RC A hi) : wp (lpN (fun s => B_LW_levels_52 N f (57 + 2 * k) s.1 s.2.1 s.2.2) N (0, hi, hl)) (fun z => z = (r, nI m, hi, hl)) := by
  have n16 := hw.n16
  have sz40 := hw.size k hk
  have hz : hi (57 + 2 * k) 1 = nI (A.size k) := by have := (hR.sh k hk).z; rw [if_pos has] at this; exact this
  have hc := (hR.sh k hk).c has
  have step : ∀ l, l < A.n → lvI f (A.size k) l → B_LW_levels_52 N f (57 + 2 * k) (nI l) hi hl = if rg (A.cel k (lvC f l)) 0 16 = true then some (.inl (nI l + 1, hi, hl)) else some (.inr (2, nI l, hi, hl)) := by
    intro l hl1 h
    obtain ⟨q1, q2⟩ := lv_nI (by omega) sz40 h
    unfold B_LW_levels_52
    rw [hR.bd.n, if_neg (nI_ge hl1 (by omega)), if_pos (gS_4 k hk).1, e_isCell hk hz sz40, (lv_rg (by omega) sz40).mpr h]
    simp only [Option.bind_some, b2i_tt, if_false]
    rw [q1, nI_clamp (by omega), if_neg (nI_in' (by omega) (by omega)), e_isLevel, show 57 + 2 * k + 1 = 58 + 2 * k by omega, hc _ (by omega)]
    simp only [Option.bind_some]
    cases rg (A.cel k (lvC f l)) 0 16 <;> rfl
  refine wp_for m (fun i s => s = (nI i, hi, hl)) ?_ ?_ (i := 0) (Nat.zero_le _) rfl (by omega)
  · rintro i s hi1 rfl
    obtain ⟨g1, g2⟩ := g i hi1
    dsimp only
    rw [step i (by omega) g1, if_pos g2, wp_some]
    show (_, _, _) = (_, _, _)
    rw [nI_1]
  · rintro s rfl
    dsimp only
    rcases e with ⟨e1, e2⟩ | ⟨e1, e2, e3⟩ | ⟨e1, e2, e3, e4⟩
    · unfold B_LW_levels_52
      refine wp_pos (by rw [hR.bd.n, e1]; exact nI_le (Nat.le_refl _) (by omega)) ?_
      rw [wp_some, e2]
    · have : rg (f + nI m) 0 (A.size k) = false := by
        cases h : rg (f + nI m) 0 (A.size k) with
        | false => rfl
        | true => exact absurd ((lv_rg (by omega) sz40).mp h) e2
      unfold B_LW_levels_52
      refine wp_neg (by rw [hR.bd.n]; exact nI_ge e1 (by omega)) (wp_pos (gS_4 k hk).1 ?_)
      rw [e_isCell hk hz sz40, this]
      simp only [Option.bind_some, b2i_f, if_true]
      rw [wp_some, e3]
    · have ne : ¬ rg (A.cel k (lvC f m)) 0 16 = true := by rw [e3]; decide
      rw [step m e1 e2, if_neg ne, wp_some, e4]
theorem m_lv1 {N : Nat} (hN : 70000 ≤ N) {A : St} (hw : WF A) {f : Int32} {k m r : Nat} (hk : k < 4) (has : A.has k = 1) (hm : m ≤ A.n) (g : LvG A f k m) (e : LvE A f k m r) {hi : HI} {hl : HL} (hR : RM A hi) : wp (lpN (fun s => B_MD_levels_42 N (nI k) f s.1 s.2.1 s.2.2) N (0, hi, hl)) (fun z => z = (r, nI m, hi, hl)) := by
  have n16 := hw.n16
  have sz40 := hw.size k hk
  have hz : hi 93 k = nI (A.size k) := hR.sz k hk has
  have hc := hR.ce k hk has
  have ck : (nI k).toNatClampNeg = k := nI_clamp (by omega)
  have z0 : (0 : Int64).toInt = 0 := by decide
  have zs : (nI (A.size k)).toInt64.toInt = A.size k := by rw [Int32.toInt_toInt64, nI_toInt (by omega)]
  have step : ∀ l, l < A.n → lvI f (A.size k) l → B_MD_levels_42 N (nI k) f (nI l) hi hl = if rg (A.cel k (lvC f l)) 0 16 = true then some (.inl (nI l + 1, hi, hl)) else some (.inr (2, nI l, hi, hl)) := by
    intro l hl1 h
    obtain ⟨q1, q2⟩ := lv_nI (by omega) sz40 h
    have a1 : ¬ lg_cmp (f.toInt64 + (nI l).toInt64) 0 < 0 := by rw [cmp_lt, lv_64 (by omega), z0]; have := h.1; omega
    have a2 : lg_cmp (f.toInt64 + (nI l).toInt64) (nI (A.size k)).toInt64 < 0 := by rw [cmp_lt, lv_64 (by omega), zs]; exact h.2
    have a3 : (40 : Int32) * nI k + nI (lvC f l) = nI (40 * k + lvC f l) := by rw [lit_I, pk_mul, nI_add]
    unfold B_MD_levels_42
    rw [hR.bd.n, if_neg (nI_ge hl1 (by omega)), if_neg a1, ck, hz, if_neg (nI_in' (by omega) (by omega)), if_pos a2, lv_32, q1, a3, nI_clamp (by omega), if_neg (nI_in' (by omega) (by omega)), hc _ (by omega), e_in32 N _ _ _ hi hl (x := 0) (y := 16) (ltL64 0 (by decide)) (ltL64 15 (by decide))]
    simp only [Option.bind_some]
    cases rg (A.cel k (lvC f l)) 0 16 <;> rfl
  refine wp_for m (fun i s => s = (nI i, hi, hl)) ?_ ?_ (i := 0) (Nat.zero_le _) rfl (by omega)
  · rintro i s hi1 rfl
    obtain ⟨g1, g2⟩ := g i hi1
    dsimp only
    rw [step i (by omega) g1, if_pos g2, wp_some]
    show (_, _, _) = (_, _, _)
    rw [nI_1]
  · rintro s rfl
    dsimp only
    rcases e with ⟨e1, e2⟩ | ⟨e1, e2, e3⟩ | ⟨e1, e2, e3, e4⟩
    · unfold B_MD_levels_42
      refine wp_pos (by rw [hR.bd.n, e1]; exact nI_le (Nat.le_refl _) (by omega)) ?_
      rw [wp_some, e2]
    · unfold B_MD_levels_42
      refine wp_neg (by rw [hR.bd.n]; exact nI_ge e1 (by omega)) ?_
      by_cases c : f.toInt + m < 0
      · refine wp_pos (by rw [cmp_lt, lv_64 (by omega), z0]; exact c) ?_
        rw [wp_some, e3]
      · refine wp_neg (by rw [cmp_lt, lv_64 (by omega), z0]; exact c) ?_
        rw [ck, hz]
        refine wp_neg (nI_in' (by omega) (by omega)) (wp_neg ?_ ?_)
        · rw [cmp_lt, lv_64 (by omega), zs]; exact fun q => e2 ⟨by omega, q⟩
        · rw [wp_some, e3]
    · have ne : ¬ rg (A.cel k (lvC f m)) 0 16 = true := by rw [e3]; decide
      rw [step m e1 e2, if_neg ne, wp_some, e4]
