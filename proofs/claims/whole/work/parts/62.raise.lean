/-! rows of bits for all pictures -/
theorem with_eq : ∀ j, j < 6 → ∃ n, withT.getD j 0 = lN n ∧ n < 2 ^ 64 ∧ ∀ b, b < 64 → n.testBit b = b.testBit j
  | 0, _ => ⟨12297829382473034410, by decide, by decide, by decide +kernel⟩
  | 1, _ => ⟨14757395258967641292, by decide, by decide, by decide +kernel⟩
  | 2, _ => ⟨17361641481138401520, by decide, by decide, by decide +kernel⟩
  | 3, _ => ⟨18374966859414961920, by decide, by decide, by decide +kernel⟩
  | 4, _ => ⟨18446462603027742720, by decide, by decide, by decide +kernel⟩
  | 5, _ => ⟨18446744069414584320, by decide, by decide, by decide +kernel⟩
  | n + 6, h => absurd h (by omega)
theorem ra_1 : ∀ j, j < 6 → ∀ c, c < 64 → c.testBit j = true → c ||| 2 ^ j = c := by decide +kernel
theorem ra_2 : ∀ j, j < 6 → ∀ b, b < 64 → b.testBit j = false → b ||| 2 ^ j = b + 2 ^ j ∧ b + 2 ^ j < 64 := by decide +kernel
theorem ra_step {x w j : Nat} (hj : j < 6) (hx : x < 2 ^ 64) (hw : ∀ b, b < 64 → w.testBit b = b.testBit j) : sdf x w * 2 ^ (2 ^ j) < 2 ^ 64 ∧ ∀ c, c < 64 → (((x &&& w) ||| sdf x w * 2 ^ (2 ^ j)).testBit c = true ↔ ∃ b, b < 64 ∧ x.testBit b = true ∧ b ||| 2 ^ j = c) := by
  have sb : ∀ b, (sdf x w).testBit b = true ↔ b < 64 ∧ x.testBit b = true ∧ b.testBit j = false := fun b => by
    rw [sdf_bit]
    constructor
    · intro h
      have h' : x.testBit b = true := by revert h; cases x.testBit b <;> simp
      have hb := bit_lt hx h'
      rw [h', hw b hb] at h
      exact ⟨hb, h', by simpa using h⟩
    · rintro ⟨h1, h2, h3⟩
      rw [h2, hw b h1, h3]; rfl
  have tb : ∀ c, (sdf x w * 2 ^ (2 ^ j)).testBit c = true ↔ ∃ b, b < 64 ∧ x.testBit b = true ∧ b.testBit j = false ∧ b + 2 ^ j = c := fun c => by
    rw [Nat.testBit_mul_two_pow, Bool.and_eq_true, decide_eq_true_iff, sb]
    constructor
    · rintro ⟨h1, h2, h3, h4⟩
      exact ⟨c - 2 ^ j, h2, h3, h4, by omega⟩
    · rintro ⟨b, h2, h3, h4, rfl⟩
      refine ⟨by omega, ?_⟩
      rw [show b + 2 ^ j - 2 ^ j = b by omega]
      exact ⟨h2, h3, h4⟩
  refine ⟨?_, fun c hc => ?_⟩
  · refine Nat.lt_pow_two_of_testBit _ (fun i hi => ?_)
    cases e : (sdf x w * 2 ^ (2 ^ j)).testBit i with
    | false => rfl
    | true =>
      obtain ⟨b, h1, h2, h3, h4⟩ := (tb i).mp e
      have := (ra_2 j hj b h1 h3).2
      omega
  · rw [Nat.testBit_or, Bool.or_eq_true, tb, Nat.testBit_and, Bool.and_eq_true, hw c hc]
    constructor
    · rintro (⟨h1, h2⟩ | ⟨b, h1, h2, h3, h4⟩)
      · exact ⟨c, hc, h1, ra_1 j hj c hc h2⟩
      · exact ⟨b, h1, h2, by rw [(ra_2 j hj b h1 h3).1, h4]⟩
    · rintro ⟨b, h1, h2, h3⟩
      cases e : b.testBit j with
      | true =>
        have := ra_1 j hj b h1 e
        have bc : b = c := by rw [← h3, this]
        subst bc
        exact Or.inl ⟨h2, e⟩
      | false =>
        exact Or.inr ⟨b, h1, h2, e, by rw [← (ra_2 j hj b h1 e).1, h3]⟩
theorem c_raise {N : Nat} (hN : 70000 ≤ N) {x u : Nat} {hi : HI} {hl : HL} (hx : x < 2 ^ 64) (hu : u < 64) : wp (f_Unions_raise N (lN x) (nI u) hi hl) (fun o => o.2 = (hi, hl) ∧ ∃ y, o.1 = lN y ∧ y < 2 ^ 64 ∧ ∀ c, c < 64 → (y.testBit c = true ↔ ∃ b, b < 64 ∧ x.testBit b = true ∧ b ||| u = c)) := by
  unfold f_Unions_raise
  refine wp.bnd (P := fun z => z.2 = (hi, hl) ∧ ∃ y, z.1 = lN y ∧ y < 2 ^ 64 ∧ ∀ c, c < 64 → (y.testBit c = true ↔ ∃ b, b < 64 ∧ x.testBit b = true ∧ b ||| u = c)) ?_ (fun z hz => by rw [wp_some]; exact hz)
  refine wp_for 6 (fun k s => s.2.1 = nI k ∧ s.2.2 = (hi, hl) ∧ ∃ y, s.1 = lN y ∧ y < 2 ^ 64 ∧ ∀ c, c < 64 → (y.testBit c = true ↔ ∃ b, b < 64 ∧ x.testBit b = true ∧ b ||| (u % 2 ^ k) = c)) ?_ ?_ (i := 0) (by omega) ⟨rfl, rfl, x, rfl, hx, fun c hc => ?_⟩ (by omega)
  · rintro k ⟨v, q, g⟩ hk ⟨rfl, hg, y, rfl, y1, y2⟩
    dsimp only at hg
    subst hg
    unfold B_Unions_raise_5 J_Unions_raise_50
    dsimp only
    have ck : (nI k).toNatClampNeg = k := nI_clamp (by omega)
    refine wp_neg (nI_ge (b := 6) hk (by omega)) ?_
    have um : u % 2 ^ (k + 1) = u % 2 ^ k ||| (if u.testBit k = true then 2 ^ k else 0) := by
      refine Nat.eq_of_testBit_eq (fun i => ?_)
      rw [Nat.testBit_or, Nat.testBit_mod_two_pow, Nat.testBit_mod_two_pow]
      by_cases c1 : i = k
      · subst c1
        rw [decide_eq_true (show i < i + 1 by omega), decide_eq_false (Nat.lt_irrefl i)]
        cases e : u.testBit i <;> simp
      · have c2 : decide (i < k + 1) = decide (i < k) := decide_eq_decide.mpr (by omega)
        rw [c2]
        split
        · rw [Nat.testBit_two_pow, decide_eq_false (show ¬ k = i from fun q => c1 q.symm), Bool.or_false]
        · rw [Nat.zero_testBit, Bool.or_false]
    by_cases c : u.testBit k = false
    · refine wp_pos ((ni_bit (by omega) (by omega)).mpr c) ?_
      rw [wp_some]
      refine ⟨nI_1 k, rfl, y, rfl, y1, ?_⟩
      rw [um, c]
      simpa using y2
    · have c' : u.testBit k = true := by simpa using c
      obtain ⟨w, w1, w2, w3⟩ := with_eq k hk
      refine wp_neg (fun q => c ((ni_bit (by omega) (by omega)).mp q)) (wp_neg (nI_in (by omega) (by omega)) (wp_neg (nI_in (by omega) (by omega)) ?_))
      rw [wp_some, ck, w1]
      obtain ⟨s1, s2⟩ := ra_step hk y1 w3
      have p6 : 2 ^ k ≤ 2 ^ 5 := Nat.pow_le_pow_right (by omega) (by omega)
      have e1 : (1 : Int32) <<< (nI k &&& 31) = nI (2 ^ k) := ni_one (by omega)
      have sd : sdf y w < 2 ^ 64 := sdf_lt y1
      have ad : y &&& w < 2 ^ 64 := Nat.lt_of_le_of_lt Nat.and_le_left y1
      refine ⟨nI_1 k, rfl, (y &&& w) ||| sdf y w * 2 ^ (2 ^ k), ?_, Nat.or_lt_two_pow ad s1, fun c hc => ?_⟩
      · dsimp only
        rw [lN_andnot, e1, wb_shl _ (by omega), fb_andL, fb_orL]
      · rw [s2 c hc, um, if_pos c']
        constructor
        · rintro ⟨b, b1, b2, b3⟩
          obtain ⟨b', d1, d2, d3⟩ := (y2 b b1).mp b2
          exact ⟨b', d1, d2, by rw [← Nat.or_assoc, d3, b3]⟩
        · rintro ⟨b, b1, b2, b3⟩
          have ml : u % 2 ^ k < 2 ^ 6 := Nat.lt_of_le_of_lt (Nat.mod_le _ _) hu
          have bl : b ||| u % 2 ^ k < 64 := Nat.or_lt_two_pow (n := 6) b1 ml
          exact ⟨b ||| u % 2 ^ k, bl, (y2 _ bl).mpr ⟨b, b1, b2, rfl⟩, by rw [Nat.or_assoc]; exact b3⟩
  · rintro ⟨v, q, g⟩ ⟨rfl, hg, y, rfl, y1, y2⟩
    dsimp only at hg
    subst hg
    unfold B_Unions_raise_5
    dsimp only
    refine wp_pos (nI_le (a := 6) (b := 6) (by omega) (by omega)) ?_
    rw [wp_some]
    refine ⟨rfl, y, rfl, y1, ?_⟩
    rw [show u % 2 ^ 6 = u from Nat.mod_eq_of_lt hu] at y2
    exact y2
  · rw [Nat.pow_zero, Nat.mod_one]
    constructor
    · intro h; exact ⟨c, hc, h, Nat.or_zero c⟩
    · rintro ⟨b, b1, b2, b3⟩
      rw [Nat.or_zero] at b3
      rw [← b3]; exact b2
/-- from off on the words hold the pictures with X -/
def Row (hl : HL) (off : Nat) (X : Nat → Prop) : Prop := ∃ w : Nat → Nat, ∀ j, j < 1024 → w j < 2 ^ 64 ∧ hl 41 (off + j) = lN (w j) ∧ ∀ b, b < 64 → ((w j).testBit b = true ↔ X (1024 * b + j))
theorem or_split {b l o : Nat} (hl : l < 1024) : (1024 * b + l) ||| o = 1024 * (b ||| o / 1024) + (l ||| o % 1024) := by
  have ho : o = 1024 * (o / 1024) + o % 1024 := by omega
  have hm : o % 1024 < 2 ^ 10 := Nat.mod_lt _ (by omega)
  have hlm : l ||| o % 1024 < 2 ^ 10 := Nat.or_lt_two_pow hl hm
  refine Nat.eq_of_testBit_eq (fun i => ?_)
  have e1 := Nat.testBit_two_pow_mul_add b (i := 10) hl i
  have e2 := Nat.testBit_two_pow_mul_add (o / 1024) (i := 10) hm i
  have e3 := Nat.testBit_two_pow_mul_add (b ||| o / 1024) (i := 10) hlm i
  rw [show (2 : Nat) ^ 10 = 1024 from rfl] at e1 e2 e3
  rw [← ho] at e2
  rw [Nat.testBit_or, e1, e2, e3]
  split
  · rw [Nat.testBit_or]
  · rw [Nat.testBit_or]
