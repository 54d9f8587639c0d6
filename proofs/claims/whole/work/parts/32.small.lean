/-! the small functions -/
def b2i (b : Bool) : Int32 := if b then 1 else 0
/-- from a up to b, b left out -/
def rg (p : Int32) (a b : Nat) : Bool := decide ((a : Int) ≤ p.toInt ∧ p.toInt < b)
theorem rg_iff {p : Int32} {a b : Nat} : rg p a b = true ↔ ((a : Int) ≤ p.toInt ∧ p.toInt < b) := by unfold rg; exact decide_eq_true_iff
theorem rg_t {p : Int32} {a b : Nat} (hb : b ≤ 2 ^ 31) (h : rg p a b = true) : ∃ j, a ≤ j ∧ j < b ∧ p = nI j := by
  rw [rg_iff] at h
  obtain ⟨j, h1, rfl⟩ := nI_of (x := p) (by rw [fa_lt]; have : (0 : Int32).toInt = 0 := by decide
                                            omega)
  rw [nI_toInt h1] at h
  exact ⟨j, by omega, by omega, rfl⟩
theorem rg_nI {j a b : Nat} (hj : j < 2 ^ 31) : rg (nI j) a b = decide (a ≤ j ∧ j < b) := by
  unfold rg
  rw [nI_toInt hj]
  congr 1
  apply propext
  omega
theorem b2i_t : b2i true = 1 := rfl
theorem b2i_f : b2i false = 0 := rfl
theorem b2i_z (b : Bool) : (b2i b = 0) = (b = false) := by cases b <;> simp [b2i]
theorem b2i_01 (b : Bool) : (b2i b = 0 ∨ b2i b = 1) = True := by cases b <;> simp [b2i]
theorem cmp_lt (a b : Int64) : (lg_cmp a b < 0) ↔ a.toInt < b.toInt := by
  unfold lg_cmp
  by_cases h : a > b
  · have h' : b.toInt < a.toInt := (fa_lt64 b a).mp h
    rw [if_pos h]; exact ⟨fun q => absurd q (by decide), fun q => by omega⟩
  · have h' : ¬ b.toInt < a.toInt := fun q => h ((fa_lt64 b a).mpr q)
    rw [if_neg h]
    by_cases h2 : a = b
    · rw [if_pos h2]; exact ⟨fun q => absurd q (by decide), fun q => by rw [h2] at q; omega⟩
    · have h3 : ¬ a.toInt = b.toInt := fun q => h2 ((fa_eq64 a b).mpr q)
      rw [if_neg h2]; exact ⟨fun _ => by omega, fun _ => by decide⟩
theorem cmp_gt (a b : Int64) : (0 < lg_cmp a b) ↔ b.toInt < a.toInt := by
  unfold lg_cmp
  by_cases h : a > b
  · have h' : b.toInt < a.toInt := (fa_lt64 b a).mp h
    rw [if_pos h]; exact ⟨fun _ => h', fun _ => by decide⟩
  · have h' : ¬ b.toInt < a.toInt := fun q => h ((fa_lt64 b a).mpr q)
    rw [if_neg h]
    split <;> exact ⟨fun q => absurd q (by decide), fun q => absurd q h'⟩
theorem e_in (N : Nat) (a b c : Int64) (hi : HI) (hl : HL) : f_MD_in N a b c hi hl = some (b2i (decide (b.toInt ≤ a.toInt ∧ a.toInt ≤ c.toInt)), hi, hl) := by
  unfold f_MD_in J_MD_in_17 b2i
  simp only [cmp_lt, cmp_gt, decide_eq_true_eq]
  repeat' split
  all_goals first | rfl | (exfalso; omega)
theorem e_in32 (N : Nat) (p : Int32) (b c : Int64) (hi : HI) (hl : HL) {x y : Nat} (hb : b.toInt = x) (hc : c.toInt = (y : Int) - 1) : f_MD_in N p.toInt64 b c hi hl = some (b2i (rg p x y), hi, hl) := by
  rw [e_in, Int32.toInt_toInt64, hb, hc]
  unfold rg
  congr 3
  apply decide_eq_decide.mpr
  omega
theorem sub1_64 {x : Nat} (h : x < 2 ^ 31) : (Int32.toInt64 (nI x - 1)).toInt = (x : Int) - 1 := by
  rw [Int32.toInt_toInt64]
  have := fb_subI (x := nI x) (y := 1) (by rw [nI_toInt h]; have : (1 : Int32).toInt = 1 := by decide
                                           omega) (by rw [nI_toInt h]; have : (1 : Int32).toInt = 1 := by decide
                                                      omega)
  rw [this, nI_toInt h]
  rfl
theorem ltL64 (n : Nat) (h : n < 2 ^ 63) : (@OfNat.ofNat Int64 n Int64.instOfNat).toInt = n := by
  show (lN n).toInt = _
  rw [lN_ti (by omega), if_pos h]
theorem pow3_le {w : Nat} (h : w ≤ 6) : 3 ^ w ≤ 729 := Nat.le_trans (Nat.pow_le_pow_right (by decide) h) (by decide)
theorem pow2_le {n : Nat} (h : n ≤ 16) : 2 ^ n ≤ 65536 := Nat.le_trans (Nat.pow_le_pow_right (by decide) h) (by decide)
theorem powT_eq : ∀ w, w ≤ 6 → powT.getD w 0 = nI (3 ^ w) := by decide
/-! of the class -/
theorem e_isWire {N : Nat} {p : Int32} {hi : HI} {hl : HL} {w : Nat} (h : hi 1 0 = nI w) (hw : w < 2 ^ 31) : f_Board_isWire N p hi hl = some (b2i (rg p 0 w), hi, hl) := by
  unfold f_Board_isWire J_Board_isWire_16 b2i rg
  rw [h]
  simp (disch := omega) only [lit_I, fa_lt, fa_le, nI_toInt, decide_eq_true_eq]
  repeat' split
  all_goals first | rfl | (exfalso; omega)
theorem e_isLamp {N : Nat} {p : Int32} {hi : HI} {hl : HL} {w : Nat} (h : hi 1 2 = nI w) (hw : w < 2 ^ 31) : f_Board_isLamp N p hi hl = some (b2i (rg p 0 w), hi, hl) := by
  unfold f_Board_isLamp J_Board_isLamp_16 b2i rg
  rw [h]
  simp (disch := omega) only [lit_I, fa_lt, fa_le, nI_toInt, decide_eq_true_eq]
  repeat' split
  all_goals first | rfl | (exfalso; omega)
theorem e_isLine {N : Nat} {p : Int32} {hi : HI} {hl : HL} {w : Nat} (h : hi 47 0 = nI w) (hw : w < 2 ^ 31) : f_Script_isLine N p hi hl = some (b2i (rg p 0 w), hi, hl) := by
  unfold f_Script_isLine J_Script_isLine_16 b2i rg
  rw [h]
  simp (disch := omega) only [lit_I, fa_lt, fa_le, nI_toInt, decide_eq_true_eq]
  repeat' split
  all_goals first | rfl | (exfalso; omega)
theorem e_isLevel {N : Nat} {p : Int32} {hi : HI} {hl : HL} : f_LW_isLevel N p hi hl = some (b2i (rg p 0 16), hi, hl) := by
  unfold f_LW_isLevel J_LW_isLevel_14 b2i rg
  simp (disch := omega) only [lit_I, fa_lt, fa_le, nI_toInt, decide_eq_true_eq]
  repeat' split
  all_goals first | rfl | (exfalso; omega)
theorem e_isSheet {N : Nat} {p : Int32} {hi : HI} {hl : HL} : f_LW_isSheet N p hi hl = some (b2i (rg p 0 4), hi, hl) := by
  unfold f_LW_isSheet J_LW_isSheet_13 b2i rg
  simp (disch := omega) only [lit_I, fa_lt, fa_le, nI_toInt, decide_eq_true_eq]
  repeat' split
  all_goals first | rfl | (exfalso; omega)
theorem e_isLane {N : Nat} {p : Int32} {hi : HI} {hl : HL} : f_LW_isLane N p hi hl = some (b2i (rg p 0 3), hi, hl) := by
  unfold f_LW_isLane J_LW_isLane_13 b2i rg
  simp (disch := omega) only [lit_I, fa_lt, fa_le, nI_toInt, decide_eq_true_eq]
  repeat' split
  all_goals first | rfl | (exfalso; omega)
theorem e_isFrac {N : Nat} {p : Int32} {hi : HI} {hl : HL} : f_LW_isFractionPart N p hi hl = some (b2i (rg p 0 2), hi, hl) := by
  unfold f_LW_isFractionPart J_LW_isFractionPart_9 b2i rg
  simp (disch := omega) only [lit_I, fa_lt, fa_le, nI_toInt, decide_eq_true_eq, fa_eq]
  repeat' split
  all_goals first | rfl | (exfalso; omega)
theorem e_isTurn {N : Nat} {p : Int32} {hi : HI} {hl : HL} {w : Nat} (h : hi 1 0 = nI w) (hw : w ≤ 6) : f_Board_isTurn N p hi hl = some (b2i (rg p 0 (3 ^ w)), hi, hl) := by
  unfold f_Board_isTurn J_Board_isTurn_20 b2i rg
  have h3 := pow3_le hw
  rw [h, if_neg (nI_in (show w < 7 by omega) (by omega)), nI_clamp (by omega), powT_eq w hw]
  simp (disch := omega) only [lit_I, fa_lt, fa_le, nI_toInt, decide_eq_true_eq]
  repeat' split
  all_goals first | rfl | (exfalso; omega)
theorem all_lamps {n : Nat} (hn : n ≤ 16) : (((1 : Int32) <<< ((nI n) &&& 31)) : Int32) - 1 = nI (2 ^ n - 1) := by
  have h := ni_one (k := n) (by omega)
  have h1 : ((1 : Int32) <<< ((nI n) &&& 31)) = nI (2 ^ n) := h
  rw [h1]
  exact pk_sub (a := 2 ^ n) (b := 1) (Nat.two_pow_pos n)
theorem e_allLamps {N : Nat} {hi : HI} {hl : HL} {n : Nat} (h : hi 1 2 = nI n) (hn : n ≤ 16) : f_Board_allLamps N hi hl = some (nI (2 ^ n - 1), hi, hl) := by
  unfold f_Board_allLamps
  rw [h, all_lamps hn]
theorem e_isPicture {N : Nat} {p : Int32} {hi : HI} {hl : HL} {n : Nat} (h : hi 1 2 = nI n) (hn : n ≤ 16) : f_Board_isPicture N p hi hl = some (b2i (rg p 0 (2 ^ n)), hi, hl) := by
  unfold f_Board_isPicture J_Board_isPicture_16 b2i rg
  rw [e_allLamps h hn]
  have h2 := pow2_le hn
  have h3 := Nat.two_pow_pos n
  simp (disch := omega) only [lit_I, fa_lt, fa_le, nI_toInt, decide_eq_true_eq, Option.bind_some]
  repeat' split
  all_goals first | rfl | (exfalso; omega)
theorem e_isFaultC {N : Nat} {p : Int32} {hi : HI} {hl : HL} {n : Nat} (h : hi 1 2 = nI n) (hn : n ≤ 16) : f_Board_isFaultOrNone N p hi hl = some (b2i (decide (p = -4) || rg p 0 (2 * n)), hi, hl) := by
  unfold f_Board_isFaultOrNone J_Board_isFaultOrNone_20 J_Board_isFaultOrNone_24
  rw [h]
  by_cases h4 : p = -4
  · rw [if_pos h4]; simp [h4, b2i]
  · rw [if_neg h4]
    have e : (2 : Int32) * nI n = nI (2 * n) := pk_mul 2 n
    rw [e, decide_eq_false h4, Bool.false_or]
    unfold b2i rg
    simp (disch := omega) only [lit_I, fa_lt, fa_le, nI_toInt, decide_eq_true_eq]
    repeat' split
    all_goals first | rfl | (exfalso; omega)
theorem e_isPair {N : Nat} {p q : Int32} {hi : HI} {hl : HL} {w : Nat} (h : hi 1 0 = nI w) (hw : w < 2 ^ 31) : f_Board_isPair N p q hi hl = some (b2i (rg p 0 w && (rg q 0 w && decide (p ≠ q))), hi, hl) := by
  unfold f_Board_isPair J_Board_isPair_25
  rw [e_isWire h hw]
  simp only [Option.bind_some, b2i_z]
  cases rg p 0 w with
  | false => rfl
  | true =>
    rw [if_neg (by decide), e_isWire h hw]
    simp only [Option.bind_some, b2i_z]
    cases rg q 0 w with
    | false => rfl
    | true =>
      rw [if_neg (by decide)]
      by_cases e : p = q
      · rw [if_pos e]; simp [e, b2i]
      · rw [if_neg e]; simp [e, b2i]
/-! of the reference -/
theorem m_isWire {N : Nat} {p : Int32} {hi : HI} {hl : HL} {w : Nat} (h : hi 65 0 = nI w) (hw : w < 2 ^ 31) : f_MD_isWire N p hi hl = some (b2i (rg p 0 w), hi, hl) := by
  unfold f_MD_isWire
  rw [h, e_in32 N p _ _ hi hl (x := 0) (y := w) (ltL64 0 (by decide)) (sub1_64 hw)]
  simp only [Option.bind_some, b2i_01, if_true]
theorem m_isLamp {N : Nat} {p : Int32} {hi : HI} {hl : HL} {w : Nat} (h : hi 65 2 = nI w) (hw : w < 2 ^ 31) : f_MD_isLamp N p hi hl = some (b2i (rg p 0 w), hi, hl) := by
  unfold f_MD_isLamp
  rw [h, e_in32 N p _ _ hi hl (x := 0) (y := w) (ltL64 0 (by decide)) (sub1_64 hw)]
  simp only [Option.bind_some, b2i_01, if_true]
theorem m_isLine {N : Nat} {p : Int32} {hi : HI} {hl : HL} {w : Nat} (h : hi 65 23 = nI w) (hw : w < 2 ^ 31) : f_MD_isLine N p hi hl = some (b2i (rg p 0 w), hi, hl) := by
  unfold f_MD_isLine
  rw [h, e_in32 N p _ _ hi hl (x := 0) (y := w) (ltL64 0 (by decide)) (sub1_64 hw)]
  simp only [Option.bind_some, b2i_01, if_true]
theorem m_isPicture {N : Nat} {p : Int32} {hi : HI} {hl : HL} {n : Nat} (h : hi 65 2 = nI n) (hn : n ≤ 16) : f_MD_isPicture N p hi hl = some (b2i (rg p 0 (2 ^ n)), hi, hl) := by
  unfold f_MD_isPicture
  have h2 := pow2_le hn
  have h3 := Nat.two_pow_pos n
  have e : ((1 : Int32) <<< ((nI n) &&& 31)) = nI (2 ^ n) := ni_one (k := n) (by omega)
  rw [h, e, e_in32 N p _ _ hi hl (x := 0) (y := 2 ^ n) (ltL64 0 (by decide)) (sub1_64 (by omega))]
  simp only [Option.bind_some, b2i_01, if_true]
theorem m_isFault {N : Nat} {p : Int32} {hi : HI} {hl : HL} {n : Nat} (h : hi 65 2 = nI n) (hn : n ≤ 16) : f_MD_isFault N p hi hl = some (b2i (decide (p = -4) || rg p 0 (2 * n)), hi, hl) := by
  unfold f_MD_isFault J_MD_isFault_24
  by_cases h4 : p = -4
  · rw [if_pos h4]; simp [h4, b2i]
  · have e : (2 : Int32) * nI n = nI (2 * n) := pk_mul 2 n
    rw [if_neg h4, h, e, e_in32 N p _ _ hi hl (x := 0) (y := 2 * n) (ltL64 0 (by decide)) (sub1_64 (by omega))]
    simp only [Option.bind_some, b2i_z, h4, decide_false, Bool.false_or]
    cases rg p 0 (2 * n) <;> rfl
theorem m_isSheet {N : Nat} {p q : Int32} {hi : HI} {hl : HL} : f_MD_isSheet N p q hi hl = some (b2i (rg p 0 4 && rg q 0 3), hi, hl) := by
  unfold f_MD_isSheet J_MD_isSheet_28
  rw [e_in32 N p _ _ hi hl (x := 0) (y := 4) (ltL64 0 (by decide)) (ltL64 3 (by decide))]
  simp only [Option.bind_some, b2i_z]
  cases rg p 0 4 with
  | false => rfl
  | true =>
    rw [if_neg (by decide), e_in32 N q _ _ hi hl (x := 0) (y := 3) (ltL64 0 (by decide)) (ltL64 2 (by decide))]
    simp only [Option.bind_some, b2i_z]
    cases rg q 0 3 <;> rfl
theorem m_turnsOf {N : Nat} {hi : HI} {hl : HL} {w : Nat} (h : hi 65 0 = nI w) (hw : w ≤ 6) (hN : 70000 ≤ N) : f_MD_turnsOf N hi hl = some (nI (3 ^ w), hi, hl) := by
  have key : wp (lpN (fun s => B_MD_turnsOf_4 N s.1 s.2.1 s.2.2.1 s.2.2.2) N (1, 0, hi, hl)) (fun x => x = (nI (3 ^ w), hi, hl)) := by
    refine wp_for w (fun i s => s = (nI (3 ^ i), nI i, hi, hl)) ?_ ?_ (i := 0) (by omega) rfl (by omega)
    · rintro i s hi1 rfl
      unfold B_MD_turnsOf_4
      dsimp only
      refine wp_neg (by rw [h]; exact nI_ge hi1 (by omega)) ?_
      rw [wp_some]
      show (nI (3 ^ i) * nI 3, nI i + 1, hi, hl) = _
      rw [pk_mul, nI_1, Nat.pow_succ]
    · rintro s rfl
      unfold B_MD_turnsOf_4
      dsimp only
      refine wp_pos (by rw [h]; exact nI_le (Nat.le_refl _) (by omega)) ?_
      rw [wp_some]
  obtain ⟨x, h1, rfl⟩ := key
  unfold f_MD_turnsOf
  rw [h1]
  rfl
theorem m_isTurn {N : Nat} {p : Int32} {hi : HI} {hl : HL} {w : Nat} (h : hi 65 0 = nI w) (hw : w ≤ 6) (hN : 70000 ≤ N) : f_MD_isTurn N p hi hl = some (b2i (rg p 0 (3 ^ w)), hi, hl) := by
  unfold f_MD_isTurn
  have h3 := pow3_le hw
  rw [m_turnsOf h hw hN, Option.bind_some]
  dsimp only
  rw [e_in32 N p _ _ hi hl (x := 0) (y := 3 ^ w) (ltL64 0 (by decide)) (sub1_64 (by omega))]
  simp only [Option.bind_some, b2i_01, if_true]
