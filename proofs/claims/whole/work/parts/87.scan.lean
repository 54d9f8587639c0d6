/-! the class's scanner -/
theorem by_in : ∀ b, b < 256 → ((nI b).toInt8.toInt32).toInt = if b < 128 then (b : Int) else (b : Int) - 256 := by decide +kernel
theorem by_sm {b : Nat} (hb : b < 128) : (nI b).toInt8.toInt32 = nI b := fa_byte_small hb
theorem by_ge {b lo : Nat} (hb : b < 256) (hl : lo < 128) (h : ¬ (nI b).toInt8.toInt32 < nI lo) : lo ≤ b ∧ b < 128 := by
  rw [fa_lt, by_in b hb, nI_toInt (by omega)] at h
  split at h <;> omega
theorem by_lt {b lo : Nat} (hb : b < 256) (hl : lo < 128) (h : (nI b).toInt8.toInt32 < nI lo) : b < lo ∨ 128 ≤ b := by
  rw [fa_lt, by_in b hb, nI_toInt (by omega)] at h
  split at h <;> omega
theorem by_eq {b c : Nat} (hb : b < 256) (hc : c < 128) : ((nI b).toInt8.toInt32 = nI c) ↔ b = c := by
  rw [fa_eq, by_in b hb, nI_toInt (by omega)]
  split <;> omega
abbrev CT (A : St) (h : HI) : Prop :=
  (h 43 0 = nI A.taped) ∧
  (∀ i, i < A.taped → h 46 i = (nI (A.tape i)).toInt8.toInt32)
theorem CT.n {A : St} {h : HI} (h_ : CT A h) : h 43 0 = nI A.taped := h_.1
theorem CT.y {A : St} {h : HI} (h_ : CT A h) : ∀ i, i < A.taped → h 46 i = (nI (A.tape i)).toInt8.toInt32 := h_.2
theorem c_run {N : Nat} (hN : 70000 ≤ N) {A : St} (hw : WF A) {h : HI} {hl : HL} (ct : CT A h) {b lo hi : Nat} (hb : b ≤ A.taped) (h1 : lo < 128) (h2 : hi < 128) : wp (f_Tape_behindRun N (nI b) (nI lo) (nI hi) h hl) (fun o => o = (nI (rnE A lo hi b), h, hl)) := by
  unfold f_Tape_behindRun
  have t2 := hw.t200
  refine wp.bnd (P := fun x => x = (nI (rnE A lo hi b), h, hl)) ?_ (fun x hx => by rw [wp_some, hx])
  refine wp_lp (fun k s => ∃ e, s = (nI e, h, hl) ∧ b ≤ e ∧ e ≤ A.taped ∧ k = A.taped - e ∧ ∀ i, b ≤ i → i < e → ¬ stpR A lo hi i) ?_ (A.taped - b) _ N ⟨b, rfl, Nat.le_refl _, hb, rfl, fun i _ _ => by omega⟩ (by omega)
  rintro k s ⟨e, rfl, e1, e2, rfl, e4⟩
  unfold B_Tape_behindRun_3
  dsimp only
  by_cases c : A.taped ≤ e
  · refine wp_pos (by rw [ct.n]; exact nI_le c (by omega)) ?_
    rw [wp_some]
    dsimp only
    rw [rnE_eq e1 (Or.inl c) e4]
  · have g := ct.y e (by omega)
    have b8 := hw.tb e (by omega)
    refine wp_neg (by rw [ct.n]; exact nI_ge (by omega) (by omega)) (wp_neg (nI_in (by omega) (by omega)) ?_)
    have gy : h 46 (nI e).toNatClampNeg = (nI (A.tape e)).toInt8.toInt32 := by rw [nI_clamp (by omega), g]
    simp only [gy]
    by_cases d : (nI (A.tape e)).toInt8.toInt32 < nI lo
    · refine wp_pos d ?_
      rw [wp_some]
      dsimp only
      have := by_lt b8 h1 d
      rw [rnE_eq e1 (Or.inr (by omega)) e4]
    · obtain ⟨q1, q2⟩ := by_ge b8 h1 d
      refine wp_neg d (wp_neg (nI_in (by omega) (by omega)) ?_)
      rw [by_sm q2]
      by_cases d2 : hi < A.tape e
      · refine wp_pos (nI_lt d2 (by omega)) ?_
        rw [wp_some]
        dsimp only
        rw [rnE_eq e1 (Or.inr (Or.inr d2)) e4]
      · refine wp_neg (nI_nlt (by omega) (by omega)) ?_
        rw [wp_some]
        refine ⟨A.taped - (e + 1), by omega, e + 1, by rw [nI_1], by omega, by omega, rfl, fun i i1 i2 => ?_⟩
        by_cases q : i = e
        · subst q
          unfold stpR
          omega
        · exact e4 i i1 (by omega)
theorem e_len_s0 (N : Nat) (h : HI) (hl : HL) : f_String_length_s0 N h hl = some (nI 4, h, hl) := by
  unfold f_String_length_s0 f_String_coder_s0
  rw [if_pos (by decide), Option.bind_some, show ((4 : Int32) >>> ((0 : Int32) &&& 31)) = nI 4 from by decide]
theorem e_chr_s0 (N : Nat) (h : HI) (hl : HL) : ∀ i, i < 4 → f_String_charAt_s0 N (nI i) h hl = some (nI ([104, 105, 103, 104].getD i 0), h, hl)
  | 0, _ => by unfold f_String_charAt_s0 f_StringLatin1_charAt_s0 f_String_checkIndex f_Preconditions_checkIndex f_String_isLatin1_s0; rfl
  | 1, _ => by unfold f_String_charAt_s0 f_StringLatin1_charAt_s0 f_String_checkIndex f_Preconditions_checkIndex f_String_isLatin1_s0; rfl
  | 2, _ => by unfold f_String_charAt_s0 f_StringLatin1_charAt_s0 f_String_checkIndex f_Preconditions_checkIndex f_String_isLatin1_s0; rfl
  | 3, _ => by unfold f_String_charAt_s0 f_StringLatin1_charAt_s0 f_String_checkIndex f_Preconditions_checkIndex f_String_isLatin1_s0; rfl
  | n + 4, h => absurd h (by omega)
theorem c_spells_s0 {N : Nat} (hN : 70000 ≤ N) {A : St} (hw : WF A) {h : HI} {hl : HL} (ct : CT A h) {p e : Nat} (e9 : h 43 9 = nI p) (e10 : h 43 10 = nI e) (h1 : p ≤ e) (h2 : e ≤ A.taped) : wp (f_Tape_spells_s0 N h hl) (fun o => o = (b2i (cD (Wrd A p e [104, 105, 103, 104])), h, hl)) := by
  unfold f_Tape_spells_s0
  have t2 := hw.t200
  rw [e_len_s0, Option.bind_some]
  dsimp only
  have sb : h 43 10 - h 43 9 = nI (e - p) := by rw [e9, e10]; exact pk_sub h1
  by_cases c : e - p = 4
  · refine wp_pos (by rw [sb, c]) ?_
    refine wp.bnd (P := fun x => (x = (0, h, hl) ∧ Wrd A p e [104, 105, 103, 104]) ∨ (x = (1, h, hl) ∧ ¬ Wrd A p e [104, 105, 103, 104])) ?_ (fun x hx => ?_)
    · refine wp_for 4 (fun i s => s = (nI i, h, hl) ∧ ∀ j, j < i → A.tape (p + j) = [104, 105, 103, 104].getD j 0) ?_ ?_ (i := 0) (by omega) ⟨rfl, fun j hj => by omega⟩ (by omega)
      · rintro i s hi ⟨rfl, hj⟩
        unfold B_Tape_spells_s0_20
        rw [e_len_s0, Option.bind_some]
        dsimp only
        have ep : h 43 9 + nI i = nI (p + i) := by rw [e9]; exact nI_add p i
        refine wp_neg (nI_ge hi (by omega)) (wp_neg (by rw [ep]; exact nI_in (by omega) (by omega)) ?_)
        rw [e_chr_s0 N h hl i hi, Option.bind_some]
        dsimp only
        have g : h 46 (h 43 9 + nI i).toNatClampNeg = (nI (A.tape (p + i))).toInt8.toInt32 := by rw [ep, nI_clamp (by omega)]; exact ct.y _ (by omega)
        have b8 := hw.tb (p + i) (by omega)
        have cl : ∀ j, j < 4 → [104, 105, 103, 104].getD j 0 < 128 := by decide
        by_cases d : A.tape (p + i) = [104, 105, 103, 104].getD i 0
        · refine wp_pos (by rw [g]; exact (by_eq b8 (cl i hi)).mpr d) ?_
          rw [wp_some]
          refine ⟨by rw [nI_1], fun j hj2 => ?_⟩
          by_cases q : j = i
          · subst q; exact d
          · exact hj j (by omega)
        · refine wp_neg (by rw [g]; exact fun q => d ((by_eq b8 (cl i hi)).mp q)) ?_
          rw [wp_some]
          exact Or.inr ⟨rfl, fun q => d (q.2 i hi)⟩
      · rintro s ⟨rfl, hj⟩
        unfold B_Tape_spells_s0_20
        rw [e_len_s0, Option.bind_some]
        dsimp only
        refine wp_pos (nI_le (Nat.le_refl _) (by omega)) ?_
        rw [wp_some]
        exact Or.inl ⟨rfl, by show e = p + 4; omega, hj⟩
    · rcases hx with ⟨rfl, q⟩ | ⟨rfl, q⟩
      · dsimp only
        rw [if_pos rfl, wp_some, cD_t.mpr q]; rfl
      · dsimp only
        rw [if_neg (by omega), wp_some, cD_f.mpr q]; rfl
  · refine wp_neg (by rw [sb]; exact fun q => c ((nI_eq (by omega) (by omega)).mp q)) ?_
    rw [wp_some, cD_f.mpr (fun q => c (by have : e = p + 4 := q.1; omega))]; rfl
theorem e_len_s1 (N : Nat) (h : HI) (hl : HL) : f_String_length_s1 N h hl = some (nI 3, h, hl) := by
  unfold f_String_length_s1 f_String_coder_s1
  rw [if_pos (by decide), Option.bind_some, show ((3 : Int32) >>> ((0 : Int32) &&& 31)) = nI 3 from by decide]
theorem e_chr_s1 (N : Nat) (h : HI) (hl : HL) : ∀ i, i < 3 → f_String_charAt_s1 N (nI i) h hl = some (nI ([108, 111, 119].getD i 0), h, hl)
  | 0, _ => by unfold f_String_charAt_s1 f_StringLatin1_charAt_s1 f_String_checkIndex f_Preconditions_checkIndex f_String_isLatin1_s1; rfl
  | 1, _ => by unfold f_String_charAt_s1 f_StringLatin1_charAt_s1 f_String_checkIndex f_Preconditions_checkIndex f_String_isLatin1_s1; rfl
  | 2, _ => by unfold f_String_charAt_s1 f_StringLatin1_charAt_s1 f_String_checkIndex f_Preconditions_checkIndex f_String_isLatin1_s1; rfl
  | n + 3, h => absurd h (by omega)
theorem c_spells_s1 {N : Nat} (hN : 70000 ≤ N) {A : St} (hw : WF A) {h : HI} {hl : HL} (ct : CT A h) {p e : Nat} (e9 : h 43 9 = nI p) (e10 : h 43 10 = nI e) (h1 : p ≤ e) (h2 : e ≤ A.taped) : wp (f_Tape_spells_s1 N h hl) (fun o => o = (b2i (cD (Wrd A p e [108, 111, 119])), h, hl)) := by
  unfold f_Tape_spells_s1
  have t2 := hw.t200
  rw [e_len_s1, Option.bind_some]
  dsimp only
  have sb : h 43 10 - h 43 9 = nI (e - p) := by rw [e9, e10]; exact pk_sub h1
  by_cases c : e - p = 3
  · refine wp_pos (by rw [sb, c]) ?_
    refine wp.bnd (P := fun x => (x = (0, h, hl) ∧ Wrd A p e [108, 111, 119]) ∨ (x = (1, h, hl) ∧ ¬ Wrd A p e [108, 111, 119])) ?_ (fun x hx => ?_)
    · refine wp_for 3 (fun i s => s = (nI i, h, hl) ∧ ∀ j, j < i → A.tape (p + j) = [108, 111, 119].getD j 0) ?_ ?_ (i := 0) (by omega) ⟨rfl, fun j hj => by omega⟩ (by omega)
      · rintro i s hi ⟨rfl, hj⟩
        unfold B_Tape_spells_s1_20
        rw [e_len_s1, Option.bind_some]
        dsimp only
        have ep : h 43 9 + nI i = nI (p + i) := by rw [e9]; exact nI_add p i
        refine wp_neg (nI_ge hi (by omega)) (wp_neg (by rw [ep]; exact nI_in (by omega) (by omega)) ?_)
        rw [e_chr_s1 N h hl i hi, Option.bind_some]
        dsimp only
        have g : h 46 (h 43 9 + nI i).toNatClampNeg = (nI (A.tape (p + i))).toInt8.toInt32 := by rw [ep, nI_clamp (by omega)]; exact ct.y _ (by omega)
        have b8 := hw.tb (p + i) (by omega)
        have cl : ∀ j, j < 3 → [108, 111, 119].getD j 0 < 128 := by decide
        by_cases d : A.tape (p + i) = [108, 111, 119].getD i 0
        · refine wp_pos (by rw [g]; exact (by_eq b8 (cl i hi)).mpr d) ?_
          rw [wp_some]
          refine ⟨by rw [nI_1], fun j hj2 => ?_⟩
          by_cases q : j = i
          · subst q; exact d
          · exact hj j (by omega)
        · refine wp_neg (by rw [g]; exact fun q => d ((by_eq b8 (cl i hi)).mp q)) ?_
          rw [wp_some]
          exact Or.inr ⟨rfl, fun q => d (q.2 i hi)⟩
      · rintro s ⟨rfl, hj⟩
        unfold B_Tape_spells_s1_20
        rw [e_len_s1, Option.bind_some]
        dsimp only
        refine wp_pos (nI_le (Nat.le_refl _) (by omega)) ?_
        rw [wp_some]
        exact Or.inl ⟨rfl, by show e = p + 3; omega, hj⟩
    · rcases hx with ⟨rfl, q⟩ | ⟨rfl, q⟩
      · dsimp only
        rw [if_pos rfl, wp_some, cD_t.mpr q]; rfl
      · dsimp only
        rw [if_neg (by omega), wp_some, cD_f.mpr q]; rfl
  · refine wp_neg (by rw [sb]; exact fun q => c ((nI_eq (by omega) (by omega)).mp q)) ?_
    rw [wp_some, cD_f.mpr (fun q => c (by have : e = p + 3 := q.1; omega))]; rfl
theorem e_len_s2 (N : Nat) (h : HI) (hl : HL) : f_String_length_s2 N h hl = some (nI 3, h, hl) := by
  unfold f_String_length_s2 f_String_coder_s2
  rw [if_pos (by decide), Option.bind_some, show ((3 : Int32) >>> ((0 : Int32) &&& 31)) = nI 3 from by decide]
theorem e_chr_s2 (N : Nat) (h : HI) (hl : HL) : ∀ i, i < 3 → f_String_charAt_s2 N (nI i) h hl = some (nI ([102, 111, 114].getD i 0), h, hl)
  | 0, _ => by unfold f_String_charAt_s2 f_StringLatin1_charAt_s2 f_String_checkIndex f_Preconditions_checkIndex f_String_isLatin1_s2; rfl
  | 1, _ => by unfold f_String_charAt_s2 f_StringLatin1_charAt_s2 f_String_checkIndex f_Preconditions_checkIndex f_String_isLatin1_s2; rfl
  | 2, _ => by unfold f_String_charAt_s2 f_StringLatin1_charAt_s2 f_String_checkIndex f_Preconditions_checkIndex f_String_isLatin1_s2; rfl
  | n + 3, h => absurd h (by omega)
theorem c_spells_s2 {N : Nat} (hN : 70000 ≤ N) {A : St} (hw : WF A) {h : HI} {hl : HL} (ct : CT A h) {p e : Nat} (e9 : h 43 9 = nI p) (e10 : h 43 10 = nI e) (h1 : p ≤ e) (h2 : e ≤ A.taped) : wp (f_Tape_spells_s2 N h hl) (fun o => o = (b2i (cD (Wrd A p e [102, 111, 114])), h, hl)) := by
  unfold f_Tape_spells_s2
  have t2 := hw.t200
  rw [e_len_s2, Option.bind_some]
  dsimp only
  have sb : h 43 10 - h 43 9 = nI (e - p) := by rw [e9, e10]; exact pk_sub h1
  by_cases c : e - p = 3
  · refine wp_pos (by rw [sb, c]) ?_
    refine wp.bnd (P := fun x => (x = (0, h, hl) ∧ Wrd A p e [102, 111, 114]) ∨ (x = (1, h, hl) ∧ ¬ Wrd A p e [102, 111, 114])) ?_ (fun x hx => ?_)
    · refine wp_for 3 (fun i s => s = (nI i, h, hl) ∧ ∀ j, j < i → A.tape (p + j) = [102, 111, 114].getD j 0) ?_ ?_ (i := 0) (by omega) ⟨rfl, fun j hj => by omega⟩ (by omega)
      · rintro i s hi ⟨rfl, hj⟩
        unfold B_Tape_spells_s2_20
        rw [e_len_s2, Option.bind_some]
        dsimp only
        have ep : h 43 9 + nI i = nI (p + i) := by rw [e9]; exact nI_add p i
        refine wp_neg (nI_ge hi (by omega)) (wp_neg (by rw [ep]; exact nI_in (by omega) (by omega)) ?_)
        rw [e_chr_s2 N h hl i hi, Option.bind_some]
        dsimp only
        have g : h 46 (h 43 9 + nI i).toNatClampNeg = (nI (A.tape (p + i))).toInt8.toInt32 := by rw [ep, nI_clamp (by omega)]; exact ct.y _ (by omega)
        have b8 := hw.tb (p + i) (by omega)
        have cl : ∀ j, j < 3 → [102, 111, 114].getD j 0 < 128 := by decide
        by_cases d : A.tape (p + i) = [102, 111, 114].getD i 0
        · refine wp_pos (by rw [g]; exact (by_eq b8 (cl i hi)).mpr d) ?_
          rw [wp_some]
          refine ⟨by rw [nI_1], fun j hj2 => ?_⟩
          by_cases q : j = i
          · subst q; exact d
          · exact hj j (by omega)
        · refine wp_neg (by rw [g]; exact fun q => d ((by_eq b8 (cl i hi)).mp q)) ?_
          rw [wp_some]
          exact Or.inr ⟨rfl, fun q => d (q.2 i hi)⟩
      · rintro s ⟨rfl, hj⟩
        unfold B_Tape_spells_s2_20
        rw [e_len_s2, Option.bind_some]
        dsimp only
        refine wp_pos (nI_le (Nat.le_refl _) (by omega)) ?_
        rw [wp_some]
        exact Or.inl ⟨rfl, by show e = p + 3; omega, hj⟩
    · rcases hx with ⟨rfl, q⟩ | ⟨rfl, q⟩
      · dsimp only
        rw [if_pos rfl, wp_some, cD_t.mpr q]; rfl
      · dsimp only
        rw [if_neg (by omega), wp_some, cD_f.mpr q]; rfl
  · refine wp_neg (by rw [sb]; exact fun q => c ((nI_eq (by omega) (by omega)).mp q)) ?_
    rw [wp_some, cD_f.mpr (fun q => c (by have : e = p + 3 := q.1; omega))]; rfl
theorem e_len_s3 (N : Nat) (h : HI) (hl : HL) : f_String_length_s3 N h hl = some (nI 4, h, hl) := by
  unfold f_String_length_s3 f_String_coder_s3
  rw [if_pos (by decide), Option.bind_some, show ((4 : Int32) >>> ((0 : Int32) &&& 31)) = nI 4 from by decide]
theorem e_chr_s3 (N : Nat) (h : HI) (hl : HL) : ∀ i, i < 4 → f_String_charAt_s3 N (nI i) h hl = some (nI ([100, 97, 114, 107].getD i 0), h, hl)
  | 0, _ => by unfold f_String_charAt_s3 f_StringLatin1_charAt_s3 f_String_checkIndex f_Preconditions_checkIndex f_String_isLatin1_s3; rfl
  | 1, _ => by unfold f_String_charAt_s3 f_StringLatin1_charAt_s3 f_String_checkIndex f_Preconditions_checkIndex f_String_isLatin1_s3; rfl
  | 2, _ => by unfold f_String_charAt_s3 f_StringLatin1_charAt_s3 f_String_checkIndex f_Preconditions_checkIndex f_String_isLatin1_s3; rfl
  | 3, _ => by unfold f_String_charAt_s3 f_StringLatin1_charAt_s3 f_String_checkIndex f_Preconditions_checkIndex f_String_isLatin1_s3; rfl
  | n + 4, h => absurd h (by omega)
theorem c_spells_s3 {N : Nat} (hN : 70000 ≤ N) {A : St} (hw : WF A) {h : HI} {hl : HL} (ct : CT A h) {p e : Nat} (e9 : h 43 9 = nI p) (e10 : h 43 10 = nI e) (h1 : p ≤ e) (h2 : e ≤ A.taped) : wp (f_Tape_spells_s3 N h hl) (fun o => o = (b2i (cD (Wrd A p e [100, 97, 114, 107])), h, hl)) := by
  unfold f_Tape_spells_s3
  have t2 := hw.t200
  rw [e_len_s3, Option.bind_some]
  dsimp only
  have sb : h 43 10 - h 43 9 = nI (e - p) := by rw [e9, e10]; exact pk_sub h1
  by_cases c : e - p = 4
  · refine wp_pos (by rw [sb, c]) ?_
    refine wp.bnd (P := fun x => (x = (0, h, hl) ∧ Wrd A p e [100, 97, 114, 107]) ∨ (x = (1, h, hl) ∧ ¬ Wrd A p e [100, 97, 114, 107])) ?_ (fun x hx => ?_)
    · refine wp_for 4 (fun i s => s = (nI i, h, hl) ∧ ∀ j, j < i → A.tape (p + j) = [100, 97, 114, 107].getD j 0) ?_ ?_ (i := 0) (by omega) ⟨rfl, fun j hj => by omega⟩ (by omega)
      · rintro i s hi ⟨rfl, hj⟩
        unfold B_Tape_spells_s3_20
        rw [e_len_s3, Option.bind_some]
        dsimp only
        have ep : h 43 9 + nI i = nI (p + i) := by rw [e9]; exact nI_add p i
        refine wp_neg (nI_ge hi (by omega)) (wp_neg (by rw [ep]; exact nI_in (by omega) (by omega)) ?_)
        rw [e_chr_s3 N h hl i hi, Option.bind_some]
        dsimp only
        have g : h 46 (h 43 9 + nI i).toNatClampNeg = (nI (A.tape (p + i))).toInt8.toInt32 := by rw [ep, nI_clamp (by omega)]; exact ct.y _ (by omega)
        have b8 := hw.tb (p + i) (by omega)
        have cl : ∀ j, j < 4 → [100, 97, 114, 107].getD j 0 < 128 := by decide
        by_cases d : A.tape (p + i) = [100, 97, 114, 107].getD i 0
        · refine wp_pos (by rw [g]; exact (by_eq b8 (cl i hi)).mpr d) ?_
          rw [wp_some]
          refine ⟨by rw [nI_1], fun j hj2 => ?_⟩
          by_cases q : j = i
          · subst q; exact d
          · exact hj j (by omega)
        · refine wp_neg (by rw [g]; exact fun q => d ((by_eq b8 (cl i hi)).mp q)) ?_
          rw [wp_some]
          exact Or.inr ⟨rfl, fun q => d (q.2 i hi)⟩
      · rintro s ⟨rfl, hj⟩
        unfold B_Tape_spells_s3_20
        rw [e_len_s3, Option.bind_some]
        dsimp only
        refine wp_pos (nI_le (Nat.le_refl _) (by omega)) ?_
        rw [wp_some]
        exact Or.inl ⟨rfl, by show e = p + 4; omega, hj⟩
    · rcases hx with ⟨rfl, q⟩ | ⟨rfl, q⟩
      · dsimp only
        rw [if_pos rfl, wp_some, cD_t.mpr q]; rfl
      · dsimp only
        rw [if_neg (by omega), wp_some, cD_f.mpr q]; rfl
  · refine wp_neg (by rw [sb]; exact fun q => c ((nI_eq (by omega) (by omega)).mp q)) ?_
    rw [wp_some, cD_f.mpr (fun q => c (by have : e = p + 4 := q.1; omega))]; rfl
