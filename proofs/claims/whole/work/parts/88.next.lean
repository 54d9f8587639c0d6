/-! the class's next token -/
abbrev NxF (h h1 : HI) : Prop :=
  (Sam [43] h h1) ∧
  (∀ j, j ≠ 1 → j ≠ 2 → j ≠ 8 → j ≠ 9 → j ≠ 10 → j ≠ 11 → h1 43 j = h 43 j)
theorem NxF.s {h h1 : HI} (h_ : NxF h h1) : Sam [43] h h1 := h_.1
theorem NxF.k {h h1 : HI} (h_ : NxF h h1) : ∀ j, j ≠ 1 → j ≠ 2 → j ≠ 8 → j ≠ 9 → j ≠ 10 → j ≠ 11 → h1 43 j = h 43 j := h_.2
theorem NxF.refl (h : HI) : NxF h h := ⟨Sam.refl _ _, fun _ _ _ _ _ _ _ => rfl⟩
theorem NxF.trans {h h1 h2 : HI} (x : NxF h h1) (y : NxF h1 h2) : NxF h h2 := ⟨x.s.trans y.s _ (fun _ q => q) (fun _ q => q), fun j a b c d e f => (y.k j a b c d e f).trans (x.k j a b c d e f)⟩
theorem NxF.wr {h h1 : HI} (x : NxF h h1) {j : Nat} (hj : j = 1 ∨ j = 2 ∨ j = 8 ∨ j = 9 ∨ j = 10 ∨ j = 11) (v : Int32) : NxF h (wr h1 43 j v) := ⟨x.s.wr (by decide), fun i a b c d e f => by rw [wr_k (by omega)]; exact x.k i a b c d e f⟩
theorem CT.of {A : St} {h h1 : HI} (ct : CT A h) (x : NxF h h1) : CT A h1 := ⟨(x.k 0 (by decide) (by decide) (by decide) (by decide) (by decide) (by decide)).trans ct.n, fun i hi => by rw [x.s 46 (by decide)]; exact ct.y i hi⟩
def NxR (tk : Tokn) (o : Int32) (h1 : HI) : Prop := (tk.1 = 7 ∧ o = 0 ∧ h1 43 1 = nI 1 ∧ h1 43 2 = nI tk.2.1) ∨ (tk.1 ≠ 7 ∧ o = 1 ∧ h1 43 1 = 0 ∧ h1 43 8 = nI tk.1 ∧ h1 43 9 = nI tk.2.1 ∧ (tk.1 ≠ 0 → h1 43 10 = nI tk.2.2.1) ∧ (tk.1 = 1 → h1 43 11 = nI tk.2.2.2))
theorem c_number {N : Nat} (hN : 70000 ≤ N) {A : St} (hw : WF A) {h : HI} {hl : HL} (ct : CT A h) (h0 : h 43 1 = 0) {p : Nat} (e9 : h 43 9 = nI p) (hp : p < A.taped) (d1 : 48 ≤ A.tape p) (d2 : A.tape p ≤ 57) : wp (f_Tape_readNumber N h hl) (fun o => NxF h o.2.1 ∧ NxR (if rnE A 48 57 p ≤ p + 2 then (1, p, rnE A 48 57 p, numV A p (rnE A 48 57 p - p)) else (7, p, rnE A 48 57 p, 0)) o.1 o.2.1) := by
  unfold f_Tape_readNumber
  have t2 := hw.t200
  obtain ⟨z, hz, rfl⟩ := c_run hN hw (hl := hl) ct (b := p) (lo := 48) (hi := 57) (by omega) (by omega) (by omega)
  rw [show f_Tape_behindRun N (h 43 9) 48 57 h hl = some (nI (rnE A 48 57 p), h, hl) from by rw [e9]; exact hz, Option.bind_some]
  dsimp only
  obtain ⟨q1, q2⟩ := rn_one hp d1 d2
  have q4 := (rnE_sp (A := A) (lo := 48) (hi := 57) (b := p) (by omega)).2.2.2
  generalize rnE A 48 57 p = E at q1 q2 q4 ⊢
  have s9 : wr h 43 10 (nI E) 43 9 = nI p := by rw [wr_k (by omega)]; exact e9
  have s10 : wr h 43 10 (nI E) 43 10 = nI E := wr_s _ _ _ _
  have sb : wr h 43 10 (nI E) 43 10 - wr h 43 10 (nI E) 43 9 = nI (E - p) := by rw [s9, s10]; exact pk_sub (by omega)
  by_cases c : E ≤ p + 2
  · have et : (if E ≤ p + 2 then ((1, p, E, numV A p (E - p)) : Tokn) else (7, p, E, 0)) = (1, p, E, numV A p (E - p)) := if_pos c
    rw [et]
    refine wp_pos (by rw [sb]; exact nI_le (b := 2) (by omega) (by omega)) ?_
    have g9 : wr (wr (wr h 43 10 (nI E)) 43 8 1) 43 11 0 43 9 = nI p := by rw [wr_k (by omega), wr_k (by omega)]; exact s9
    rw [g9]
    refine wp.bnd (P := fun x => NxF h x.1 ∧ x.1 43 1 = 0 ∧ x.1 43 8 = nI 1 ∧ x.1 43 9 = nI p ∧ x.1 43 10 = nI E ∧ x.1 43 11 = nI (numV A p (E - p))) ?_ (fun x hx => by
      rw [wp_some]
      obtain ⟨x1, x2, x3, x4, x5, x6⟩ := hx
      exact ⟨x1, Or.inr ⟨by dsimp only; omega, rfl, x2, x3, x4, fun _ => x5, fun _ => x6⟩⟩)
    refine wp_lp (fun k s => ∃ i g gl, s = (nI i, g, gl) ∧ p ≤ i ∧ i ≤ E ∧ k = E - i ∧ NxF h g ∧ g 43 1 = 0 ∧ g 43 8 = nI 1 ∧ g 43 9 = nI p ∧ g 43 10 = nI E ∧ g 43 11 = nI (numV A p (i - p))) ?_ (E - p) _ N ⟨p, _, _, rfl, Nat.le_refl _, by omega, rfl, (((NxF.refl h).wr (by omega) _).wr (by omega) _).wr (by omega) _, by rw [wr_k (by omega), wr_k (by omega), wr_k (by omega)]; exact h0, by rw [wr_k (by omega), wr_s]; rfl, g9, by rw [wr_k (by omega), wr_k (by omega)]; exact s10, by rw [wr_s, Nat.sub_self]; rfl⟩ (by omega)
    rintro k s ⟨i, g, gl, rfl, i1, i2, rfl, x1, x2, x3, x4, x5, x6⟩
    unfold B_Tape_readNumber_50
    dsimp only
    by_cases d : E ≤ i
    · obtain rfl : i = E := by omega
      refine wp_pos (by rw [x5]; exact nI_le (by omega) (by omega)) ?_
      rw [wp_some]
      exact ⟨x1, x2, x3, x4, x5, x6⟩
    · refine wp_neg (by rw [x5]; exact nI_ge (by omega) (by omega)) (wp_neg (nI_in (by omega) (by omega)) ?_)
      have dg := q4 i i1 (by omega)
      unfold stpR at dg
      have gy : g 46 (nI i).toNatClampNeg = nI (A.tape i) := by rw [nI_clamp (by omega), x1.s 46 (by decide), ct.y i (by omega), by_sm (by omega)]
      rw [wp_some]
      refine ⟨E - (i + 1), by omega, i + 1, _, _, by rw [nI_1], by omega, by omega, rfl, x1.wr (by omega) _, by rw [wr_k (by omega)]; exact x2, by rw [wr_k (by omega)]; exact x3, by rw [wr_k (by omega)]; exact x4, by rw [wr_k (by omega)]; exact x5, ?_⟩
      rw [wr_s, x6, gy, show i + 1 - p = (i - p) + 1 by omega]
      show nI (numV A p (i - p)) * nI 10 + nI (A.tape i) - nI 48 = nI (numV A p (i - p) * 10 + (A.tape (p + (i - p)) - 48))
      rw [pk_mul, nI_add, pk_sub (by omega), show p + (i - p) = i by omega]
      congr 1
      omega
  · have et : (if E ≤ p + 2 then ((1, p, E, numV A p (E - p)) : Tokn) else (7, p, E, 0)) = (7, p, E, 0) := if_neg c
    rw [et]
    refine wp_neg (by rw [sb]; exact nI_ge (a := 2) (by omega) (by omega)) ?_
    unfold f_Tape_refuse
    rw [Option.bind_some]
    dsimp only
    rw [if_pos (Or.inl rfl), wp_some]
    refine ⟨(((NxF.refl h).wr (by omega) _).wr (by omega) _).wr (by omega) _, Or.inl ⟨rfl, rfl, ?_, ?_⟩⟩
    · dsimp only; rw [wr_k (by omega), wr_s]; rfl
    · dsimp only; rw [wr_s, wr_k (by omega)]; exact s9
theorem c_J72 {N : Nat} {k : Nat} (hk : k ≤ 7) {g : HI} {gl : HL} {p e : Nat} (g0 : g 43 1 = 0) (g9 : g 43 9 = nI p) (g10 : g 43 10 = nI e) : wp (J_Tape_readName_72 N (nI k) g gl) (fun o => NxF g o.2.1 ∧ ((k = 7 ∧ o.1 = 0 ∧ o.2.1 43 1 = nI 1 ∧ o.2.1 43 2 = nI p) ∨ (k ≠ 7 ∧ o.1 = 1 ∧ o.2.1 43 1 = 0 ∧ o.2.1 43 8 = nI k ∧ o.2.1 43 9 = nI p ∧ o.2.1 43 10 = nI e))) := by
  unfold J_Tape_readName_72
  have s8 : wr g 43 8 (nI k) 43 8 = nI k := wr_s _ _ _ _
  by_cases c : k = 7
  · refine wp_pos (by rw [s8, c]; rfl) ?_
    unfold f_Tape_refuse
    rw [Option.bind_some]
    dsimp only
    rw [if_pos rfl, wp_some]
    refine ⟨(((NxF.refl g).wr (by omega) _).wr (by omega) _).wr (by omega) _, Or.inl ⟨c, rfl, ?_, ?_⟩⟩
    · dsimp only; rw [wr_k (by omega), wr_s]; rfl
    · dsimp only; rw [wr_s, wr_k (by omega), wr_k (by omega)]; exact g9
  · refine wp_neg (by rw [s8]; exact fun q => c ((nI_eq (b := 7) (by omega) (by omega)).mp q)) ?_
    unfold J_Tape_readName_92
    rw [wp_some]
    refine ⟨(NxF.refl g).wr (by omega) _, Or.inr ⟨c, rfl, ?_, s8, ?_, ?_⟩⟩
    · dsimp only; rw [wr_k (by omega)]; exact g0
    · dsimp only; rw [wr_k (by omega)]; exact g9
    · dsimp only; rw [wr_k (by omega)]; exact g10
theorem c_name {N : Nat} (hN : 70000 ≤ N) {A : St} (hw : WF A) {h : HI} {hl : HL} (ct : CT A h) (h0 : h 43 1 = 0) {p : Nat} (e9 : h 43 9 = nI p) (hp : p < A.taped) (d1 : 97 ≤ A.tape p) (d2 : A.tape p ≤ 122) : wp (f_Tape_readName N h hl) (fun o => NxF h o.2.1 ∧ NxR (nmK A p (rnE A 97 122 p), p, rnE A 97 122 p, 0) o.1 o.2.1) := by
  unfold f_Tape_readName
  obtain ⟨z, hz, rfl⟩ := c_run hN hw (hl := hl) ct (b := p) (lo := 97) (hi := 122) (by omega) (by omega) (by omega)
  rw [show f_Tape_behindRun N (h 43 9) 97 122 h hl = some (nI (rnE A 97 122 p), h, hl) from by rw [e9]; exact hz, Option.bind_some]
  dsimp only
  obtain ⟨q1, q2⟩ := rn_one hp d1 d2
  generalize rnE A 97 122 p = E at q1 q2 ⊢
  have s0 : wr h 43 10 (nI E) 43 1 = 0 := by rw [wr_k (by omega)]; exact h0
  have s9 : wr h 43 10 (nI E) 43 9 = nI p := by rw [wr_k (by omega)]; exact e9
  have s10 : wr h 43 10 (nI E) 43 10 = nI E := wr_s _ _ _ _
  have f1 : NxF h (wr h 43 10 (nI E)) := (NxF.refl h).wr (by omega) _
  have ct1 := ct.of f1
  generalize wr h 43 10 (nI E) = g at s0 s9 s10 f1 ct1 ⊢
  have fin : ∀ k gl, 3 ≤ k → k ≤ 7 → nmK A p E = k → wp (J_Tape_readName_72 N (nI k) g gl) (fun o => NxF h o.2.1 ∧ NxR (nmK A p E, p, E, 0) o.1 o.2.1) := fun k gl k3 k7 hk => by
    refine (c_J72 k7 s0 s9 s10).mono (fun o ho => ?_)
    obtain ⟨o1, o2⟩ := ho
    refine ⟨f1.trans o1, ?_⟩
    rw [hk]
    rcases o2 with ⟨a1, a2, a3, a4⟩ | ⟨a1, a2, a3, a4, a5, a6⟩
    · exact Or.inl ⟨a1, a2, a3, a4⟩
    · refine Or.inr ⟨a1, a2, a3, a4, a5, fun _ => a6, fun q => ?_⟩
      dsimp only at q
      omega
  refine (c_spells_s0 hN hw ct1 s9 s10 (by omega) q2).bnd (fun z hz => ?_)
  subst hz
  dsimp only
  by_cases c1 : Wrd A p E [104, 105, 103, 104]
  · rw [cD_t.mpr c1]
    exact wp_neg (by decide) (fin 3 _ (by omega) (by omega) (by unfold nmK; rw [if_pos (cD_t.mpr c1)]))
  rw [cD_f.mpr c1]
  refine wp_pos (by decide) ?_
  refine (c_spells_s1 hN hw ct1 s9 s10 (by omega) q2).bnd (fun z hz => ?_)
  subst hz
  dsimp only
  by_cases c2 : Wrd A p E [108, 111, 119]
  · rw [cD_t.mpr c2]
    exact wp_neg (by decide) (fin 4 _ (by omega) (by omega) (by unfold nmK; rw [cD_f.mpr c1, cD_t.mpr c2]; rfl))
  rw [cD_f.mpr c2]
  refine wp_pos (by decide) ?_
  refine (c_spells_s2 hN hw ct1 s9 s10 (by omega) q2).bnd (fun z hz => ?_)
  subst hz
  dsimp only
  by_cases c3 : Wrd A p E [102, 111, 114]
  · rw [cD_t.mpr c3]
    exact wp_neg (by decide) (fin 5 _ (by omega) (by omega) (by unfold nmK; rw [cD_f.mpr c1, cD_f.mpr c2, cD_t.mpr c3]; rfl))
  rw [cD_f.mpr c3]
  refine wp_pos (by decide) ?_
  refine (c_spells_s3 hN hw ct1 s9 s10 (by omega) q2).bnd (fun z hz => ?_)
  subst hz
  dsimp only
  by_cases c4 : Wrd A p E [100, 97, 114, 107]
  · rw [cD_t.mpr c4]
    exact wp_neg (by decide) (fin 6 _ (by omega) (by omega) (by unfold nmK; rw [cD_f.mpr c1, cD_f.mpr c2, cD_f.mpr c3, cD_t.mpr c4]; rfl))
  rw [cD_f.mpr c4]
  exact wp_pos (by decide) (fin 7 _ (by omega) (by omega) (by unfold nmK; rw [cD_f.mpr c1, cD_f.mpr c2, cD_f.mpr c3, cD_f.mpr c4]; rfl))
theorem NxR.o {tk : Tokn} {o : Int32} {h1 : HI} (h : NxR tk o h1) : o = 0 ∨ o = 1 := by
  rcases h with ⟨_, h, _⟩ | ⟨_, h, _⟩
  · exact Or.inl h
  · exact Or.inr h
theorem c_J103 {N : Nat} {g : HI} {gl : HL} {p : Nat} (e9 : g 43 9 = nI p) : wp (J_Tape_next_103 N g gl) (fun o => NxF g o.2.1 ∧ NxR (7, p, p + 1, 0) o.1 o.2.1) := by
  unfold J_Tape_next_103 f_Tape_refuse
  rw [Option.bind_some]
  dsimp only
  rw [if_pos (Or.inl rfl), wp_some]
  refine ⟨((NxF.refl g).wr (by omega) _).wr (by omega) _, Or.inl ⟨rfl, rfl, ?_, ?_⟩⟩
  · dsimp only; rw [wr_k (by omega), wr_s]; rfl
  · dsimp only; rw [wr_s, wr_k (by omega)]; exact e9
theorem c_J84 {N : Nat} (hN : 70000 ≤ N) {A : St} (hw : WF A) {g : HI} {gl : HL} (ct : CT A g) (g0 : g 43 1 = 0) {p : Nat} (e9 : g 43 9 = nI p) (hp : p < A.taped) : wp (J_Tape_next_84 N (nI (A.tape p)).toInt8.toInt32 g gl) (fun o => NxF g o.2.1 ∧ NxR (if 97 ≤ A.tape p ∧ A.tape p ≤ 122 then (nmK A p (rnE A 97 122 p), p, rnE A 97 122 p, 0) else (7, p, p + 1, 0)) o.1 o.2.1) := by
  unfold J_Tape_next_84
  have b8 := hw.tb p hp
  by_cases d : (nI (A.tape p)).toInt8.toInt32 < nI 97
  · refine wp_pos d ?_
    have := by_lt b8 (by omega) d
    have et : (if 97 ≤ A.tape p ∧ A.tape p ≤ 122 then ((nmK A p (rnE A 97 122 p), p, rnE A 97 122 p, 0) : Tokn) else (7, p, p + 1, 0)) = (7, p, p + 1, 0) := if_neg (by omega)
    rw [et]
    exact c_J103 e9
  · obtain ⟨q1, q2⟩ := by_ge b8 (by omega) d
    refine wp_neg d ?_
    rw [by_sm q2]
    by_cases d2 : 122 < A.tape p
    · refine wp_pos (nI_lt (a := 122) d2 (by omega)) ?_
      have et : (if 97 ≤ A.tape p ∧ A.tape p ≤ 122 then ((nmK A p (rnE A 97 122 p), p, rnE A 97 122 p, 0) : Tokn) else (7, p, p + 1, 0)) = (7, p, p + 1, 0) := if_neg (by omega)
      rw [et]
      exact c_J103 e9
    · refine wp_neg (nI_nlt (a := 122) (by omega) (by omega)) ?_
      have et : (if 97 ≤ A.tape p ∧ A.tape p ≤ 122 then ((nmK A p (rnE A 97 122 p), p, rnE A 97 122 p, 0) : Tokn) else (7, p, p + 1, 0)) = (nmK A p (rnE A 97 122 p), p, rnE A 97 122 p, 0) := if_pos (by omega)
      rw [et]
      refine (c_name hN hw ct g0 e9 hp q1 (by omega)).bnd (fun z hz => ?_)
      rw [if_pos hz.2.o, wp_some]
      exact hz
theorem c_next {N : Nat} (hN : 70000 ≤ N) {A : St} (hw : WF A) {h : HI} {hl : HL} (ct : CT A h) (h0 : h 43 1 = 0) {b : Nat} (e10 : h 43 10 = nI b) (hb : b ≤ A.taped) : wp (f_Tape_next N h hl) (fun o => NxF h o.2.1 ∧ NxR (nxt A b) o.1 o.2.1) := by
  unfold f_Tape_next nxt
  have t2 := hw.t200
  obtain ⟨z, hz, rfl⟩ := c_run hN hw (hl := hl) ct (b := b) (lo := 32) (hi := 32) hb (by omega) (by omega)
  rw [show f_Tape_behindRun N (h 43 10) 32 32 h hl = some (nI (rnE A 32 32 b), h, hl) from by rw [e10]; exact hz, Option.bind_some]
  dsimp only
  obtain ⟨q1, q2, _⟩ := rnE_sp (A := A) (lo := 32) (hi := 32) hb
  generalize rnE A 32 32 b = p at q1 q2 ⊢
  have s0 : wr h 43 9 (nI p) 43 1 = 0 := by rw [wr_k (by omega)]; exact h0
  have s9 : wr h 43 9 (nI p) 43 9 = nI p := wr_s _ _ _ _
  have f1 : NxF h (wr h 43 9 (nI p)) := (NxF.refl h).wr (by omega) _
  have ct1 := ct.of f1
  generalize wr h 43 9 (nI p) = g at s0 s9 f1 ct1 ⊢
  unfold nxtP
  by_cases c : A.taped ≤ p
  · rw [if_pos c]
    refine wp_neg (by rw [s9, ct1.n]; exact nI_nlt c (by omega)) ?_
    rw [wp_some]
    refine ⟨f1.wr (by omega) _, Or.inr ⟨by dsimp only; omega, rfl, ?_, ?_, ?_, fun q => absurd rfl q, fun q => absurd q (by dsimp only; omega)⟩⟩
    · dsimp only; rw [wr_k (by omega)]; exact s0
    · dsimp only; rw [wr_s]; rfl
    · dsimp only; rw [wr_k (by omega)]; exact s9
  rw [if_neg c]
  have b8 := hw.tb p (by omega)
  have gy : g 46 (g 43 9).toNatClampNeg = (nI (A.tape p)).toInt8.toInt32 := by rw [s9, nI_clamp (by omega)]; exact ct1.y p (by omega)
  refine wp_pos (by rw [s9, ct1.n]; exact nI_lt (by omega) (by omega)) (wp_neg (by rw [s9]; exact nI_in (by omega) (by omega)) ?_)
  by_cases c1 : A.tape p = 59
  · rw [if_pos c1]
    refine wp_pos (by rw [gy]; exact (by_eq (c := 59) b8 (by omega)).mpr c1) ?_
    rw [wp_some]
    refine ⟨(f1.wr (by omega) _).wr (by omega) _, Or.inr ⟨by dsimp only; omega, rfl, ?_, ?_, ?_, fun _ => ?_, fun q => absurd q (by dsimp only; omega)⟩⟩
    · dsimp only; rw [wr_k (by omega), wr_k (by omega)]; exact s0
    · dsimp only; rw [wr_s]; rfl
    · dsimp only; rw [wr_k (by omega), wr_k (by omega)]; exact s9
    · dsimp only; rw [wr_k (by omega), wr_s, s9, nI_1]
  rw [if_neg c1]
  refine wp_neg (by rw [gy]; exact fun q => c1 ((by_eq (c := 59) b8 (by omega)).mp q)) ?_
  have j84 := (c_J84 (gl := hl) hN hw ct1 s0 s9 (by omega)).mono (fun o (ho : NxF g o.2.1 ∧ _) => And.intro (f1.trans ho.1) ho.2)
  by_cases d : (nI (A.tape p)).toInt8.toInt32 < nI 48
  · refine wp_pos (by rw [gy]; exact d) ?_
    have := by_lt b8 (by omega) d
    rw [if_neg (show ¬ (48 ≤ A.tape p ∧ A.tape p ≤ 57) by omega), gy]
    exact j84
  · refine wp_neg (by rw [gy]; exact d) ?_
    obtain ⟨r1, r2⟩ := by_ge b8 (by omega) d
    by_cases d2 : 57 < A.tape p
    · refine wp_pos (by rw [gy, by_sm r2]; exact nI_lt (a := 57) d2 (by omega)) ?_
      rw [if_neg (show ¬ (48 ≤ A.tape p ∧ A.tape p ≤ 57) by omega), gy]
      exact j84
    · refine wp_neg (by rw [gy, by_sm r2]; exact nI_nlt (a := 57) (by omega) (by omega)) ?_
      rw [if_pos (show 48 ≤ A.tape p ∧ A.tape p ≤ 57 by omega)]
      refine (c_number hN hw ct1 s0 s9 (by omega) r1 (by omega)).bnd (fun z hz => ?_)
      rw [if_pos hz.2.o, wp_some]
      exact ⟨f1.trans hz.1, hz.2⟩
