/-! one call of both -/
def HiC (hi h1 : HI) : Prop := ∀ a, 65 ≤ a → h1 a = hi a
def LoC (hi h1 : HI) : Prop := ∀ a, a < 65 → h1 a = hi a
theorem HiC.refl (hi : HI) : HiC hi hi := fun _ _ => rfl
theorem LoC.refl (hi : HI) : LoC hi hi := fun _ _ => rfl
theorem HiC.trans {h h1 h2 : HI} (x : HiC h h1) (y : HiC h1 h2) : HiC h h2 := fun a ha => (y a ha).trans (x a ha)
theorem LoC.trans {h h1 h2 : HI} (x : LoC h h1) (y : LoC h1 h2) : LoC h h2 := fun a ha => (y a ha).trans (x a ha)
theorem HiC.wr {h h1 : HI} (x : HiC h h1) {a k : Nat} {v : Int32} (ha : a < 65) : HiC h (wr h1 a k v) := fun b hb => (wr_o (by omega)).trans (x b hb)
theorem LoC.wr {h h1 : HI} (x : LoC h h1) {a k : Nat} {v : Int32} (ha : 65 ≤ a) : LoC h (wr h1 a k v) := fun b hb => (wr_o (by omega)).trans (x b hb)
theorem HiC.of {S : List Nat} {h h1 : HI} (x : Sam S h h1) (hS : ∀ a ∈ S, a < 65) : HiC h h1 := fun a ha => x a (fun q => by have := hS a q; omega)
theorem LoC.of {S : List Nat} {h h1 : HI} (x : Sam S h h1) (hS : ∀ a ∈ S, 65 ≤ a) : LoC h h1 := fun a ha => x a (fun q => by have := hS a q; omega)
/-- cells that RC does not speak of -/
def frC (a : Nat) : Bool := decide (65 ≤ a) || [0, 7, 8, 9, 10, 11, 19, 36, 37, 40, 41, 42, 44, 45, 54, 55, 56].contains a
theorem RC.same {A : St} {hi h1 : HI} (h : RC A hi) (hs : ∀ a, frC a = false → h1 a = hi a) : RC A h1 := by
  obtain ⟨a1, a2, a3, a4, a5, a6, a7, a8, a9, a10⟩ := h
  have e : ∀ i, i < 8 → h1 (20 + 2 * i) = hi (20 + 2 * i) ∧ h1 (21 + 2 * i) = hi (21 + 2 * i) := by
    intro i hi
    constructor <;> refine hs _ ?_ <;> revert i <;> decide
  have e2 : ∀ i, i < 4 → h1 (57 + 2 * i) = hi (57 + 2 * i) ∧ h1 (58 + 2 * i) = hi (58 + 2 * i) := by
    intro i hi
    constructor <;> refine hs _ ?_ <;> revert i <;> decide
  refine ⟨?_, ?_, ?_, ?_, ?_, ?_, ?_, ?_, ?_, ?_⟩
  · rw [hs 1 (by decide), hs 2 (by decide), hs 3 (by decide), hs 4 (by decide), hs 5 (by decide), hs 6 (by decide)]; exact a1
  · rw [hs 12 (by decide), hs 13 (by decide), hs 14 (by decide), hs 15 (by decide), hs 16 (by decide)]; exact a2
  · rw [hs 17 (by decide)]; exact a3
  · rw [hs 18 (by decide)]; exact a4
  · intro i hi
    rw [(e i hi).1, (e i hi).2]; exact a5 i hi
  · rw [hs 38 (by decide), hs 39 (by decide)]; exact a6
  · rw [hs 43 (by decide), hs 46 (by decide)]; exact a7
  · rw [hs 47 (by decide), hs 48 (by decide), hs 49 (by decide), hs 50 (by decide)]; exact a8
  · rw [hs 51 (by decide), hs 52 (by decide), hs 53 (by decide)]; exact a9
  · intro i hi
    rw [(e2 i hi).1, (e2 i hi).2]; exact a10 i hi
theorem RC.sam {A : St} {hi h1 : HI} {S : List Nat} (h : RC A hi) (hs : Sam S hi h1) (hS : ∀ a ∈ S, frC a = true) : RC A h1 := h.same (fun a ha => hs a (fun q => by rw [hS a q] at ha; cases ha))
theorem RC.lo {A : St} {hi h1 : HI} (h : RC A hi) (hs : LoC hi h1) : RC A h1 := h.same (fun a ha => hs a (by
  unfold frC at ha
  rw [Bool.or_eq_false_iff] at ha
  have := of_decide_eq_false ha.1
  omega))
/-- cells that RM does not speak of (65 by its slots) -/
def frM (a : Nat) : Bool := decide (a < 66) || [71, 72, 73, 78, 79, 80, 81, 82, 86, 87, 89, 90, 91].contains a
theorem RM.same {A : St} {hi h1 : HI} (h : RM A hi) (hs : ∀ a, frM a = false → h1 a = hi a) (h65 : ∀ j, j ∈ [0, 1, 2, 8, 15, 23, 31, 36] → h1 65 j = hi 65 j) : RM A h1 := by
  obtain ⟨a1, a2, a3, a4, a5, a6, a7, a8, a9, b1, b2, b3⟩ := h
  refine ⟨?_, ?_, ?_, ?_, ?_, ?_, ?_, ?_, ?_, ?_, ?_, ?_⟩
  · obtain ⟨c1, c2, c3, c4⟩ := a1
    rw [hs 66 (by decide), hs 67 (by decide), hs 68 (by decide), hs 69 (by decide), hs 70 (by decide)]
    exact ⟨(h65 0 (by decide)).trans c1, (h65 1 (by decide)).trans c2, (h65 2 (by decide)).trans c3, c4⟩
  · rw [hs 74 (by decide), hs 75 (by decide), hs 76 (by decide), hs 77 (by decide), h65 8 (by decide)]
    rcases a2 with a2 | ⟨a2, c1, c2, c3, c4⟩
    · exact Or.inl a2
    · refine Or.inr ⟨a2, c1, c2, ?_, c4⟩
      obtain ⟨S, sv, d1, d2⟩ := c3
      exact ⟨S, sv, (h65 15 (by decide)).trans d1, d2⟩
  · rw [h65 23 (by decide)]; exact a3
  · rw [hs 83 (by decide)]; exact a4
  · rw [hs 84 (by decide)]; exact a5
  · rw [hs 85 (by decide)]; exact a6
  · rw [h65 31 (by decide)]; exact a7
  · rw [hs 88 (by decide)]; exact a8
  · rw [h65 36 (by decide)]; exact a9
  · rw [hs 92 (by decide)]; exact b1
  · rw [hs 93 (by decide)]; exact b2
  · rw [hs 94 (by decide)]; exact b3
theorem frM_hi {a : Nat} (h : frM a = false) : 66 ≤ a := by
  unfold frM at h
  rw [Bool.or_eq_false_iff] at h
  have := of_decide_eq_false h.1
  omega
theorem RM.hiC {A : St} {hi h1 : HI} (h : RM A hi) (hs : HiC hi h1) : RM A h1 := h.same (fun a ha => hs a (by have := frM_hi ha; omega)) (fun j _ => by rw [hs 65 (by omega)])
def CC (fc : HI → HL → Option (Int32 × HI × HL)) (A : St) (ans : Int32) (A1 : St) : Prop := ∀ hi hl, RC A hi → wp (fc hi hl) (fun o => o.1 = ans ∧ RC A1 o.2.1 ∧ HiC hi o.2.1)
def MM (fm : HI → HL → Option (Int32 × HI × HL)) (A : St) (ans : Int32) (A1 : St) : Prop := ∀ hi hl, RM A hi → wp (fm hi hl) (fun o => o.1 = ans ∧ RM A1 o.2.1 ∧ LoC hi o.2.1)
def Sim (fc fm : HI → HL → Option (Int32 × HI × HL)) : Prop := ∀ A hi hl, WF A → RC A hi → RM A hi → wp (fc hi hl) (fun o => wp (fm o.2.1 o.2.2) (fun o2 => o.1 = o2.1 ∧ ∃ A1, WF A1 ∧ RC A1 o2.2.1 ∧ RM A1 o2.2.1))
theorem Sim.of {fc fm : HI → HL → Option (Int32 × HI × HL)} (h : ∀ A, WF A → ∃ ans A1, WF A1 ∧ CC fc A ans A1 ∧ MM fm A ans A1) : Sim fc fm := by
  intro A hi hl hw hc hm
  obtain ⟨ans, A1, w1, h1, h2⟩ := h A hw
  refine (h1 hi hl hc).mono (fun o ho => ?_)
  obtain ⟨e1, e2, e3⟩ := ho
  refine (h2 o.2.1 o.2.2 (hm.hiC e3)).mono (fun o2 ho2 => ?_)
  obtain ⟨k1, k2, k3⟩ := ho2
  exact ⟨e1.trans k1.symm, A1, w1, e2.lo k3, k2⟩
theorem CC.q {fc : HI → HL → Option (Int32 × HI × HL)} {A : St} {ans : Int32} (h : ∀ hi hl, RC A hi → fc hi hl = some (ans, hi, hl)) : CC fc A ans A := fun hi hl hR => by rw [h hi hl hR, wp_some]; exact ⟨rfl, hR, HiC.refl _⟩
theorem MM.q {fm : HI → HL → Option (Int32 × HI × HL)} {A : St} {ans : Int32} (h : ∀ hi hl, RM A hi → fm hi hl = some (ans, hi, hl)) : MM fm A ans A := fun hi hl hR => by rw [h hi hl hR, wp_some]; exact ⟨rfl, hR, LoC.refl _⟩
theorem Sim.bad {fc fm : HI → HL → Option (Int32 × HI × HL)} {A : St} {ans : Int32} (hw : WF A) (h1 : ∀ hi hl, RC A hi → fc hi hl = some (ans, hi, hl)) (h2 : ∀ hi hl, RM A hi → fm hi hl = some (ans, hi, hl)) : ∃ ans A1, WF A1 ∧ CC fc A ans A1 ∧ MM fm A ans A1 := ⟨ans, A, hw, CC.q h1, MM.q h2⟩
/-! facts for the rewriting of conditions -/
theorem ix_ok {j m : Nat} (h : j < m) (hm : m < 2 ^ 31) : (nI j < 0 ∨ m ≤ (nI j).toNatClampNeg) = False := eq_false (nI_in h hm)
theorem rgE (p : Int32) (a b : Nat) : (rg p a b = false ∧ ¬ ((a : Int) ≤ p.toInt ∧ p.toInt < b)) ∨ (rg p a b = true ∧ ((a : Int) ≤ p.toInt ∧ p.toInt < b)) := by
  cases h : rg p a b with
  | false => exact Or.inl ⟨rfl, fun q => by rw [rg_iff.mpr q] at h; cases h⟩
  | true => exact Or.inr ⟨rfl, rg_iff.mp h⟩
/-! forgetting -/
abbrev Fgt (hi h1 : HI) : Prop :=
  (Sam [12, 38, 20, 22, 24, 26, 28, 30, 32, 34] hi h1) ∧
  (h1 12 0 = 0) ∧
  (h1 38 0 = 0) ∧
  (∀ i, i < 8 → h1 (20 + 2 * i) 0 = 0)
theorem Fgt.s {hi h1 : HI} (h_ : Fgt hi h1) : Sam [12, 38, 20, 22, 24, 26, 28, 30, 32, 34] hi h1 := h_.1
theorem Fgt.t {hi h1 : HI} (h_ : Fgt hi h1) : h1 12 0 = 0 := h_.2.1
theorem Fgt.u {hi h1 : HI} (h_ : Fgt hi h1) : h1 38 0 = 0 := h_.2.2.1
theorem Fgt.f {hi h1 : HI} (h_ : Fgt hi h1) : ∀ i, i < 8 → h1 (20 + 2 * i) 0 = 0 := h_.2.2.2
theorem gF_8 : ∀ i, i < 8 → gF (20 + 2 * i)
  | 0, _ => ⟨rfl, rfl⟩
  | 1, _ => ⟨rfl, rfl⟩
  | 2, _ => ⟨rfl, rfl⟩
  | 3, _ => ⟨rfl, rfl⟩
  | 4, _ => ⟨rfl, rfl⟩
  | 5, _ => ⟨rfl, rfl⟩
  | 6, _ => ⟨rfl, rfl⟩
  | 7, _ => ⟨rfl, rfl⟩
  | n + 8, h => absurd h (by omega)
theorem c_ffor {N : Nat} (hN : 70000 ≤ N) (hi : HI) (hl : HL) : wp (f_Frames_forget N hi hl) (fun o => Sam [20, 22, 24, 26, 28, 30, 32, 34] hi o.2.1 ∧ ∀ i, i < 8 → o.2.1 (20 + 2 * i) 0 = 0) := by
  unfold f_Frames_forget
  refine wp.bnd (P := fun x => Sam [20, 22, 24, 26, 28, 30, 32, 34] hi x.1 ∧ ∀ i, i < 8 → x.1 (20 + 2 * i) 0 = 0) ?_ (fun x hx => by rw [wp_some]; exact hx)
  refine wp_for 8 (fun i s => s.1 = nI i ∧ Sam [20, 22, 24, 26, 28, 30, 32, 34] hi s.2.1 ∧ ∀ k, k < i → s.2.1 (20 + 2 * k) 0 = 0) ?_ ?_ (i := 0) (by omega) ⟨rfl, Sam.refl _ _, fun k hk => by omega⟩ (by omega)
  · rintro i ⟨v, h, l⟩ hi8 ⟨rfl, h1, h2⟩
    unfold B_Frames_forget_2
    dsimp only
    refine wp_neg (nI_ge (b := 8) hi8 (by omega)) (wp_neg (nI_in hi8 (by omega)) ?_)
    rw [nI_clamp (by omega)]
    refine wp_pos (gF_8 i hi8) ?_
    rw [wp_some]
    refine ⟨nI_1 i, h1.wr (by simp only [List.mem_cons, List.not_mem_nil, or_false]; omega), fun k hk => ?_⟩
    dsimp only at h2 ⊢
    by_cases e : k = i
    · subst e; exact wr_s _ _ _ _
    · rw [wr_o (by omega)]; exact h2 k (by omega)
  · rintro ⟨v, h, l⟩ ⟨rfl, h1, h2⟩
    unfold B_Frames_forget_2
    dsimp only
    refine wp_pos (nI_le (a := 8) (b := 8) (by omega) (by omega)) ?_
    rw [wp_some]
    exact ⟨h1, h2⟩
theorem c_forget {N : Nat} (hN : 70000 ≤ N) (hi : HI) (hl : HL) : wp (f_LW_forgetGlow N hi hl) (fun o => Fgt hi o.2.1) := by
  unfold f_LW_forgetGlow
  refine (c_ffor hN _ hl).bnd (fun x hx => ?_)
  rw [wp_some]
  obtain ⟨h1, h2⟩ := hx
  have e12 : x.2.1 12 0 = 0 := by rw [h1 12 (by decide), wr_o (by omega), wr_s]
  have e38 : x.2.1 38 0 = 0 := by rw [h1 38 (by decide), wr_s]
  refine ⟨fun a ha => ?_, e12, e38, h2⟩
  simp only [List.mem_cons, List.not_mem_nil, or_false, not_or] at ha
  refine (h1 a (by simp only [List.mem_cons, List.not_mem_nil, or_false, not_or]; omega)).trans ?_
  rw [wr_o (by omega), wr_o (by omega)]
/-- RC behind a change of the board, when all that is kept of it was forgotten -/
theorem RC.forgot {A A1 : St} {hi h1 h2 : HI} (h : RC A hi) (S : List Nat) (hs : Sam S hi h1) (hS : ∀ a ∈ S, frC a = true ∨ a ∈ [1, 2, 3, 4, 5, 6, 47, 51]) (hf : Fgt h1 h2) (bd : Bd A1 (h1 1) (h1 2) (h1 3) (h1 4) (h1 5) (h1 6)) (h7 : (A1.1 4, A1.1 5, A1.2.1 7) = (A.1 4, A.1 5, A.2.1 7)) (sc : ScC A1 (h1 47) (hi 48) (hi 49) (hi 50)) (gs : GsOK A1 (h1 51) (hi 52) (hi 53)) (h8 : (A1.2.1 8, A1.2.1 9, A1.2.1 10) = (A.2.1 8, A.2.1 9, A.2.1 10)) (h9 : ∀ k, A1.2.2 (k + 1) = A.2.2 (k + 1)) : RC A1 h2 := by
  have q : ∀ a, frC a = false → a ∉ [1, 2, 3, 4, 5, 6, 47, 51] → h1 a = hi a := fun a ha hb => hs a (fun m => by
    rcases hS a m with e | e
    · rw [e] at ha; cases ha
    · exact hb e)
  have q2 : ∀ a, a ∉ [12, 38, 20, 22, 24, 26, 28, 30, 32, 34] → h2 a = h1 a := hf.s
  obtain ⟨a1, a2, a3, a4, a5, a6, a7, a8, a9, a10⟩ := h
  have e2 : ∀ i, i < 4 → h2 (57 + 2 * i) = hi (57 + 2 * i) ∧ h2 (58 + 2 * i) = hi (58 + 2 * i) := by
    intro i hi
    constructor <;> refine (q2 _ ?_).trans (q _ ?_ ?_) <;> revert i <;> decide
  injection h7 with h71 h7
  injection h7 with h72 h73
  injection h8 with h81 h8
  injection h8 with h82 h83
  refine ⟨?_, Or.inl hf.t, ?_, ?_, fun i hi => Or.inl (hf.f i hi), Or.inl hf.u, ?_, ?_, ?_, ?_⟩
  · rw [q2 1 (by decide), q2 2 (by decide), q2 3 (by decide), q2 4 (by decide), q2 5 (by decide), q2 6 (by decide)]; exact bd
  · rw [q2 17 (by decide), q 17 (by decide) (by decide)]; exact a3
  · rw [q2 18 (by decide), q 18 (by decide) (by decide)]; exact a4
  · rw [q2 43 (by decide), q 43 (by decide) (by decide), q2 46 (by decide), q 46 (by decide) (by decide)]
    unfold TpC St.taped St.fault St.tape
    rw [h71, h72, h73]; exact a7
  · rw [q2 47 (by decide), q2 48 (by decide), q2 49 (by decide), q2 50 (by decide), q 48 (by decide) (by decide), q 49 (by decide) (by decide), q 50 (by decide) (by decide)]; exact sc
  · rw [q2 51 (by decide), q2 52 (by decide), q2 53 (by decide), q 52 (by decide) (by decide), q 53 (by decide) (by decide)]; exact gs
  · intro i hi
    rw [(e2 i hi).1, (e2 i hi).2]
    unfold ShC St.has St.size St.lane St.cel
    rw [h81, h82, h83, h9]; exact a10 i hi
theorem Fgt.hiC {hi h1 : HI} (h : Fgt hi h1) : HiC hi h1 := HiC.of h.s (by decide)
