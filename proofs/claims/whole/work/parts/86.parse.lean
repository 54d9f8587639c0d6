/-! what a program's text says -/
abbrev Tokn : Type := Nat × Nat × Nat × Nat
def stpR (A : St) (lo hi e : Nat) : Prop := A.taped ≤ e ∨ A.tape e < lo ∨ hi < A.tape e
/-- where a run of bytes from lo to hi ends -/
noncomputable def rnE (A : St) (lo hi b : Nat) : Nat := lst (fun e => b ≤ e ∧ stpR A lo hi e) 0
theorem rnE_eq {A : St} {lo hi b e : Nat} (h1 : b ≤ e) (h2 : stpR A lo hi e) (h3 : ∀ i, b ≤ i → i < e → ¬ stpR A lo hi i) : rnE A lo hi b = e := lst_eq ⟨h1, h2⟩ (fun k hk => Nat.le_of_not_lt (fun q => h3 k hk.1 q hk.2))
theorem rnE_sp {A : St} {lo hi b : Nat} (hb : b ≤ A.taped) : b ≤ rnE A lo hi b ∧ rnE A lo hi b ≤ A.taped ∧ stpR A lo hi (rnE A lo hi b) ∧ ∀ i, b ≤ i → i < rnE A lo hi b → ¬ stpR A lo hi i := by
  have q := lst_spec (p := fun e => b ≤ e ∧ stpR A lo hi e) (z := 0) ⟨A.taped, hb, Or.inl (Nat.le_refl _)⟩
  refine ⟨q.1.1, q.2 _ ⟨hb, Or.inl (Nat.le_refl _)⟩, q.1.2, fun i h1 h2 h3 => ?_⟩
  have := q.2 i ⟨h1, h3⟩
  unfold rnE at h2
  omega
def Wrd (A : St) (p e : Nat) (cs : List Nat) : Prop := e = p + cs.length ∧ ∀ i, i < cs.length → A.tape (p + i) = cs.getD i 0
noncomputable def nmK (A : St) (p e : Nat) : Nat := if cD (Wrd A p e [104, 105, 103, 104]) then 3 else if cD (Wrd A p e [108, 111, 119]) then 4 else if cD (Wrd A p e [102, 111, 114]) then 5 else if cD (Wrd A p e [100, 97, 114, 107]) then 6 else 7
theorem nmK_r (A : St) (p e : Nat) : 3 ≤ nmK A p e ∧ nmK A p e ≤ 7 := by
  unfold nmK
  repeat' split
  all_goals omega
def numV (A : St) (p : Nat) : Nat → Nat
  | 0 => 0
  | k + 1 => numV A p k * 10 + (A.tape (p + k) - 48)
noncomputable def nxtP (A : St) (p : Nat) : Tokn :=
  if A.taped ≤ p then (0, p, p, 0) else if A.tape p = 59 then (2, p, p + 1, 0) else if 48 ≤ A.tape p ∧ A.tape p ≤ 57 then (if rnE A 48 57 p ≤ p + 2 then (1, p, rnE A 48 57 p, numV A p (rnE A 48 57 p - p)) else (7, p, rnE A 48 57 p, 0)) else if 97 ≤ A.tape p ∧ A.tape p ≤ 122 then (nmK A p (rnE A 97 122 p), p, rnE A 97 122 p, 0) else (7, p, p + 1, 0)
noncomputable def nxt (A : St) (b : Nat) : Tokn := nxtP A (rnE A 32 32 b)
theorem nxtP_place (A : St) (p : Nat) : (nxtP A p).2.1 = p := by
  unfold nxtP
  repeat' split
  all_goals rfl
/-- what is sure of a token -/
abbrev TkOK (A : St) (b : Nat) (tk : Tokn) : Prop :=
  (tk.1 ≤ 7) ∧
  (b ≤ tk.2.1) ∧
  (tk.2.1 ≤ A.taped) ∧
  (tk.1 ≠ 0 → tk.1 ≠ 7 → tk.2.1 < tk.2.2.1 ∧ tk.2.2.1 ≤ A.taped) ∧
  (tk.1 = 1 → tk.2.2.2 ≤ 99)
theorem TkOK.k {A : St} {b : Nat} {tk : Tokn} (h_ : TkOK A b tk) : tk.1 ≤ 7 := h_.1
theorem TkOK.p {A : St} {b : Nat} {tk : Tokn} (h_ : TkOK A b tk) : b ≤ tk.2.1 := h_.2.1
theorem TkOK.q {A : St} {b : Nat} {tk : Tokn} (h_ : TkOK A b tk) : tk.2.1 ≤ A.taped := h_.2.2.1
theorem TkOK.e {A : St} {b : Nat} {tk : Tokn} (h_ : TkOK A b tk) : tk.1 ≠ 0 → tk.1 ≠ 7 → tk.2.1 < tk.2.2.1 ∧ tk.2.2.1 ≤ A.taped := h_.2.2.2.1
theorem TkOK.v {A : St} {b : Nat} {tk : Tokn} (h_ : TkOK A b tk) : tk.1 = 1 → tk.2.2.2 ≤ 99 := h_.2.2.2.2
theorem rn_one {A : St} {lo hi p : Nat} (h1 : p < A.taped) (h2 : lo ≤ A.tape p) (h3 : A.tape p ≤ hi) : p < rnE A lo hi p ∧ rnE A lo hi p ≤ A.taped := by
  obtain ⟨q1, q2, q3, q4⟩ := rnE_sp (A := A) (lo := lo) (hi := hi) (b := p) (by omega)
  refine ⟨?_, q2⟩
  by_cases c : p < rnE A lo hi p
  · exact c
  · have e : rnE A lo hi p = p := by omega
    rw [e] at q3
    rcases q3 with h | h | h <;> omega
theorem numV_le {A : St} {p e : Nat} (he : e ≤ p + 2) (h : ∀ i, p ≤ i → i < e → ¬ stpR A 48 57 i) : numV A p (e - p) ≤ 99 := by
  have d : ∀ i, p ≤ i → i < e → A.tape i - 48 ≤ 9 := fun i h1 h2 => by
    have := h i h1 h2
    unfold stpR at this
    omega
  have c : e - p = 0 ∨ e - p = 1 ∨ e - p = 2 := by omega
  rcases c with c | c | c
  · rw [c]; show (0 : Nat) ≤ 99; omega
  · rw [c]
    show 0 * 10 + (A.tape (p + 0) - 48) ≤ 99
    have := d (p + 0) (by omega) (by omega)
    omega
  · rw [c]
    show (0 * 10 + (A.tape (p + 0) - 48)) * 10 + (A.tape (p + 1) - 48) ≤ 99
    have := d (p + 0) (by omega) (by omega)
    have := d (p + 1) (by omega) (by omega)
    omega
theorem nxt_ok {A : St} {b : Nat} (hb : b ≤ A.taped) : TkOK A b (nxt A b) := by
  obtain ⟨q1, q2, _, _⟩ := rnE_sp (A := A) (lo := 32) (hi := 32) hb
  unfold nxt
  generalize rnE A 32 32 b = p at q1 q2
  have pl := nxtP_place A p
  refine ⟨?_, by rw [pl]; exact q1, by rw [pl]; exact q2, ?_, ?_⟩
  · unfold nxtP
    have := nmK_r A p (rnE A 97 122 p)
    repeat' split
    all_goals (dsimp only; omega)
  · unfold nxtP
    split
    · intro h; exact absurd rfl h
    · split
      · intro _ _; dsimp only; omega
      · split
        · rename_i h1 h2 h3
          obtain ⟨r1, r2⟩ := rn_one (by omega) h3.1 h3.2
          split
          · intro _ _; exact ⟨r1, r2⟩
          · intro _ h; exact absurd rfl h
        · split
          · rename_i h1 h2 h3 h4
            obtain ⟨r1, r2⟩ := rn_one (by omega) h4.1 h4.2
            intro _ _; exact ⟨r1, r2⟩
          · intro _ h; exact absurd rfl h
  · unfold nxtP
    split
    · intro h; exact absurd h (by dsimp only; omega)
    · split
      · intro h; exact absurd h (by dsimp only; omega)
      · split
        · split
          · rename_i h1 h2 h3 h4
            intro _
            exact numV_le h4 (rnE_sp (by omega)).2.2.2
          · intro h; exact absurd h (by dsimp only; omega)
        · split
          · intro h
            have := (nmK_r A p (rnE A 97 122 p)).1
            dsimp only at h
            omega
          · intro h; exact absurd h (by dsimp only; omega)
def anT {X Y : Type} (r : (Nat × Nat) ⊕ X) (f : X → (Nat × Nat) ⊕ Y) : (Nat × Nat) ⊕ Y := match r with
  | .inl e => .inl e
  | .inr x => f x
theorem anT_l {X Y : Type} (e : Nat × Nat) (f : X → (Nat × Nat) ⊕ Y) : anT (.inl e) f = .inl e := rfl
theorem anT_r {X Y : Type} (x : X) (f : X → (Nat × Nat) ⊕ Y) : anT (.inr x) f = f x := rfl
noncomputable def wA (A : St) (fg : Nat) : Nat → Nat → Tokn → (Nat × Nat) ⊕ (Nat × Tokn)
  | 0, _, _ => .inl (0, 0)
  | k + 1, tn, tk => if tk.1 ≠ 1 then .inr (tn, tk) else if A.w ≤ tk.2.2.2 then .inl (3, tk.2.1) else if fig tn tk.2.2.2 ≠ 0 then .inl (4, tk.2.1) else if (nxt A tk.2.2.1).1 = 7 then .inl (1, (nxt A tk.2.2.1).2.1) else wA A fg k (tn + fg * 3 ^ tk.2.2.2) (nxt A tk.2.2.1)
noncomputable def wiresA (A : St) (fg fol tn b : Nat) : (Nat × Nat) ⊕ (Nat × Nat) :=
  if (nxt A b).1 = 7 then .inl (1, (nxt A b).2.1) else if (nxt A b).1 ≠ 1 then .inl (2, (nxt A b).2.1) else anT (wA A fg 201 tn (nxt A b)) (fun x => if x.2.1 = fol then .inr (x.1, x.2.2.2.1) else .inl (2, x.2.2.1))
noncomputable def ticksA (A : St) (tn b : Nat) : (Nat × Nat) ⊕ (Nat × Nat × Nat) :=
  if (nxt A b).1 = 7 then .inl (1, (nxt A b).2.1) else if (nxt A b).1 ≠ 1 then .inl (2, (nxt A b).2.1) else if (nxt A b).2.2.2 < 1 ∨ 60 < (nxt A b).2.2.2 then .inl (3, (nxt A b).2.1) else if (nxt A (nxt A b).2.2.1).1 = 7 then .inl (1, (nxt A (nxt A b).2.2.1).2.1) else if (nxt A (nxt A b).2.2.1).1 ≠ 2 then .inl (2, (nxt A (nxt A b).2.2.1).2.1) else .inr (tn, (nxt A b).2.2.2, (nxt A (nxt A b).2.2.1).2.2.1)
noncomputable def lineA (A : St) (L : Nat) (tk : Tokn) : (Nat × Nat) ⊕ (Nat × Nat × Nat) :=
  if tk.1 ≠ 3 ∧ tk.1 ≠ 6 then .inl (2, tk.2.1) else if 12 ≤ L then .inl (5, tk.2.1) else if tk.1 = 3 then anT (wiresA A 1 4 0 tk.2.2.1) (fun x => anT (wiresA A 2 5 x.1 x.2) (fun y => ticksA A y.1 y.2)) else ticksA A 0 tk.2.2.1
noncomputable def qA (A : St) : Nat → Nat → (Nat → Nat) → (Nat → Nat) → Tokn → (Nat × Nat) ⊕ (Nat × (Nat → Nat) × (Nat → Nat))
  | 0, _, _, _, _ => .inl (0, 0)
  | k + 1, L, tf, kf, tk => if tk.1 = 7 then .inl (1, tk.2.1) else if tk.1 = 0 then .inr (L, tf, kf) else anT (lineA A L tk) (fun x => qA A k (L + 1) (fun j => if j = L then x.1 else tf j) (fun j => if j = L then x.2.1 else kf j) (nxt A x.2.2))
noncomputable def progA (A : St) : (Nat × Nat) ⊕ (Nat × (Nat → Nat) × (Nat → Nat)) := qA A 14 0 (fun _ => 0) (fun _ => 0) (nxt A 0)
/-! figures -/
theorem fig_add {c : Nat} (hc : c ≤ 2) : ∀ (x t y : Nat), fig t x = 0 → fig (t + c * 3 ^ x) y = if y = x then c else fig t y := by
  intro x
  induction x with
  | zero =>
    intro t y h
    rw [fig_0] at h
    rw [Nat.pow_zero, Nat.mul_one]
    cases y with
    | zero => rw [if_pos rfl, fig_0]; omega
    | succ y => rw [if_neg (by omega), fig_s, fig_s, show (t + c) / 3 = t / 3 by omega]
  | succ x ih =>
    intro t y h
    rw [fig_s] at h
    have e : c * 3 ^ (x + 1) = 3 * (c * 3 ^ x) := by rw [Nat.pow_succ, Nat.mul_comm (3 ^ x) 3, ← Nat.mul_assoc, Nat.mul_comm c 3, Nat.mul_assoc]
    rw [e]
    cases y with
    | zero => rw [if_neg (by omega), fig_0, fig_0]; omega
    | succ y =>
      rw [fig_s, fig_s, show (t + 3 * (c * 3 ^ x)) / 3 = t / 3 + c * 3 ^ x by omega, ih _ _ h]
      by_cases d : y = x
      · rw [if_pos d, if_pos (by omega)]
      · rw [if_neg d, if_neg (by omega)]
theorem fig_bnd {c : Nat} (hc : c ≤ 2) : ∀ (x t w : Nat), x < w → t < 3 ^ w → fig t x = 0 → t + c * 3 ^ x < 3 ^ w := by
  intro x
  induction x with
  | zero =>
    intro t w hw ht h
    obtain ⟨w', rfl⟩ : ∃ w', w = w' + 1 := ⟨w - 1, by omega⟩
    rw [fig_0] at h
    rw [Nat.pow_succ] at ht ⊢
    rw [Nat.pow_zero, Nat.mul_one]
    omega
  | succ x ih =>
    intro t w hw ht h
    obtain ⟨w', rfl⟩ : ∃ w', w = w' + 1 := ⟨w - 1, by omega⟩
    rw [fig_s] at h
    have e : c * 3 ^ (x + 1) = 3 * (c * 3 ^ x) := by rw [Nat.pow_succ, Nat.mul_comm (3 ^ x) 3, ← Nat.mul_assoc, Nat.mul_comm c 3, Nat.mul_assoc]
    rw [Nat.pow_succ] at ht
    have := ih (t / 3) w' (by omega) (by omega) h
    rw [e, Nat.pow_succ]
    omega
theorem fig_z (x : Nat) : fig 0 x = 0 := by unfold fig; rw [Nat.zero_div]
