/-! behind the constructors: the cells, and what the abstract machine answers from there on -/
def w0L : List (TG × List (Option Nat)) := [(.inl 11, [some 1, some 7, some 12, some 18, some 36, some 38, some 41, some 42, some 43, some 47, some 51, some 56]), (.inl 0, [none, none, none, some 2, some 3, some 4, some 5, some 6]), (.inr (.int, 16), []), (.inr (.int, 16), []), (.inr (.int, 16), []), (.inr (.int, 16), []), (.inr (.int, 16), []), (.inl 10, [none, none, none, none, some 8, some 9, some 10, some 11]), (.inr (.int, 36), []), (.inr (.int, 36), []), (.inr (.int, 36), []), (.inr (.int, 36), []), (.inl 8, [none, some 13, some 14, none, none, none, none, none, some 15, some 16, none, some 17]), (.inr (.int, 729), []), (.inr (.byte, 729), []), (.inr (.int, 729), []), (.inr (.int, 729), []), (.inr (.int, 64), []), (.inl 3, [some 19, none]), (.inr (.object "LampWires$Frame", 8), [some 20, some 22, some 24, some 26, some 28, some 30, some 32, some 34]), (.inl 1, [none, none, none, some 21]), (.inr (.int, 16), []), (.inl 1, [none, none, none, some 23]), (.inr (.int, 16), []), (.inl 1, [none, none, none, some 25]), (.inr (.int, 16), []), (.inl 1, [none, none, none, some 27]), (.inr (.int, 16), []), (.inl 1, [none, none, none, some 29]), (.inr (.int, 16), []), (.inl 1, [none, none, none, some 31]), (.inr (.int, 16), []), (.inl 1, [none, none, none, some 33]), (.inr (.int, 16), []), (.inl 1, [none, none, none, some 35]), (.inr (.int, 16), []), (.inl 2, [none, none, none, some 37, none]), (.inr (.int, 729), []), (.inl 9, [none, some 39, none, some 40, none, none]), (.inr (.int, 17), []), (.inr (.int, 729), []), (.inr (.long, 4096), []), (.inr (.int, 16), []), (.inl 7, [none, none, none, none, some 44, some 45, some 46, none, none, none, none, none, none, none]), (.inr (.int, 12), []), (.inr (.int, 12), []), (.inr (.byte, 200), []), (.inl 5, [none, some 48, some 49, some 50]), (.inr (.int, 12), []), (.inr (.int, 12), []), (.inr (.int, 12), []), (.inl 4, [none, none, none, some 52, some 53, none, none, none, some 54, some 55]), (.inr (.int, 480), []), (.inr (.int, 480), []), (.inr (.int, 16), []), (.inr (.int, 12), []), (.inr (.object "LampWires$Sheet", 4), [some 57, some 59, some 61, some 63]), (.inl 6, [none, none, some 58]), (.inr (.int, 40), []), (.inl 6, [none, none, some 60]), (.inr (.int, 40), []), (.inl 6, [none, none, some 62]), (.inr (.int, 40), []), (.inl 6, [none, none, some 64]), (.inr (.int, 40), []), (.inl 12, [none, none, none, some 66, some 67, some 68, some 69, some 70, none, some 71, some 72, some 73, none, some 74, some 75, none, some 76, some 77, some 78, some 79, some 80, some 81, some 82, none, some 83, some 84, some 85, none, some 86, some 87, some 88, none, none, none, none, none, none, none, some 89, none, none, some 90, some 91, some 92, some 93, some 94]), (.inr (.int, 16), []), (.inr (.int, 16), []), (.inr (.int, 16), []), (.inr (.int, 16), []), (.inr (.int, 16), []), (.inr (.int, 6), []), (.inr (.int, 6), []), (.inr (.int, 6), []), (.inr (.int, 729), []), (.inr (.boolean, 729), []), (.inr (.int, 729), []), (.inr (.byte, 65536), []), (.inr (.byte, 65536), []), (.inr (.int, 16), []), (.inr (.int, 64), []), (.inr (.int, 4), []), (.inr (.long, 16), []), (.inr (.int, 12), []), (.inr (.int, 12), []), (.inr (.int, 12), []), (.inr (.int, 12), []), (.inr (.int, 12), []), (.inr (.int, 200), []), (.inr (.int, 16), []), (.inr (.int, 500), []), (.inr (.int, 500), []), (.inr (.int, 4), []), (.inr (.int, 4), []), (.inr (.int, 160), [])]
def w0 : WD := (w0L, 145411)
/-- what the variables must hold -/
def Has (l req : LC) : Prop := ∀ q ∈ req, lget l q.1 = some q.2
/-- from this place, with these values, the method ends so, at any depth from dd on -/
def EX (w : WD) (ev : EV) (dd : Nat) (md : Mth) (pc : Nat) (req : LC) (st : List Value) (hi : HI) (hl : HL) (out : Option Value × HI × HL) : Prop :=
  ∀ l, Has l req → ∃ B : Nat, ∀ N d n, B ≤ N → dd ≤ d → B ≤ n → runF ev (runD ev N d) md n pc l st (hi, hl, w) = some (out.1, (out.2.1, out.2.2, w))
def EM (w : WD) (ev : EV) (dd : Nat) (md : Mth) (av : List Value) (hi : HI) (hl : HL) (out : Option Value × HI × HL) : Prop :=
  ∃ B : Nat, ∀ N d, B ≤ N → dd ≤ d → runD ev N d md av (hi, hl, w) = some (out.1, (out.2.1, out.2.2, w))
def oI (o : Int32 × HI × HL) : Option Value × HI × HL := (some (.int o.1), o.2.1, o.2.2)
def oL (o : Int64 × HI × HL) : Option Value × HI × HL := (some (.long o.1), o.2.1, o.2.2)
def oV (o : Unit × HI × HL) : Option Value × HI × HL := (none, o.2.1, o.2.2)
def oR (o : Nat × HI × HL) : Option Value × HI × HL := (some (.ref o.1), o.2.1, o.2.2)
theorem runF_at {ev : EV} {call : Mth → List Value → SG → OT} {md : Mth} {n pc : Nat} {l : LC} {st : List Value} {σ : SG} {i : Instr} {len : Nat} (h : q_at md pc = some (i, len)) : runF ev call md (n + 1) pc l st σ = stepI ev call md pc l st σ (runF ev call md n) i len := by
  show (match q_at md pc with
    | none => none
    | some (i, len) => stepI ev call md pc l st σ (runF ev call md n) i len) = _
  rw [h]
theorem Has.sub {l req req1 : LC} (h : Has l req) (hs : ∀ q ∈ req1, q ∈ req) : Has l req1 := fun q hq => h q (hs q hq)
theorem lget_cons (j : Nat) (v : Value) (r : LC) (i : Nat) : lget ((j, v) :: r) i = if j = i then some v else lget r i := by
  simp only [lget]
  cases hb : Nat.beq j i with
  | true => rw [if_pos (Nat.eq_of_beq_eq_true hb)]; rfl
  | false => rw [if_neg (fun h => by subst h; simp at hb)]; rfl
theorem lget_filter {f : Nat × Value → Bool} {i : Nat} {v : Value} : ∀ (l : LC), lget l i = some v → f (i, v) = true → lget (l.filter f) i = some v
  | [], h, _ => by simp [lget] at h
  | (j, w) :: r, h, hf => by
    rw [lget_cons] at h
    by_cases hj : j = i
    · subst hj
      rw [if_pos rfl] at h
      cases h
      rw [List.filter_cons_of_pos hf, lget_cons, if_pos rfl]
    · rw [if_neg hj] at h
      have ih := lget_filter r h hf
      by_cases hfw : f (j, w) = true
      · rw [List.filter_cons_of_pos hfw, lget_cons, if_neg hj]; exact ih
      · rw [List.filter_cons_of_neg hfw]; exact ih
theorem Has.set1 {l req : LC} (h : Has l req) (i : Nat) (v : Value) : Has (lset1 l i v) (lset1 req i v) := by
  intro q hq
  rcases List.mem_cons.mp hq with rfl | hq
  · simp [lset1, lget_cons]
  · obtain ⟨h1, h2⟩ := List.mem_filter.mp hq
    have hne : ¬ i = q.1 := by
      intro e
      simp [e] at h2
    rw [lset1, lget_cons, if_neg hne]
    exact lget_filter l (h q h1) h2
theorem Has.set2 {l req : LC} (h : Has l req) (i : Nat) (v : Value) : Has (lset2 l i v) (lset2 req i v) := by
  intro q hq
  rcases List.mem_cons.mp hq with rfl | hq
  · simp [lset2, lget_cons]
  · obtain ⟨h1, h2⟩ := List.mem_filter.mp hq
    have hne : ¬ i = q.1 := by
      intro e
      simp [e] at h2
    rw [lset2, lget_cons, if_neg hne]
    exact lget_filter l (h q h1) h2
theorem lv_args_ge : ∀ (av : List Value) (i : Nat) (q : Nat × Value), q ∈ lv_args i av → i ≤ q.1
  | [], _, _, h => by cases h
  | v :: r, i, q, h => by
    rcases List.mem_cons.mp h with rfl | h
    · exact Nat.le_refl _
    · have := lv_args_ge r _ q h
      split at this <;> omega
theorem Has.args : ∀ (av : List Value) (i : Nat), Has (lv_args i av) (lv_args i av)
  | [], _ => fun q hq => by cases hq
  | v :: r, i => by
    intro q hq
    rcases List.mem_cons.mp hq with rfl | hq
    · simp [lv_args, lget_cons]
    · have h1 := Has.args r _ q hq
      have h2 := lv_args_ge r _ q hq
      rw [lv_args, lget_cons, if_neg (by split at h2 <;> omega)]
      exact h1
section EXR
variable {w : WD} {ev : EV} {dd : Nat} {md : Mth} {pc : Nat} {req : LC} {st : List Value} {hi : HI} {hl : HL} {out : Option Value × HI × HL}
theorem EM.of {av : List Value} (hw : Nat.ble (catS av) (q_L md) = true) (h : EX w ev dd md 0 (lv_args 0 av) [] hi hl out) : EM w ev (dd + 1) md av hi hl out := by
  obtain ⟨B, hB⟩ := h _ (Has.args av 0)
  refine ⟨B, fun N d h1 h2 => ?_⟩
  obtain ⟨d1, rfl⟩ : ∃ d1, d = d1 + 1 := ⟨d - 1, by omega⟩
  show gd _ _ = _
  rw [hw]
  exact hB N d1 N h1 (by omega) h1
theorem EM.mono {d1 : Nat} {av : List Value} (h : EM w ev d1 md av hi hl out) (hd : d1 ≤ dd) : EM w ev dd md av hi hl out := by
  obtain ⟨B, hB⟩ := h
  exact ⟨B, fun N d h1 h2 => hB N d h1 (by omega)⟩
theorem EX.mono {d1 : Nat} (h : EX w ev d1 md pc req st hi hl out) (hd : d1 ≤ dd) : EX w ev dd md pc req st hi hl out := by
  intro l hl1
  obtain ⟨B, hB⟩ := h l hl1
  exact ⟨B, fun N d n h1 h2 h3 => hB N d n h1 (by omega) h3⟩
theorem EX.sub {req1 : LC} (h : EX w ev dd md pc req1 st hi hl out) (hs : ∀ q ∈ req1, q ∈ req) : EX w ev dd md pc req st hi hl out := fun l hl1 => h l (hl1.sub hs)
theorem EX.chg {i : Instr} {len pc1 : Nat} {req1 : LC} {st1 : List Value} {hi1 : HI} {hl1 : HL} (h : q_at md pc = some (i, len)) (k : EX w ev dd md pc1 req1 st1 hi1 hl1 out) (hs : ∀ l, Has l req → ∃ l1, Has l1 req1 ∧ ∀ (call : Mth → List Value → SG → OT) (K : KT), stepI ev call md pc l st (hi, hl, w) K i len = K pc1 l1 st1 (hi1, hl1, w)) : EX w ev dd md pc req st hi hl out := by
  intro l hl0
  obtain ⟨l1, h1, h2⟩ := hs l hl0
  obtain ⟨B, hB⟩ := k l1 h1
  refine ⟨B + 1, fun N d n a1 a2 a3 => ?_⟩
  obtain ⟨n1, rfl⟩ : ∃ n1, n = n1 + 1 := ⟨n - 1, by omega⟩
  rw [runF_at h, h2]
  exact hB N d n1 (by omega) a2 (by omega)
/-- an instruction that leaves the variables as they are -/
theorem EX.go {i : Instr} {len pc1 : Nat} {st1 : List Value} {hi1 : HI} {hl1 : HL} (h : q_at md pc = some (i, len)) (k : EX w ev dd md pc1 req st1 hi1 hl1 out) (hs : ∀ (l : LC) (call : Mth → List Value → SG → OT) (K : KT), stepI ev call md pc l st (hi, hl, w) K i len = K pc1 l st1 (hi1, hl1, w)) : EX w ev dd md pc req st hi hl out :=
  EX.chg h k (fun l hl0 => ⟨l, hl0, fun call K => hs l call K⟩)
theorem EX.iload {j : Nat} {x : Int32} (h : q_at md pc = some (.iload j, 2)) (hx : ((j : Nat), Value.int x) ∈ req) (k : EX w ev dd md (pc + 2) req (.int x :: st) hi hl out) : EX w ev dd md pc req st hi hl out := by
  refine EX.chg h k (fun l hl0 => ⟨l, hl0, fun call K => ?_⟩)
  have h1 : lget l (j : Nat) = some (.int x) := hl0 _ hx
  show ldV l (j : Nat) _ = _
  unfold ldV
  rw [h1]
theorem EX.iload_n {j : Fin 4} {x : Int32} (h : q_at md pc = some (.iload_n j, 1)) (hx : ((j : Nat), Value.int x) ∈ req) (k : EX w ev dd md (pc + 1) req (.int x :: st) hi hl out) : EX w ev dd md pc req st hi hl out := by
  refine EX.chg h k (fun l hl0 => ⟨l, hl0, fun call K => ?_⟩)
  have h1 : lget l (j : Nat) = some (.int x) := hl0 _ hx
  show ldV l (j : Nat) _ = _
  unfold ldV
  rw [h1]
theorem EX.lload {j : Nat} {x : Int64} (h : q_at md pc = some (.lload j, 2)) (hx : ((j : Nat), Value.long x) ∈ req) (k : EX w ev dd md (pc + 2) req (.long x :: st) hi hl out) : EX w ev dd md pc req st hi hl out := by
  refine EX.chg h k (fun l hl0 => ⟨l, hl0, fun call K => ?_⟩)
  have h1 : lget l (j : Nat) = some (.long x) := hl0 _ hx
  show ldV l (j : Nat) _ = _
  unfold ldV
  rw [h1]
theorem EX.lload_n {j : Fin 4} {x : Int64} (h : q_at md pc = some (.lload_n j, 1)) (hx : ((j : Nat), Value.long x) ∈ req) (k : EX w ev dd md (pc + 1) req (.long x :: st) hi hl out) : EX w ev dd md pc req st hi hl out := by
  refine EX.chg h k (fun l hl0 => ⟨l, hl0, fun call K => ?_⟩)
  have h1 : lget l (j : Nat) = some (.long x) := hl0 _ hx
  show ldV l (j : Nat) _ = _
  unfold ldV
  rw [h1]
theorem EX.aload {j : Nat} {x : Nat} (h : q_at md pc = some (.aload j, 2)) (hx : ((j : Nat), Value.ref x) ∈ req) (k : EX w ev dd md (pc + 2) req (.ref x :: st) hi hl out) : EX w ev dd md pc req st hi hl out := by
  refine EX.chg h k (fun l hl0 => ⟨l, hl0, fun call K => ?_⟩)
  have h1 : lget l (j : Nat) = some (.ref x) := hl0 _ hx
  show ldV l (j : Nat) _ = _
  unfold ldV
  rw [h1]
theorem EX.aload_n {j : Fin 4} {x : Nat} (h : q_at md pc = some (.aload_n j, 1)) (hx : ((j : Nat), Value.ref x) ∈ req) (k : EX w ev dd md (pc + 1) req (.ref x :: st) hi hl out) : EX w ev dd md pc req st hi hl out := by
  refine EX.chg h k (fun l hl0 => ⟨l, hl0, fun call K => ?_⟩)
  have h1 : lget l (j : Nat) = some (.ref x) := hl0 _ hx
  show ldV l (j : Nat) _ = _
  unfold ldV
  rw [h1]
theorem EX.istore {j : Nat} {x : Int32} {req1 : LC} (h : q_at md pc = some (.istore j, 2)) (hb : Nat.blt (j : Nat) (q_L md) = true) (hr : lset1 req (j : Nat) (.int x) = req1) (k : EX w ev dd md (pc + 2) req1 st hi hl out) : EX w ev dd md pc req (.int x :: st) hi hl out := by
  subst hr
  refine EX.chg h k (fun l hl0 => ⟨lset1 l (j : Nat) (.int x), hl0.set1 _ _, fun call K => ?_⟩)
  show gd (_ && Nat.blt (j : Nat) (q_L md)) _ = _
  rw [hb]
  rfl
theorem EX.istore_n {j : Fin 4} {x : Int32} {req1 : LC} (h : q_at md pc = some (.istore_n j, 1)) (hb : Nat.blt (j : Nat) (q_L md) = true) (hr : lset1 req (j : Nat) (.int x) = req1) (k : EX w ev dd md (pc + 1) req1 st hi hl out) : EX w ev dd md pc req (.int x :: st) hi hl out := by
  subst hr
  refine EX.chg h k (fun l hl0 => ⟨lset1 l (j : Nat) (.int x), hl0.set1 _ _, fun call K => ?_⟩)
  show gd (_ && Nat.blt (j : Nat) (q_L md)) _ = _
  rw [hb]
  rfl
theorem EX.lstore {j : Nat} {x : Int64} {req1 : LC} (h : q_at md pc = some (.lstore j, 2)) (hb : Nat.blt ((j : Nat) + 1) (q_L md) = true) (hr : lset2 req (j : Nat) (.long x) = req1) (k : EX w ev dd md (pc + 2) req1 st hi hl out) : EX w ev dd md pc req (.long x :: st) hi hl out := by
  subst hr
  refine EX.chg h k (fun l hl0 => ⟨lset2 l (j : Nat) (.long x), hl0.set2 _ _, fun call K => ?_⟩)
  show gd (_ && Nat.blt ((j : Nat) + 1) (q_L md)) _ = _
  rw [hb]
  rfl
theorem EX.lstore_n {j : Fin 4} {x : Int64} {req1 : LC} (h : q_at md pc = some (.lstore_n j, 1)) (hb : Nat.blt ((j : Nat) + 1) (q_L md) = true) (hr : lset2 req (j : Nat) (.long x) = req1) (k : EX w ev dd md (pc + 1) req1 st hi hl out) : EX w ev dd md pc req (.long x :: st) hi hl out := by
  subst hr
  refine EX.chg h k (fun l hl0 => ⟨lset2 l (j : Nat) (.long x), hl0.set2 _ _, fun call K => ?_⟩)
  show gd (_ && Nat.blt ((j : Nat) + 1) (q_L md)) _ = _
  rw [hb]
  rfl
theorem EX.astore {j : Nat} {x : Nat} {req1 : LC} (h : q_at md pc = some (.astore j, 2)) (hb : Nat.blt (j : Nat) (q_L md) = true) (hr : lset1 req (j : Nat) (.ref x) = req1) (k : EX w ev dd md (pc + 2) req1 st hi hl out) : EX w ev dd md pc req (.ref x :: st) hi hl out := by
  subst hr
  refine EX.chg h k (fun l hl0 => ⟨lset1 l (j : Nat) (.ref x), hl0.set1 _ _, fun call K => ?_⟩)
  show gd (_ && Nat.blt (j : Nat) (q_L md)) _ = _
  rw [hb]
  rfl
theorem EX.astore_n {j : Fin 4} {x : Nat} {req1 : LC} (h : q_at md pc = some (.astore_n j, 1)) (hb : Nat.blt (j : Nat) (q_L md) = true) (hr : lset1 req (j : Nat) (.ref x) = req1) (k : EX w ev dd md (pc + 1) req1 st hi hl out) : EX w ev dd md pc req (.ref x :: st) hi hl out := by
  subst hr
  refine EX.chg h k (fun l hl0 => ⟨lset1 l (j : Nat) (.ref x), hl0.set1 _ _, fun call K => ?_⟩)
  show gd (_ && Nat.blt (j : Nat) (q_L md)) _ = _
  rw [hb]
  rfl
theorem EX.iinc {j : Nat} {n : Int} {x v : Int32} {req1 : LC} (h : q_at md pc = some (.iinc j n, 3)) (hb : Nat.blt j (q_L md) = true) (hx : (j, Value.int x) ∈ req) (hv : x + Int32.ofInt n = v) (hr : lset1 req j (.int v) = req1) (k : EX w ev dd md (pc + 3) req1 st hi hl out) : EX w ev dd md pc req st hi hl out := by
  subst hr; subst hv
  refine EX.chg h k (fun l hl0 => ⟨lset1 l j (.int (x + Int32.ofInt n)), hl0.set1 _ _, fun call K => ?_⟩)
  have h1 : lget l j = some (.int x) := hl0 _ hx
  show gd (_ && Nat.blt j (q_L md)) (ldV l j _) = _
  rw [hb]
  show ldV l j _ = _
  unfold ldV
  rw [h1]
theorem EX.iconst {n : Int} {v : Int32} (h : q_at md pc = some (.iconst n, 1)) (hv : Int32.ofInt n = v) (k : EX w ev dd md (pc + 1) req (.int v :: st) hi hl out) : EX w ev dd md pc req st hi hl out := by
  subst hv
  exact EX.go h k (fun _ _ _ => rfl)
theorem EX.bipush {n : Int} {v : Int32} (h : q_at md pc = some (.bipush n, 2)) (hv : (Int8.ofInt n).toInt32 = v) (k : EX w ev dd md (pc + 2) req (.int v :: st) hi hl out) : EX w ev dd md pc req st hi hl out := by
  subst hv
  exact EX.go h k (fun _ _ _ => rfl)
theorem EX.sipush {n : Int} {v : Int32} (h : q_at md pc = some (.sipush n, 3)) (hv : (Int16.ofInt n).toInt32 = v) (k : EX w ev dd md (pc + 3) req (.int v :: st) hi hl out) : EX w ev dd md pc req st hi hl out := by
  subst hv
  exact EX.go h k (fun _ _ _ => rfl)
theorem EX.lconst {n : Fin 2} {v : Int64} (h : q_at md pc = some (.lconst n, 1)) (hv : Int64.ofNat (n : Nat) = v) (k : EX w ev dd md (pc + 1) req (.long v :: st) hi hl out) : EX w ev dd md pc req st hi hl out := by
  subst hv
  exact EX.go h k (fun _ _ _ => rfl)
theorem EX.iaload {a n : Nat} {i : Int32} {rs : List (Option Nat)} (h : q_at md pc = some (.iaload, 1)) (hx : w.1[a]? = some (.inr (.int, n), rs)) (hi9 : ¬ (i < 0 ∨ n ≤ i.toNatClampNeg)) (k : EX w ev dd md (pc + 1) req (.int (hi a i.toNatClampNeg) :: st) hi hl out) : EX w ev dd md pc req (.int i :: .ref a :: st) hi hl out := by
  refine EX.go h k (fun l call K => ?_)
  have hx1 : (hi, hl, w).2.2.1[a]? = some (.inr (.int, n), rs) := hx
  have e1 : ldA ev (hi, hl, w) .int a i = some (.int (hi a i.toNatClampNeg)) := by
    unfold ldA
    rw [hx1]
    dsimp only
    rw [if_pos rfl, if_neg hi9]
    rfl
  show (match ldA ev (hi, hl, w) .int a i with
    | some v => K (pc + 1) l (v :: st) (hi, hl, w)
    | none => none) = _
  rw [e1]
theorem EX.laload {a n : Nat} {i : Int32} {rs : List (Option Nat)} (h : q_at md pc = some (.laload, 1)) (hx : w.1[a]? = some (.inr (.long, n), rs)) (hi9 : ¬ (i < 0 ∨ n ≤ i.toNatClampNeg)) (k : EX w ev dd md (pc + 1) req (.long (hl a i.toNatClampNeg) :: st) hi hl out) : EX w ev dd md pc req (.int i :: .ref a :: st) hi hl out := by
  refine EX.go h k (fun l call K => ?_)
  have hx1 : (hi, hl, w).2.2.1[a]? = some (.inr (.long, n), rs) := hx
  have e1 : ldA ev (hi, hl, w) .long a i = some (.long (hl a i.toNatClampNeg)) := by
    unfold ldA
    rw [hx1]
    dsimp only
    rw [if_pos rfl, if_neg hi9]
    rfl
  show (match ldA ev (hi, hl, w) .long a i with
    | some v => K (pc + 1) l (v :: st) (hi, hl, w)
    | none => none) = _
  rw [e1]
theorem EX.baload {a n : Nat} {i : Int32} {rs : List (Option Nat)} (h : q_at md pc = some (.baload, 1)) (hx : w.1[a]? = some (.inr (.byte, n), rs)) (hi9 : ¬ (i < 0 ∨ n ≤ i.toNatClampNeg)) (k : EX w ev dd md (pc + 1) req (.int (hi a i.toNatClampNeg) :: st) hi hl out) : EX w ev dd md pc req (.int i :: .ref a :: st) hi hl out := by
  refine EX.go h k (fun l call K => ?_)
  have hx1 : (hi, hl, w).2.2.1[a]? = some (.inr (.byte, n), rs) := hx
  have e1 : ldA ev (hi, hl, w) .byte a i = some (.int (hi a i.toNatClampNeg)) := by
    unfold ldA
    rw [hx1]
    dsimp only
    rw [if_pos rfl, if_neg hi9]
    rfl
  show (match ldA ev (hi, hl, w) .byte a i with
    | some v => K (pc + 1) l (v :: st) (hi, hl, w)
    | none => (match ldA ev (hi, hl, w) .boolean a i with
      | some v => K (pc + 1) l (v :: st) (hi, hl, w)
      | none => none)) = _
  rw [e1]
theorem EX.zaload {a n : Nat} {i : Int32} {rs : List (Option Nat)} (h : q_at md pc = some (.baload, 1)) (hx : w.1[a]? = some (.inr (.boolean, n), rs)) (hi9 : ¬ (i < 0 ∨ n ≤ i.toNatClampNeg)) (k : EX w ev dd md (pc + 1) req (.int (hi a i.toNatClampNeg) :: st) hi hl out) : EX w ev dd md pc req (.int i :: .ref a :: st) hi hl out := by
  refine EX.go h k (fun l call K => ?_)
  have hx1 : (hi, hl, w).2.2.1[a]? = some (.inr (.boolean, n), rs) := hx
  have e1 : ldA ev (hi, hl, w) .boolean a i = some (.int (hi a i.toNatClampNeg)) := by
    unfold ldA
    rw [hx1]
    dsimp only
    rw [if_pos rfl, if_neg hi9]
    rfl
  have e0 : ldA ev (hi, hl, w) .byte a i = none := by
    unfold ldA
    rw [hx1]
    rfl
  show (match ldA ev (hi, hl, w) .byte a i with
    | some v => K (pc + 1) l (v :: st) (hi, hl, w)
    | none => (match ldA ev (hi, hl, w) .boolean a i with
      | some v => K (pc + 1) l (v :: st) (hi, hl, w)
      | none => none)) = _
  rw [e0, e1]
theorem EX.aaloadF {a n b : Nat} {i : Int32} {rs : List (Option Nat)} (h : q_at md pc = some (.aaload, 1)) (hx : w.1[a]? = some (.inr (.object "LampWires$Frame", n), rs)) (hi9 : ¬ (i < 0 ∨ n ≤ i.toNatClampNeg)) (hb : rs.getD i.toNatClampNeg none = some b) (hb2 : Nat.blt b 1000000 = true) (k : EX w ev dd md (pc + 1) req (.ref b :: st) hi hl out) : EX w ev dd md pc req (.int i :: .ref a :: st) hi hl out := by
  refine EX.go h k (fun l call K => ?_)
  have hx1 : (hi, hl, w).2.2.1[a]? = some (.inr (.object "LampWires$Frame", n), rs) := hx
  have e1 : ldA ev (hi, hl, w) (.object "LampWires$Frame") a i = some (.ref b) := by
    unfold ldA
    rw [hx1]
    dsimp only
    rw [if_pos rfl, if_neg hi9]
    show some (rv (rs.getD i.toNatClampNeg none)) = _
    rw [hb]
    rfl
  show (match ldA ev (hi, hl, w) (.object "LampWires$Frame") a i with
    | some (.ref b) => gd (Nat.blt b 1000000) (K (pc + 1) l (.ref b :: st) (hi, hl, w))
    | _ => (match ldA ev (hi, hl, w) (.object "LampWires$Sheet") a i with
      | some (.ref b) => gd (Nat.blt b 1000000) (K (pc + 1) l (.ref b :: st) (hi, hl, w))
      | _ => none)) = _
  rw [e1]
  dsimp only
  rw [hb2]
  rfl
theorem EX.aaloadS {a n b : Nat} {i : Int32} {rs : List (Option Nat)} (h : q_at md pc = some (.aaload, 1)) (hx : w.1[a]? = some (.inr (.object "LampWires$Sheet", n), rs)) (hi9 : ¬ (i < 0 ∨ n ≤ i.toNatClampNeg)) (hb : rs.getD i.toNatClampNeg none = some b) (hb2 : Nat.blt b 1000000 = true) (k : EX w ev dd md (pc + 1) req (.ref b :: st) hi hl out) : EX w ev dd md pc req (.int i :: .ref a :: st) hi hl out := by
  refine EX.go h k (fun l call K => ?_)
  have hx1 : (hi, hl, w).2.2.1[a]? = some (.inr (.object "LampWires$Sheet", n), rs) := hx
  have e1 : ldA ev (hi, hl, w) (.object "LampWires$Sheet") a i = some (.ref b) := by
    unfold ldA
    rw [hx1]
    dsimp only
    rw [if_pos rfl, if_neg hi9]
    show some (rv (rs.getD i.toNatClampNeg none)) = _
    rw [hb]
    rfl
  have e0 : ldA ev (hi, hl, w) (.object "LampWires$Frame") a i = none := by
    unfold ldA
    rw [hx1]
    rfl
  show (match ldA ev (hi, hl, w) (.object "LampWires$Frame") a i with
    | some (.ref b) => gd (Nat.blt b 1000000) (K (pc + 1) l (.ref b :: st) (hi, hl, w))
    | _ => (match ldA ev (hi, hl, w) (.object "LampWires$Sheet") a i with
      | some (.ref b) => gd (Nat.blt b 1000000) (K (pc + 1) l (.ref b :: st) (hi, hl, w))
      | _ => none)) = _
  rw [e0, e1]
  dsimp only
  rw [hb2]
  rfl
theorem EX.ialoadR {a n : Nat} {i : Int32} {f : Nat → Value} {v : Value} (h : q_at md pc = some (.iaload, 1)) (hx : w.1[a]? = none) (hr : q_lk (roT ev) a = some (.int, n, f)) (hi9 : ¬ (i < 0 ∨ n ≤ i.toNatClampNeg)) (hv : f i.toNatClampNeg = v) (k : EX w ev dd md (pc + 1) req (v :: st) hi hl out) : EX w ev dd md pc req (.int i :: .ref a :: st) hi hl out := by
  subst hv
  refine EX.go h k (fun l call K => ?_)
  have hx1 : (hi, hl, w).2.2.1[a]? = none := hx
  have e1 : ldA ev (hi, hl, w) .int a i = some (f i.toNatClampNeg) := by
    unfold ldA
    rw [hx1]
    dsimp only
    rw [hr]
    dsimp only
    rw [if_pos rfl, if_neg hi9]
  show (match ldA ev (hi, hl, w) .int a i with
    | some v => K (pc + 1) l (v :: st) (hi, hl, w)
    | none => none) = _
  rw [e1]
theorem EX.laloadR {a n : Nat} {i : Int32} {f : Nat → Value} {v : Value} (h : q_at md pc = some (.laload, 1)) (hx : w.1[a]? = none) (hr : q_lk (roT ev) a = some (.long, n, f)) (hi9 : ¬ (i < 0 ∨ n ≤ i.toNatClampNeg)) (hv : f i.toNatClampNeg = v) (k : EX w ev dd md (pc + 1) req (v :: st) hi hl out) : EX w ev dd md pc req (.int i :: .ref a :: st) hi hl out := by
  subst hv
  refine EX.go h k (fun l call K => ?_)
  have hx1 : (hi, hl, w).2.2.1[a]? = none := hx
  have e1 : ldA ev (hi, hl, w) .long a i = some (f i.toNatClampNeg) := by
    unfold ldA
    rw [hx1]
    dsimp only
    rw [hr]
    dsimp only
    rw [if_pos rfl, if_neg hi9]
  show (match ldA ev (hi, hl, w) .long a i with
    | some v => K (pc + 1) l (v :: st) (hi, hl, w)
    | none => none) = _
  rw [e1]
theorem EX.baloadR {a n : Nat} {i : Int32} {f : Nat → Value} {v : Value} (h : q_at md pc = some (.baload, 1)) (hx : w.1[a]? = none) (hr : q_lk (roT ev) a = some (.byte, n, f)) (hi9 : ¬ (i < 0 ∨ n ≤ i.toNatClampNeg)) (hv : f i.toNatClampNeg = v) (k : EX w ev dd md (pc + 1) req (v :: st) hi hl out) : EX w ev dd md pc req (.int i :: .ref a :: st) hi hl out := by
  subst hv
  refine EX.go h k (fun l call K => ?_)
  have hx1 : (hi, hl, w).2.2.1[a]? = none := hx
  have e1 : ldA ev (hi, hl, w) .byte a i = some (f i.toNatClampNeg) := by
    unfold ldA
    rw [hx1]
    dsimp only
    rw [hr]
    dsimp only
    rw [if_pos rfl, if_neg hi9]
  show (match ldA ev (hi, hl, w) .byte a i with
    | some v => K (pc + 1) l (v :: st) (hi, hl, w)
    | none => (match ldA ev (hi, hl, w) .boolean a i with
      | some v => K (pc + 1) l (v :: st) (hi, hl, w)
      | none => none)) = _
  rw [e1]
theorem EX.iastore {a n : Nat} {i : Int32} {x : Int32} {rs : List (Option Nat)} (h : q_at md pc = some (.iastore, 1)) (hx : w.1[a]? = some (.inr (.int, n), rs)) (hi9 : ¬ (i < 0 ∨ n ≤ i.toNatClampNeg)) (k : EX w ev dd md (pc + 1) req st (wr hi a i.toNatClampNeg x) (hl) out) : EX w ev dd md pc req (.int x :: .int i :: .ref a :: st) hi hl out := by
  refine EX.go h k (fun l call K => ?_)
  have hx1 : (hi, hl, w).2.2.1[a]? = some (.inr (.int, n), rs) := hx
  have e1 : okA (hi, hl, w) .int a i = true := by
    unfold okA
    rw [hx1]
    dsimp only
    rw [if_pos rfl, if_neg hi9]
  show gd (okA (hi, hl, w) .int a i) _ = _
  rw [e1]
  rfl
theorem EX.lastore {a n : Nat} {i : Int32} {x : Int64} {rs : List (Option Nat)} (h : q_at md pc = some (.lastore, 1)) (hx : w.1[a]? = some (.inr (.long, n), rs)) (hi9 : ¬ (i < 0 ∨ n ≤ i.toNatClampNeg)) (k : EX w ev dd md (pc + 1) req st (hi) (wrL hl a i.toNatClampNeg x) out) : EX w ev dd md pc req (.long x :: .int i :: .ref a :: st) hi hl out := by
  refine EX.go h k (fun l call K => ?_)
  have hx1 : (hi, hl, w).2.2.1[a]? = some (.inr (.long, n), rs) := hx
  have e1 : okA (hi, hl, w) .long a i = true := by
    unfold okA
    rw [hx1]
    dsimp only
    rw [if_pos rfl, if_neg hi9]
  show gd (okA (hi, hl, w) .long a i) _ = _
  rw [e1]
  rfl
theorem EX.bastore {a n : Nat} {i : Int32} {x : Int32} {rs : List (Option Nat)} (h : q_at md pc = some (.bastore, 1)) (hx : w.1[a]? = some (.inr (.byte, n), rs)) (hi9 : ¬ (i < 0 ∨ n ≤ i.toNatClampNeg)) (k : EX w ev dd md (pc + 1) req st (wr hi a i.toNatClampNeg x.toInt8.toInt32) (hl) out) : EX w ev dd md pc req (.int x :: .int i :: .ref a :: st) hi hl out := by
  refine EX.go h k (fun l call K => ?_)
  have hx1 : (hi, hl, w).2.2.1[a]? = some (.inr (.byte, n), rs) := hx
  have e1 : okA (hi, hl, w) .byte a i = true := by
    unfold okA
    rw [hx1]
    dsimp only
    rw [if_pos rfl, if_neg hi9]
  show cond (okA (hi, hl, w) .byte a i) _ _ = _
  rw [e1]
  rfl
theorem EX.zastore {a n : Nat} {i : Int32} {x : Int32} {rs : List (Option Nat)} (h : q_at md pc = some (.bastore, 1)) (hx : w.1[a]? = some (.inr (.boolean, n), rs)) (hi9 : ¬ (i < 0 ∨ n ≤ i.toNatClampNeg)) (k : EX w ev dd md (pc + 1) req st (wr hi a i.toNatClampNeg (x &&& 1)) (hl) out) : EX w ev dd md pc req (.int x :: .int i :: .ref a :: st) hi hl out := by
  refine EX.go h k (fun l call K => ?_)
  have hx1 : (hi, hl, w).2.2.1[a]? = some (.inr (.boolean, n), rs) := hx
  have e1 : okA (hi, hl, w) .boolean a i = true := by
    unfold okA
    rw [hx1]
    dsimp only
    rw [if_pos rfl, if_neg hi9]
  have e0 : okA (hi, hl, w) .byte a i = false := by
    unfold okA
    rw [hx1]
    rfl
  show cond (okA (hi, hl, w) .byte a i) _ (gd (okA (hi, hl, w) .boolean a i) _) = _
  rw [e0, e1]
  rfl
/-- a field of an object whose number is a variable -/
theorem EX.getfieldV {j a ci k : Nat} {rs : List (Option Nat)} {ww : Nat} {v : Value} (h : q_at md pc = some (.getfield j, 3)) (hq : q_rf (q_o md) j = some (ci, k, ww)) (hx : w.1[a]? = some (.inl ci, rs)) (hc : Nat.blt ci 13 = true) (hv : fv ci k (hi a) rs = v) (kk : EX w ev dd md (pc + 3) req (v :: st) hi hl out) : EX w ev dd md pc req (.ref a :: st) hi hl out := by
  subst hv
  refine EX.go h kk (fun l call K => ?_)
  have hx1 : (hi, hl, w).2.2.1[a]? = some (.inl ci, rs) := hx
  show (match q_rf (q_o md) j with
    | none => none
    | some (ci, k, _) => match (hi, hl, w).2.2.1[a]? with
      | some (.inl c, rs) => gd (Nat.beq c ci && Nat.blt ci 13) (K (pc + 3) l (fv ci k (hi a) rs :: st) (hi, hl, w))
      | some (.inr _, _) => none
      | none => gd (Nat.beq ci 17 && (Nat.ble 1000002 a && Nat.ble a 1000005)) (K (pc + 3) l ((match k with
        | 0 => .int 0
        | _ => .ref (a + 4)) :: st) (hi, hl, w))) = _
  rw [hq]
  dsimp only
  rw [hx1]
  dsimp only
  rw [hc, show Nat.beq ci ci = true from Nat.beq_refl ci]
  rfl
theorem EX.putfieldV {j a ci k : Nat} {rs : List (Option Nat)} {ww : Nat} {v : Int32} (h : q_at md pc = some (.putfield j, 3)) (hq : q_rf (q_o md) j = some (ci, k, ww)) (hx : w.1[a]? = some (.inl ci, rs)) (hc : Nat.blt ci 13 = true) (hf : (q_T ci k).2.2.2 = false) (hk : q_fk ci k = 0 ∨ (q_fk ci k = 1 ∧ (v = 0 ∨ v = 1))) (kk : EX w ev dd md (pc + 3) req st (wr hi a k v) hl out) : EX w ev dd md pc req (.int v :: .ref a :: st) hi hl out := by
  refine EX.go h kk (fun l call K => ?_)
  have hx1 : (hi, hl, w).2.2.1[a]? = some (.inl ci, rs) := hx
  show (match q_rf (q_o md) j with
    | none => none
    | some (ci, k, _) => match (hi, hl, w).2.2.1[a]? with
      | some (.inl c, rs) => gd (Nat.beq c ci && Nat.blt ci 13) (putV md (hi, hl, w) a ci k rs (.int v) (fun σ1 => K (pc + 3) l st σ1))
      | _ => none) = _
  rw [hq]
  dsimp only
  rw [hx1]
  dsimp only
  rw [hc, show Nat.beq ci ci = true from Nat.beq_refl ci]
  show putV md (hi, hl, w) a ci k rs (.int v) (fun σ1 => K (pc + 3) l st σ1) = _
  unfold putV
  rw [hf]
  show (match q_fk ci k with
  | 0 => K (pc + 3) l st (wr hi a k v, hl, w)
  | 1 => if v = 0 ∨ v = 1 then K (pc + 3) l st (wr hi a k v, hl, w) else none
  | 2 => none
  | 3 => none
  | _ => none) = _
  rcases hk with hk | ⟨hk, hb⟩
  · rw [hk]
    rfl
  · rw [hk]
    exact if_pos hb
theorem leS_refl (x : Nat × Nat) : leS x x = true := by simp [leS]
theorem callK_ok {cr : OT} {σ σ1 σ2 : SG} {v r : Option Value} {K : Option Value → SG → OT} (h1 : cr = some (v, σ1)) (h2 : K v σ1 = some (r, σ2)) (hs : szs σ = szs σ1) (hs2 : szs σ1 = szs σ2) : callK cr σ K = some (r, σ2) := by
  unfold callK
  rw [h1]
  dsimp only
  rw [h2]
  dsimp only
  rw [hs, hs2, leS_refl]
  rfl
theorem EX.callV {j na b : Nat} {cm : Mth} {ww : Nat × Nat × Nat} {as rest : List Value} {r : Option Value} {hi1 : HI} {hl1 : HL} (h : q_at md pc = some (.invokevirtual j, 3)) (hq : q_rm (q_o md) j = some (0, na, cm, ww)) (hd : st.drop na = .ref b :: rest) (ht : (st.take na).reverse = as) (hi9 : isIn (hi, hl, w) b (q_o cm) = true) (hs : Nat.ble (catS rest) 8 = true) (hc : EM w ev dd cm (.ref b :: as) hi hl (r, hi1, hl1)) (k : EX w ev dd md (pc + 3) req (r.toList ++ rest) hi1 hl1 out) : EX w ev dd md pc req st hi hl out := by
  subst ht
  intro l hl0
  obtain ⟨B1, hB1⟩ := hc
  obtain ⟨B2, hB2⟩ := k l hl0
  refine ⟨B1 + B2 + 1, fun N d n a1 a2 a3 => ?_⟩
  obtain ⟨n1, rfl⟩ : ∃ n1, n = n1 + 1 := ⟨n - 1, by omega⟩
  rw [runF_at h]
  show (match q_rm (q_o md) j with
    | none => none
    | some (k, na, cm, _) => match st.drop na with
      | .ref b :: r => gd (Nat.beq k 0 && (isIn (hi, hl, w) b (q_o cm) && Nat.ble (catS r) 8)) (callK (runD ev N d cm (.ref b :: (st.take na).reverse) (hi, hl, w)) (hi, hl, w) (fun v σ1 => runF ev (runD ev N d) md n1 (pc + 3) l (v.toList ++ r) σ1))
      | _ => none) = _
  rw [hq]
  dsimp only
  rw [hd]
  dsimp only
  rw [hi9, hs]
  exact callK_ok (hB1 N d (by omega) a2) (hB2 N d n1 (by omega) a2 (by omega)) rfl rfl
theorem EX.callS {j na : Nat} {cm : Mth} {ww : Nat × Nat × Nat} {as rest : List Value} {r : Option Value} {hi1 : HI} {hl1 : HL} (h : q_at md pc = some (.invokestatic j, 3)) (hq : q_rm (q_o md) j = some (1, na, cm, ww)) (hn : Nat.ble na st.length = true) (hd : st.drop na = rest) (ht : (st.take na).reverse = as) (hs : Nat.ble (catS rest) 8 = true) (hc : EM w ev dd cm as hi hl (r, hi1, hl1)) (k : EX w ev dd md (pc + 3) req (r.toList ++ rest) hi1 hl1 out) : EX w ev dd md pc req st hi hl out := by
  subst ht; subst hd
  intro l hl0
  obtain ⟨B1, hB1⟩ := hc
  obtain ⟨B2, hB2⟩ := k l hl0
  refine ⟨B1 + B2 + 1, fun N d n a1 a2 a3 => ?_⟩
  obtain ⟨n1, rfl⟩ : ∃ n1, n = n1 + 1 := ⟨n - 1, by omega⟩
  rw [runF_at h]
  show gd true (match q_rm (q_o md) j with
    | some (k, na, cm, _) => gd (Nat.beq k 1 && (Nat.ble na st.length && Nat.ble (catS (st.drop na)) 8)) (callK (runD ev N d cm (st.take na).reverse (hi, hl, w)) (hi, hl, w) (fun v σ1 => runF ev (runD ev N d) md n1 (pc + 3) l (v.toList ++ st.drop na) σ1))
    | none => _) = _
  rw [hq]
  dsimp only [gd, cond]
  rw [hn, hs]
  exact callK_ok (hB1 N d (by omega) a2) (hB2 N d n1 (by omega) a2 (by omega)) rfl rfl
theorem EX.mx {j ww : Nat} {x y v : Int32} (h : q_at md pc = some (.invokestatic j, 3)) (hn : q_rm (q_o md) j = none) (hq : q_ro (q_o md) j = some (2, ww)) (hs : Nat.ble (catS st) 8 = true) (hv : (if x < y then y else x) = v) (k : EX w ev dd md (pc + 3) req (.int v :: st) hi hl out) : EX w ev dd md pc req (.int y :: .int x :: st) hi hl out := by
  subst hv
  intro l hl0
  obtain ⟨B, hB⟩ := k l hl0
  refine ⟨B + 1, fun N d n a1 a2 a3 => ?_⟩
  obtain ⟨n1, rfl⟩ : ∃ n1, n = n1 + 1 := ⟨n - 1, by omega⟩
  rw [runF_at h]
  have hk := hB N d n1 (by omega) a2 (by omega)
  simp only [stepI, hn, hq, hs, hk, monK, gd, leS_refl, szs, cond, Nat.beq]
theorem EX.mn {j ww : Nat} {x y v : Int32} (h : q_at md pc = some (.invokestatic j, 3)) (hn : q_rm (q_o md) j = none) (hq : q_ro (q_o md) j = some (3, ww)) (hs : Nat.ble (catS st) 8 = true) (hv : (if y < x then y else x) = v) (k : EX w ev dd md (pc + 3) req (.int v :: st) hi hl out) : EX w ev dd md pc req (.int y :: .int x :: st) hi hl out := by
  subst hv
  intro l hl0
  obtain ⟨B, hB⟩ := k l hl0
  refine ⟨B + 1, fun N d n a1 a2 a3 => ?_⟩
  obtain ⟨n1, rfl⟩ : ∃ n1, n = n1 + 1 := ⟨n - 1, by omega⟩
  rw [runF_at h]
  have hk := hB N d n1 (by omega) a2 (by omega)
  simp only [stepI, hn, hq, hs, hk, monK, gd, leS_refl, szs, cond, Nat.beq]
theorem EX.mab {j ww : Nat} {x v : Int32} (h : q_at md pc = some (.invokestatic j, 3)) (hn : q_rm (q_o md) j = none) (hq : q_ro (q_o md) j = some (4, ww)) (hs : Nat.ble (catS st) 8 = true) (hv : (if 0 ≤ x then x else 0 - x) = v) (k : EX w ev dd md (pc + 3) req (.int v :: st) hi hl out) : EX w ev dd md pc req (.int x :: st) hi hl out := by
  subst hv
  intro l hl0
  obtain ⟨B, hB⟩ := k l hl0
  refine ⟨B + 1, fun N d n a1 a2 a3 => ?_⟩
  obtain ⟨n1, rfl⟩ : ∃ n1, n = n1 + 1 := ⟨n - 1, by omega⟩
  rw [runF_at h]
  have hk := hB N d n1 (by omega) a2 (by omega)
  simp only [stepI, hn, hq, hs, hk, monK, gd, leS_refl, szs, cond, Nat.beq]
theorem EX.end1 {i : Instr} (h : q_at md pc = some (i, 1)) (hs : ∀ (l : LC) (call : Mth → List Value → SG → OT) (K : KT), stepI ev call md pc l st (hi, hl, w) K i 1 = some (out.1, (out.2.1, out.2.2, w))) : EX w ev dd md pc req st hi hl out := by
  intro l hl0
  refine ⟨1, fun N d n a1 a2 a3 => ?_⟩
  obtain ⟨n1, rfl⟩ : ∃ n1, n = n1 + 1 := ⟨n - 1, by omega⟩
  rw [runF_at h]
  exact hs l _ _
theorem EX.iret {v : Int32} (h : q_at md pc = some (.ireturn, 1)) (hr : q_r md = some .int) : EX w ev dd md pc req [.int v] hi hl (oI (v, hi, hl)) := by
  refine EX.end1 h (fun l call K => ?_)
  show retI md v (hi, hl, w) = _
  unfold retI
  rw [hr]
  rfl
theorem EX.zret {v : Int32} (h : q_at md pc = some (.ireturn, 1)) (hr : q_r md = some .boolean) (hb : v = 0 ∨ v = 1) : EX w ev dd md pc req [.int v] hi hl (oI (v, hi, hl)) := by
  refine EX.end1 h (fun l call K => ?_)
  show retI md v (hi, hl, w) = _
  unfold retI
  rw [hr]
  exact if_pos hb
theorem EX.bret {v : Int32} (h : q_at md pc = some (.ireturn, 1)) (hr : q_r md = some .byte) (hb : v.toInt8.toInt32 = v) : EX w ev dd md pc req [.int v] hi hl (oI (v, hi, hl)) := by
  refine EX.end1 h (fun l call K => ?_)
  show retI md v (hi, hl, w) = _
  unfold retI
  rw [hr]
  exact if_pos hb
theorem EX.cret {v : Int32} (h : q_at md pc = some (.ireturn, 1)) (hr : q_r md = some .char) (hb : v.toUInt32.toUInt16.toUInt32.toInt32 = v) : EX w ev dd md pc req [.int v] hi hl (oI (v, hi, hl)) := by
  refine EX.end1 h (fun l call K => ?_)
  show retI md v (hi, hl, w) = _
  unfold retI
  rw [hr]
  exact if_pos hb
theorem EX.lret {v : Int64} (h : q_at md pc = some (.lreturn, 1)) (hr : q_r md = some .long) : EX w ev dd md pc req [.long v] hi hl (oL (v, hi, hl)) := by
  refine EX.end1 h (fun l call K => ?_)
  show (match q_r md with
      | some FieldType.long => some (some (Value.long v), (hi, hl, w))
      | _ => none) = _
  rw [hr]
  rfl
theorem EX.aret {a : Nat} {nm : String} (h : q_at md pc = some (.areturn, 1)) (hr : q_r md = some (.object nm)) (hb : Nat.blt a 1000000 = true) : EX w ev dd md pc req [.ref a] hi hl (oR (a, hi, hl)) := by
  refine EX.end1 h (fun l call K => ?_)
  show (match q_r md with
      | some (FieldType.object _) => gd (Nat.blt a 1000000) (some (some (Value.ref a), (hi, hl, w)))
      | _ => none) = _
  rw [hr]
  dsimp only
  rw [hb]
  rfl
theorem EX.vret (h : q_at md pc = some (.return_, 1)) (hr : q_r md = none) : EX w ev dd md pc req [] hi hl (oV ((), hi, hl)) := by
  refine EX.end1 h (fun l call K => ?_)
  show (match q_r md with
      | none => some (none, (hi, hl, w))
      | _ => none) = _
  rw [hr]
  rfl
end EXR
/-- a loop: the body goes on or leaves -/
def lpN {S X : Type} (f : S → Option (S ⊕ X)) : Nat → S → Option X
  | 0, _ => none
  | n + 1, s => match f s with
    | none => none
    | some (.inl t) => lpN f n t
    | some (.inr x) => some x
theorem lp_sound {S X : Type} {f : S → Option (S ⊕ X)} {PS : S → Prop} {PX : X → Prop} (hb : ∀ s z, f s = some z → Sum.elim PS PX z → PS s) : ∀ (n : Nat) (s : S) (x : X), lpN f n s = some x → PX x → PS s
  | 0, _, _, h, _ => by cases h
  | n + 1, s, x, h, hx => by
    simp only [lpN] at h
    cases hf : f s with
    | none => rw [hf] at h; cases h
    | some z =>
      rw [hf] at h
      cases z with
      | inl t => exact hb s _ hf (lp_sound hb n t x h hx)
      | inr y => cases h; exact hb s _ hf hx
theorem ite_some {α : Type} {c : Prop} {hd : Decidable c} {A B : Option α} {o : α} (h : (@ite _ c hd A B) = some o) : (c ∧ A = some o) ∨ (¬ c ∧ B = some o) := by
  by_cases hc : c
  · rw [if_pos hc] at h; exact Or.inl ⟨hc, h⟩
  · rw [if_neg hc] at h; exact Or.inr ⟨hc, h⟩
theorem grd_some {α : Type} {c : Prop} {hd : Decidable c} {B : Option α} {o : α} (h : (@ite _ c hd none B) = some o) : ¬ c ∧ B = some o := by
  by_cases hc : c
  · rw [if_pos hc] at h; cases h
  · rw [if_neg hc] at h; exact ⟨hc, h⟩
theorem grp_some {α : Type} {c : Prop} {hd : Decidable c} {B : Option α} {o : α} (h : (@ite _ c hd B none) = some o) : c ∧ B = some o := by
  by_cases hc : c
  · rw [if_pos hc] at h; exact ⟨hc, h⟩
  · rw [if_neg hc] at h; cases h
theorem bnd_some {α β : Type} {x : Option α} {F : α → Option β} {o : β} (h : x.bind F = some o) : ∃ r, x = some r ∧ F r = some o := Option.bind_eq_some_iff.mp h
