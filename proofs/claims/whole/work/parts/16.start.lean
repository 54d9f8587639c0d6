/-! the law's start: what the Statement gives is what the abstract machine asks -/
theorem st_words : ∀ w ∈ ([.laysStatic "LampWires" "POWERS" "[I", .laysStatic "LampWires$Unions" "WITH" "[J", .laysStatic "java/lang/String" "COMPACT_STRINGS" "Z", .laysStatic "jdk/internal/util/Preconditions" "SIOOBE_FORMATTER" "Ljava/util/function/BiFunction;", .initialized "LampWires", .initialized "LampWires$Unions", .initialized "java/lang/String", .initialized "jdk/internal/util/Preconditions", .arrayClass .int, .arrayClass .byte, .arrayClass .boolean, .arrayClass .long, .arrayOver (.object "LampWires$Frame"), .arrayOver (.object "LampWires$Sheet"), .stringRef "LampWires$Tape" 93 "high", .stringRef "LampWires$Tape" 99 "low", .stringRef "LampWires$Tape" 101 "for", .stringRef "LampWires$Tape" 103 "dark"] : List Jvm.Cond), w ∈ lw_tbl := by decide +kernel
def st_tm (i : Nat) : Term := .string "LampWires$Tape" ((q_lk q_strs i).map (fun x => x.1) |>.getD 0)
def st_len : List Nat := [4, 3, 3, 4]
section STT
variable {s : State} {b : Nat}
theorem st_strings (hgv : (Jvm.Cond.and given_1 narrow_1).before #[Value.ref b] s = true) : ∃ adK adV : Nat → Nat, vk_S 4 st_len strT adK adV (fun q => s.heap.size ≤ q) s s.heap ∧ ∀ i : Nat, i < 4 → (st_tm i).eval #[Value.ref b] s none [] s = some (.ref (adK i)) := by
  have hs := flat_of_before _ hgv
  have hA : ∀ a : Nat, a < s.heap.size → ¬ s.heap.size ≤ a := fun a h => Nat.not_le.mpr h
  refine vk_Sof (args := #[Value.ref b]) (tm := st_tm) ?_ ?_ ?_ ?_ ?_ ?_ ?_ hA
  · intro i hi
    match i, hi with
    | 0, _ => decide
    | 1, _ => decide
    | 2, _ => decide
    | 3, _ => decide
  · intro i hi
    match i, hi with
    | 0, _ => exact hs _ (by decide +kernel)
    | 1, _ => exact hs _ (by decide +kernel)
    | 2, _ => exact hs _ (by decide +kernel)
    | 3, _ => exact hs _ (by decide +kernel)
  · intro i hi
    match i, hi with
    | 0, _ => exact hs _ (by decide +kernel)
    | 1, _ => exact hs _ (by decide +kernel)
    | 2, _ => exact hs _ (by decide +kernel)
    | 3, _ => exact hs _ (by decide +kernel)
  · intro i hi
    match i, hi with
    | 0, _ => exact hs _ (by decide +kernel)
    | 1, _ => exact hs _ (by decide +kernel)
    | 2, _ => exact hs _ (by decide +kernel)
    | 3, _ => exact hs _ (by decide +kernel)
  · intro i hi
    match i, hi with
    | 0, _ => exact hs _ (by decide +kernel)
    | 1, _ => exact hs _ (by decide +kernel)
    | 2, _ => exact hs _ (by decide +kernel)
    | 3, _ => exact hs _ (by decide +kernel)
  · intro i hi j hj
    match i, hi, j, hj with
    | 0, _, 0, _ => exact hs _ (by decide +kernel)
    | 0, _, 1, _ => exact hs _ (by decide +kernel)
    | 0, _, 2, _ => exact hs _ (by decide +kernel)
    | 0, _, 3, _ => exact hs _ (by decide +kernel)
    | 0, _, n + 4, h => exact absurd h (by simp [st_len])
    | 1, _, 0, _ => exact hs _ (by decide +kernel)
    | 1, _, 1, _ => exact hs _ (by decide +kernel)
    | 1, _, 2, _ => exact hs _ (by decide +kernel)
    | 1, _, n + 3, h => exact absurd h (by simp [st_len])
    | 2, _, 0, _ => exact hs _ (by decide +kernel)
    | 2, _, 1, _ => exact hs _ (by decide +kernel)
    | 2, _, 2, _ => exact hs _ (by decide +kernel)
    | 2, _, n + 3, h => exact absurd h (by simp [st_len])
    | 3, _, 0, _ => exact hs _ (by decide +kernel)
    | 3, _, 1, _ => exact hs _ (by decide +kernel)
    | 3, _, 2, _ => exact hs _ (by decide +kernel)
    | 3, _, 3, _ => exact hs _ (by decide +kernel)
    | 3, _, n + 4, h => exact absurd h (by simp [st_len])
  · intro i j hi hj hne
    match i, hi, j, hj with
    | 0, _, 1, _ => exact Or.inl (hs _ (by decide +kernel))
    | 0, _, 2, _ => exact Or.inl (hs _ (by decide +kernel))
    | 0, _, 3, _ => exact Or.inl (hs _ (by decide +kernel))
    | 1, _, 2, _ => exact Or.inl (hs _ (by decide +kernel))
    | 1, _, 3, _ => exact Or.inl (hs _ (by decide +kernel))
    | 2, _, 3, _ => exact Or.inl (hs _ (by decide +kernel))
    | 1, _, 0, _ => exact Or.inr (hs _ (by decide +kernel))
    | 2, _, 0, _ => exact Or.inr (hs _ (by decide +kernel))
    | 3, _, 0, _ => exact Or.inr (hs _ (by decide +kernel))
    | 2, _, 1, _ => exact Or.inr (hs _ (by decide +kernel))
    | 3, _, 1, _ => exact Or.inr (hs _ (by decide +kernel))
    | 3, _, 2, _ => exact Or.inr (hs _ (by decide +kernel))
    | 0, _, 0, _ => exact absurd rfl hne
    | 1, _, 1, _ => exact absurd rfl hne
    | 2, _, 2, _ => exact absurd rfl hne
    | 3, _, 3, _ => exact absurd rfl hne
theorem st_pow (hgv : (Jvm.Cond.and given_1 narrow_1).before #[Value.ref b] s = true) : ∃ t : Nat, (Term.static "LampWires" "POWERS" "[I").eval #[Value.ref b] s none [] s = some (.ref t) ∧ va_T .int t 7 (fun j => .int (powT.getD j 0)) (fun q => s.heap.size ≤ q) s s.heap := by
  have hs := flat_of_before _ hgv
  have hA : ∀ a : Nat, a < s.heap.size → ¬ s.heap.size ≤ a := fun a h => Nat.not_le.mpr h
  refine va_Tof (by decide) (hs _ (by decide +kernel)) (va_eqt (hs _ (by decide +kernel))) ?_ hA
  intro j hj
  match j, hj with
  | 0, _ => exact va_eqt (hs _ (by decide +kernel))
  | 1, _ => exact va_eqt (hs _ (by decide +kernel))
  | 2, _ => exact va_eqt (hs _ (by decide +kernel))
  | 3, _ => exact va_eqt (hs _ (by decide +kernel))
  | 4, _ => exact va_eqt (hs _ (by decide +kernel))
  | 5, _ => exact va_eqt (hs _ (by decide +kernel))
  | 6, _ => exact va_eqt (hs _ (by decide +kernel))
theorem st_with (hgv : (Jvm.Cond.and given_1 narrow_1).before #[Value.ref b] s = true) : ∃ t : Nat, (Term.static "LampWires$Unions" "WITH" "[J").eval #[Value.ref b] s none [] s = some (.ref t) ∧ va_T .long t 6 (fun j => .long (withT.getD j 0)) (fun q => s.heap.size ≤ q) s s.heap := by
  have hs := flat_of_before _ hgv
  have hA : ∀ a : Nat, a < s.heap.size → ¬ s.heap.size ≤ a := fun a h => Nat.not_le.mpr h
  refine va_Tof (by decide) (hs _ (by decide +kernel)) (va_eqt (hs _ (by decide +kernel))) ?_ hA
  intro j hj
  match j, hj with
  | 0, _ => exact va_eqtl (hs _ (by decide +kernel))
  | 1, _ => exact va_eqtl (hs _ (by decide +kernel))
  | 2, _ => exact va_eqtl (hs _ (by decide +kernel))
  | 3, _ => exact va_eqtl (hs _ (by decide +kernel))
  | 4, _ => exact va_eqtl (hs _ (by decide +kernel))
  | 5, _ => exact va_eqtl (hs _ (by decide +kernel))
end STT
