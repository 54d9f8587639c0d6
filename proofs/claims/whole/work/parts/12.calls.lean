/-! calls and returns -/
/-- how a method ends: what its answer asks of the instruction that ends it -/
def retOk (md : Mth) (i : Instr) (v : Option Value) : Prop := match v with
  | none => i = .return_ ∧ q_r md = none
  | some (.int x) => i = .ireturn ∧ ∃ ty, q_r md = some ty ∧ narrow ty (.int x) = .int x
  | some (.long _) => i = .lreturn ∧ q_r md = some .long
  | some (.ref a) => i = .areturn ∧ a < 1000000 ∧ ∃ n, q_r md = some (.object n)
  | _ => False
def RET (p : Program) (L : Launch) (e : Env) (R : Room) (s : State) (m : MethodId) (args : Array Value) (below : List Frame) (meth : Method) (c : Code) (Q : State → Prop) (n0 : Nat) (sv : Nat → Option Nat) (D : va_G) (cA : FieldType → ClassId) (md : Mth) (nE sE : Nat) (out : Option Value × SG) : Prop :=
  ∀ (pc : Nat) (i : Instr) (H : Heap) (locs : List Loc) (cells slots : Nat) (ls : Array Slot), GS n0 sv D cA s nE sE out.2 H locs cells slots → decode (q_b md) pc = .ok (i, 1) → retOk md i out.1 → W p L e R s m args below meth c H locs cells slots Q (F0 m pc ls (out.1.toList.map (cvv n0 sv)))
section SNR
variable {p : Program} {L : Launch} {e : Env} {R : Room} {s : State} {m : MethodId} {args : Array Value} {below : List Frame} {meth : Method} {c : Code} {Q : State → Prop}
variable {n0 : Nat} {sv : Nat → Option Nat} {D : va_G} {cA : FieldType → ClassId} {ev : EV} {md : Mth} {nE sE : Nat}
variable {pc len : Nat} {l : LC} {st : List Value} {σ : SG} {K : KT} {out : Option Value × SG} {call : Mth → List Value → SG → OT}
theorem sd_ireturn (hT : RET p L e R s m args below meth c Q n0 sv D cA md nE sE out) (hdg : decode (q_b md) pc = .ok (.ireturn, len)) (hh : stepI ev call md pc l st σ K .ireturn len = some out) : WG p L e R s m args below meth c Q n0 sv D cA md nE sE pc l st σ := by
  obtain ⟨h1, h⟩ := gd_some hh
  clear hh
  have h1 := Nat.eq_of_beq_eq_true h1
  subst h1
  split at h
  · rename_i v
    intro H locs cells slots ls g hl
    unfold retI at h
    split at h
    · rename_i hr
      cases h
      exact hT pc _ H locs cells slots ls g hdg ⟨rfl, _, hr, rfl⟩
    · rename_i hr
      split at h
      · rename_i hb
        cases h
        exact hT pc _ H locs cells slots ls g hdg ⟨rfl, _, hr, by rcases hb with rfl | rfl <;> rfl⟩
      · cases h
    · rename_i hr
      split at h
      · rename_i hb
        cases h
        exact hT pc _ H locs cells slots ls g hdg ⟨rfl, _, hr, by show Value.int v.toInt8.toInt32 = _; rw [hb]⟩
      · cases h
    · rename_i hr
      split at h
      · rename_i hb
        cases h
        exact hT pc _ H locs cells slots ls g hdg ⟨rfl, _, hr, by show Value.int v.toUInt32.toUInt16.toUInt32.toInt32 = _; rw [hb]⟩
      · cases h
    · cases h
  · cases h
theorem sd_lreturn (hT : RET p L e R s m args below meth c Q n0 sv D cA md nE sE out) (hdg : decode (q_b md) pc = .ok (.lreturn, len)) (hh : stepI ev call md pc l st σ K .lreturn len = some out) : WG p L e R s m args below meth c Q n0 sv D cA md nE sE pc l st σ := by
  obtain ⟨h1, h⟩ := gd_some hh
  clear hh
  have h1 := Nat.eq_of_beq_eq_true h1
  subst h1
  split at h
  · intro H locs cells slots ls g hl
    split at h
    · rename_i hr
      cases h
      exact hT pc _ H locs cells slots ls g hdg ⟨rfl, hr⟩
    · cases h
  · cases h
theorem sd_areturn (hT : RET p L e R s m args below meth c Q n0 sv D cA md nE sE out) (hdg : decode (q_b md) pc = .ok (.areturn, len)) (hh : stepI ev call md pc l st σ K .areturn len = some out) : WG p L e R s m args below meth c Q n0 sv D cA md nE sE pc l st σ := by
  obtain ⟨h1, h⟩ := gd_some hh
  clear hh
  have h1 := Nat.eq_of_beq_eq_true h1
  subst h1
  split at h
  · intro H locs cells slots ls g hl
    split at h
    · rename_i nm hr
      obtain ⟨h2, h⟩ := gd_some h
      cases h
      exact hT pc _ H locs cells slots ls g hdg ⟨rfl, Nat.le_of_ble_eq_true h2, _, hr⟩
    · cases h
  · cases h
theorem sd_return (hT : RET p L e R s m args below meth c Q n0 sv D cA md nE sE out) (hdg : decode (q_b md) pc = .ok (.return_, len)) (hh : stepI ev call md pc l st σ K .return_ len = some out) : WG p L e R s m args below meth c Q n0 sv D cA md nE sE pc l st σ := by
  obtain ⟨h1, h⟩ := gd_some hh
  clear hh
  have h1 := Nat.eq_of_beq_eq_true h1
  subst h1
  split at h
  · intro H locs cells slots ls g hl
    split at h
    · rename_i hr
      cases h
      exact hT pc _ H locs cells slots ls g hdg ⟨rfl, hr⟩
    · cases h
  · cases h
end SNR
