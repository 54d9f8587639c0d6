/-! the abstract machine's instructions are the machine's -/
def WG (p : Program) (L : Launch) (e : Env) (R : Room) (s : State) (m : MethodId) (args : Array Value) (below : List Frame) (meth : Method) (c : Code) (Q : State → Prop) (n0 : Nat) (sv : Nat → Option Nat) (D : va_G) (cA : FieldType → ClassId) (md : Mth) (nE sE : Nat) (pc : Nat) (l : LC) (st : List Value) (σ : SG) : Prop :=
  ∀ (H : Heap) (locs : List Loc) (cells slots : Nat) (ls : Array Slot), GS n0 sv D cA s nE sE σ H locs cells slots → lv_has ls (q_L md) (l.map (cq n0 sv)) → W p L e R s m args below meth c H locs cells slots Q (F0 m pc ls (st.map (cvv n0 sv)))
section SND
variable {p : Program} {L : Launch} {e : Env} {R : Room} {s : State} {m : MethodId} {args : Array Value} {below : List Frame} {meth : Method} {c : Code} {Q : State → Prop}
variable {n0 : Nat} {sv : Nat → Option Nat} {D : va_G} {cA : FieldType → ClassId} {ev : EV} {md : Mth} {nE sE : Nat}
variable {pc len : Nat} {l : LC} {st : List Value} {σ : SG} {K : KT} {out : Option Value × SG} {call : Mth → List Value → SG → OT}

theorem sd_iconst {n : Int} (hC : CX p s m args meth c md D cA n0 sv ev) (hdg : decode (q_b md) pc = .ok (.iconst n, len)) (hK : ∀ pc1 l1 st1 σ1, K pc1 l1 st1 σ1 = some out → WG p L e R s m args below meth c Q n0 sv D cA md nE sE pc1 l1 st1 σ1) (hh : stepI ev call md pc l st σ K (.iconst n) len = some out) : WG p L e R s m args below meth c Q n0 sv D cA md nE sE pc l st σ := by
  obtain ⟨h1, h⟩ := gd_some hh
  clear hh
  have h1 := Nat.eq_of_beq_eq_true h1
  subst h1
  intro H locs cells slots ls g hl
  exact lv_iconst hC.1 hC.2.1 hdg rfl (hK _ _ _ _ h H locs cells slots ls g hl)
theorem sd_bipush {n : Int} (hC : CX p s m args meth c md D cA n0 sv ev) (hdg : decode (q_b md) pc = .ok (.bipush n, len)) (hK : ∀ pc1 l1 st1 σ1, K pc1 l1 st1 σ1 = some out → WG p L e R s m args below meth c Q n0 sv D cA md nE sE pc1 l1 st1 σ1) (hh : stepI ev call md pc l st σ K (.bipush n) len = some out) : WG p L e R s m args below meth c Q n0 sv D cA md nE sE pc l st σ := by
  obtain ⟨h1, h⟩ := gd_some hh
  clear hh
  have h1 := Nat.eq_of_beq_eq_true h1
  subst h1
  intro H locs cells slots ls g hl
  exact lv_bipush hC.1 hC.2.1 hdg rfl (hK _ _ _ _ h H locs cells slots ls g hl)
theorem sd_sipush {n : Int} (hC : CX p s m args meth c md D cA n0 sv ev) (hdg : decode (q_b md) pc = .ok (.sipush n, len)) (hK : ∀ pc1 l1 st1 σ1, K pc1 l1 st1 σ1 = some out → WG p L e R s m args below meth c Q n0 sv D cA md nE sE pc1 l1 st1 σ1) (hh : stepI ev call md pc l st σ K (.sipush n) len = some out) : WG p L e R s m args below meth c Q n0 sv D cA md nE sE pc l st σ := by
  obtain ⟨h1, h⟩ := gd_some hh
  clear hh
  have h1 := Nat.eq_of_beq_eq_true h1
  subst h1
  intro H locs cells slots ls g hl
  exact lv_sipush hC.1 hC.2.1 hdg rfl (hK _ _ _ _ h H locs cells slots ls g hl)
theorem sd_lconst {n : Fin 2} (hC : CX p s m args meth c md D cA n0 sv ev) (hdg : decode (q_b md) pc = .ok (.lconst n, len)) (hK : ∀ pc1 l1 st1 σ1, K pc1 l1 st1 σ1 = some out → WG p L e R s m args below meth c Q n0 sv D cA md nE sE pc1 l1 st1 σ1) (hh : stepI ev call md pc l st σ K (.lconst n) len = some out) : WG p L e R s m args below meth c Q n0 sv D cA md nE sE pc l st σ := by
  obtain ⟨h1, h⟩ := gd_some hh
  clear hh
  have h1 := Nat.eq_of_beq_eq_true h1
  subst h1
  intro H locs cells slots ls g hl
  exact lv_lconst hC.1 hC.2.1 hdg rfl (hK _ _ _ _ h H locs cells slots ls g hl)
theorem sd_iadd (hC : CX p s m args meth c md D cA n0 sv ev) (hdg : decode (q_b md) pc = .ok (.iadd, len)) (hK : ∀ pc1 l1 st1 σ1, K pc1 l1 st1 σ1 = some out → WG p L e R s m args below meth c Q n0 sv D cA md nE sE pc1 l1 st1 σ1) (hh : stepI ev call md pc l st σ K (.iadd) len = some out) : WG p L e R s m args below meth c Q n0 sv D cA md nE sE pc l st σ := by
  obtain ⟨h1, h⟩ := gd_some hh
  clear hh
  have h1 := Nat.eq_of_beq_eq_true h1
  subst h1
  split at h
  · intro H locs cells slots ls g hl
    exact lv_iadd hC.1 hC.2.1 hdg (hK _ _ _ _ h H locs cells slots ls g hl)
  · cases h
theorem sd_isub (hC : CX p s m args meth c md D cA n0 sv ev) (hdg : decode (q_b md) pc = .ok (.isub, len)) (hK : ∀ pc1 l1 st1 σ1, K pc1 l1 st1 σ1 = some out → WG p L e R s m args below meth c Q n0 sv D cA md nE sE pc1 l1 st1 σ1) (hh : stepI ev call md pc l st σ K (.isub) len = some out) : WG p L e R s m args below meth c Q n0 sv D cA md nE sE pc l st σ := by
  obtain ⟨h1, h⟩ := gd_some hh
  clear hh
  have h1 := Nat.eq_of_beq_eq_true h1
  subst h1
  split at h
  · intro H locs cells slots ls g hl
    exact lv_isub hC.1 hC.2.1 hdg (hK _ _ _ _ h H locs cells slots ls g hl)
  · cases h
theorem sd_imul (hC : CX p s m args meth c md D cA n0 sv ev) (hdg : decode (q_b md) pc = .ok (.imul, len)) (hK : ∀ pc1 l1 st1 σ1, K pc1 l1 st1 σ1 = some out → WG p L e R s m args below meth c Q n0 sv D cA md nE sE pc1 l1 st1 σ1) (hh : stepI ev call md pc l st σ K (.imul) len = some out) : WG p L e R s m args below meth c Q n0 sv D cA md nE sE pc l st σ := by
  obtain ⟨h1, h⟩ := gd_some hh
  clear hh
  have h1 := Nat.eq_of_beq_eq_true h1
  subst h1
  split at h
  · intro H locs cells slots ls g hl
    exact lv_imul hC.1 hC.2.1 hdg (hK _ _ _ _ h H locs cells slots ls g hl)
  · cases h
theorem sd_iand (hC : CX p s m args meth c md D cA n0 sv ev) (hdg : decode (q_b md) pc = .ok (.iand, len)) (hK : ∀ pc1 l1 st1 σ1, K pc1 l1 st1 σ1 = some out → WG p L e R s m args below meth c Q n0 sv D cA md nE sE pc1 l1 st1 σ1) (hh : stepI ev call md pc l st σ K (.iand) len = some out) : WG p L e R s m args below meth c Q n0 sv D cA md nE sE pc l st σ := by
  obtain ⟨h1, h⟩ := gd_some hh
  clear hh
  have h1 := Nat.eq_of_beq_eq_true h1
  subst h1
  split at h
  · intro H locs cells slots ls g hl
    exact lv_iand hC.1 hC.2.1 hdg (hK _ _ _ _ h H locs cells slots ls g hl)
  · cases h
theorem sd_ior (hC : CX p s m args meth c md D cA n0 sv ev) (hdg : decode (q_b md) pc = .ok (.ior, len)) (hK : ∀ pc1 l1 st1 σ1, K pc1 l1 st1 σ1 = some out → WG p L e R s m args below meth c Q n0 sv D cA md nE sE pc1 l1 st1 σ1) (hh : stepI ev call md pc l st σ K (.ior) len = some out) : WG p L e R s m args below meth c Q n0 sv D cA md nE sE pc l st σ := by
  obtain ⟨h1, h⟩ := gd_some hh
  clear hh
  have h1 := Nat.eq_of_beq_eq_true h1
  subst h1
  split at h
  · intro H locs cells slots ls g hl
    exact lv_ior hC.1 hC.2.1 hdg (hK _ _ _ _ h H locs cells slots ls g hl)
  · cases h
theorem sd_ixor (hC : CX p s m args meth c md D cA n0 sv ev) (hdg : decode (q_b md) pc = .ok (.ixor, len)) (hK : ∀ pc1 l1 st1 σ1, K pc1 l1 st1 σ1 = some out → WG p L e R s m args below meth c Q n0 sv D cA md nE sE pc1 l1 st1 σ1) (hh : stepI ev call md pc l st σ K (.ixor) len = some out) : WG p L e R s m args below meth c Q n0 sv D cA md nE sE pc l st σ := by
  obtain ⟨h1, h⟩ := gd_some hh
  clear hh
  have h1 := Nat.eq_of_beq_eq_true h1
  subst h1
  split at h
  · intro H locs cells slots ls g hl
    exact lv_ixor hC.1 hC.2.1 hdg (hK _ _ _ _ h H locs cells slots ls g hl)
  · cases h
theorem sd_ishl (hC : CX p s m args meth c md D cA n0 sv ev) (hdg : decode (q_b md) pc = .ok (.ishl, len)) (hK : ∀ pc1 l1 st1 σ1, K pc1 l1 st1 σ1 = some out → WG p L e R s m args below meth c Q n0 sv D cA md nE sE pc1 l1 st1 σ1) (hh : stepI ev call md pc l st σ K (.ishl) len = some out) : WG p L e R s m args below meth c Q n0 sv D cA md nE sE pc l st σ := by
  obtain ⟨h1, h⟩ := gd_some hh
  clear hh
  have h1 := Nat.eq_of_beq_eq_true h1
  subst h1
  split at h
  · intro H locs cells slots ls g hl
    exact lv_ishl hC.1 hC.2.1 hdg (hK _ _ _ _ h H locs cells slots ls g hl)
  · cases h
theorem sd_ishr (hC : CX p s m args meth c md D cA n0 sv ev) (hdg : decode (q_b md) pc = .ok (.ishr, len)) (hK : ∀ pc1 l1 st1 σ1, K pc1 l1 st1 σ1 = some out → WG p L e R s m args below meth c Q n0 sv D cA md nE sE pc1 l1 st1 σ1) (hh : stepI ev call md pc l st σ K (.ishr) len = some out) : WG p L e R s m args below meth c Q n0 sv D cA md nE sE pc l st σ := by
  obtain ⟨h1, h⟩ := gd_some hh
  clear hh
  have h1 := Nat.eq_of_beq_eq_true h1
  subst h1
  split at h
  · intro H locs cells slots ls g hl
    exact lv_ishr hC.1 hC.2.1 hdg (hK _ _ _ _ h H locs cells slots ls g hl)
  · cases h
theorem sd_ladd (hC : CX p s m args meth c md D cA n0 sv ev) (hdg : decode (q_b md) pc = .ok (.ladd, len)) (hK : ∀ pc1 l1 st1 σ1, K pc1 l1 st1 σ1 = some out → WG p L e R s m args below meth c Q n0 sv D cA md nE sE pc1 l1 st1 σ1) (hh : stepI ev call md pc l st σ K (.ladd) len = some out) : WG p L e R s m args below meth c Q n0 sv D cA md nE sE pc l st σ := by
  obtain ⟨h1, h⟩ := gd_some hh
  clear hh
  have h1 := Nat.eq_of_beq_eq_true h1
  subst h1
  split at h
  · intro H locs cells slots ls g hl
    exact lv_ladd hC.1 hC.2.1 hdg (hK _ _ _ _ h H locs cells slots ls g hl)
  · cases h
theorem sd_lsub (hC : CX p s m args meth c md D cA n0 sv ev) (hdg : decode (q_b md) pc = .ok (.lsub, len)) (hK : ∀ pc1 l1 st1 σ1, K pc1 l1 st1 σ1 = some out → WG p L e R s m args below meth c Q n0 sv D cA md nE sE pc1 l1 st1 σ1) (hh : stepI ev call md pc l st σ K (.lsub) len = some out) : WG p L e R s m args below meth c Q n0 sv D cA md nE sE pc l st σ := by
  obtain ⟨h1, h⟩ := gd_some hh
  clear hh
  have h1 := Nat.eq_of_beq_eq_true h1
  subst h1
  split at h
  · intro H locs cells slots ls g hl
    exact lv_lsub hC.1 hC.2.1 hdg (hK _ _ _ _ h H locs cells slots ls g hl)
  · cases h
theorem sd_lmul (hC : CX p s m args meth c md D cA n0 sv ev) (hdg : decode (q_b md) pc = .ok (.lmul, len)) (hK : ∀ pc1 l1 st1 σ1, K pc1 l1 st1 σ1 = some out → WG p L e R s m args below meth c Q n0 sv D cA md nE sE pc1 l1 st1 σ1) (hh : stepI ev call md pc l st σ K (.lmul) len = some out) : WG p L e R s m args below meth c Q n0 sv D cA md nE sE pc l st σ := by
  obtain ⟨h1, h⟩ := gd_some hh
  clear hh
  have h1 := Nat.eq_of_beq_eq_true h1
  subst h1
  split at h
  · intro H locs cells slots ls g hl
    exact lv_lmul hC.1 hC.2.1 hdg (hK _ _ _ _ h H locs cells slots ls g hl)
  · cases h
theorem sd_land (hC : CX p s m args meth c md D cA n0 sv ev) (hdg : decode (q_b md) pc = .ok (.land, len)) (hK : ∀ pc1 l1 st1 σ1, K pc1 l1 st1 σ1 = some out → WG p L e R s m args below meth c Q n0 sv D cA md nE sE pc1 l1 st1 σ1) (hh : stepI ev call md pc l st σ K (.land) len = some out) : WG p L e R s m args below meth c Q n0 sv D cA md nE sE pc l st σ := by
  obtain ⟨h1, h⟩ := gd_some hh
  clear hh
  have h1 := Nat.eq_of_beq_eq_true h1
  subst h1
  split at h
  · intro H locs cells slots ls g hl
    exact lv_land hC.1 hC.2.1 hdg (hK _ _ _ _ h H locs cells slots ls g hl)
  · cases h
theorem sd_lor (hC : CX p s m args meth c md D cA n0 sv ev) (hdg : decode (q_b md) pc = .ok (.lor, len)) (hK : ∀ pc1 l1 st1 σ1, K pc1 l1 st1 σ1 = some out → WG p L e R s m args below meth c Q n0 sv D cA md nE sE pc1 l1 st1 σ1) (hh : stepI ev call md pc l st σ K (.lor) len = some out) : WG p L e R s m args below meth c Q n0 sv D cA md nE sE pc l st σ := by
  obtain ⟨h1, h⟩ := gd_some hh
  clear hh
  have h1 := Nat.eq_of_beq_eq_true h1
  subst h1
  split at h
  · intro H locs cells slots ls g hl
    exact lv_lor hC.1 hC.2.1 hdg (hK _ _ _ _ h H locs cells slots ls g hl)
  · cases h
theorem sd_lxor (hC : CX p s m args meth c md D cA n0 sv ev) (hdg : decode (q_b md) pc = .ok (.lxor, len)) (hK : ∀ pc1 l1 st1 σ1, K pc1 l1 st1 σ1 = some out → WG p L e R s m args below meth c Q n0 sv D cA md nE sE pc1 l1 st1 σ1) (hh : stepI ev call md pc l st σ K (.lxor) len = some out) : WG p L e R s m args below meth c Q n0 sv D cA md nE sE pc l st σ := by
  obtain ⟨h1, h⟩ := gd_some hh
  clear hh
  have h1 := Nat.eq_of_beq_eq_true h1
  subst h1
  split at h
  · intro H locs cells slots ls g hl
    exact lv_lxor hC.1 hC.2.1 hdg (hK _ _ _ _ h H locs cells slots ls g hl)
  · cases h
theorem sd_iushr (hC : CX p s m args meth c md D cA n0 sv ev) (hdg : decode (q_b md) pc = .ok (.iushr, len)) (hK : ∀ pc1 l1 st1 σ1, K pc1 l1 st1 σ1 = some out → WG p L e R s m args below meth c Q n0 sv D cA md nE sE pc1 l1 st1 σ1) (hh : stepI ev call md pc l st σ K (.iushr) len = some out) : WG p L e R s m args below meth c Q n0 sv D cA md nE sE pc l st σ := by
  obtain ⟨h1, h⟩ := gd_some hh
  clear hh
  have h1 := Nat.eq_of_beq_eq_true h1
  subst h1
  split at h
  · intro H locs cells slots ls g hl
    exact lv_iushr hC.1 hC.2.1 hdg rfl (hK _ _ _ _ h H locs cells slots ls g hl)
  · cases h
theorem sd_lshl (hC : CX p s m args meth c md D cA n0 sv ev) (hdg : decode (q_b md) pc = .ok (.lshl, len)) (hK : ∀ pc1 l1 st1 σ1, K pc1 l1 st1 σ1 = some out → WG p L e R s m args below meth c Q n0 sv D cA md nE sE pc1 l1 st1 σ1) (hh : stepI ev call md pc l st σ K (.lshl) len = some out) : WG p L e R s m args below meth c Q n0 sv D cA md nE sE pc l st σ := by
  obtain ⟨h1, h⟩ := gd_some hh
  clear hh
  have h1 := Nat.eq_of_beq_eq_true h1
  subst h1
  split at h
  · intro H locs cells slots ls g hl
    exact lv_lshl hC.1 hC.2.1 hdg rfl (hK _ _ _ _ h H locs cells slots ls g hl)
  · cases h
theorem sd_lshr (hC : CX p s m args meth c md D cA n0 sv ev) (hdg : decode (q_b md) pc = .ok (.lshr, len)) (hK : ∀ pc1 l1 st1 σ1, K pc1 l1 st1 σ1 = some out → WG p L e R s m args below meth c Q n0 sv D cA md nE sE pc1 l1 st1 σ1) (hh : stepI ev call md pc l st σ K (.lshr) len = some out) : WG p L e R s m args below meth c Q n0 sv D cA md nE sE pc l st σ := by
  obtain ⟨h1, h⟩ := gd_some hh
  clear hh
  have h1 := Nat.eq_of_beq_eq_true h1
  subst h1
  split at h
  · intro H locs cells slots ls g hl
    exact lv_lshr hC.1 hC.2.1 hdg rfl (hK _ _ _ _ h H locs cells slots ls g hl)
  · cases h
theorem sd_lushr (hC : CX p s m args meth c md D cA n0 sv ev) (hdg : decode (q_b md) pc = .ok (.lushr, len)) (hK : ∀ pc1 l1 st1 σ1, K pc1 l1 st1 σ1 = some out → WG p L e R s m args below meth c Q n0 sv D cA md nE sE pc1 l1 st1 σ1) (hh : stepI ev call md pc l st σ K (.lushr) len = some out) : WG p L e R s m args below meth c Q n0 sv D cA md nE sE pc l st σ := by
  obtain ⟨h1, h⟩ := gd_some hh
  clear hh
  have h1 := Nat.eq_of_beq_eq_true h1
  subst h1
  split at h
  · intro H locs cells slots ls g hl
    exact lv_lushr hC.1 hC.2.1 hdg rfl (hK _ _ _ _ h H locs cells slots ls g hl)
  · cases h
theorem sd_idiv (hC : CX p s m args meth c md D cA n0 sv ev) (hdg : decode (q_b md) pc = .ok (.idiv, len)) (hK : ∀ pc1 l1 st1 σ1, K pc1 l1 st1 σ1 = some out → WG p L e R s m args below meth c Q n0 sv D cA md nE sE pc1 l1 st1 σ1) (hh : stepI ev call md pc l st σ K (.idiv) len = some out) : WG p L e R s m args below meth c Q n0 sv D cA md nE sE pc l st σ := by
  obtain ⟨h1, h⟩ := gd_some hh
  clear hh
  have h1 := Nat.eq_of_beq_eq_true h1
  subst h1
  split at h
  · split at h
    · cases h
    · rename_i hz
      intro H locs cells slots ls g hl
      exact lv_idiv hC.1 hC.2.1 hdg hz (hK _ _ _ _ h H locs cells slots ls g hl)
  · cases h
theorem sd_irem (hC : CX p s m args meth c md D cA n0 sv ev) (hdg : decode (q_b md) pc = .ok (.irem, len)) (hK : ∀ pc1 l1 st1 σ1, K pc1 l1 st1 σ1 = some out → WG p L e R s m args below meth c Q n0 sv D cA md nE sE pc1 l1 st1 σ1) (hh : stepI ev call md pc l st σ K (.irem) len = some out) : WG p L e R s m args below meth c Q n0 sv D cA md nE sE pc l st σ := by
  obtain ⟨h1, h⟩ := gd_some hh
  clear hh
  have h1 := Nat.eq_of_beq_eq_true h1
  subst h1
  split at h
  · split at h
    · cases h
    · rename_i hz
      intro H locs cells slots ls g hl
      exact lv_irem hC.1 hC.2.1 hdg hz (hK _ _ _ _ h H locs cells slots ls g hl)
  · cases h
theorem sd_ldiv (hC : CX p s m args meth c md D cA n0 sv ev) (hdg : decode (q_b md) pc = .ok (.ldiv, len)) (hK : ∀ pc1 l1 st1 σ1, K pc1 l1 st1 σ1 = some out → WG p L e R s m args below meth c Q n0 sv D cA md nE sE pc1 l1 st1 σ1) (hh : stepI ev call md pc l st σ K (.ldiv) len = some out) : WG p L e R s m args below meth c Q n0 sv D cA md nE sE pc l st σ := by
  obtain ⟨h1, h⟩ := gd_some hh
  clear hh
  have h1 := Nat.eq_of_beq_eq_true h1
  subst h1
  split at h
  · split at h
    · cases h
    · rename_i hz
      intro H locs cells slots ls g hl
      exact lv_ldiv hC.1 hC.2.1 hdg hz (hK _ _ _ _ h H locs cells slots ls g hl)
  · cases h
theorem sd_lrem (hC : CX p s m args meth c md D cA n0 sv ev) (hdg : decode (q_b md) pc = .ok (.lrem, len)) (hK : ∀ pc1 l1 st1 σ1, K pc1 l1 st1 σ1 = some out → WG p L e R s m args below meth c Q n0 sv D cA md nE sE pc1 l1 st1 σ1) (hh : stepI ev call md pc l st σ K (.lrem) len = some out) : WG p L e R s m args below meth c Q n0 sv D cA md nE sE pc l st σ := by
  obtain ⟨h1, h⟩ := gd_some hh
  clear hh
  have h1 := Nat.eq_of_beq_eq_true h1
  subst h1
  split at h
  · split at h
    · cases h
    · rename_i hz
      intro H locs cells slots ls g hl
      exact lv_lrem hC.1 hC.2.1 hdg hz (hK _ _ _ _ h H locs cells slots ls g hl)
  · cases h
theorem sd_lcmp (hC : CX p s m args meth c md D cA n0 sv ev) (hdg : decode (q_b md) pc = .ok (.lcmp, len)) (hK : ∀ pc1 l1 st1 σ1, K pc1 l1 st1 σ1 = some out → WG p L e R s m args below meth c Q n0 sv D cA md nE sE pc1 l1 st1 σ1) (hh : stepI ev call md pc l st σ K (.lcmp) len = some out) : WG p L e R s m args below meth c Q n0 sv D cA md nE sE pc l st σ := by
  obtain ⟨h1, h⟩ := gd_some hh
  clear hh
  have h1 := Nat.eq_of_beq_eq_true h1
  subst h1
  split at h
  · intro H locs cells slots ls g hl
    exact W.lcmp hC.1 hC.2.1 hdg (hK _ _ _ _ h H locs cells slots ls g hl)
  · cases h
theorem sd_ineg (hC : CX p s m args meth c md D cA n0 sv ev) (hdg : decode (q_b md) pc = .ok (.ineg, len)) (hK : ∀ pc1 l1 st1 σ1, K pc1 l1 st1 σ1 = some out → WG p L e R s m args below meth c Q n0 sv D cA md nE sE pc1 l1 st1 σ1) (hh : stepI ev call md pc l st σ K (.ineg) len = some out) : WG p L e R s m args below meth c Q n0 sv D cA md nE sE pc l st σ := by
  obtain ⟨h1, h⟩ := gd_some hh
  clear hh
  have h1 := Nat.eq_of_beq_eq_true h1
  subst h1
  split at h
  · intro H locs cells slots ls g hl
    exact lv_ineg hC.1 hC.2.1 hdg (hK _ _ _ _ h H locs cells slots ls g hl)
  · cases h
theorem sd_i2l (hC : CX p s m args meth c md D cA n0 sv ev) (hdg : decode (q_b md) pc = .ok (.i2l, len)) (hK : ∀ pc1 l1 st1 σ1, K pc1 l1 st1 σ1 = some out → WG p L e R s m args below meth c Q n0 sv D cA md nE sE pc1 l1 st1 σ1) (hh : stepI ev call md pc l st σ K (.i2l) len = some out) : WG p L e R s m args below meth c Q n0 sv D cA md nE sE pc l st σ := by
  obtain ⟨h1, h⟩ := gd_some hh
  clear hh
  have h1 := Nat.eq_of_beq_eq_true h1
  subst h1
  split at h
  · intro H locs cells slots ls g hl
    exact lv_i2l hC.1 hC.2.1 hdg rfl (hK _ _ _ _ h H locs cells slots ls g hl)
  · cases h
theorem sd_l2i (hC : CX p s m args meth c md D cA n0 sv ev) (hdg : decode (q_b md) pc = .ok (.l2i, len)) (hK : ∀ pc1 l1 st1 σ1, K pc1 l1 st1 σ1 = some out → WG p L e R s m args below meth c Q n0 sv D cA md nE sE pc1 l1 st1 σ1) (hh : stepI ev call md pc l st σ K (.l2i) len = some out) : WG p L e R s m args below meth c Q n0 sv D cA md nE sE pc l st σ := by
  obtain ⟨h1, h⟩ := gd_some hh
  clear hh
  have h1 := Nat.eq_of_beq_eq_true h1
  subst h1
  split at h
  · intro H locs cells slots ls g hl
    exact lv_l2i hC.1 hC.2.1 hdg rfl (hK _ _ _ _ h H locs cells slots ls g hl)
  · cases h
theorem sd_i2b (hC : CX p s m args meth c md D cA n0 sv ev) (hdg : decode (q_b md) pc = .ok (.i2b, len)) (hK : ∀ pc1 l1 st1 σ1, K pc1 l1 st1 σ1 = some out → WG p L e R s m args below meth c Q n0 sv D cA md nE sE pc1 l1 st1 σ1) (hh : stepI ev call md pc l st σ K (.i2b) len = some out) : WG p L e R s m args below meth c Q n0 sv D cA md nE sE pc l st σ := by
  obtain ⟨h1, h⟩ := gd_some hh
  clear hh
  have h1 := Nat.eq_of_beq_eq_true h1
  subst h1
  split at h
  · intro H locs cells slots ls g hl
    exact lv_i2b hC.1 hC.2.1 hdg rfl (hK _ _ _ _ h H locs cells slots ls g hl)
  · cases h
theorem sd_i2s (hC : CX p s m args meth c md D cA n0 sv ev) (hdg : decode (q_b md) pc = .ok (.i2s, len)) (hK : ∀ pc1 l1 st1 σ1, K pc1 l1 st1 σ1 = some out → WG p L e R s m args below meth c Q n0 sv D cA md nE sE pc1 l1 st1 σ1) (hh : stepI ev call md pc l st σ K (.i2s) len = some out) : WG p L e R s m args below meth c Q n0 sv D cA md nE sE pc l st σ := by
  obtain ⟨h1, h⟩ := gd_some hh
  clear hh
  have h1 := Nat.eq_of_beq_eq_true h1
  subst h1
  split at h
  · intro H locs cells slots ls g hl
    exact lv_i2s hC.1 hC.2.1 hdg rfl (hK _ _ _ _ h H locs cells slots ls g hl)
  · cases h
theorem sd_i2c (hC : CX p s m args meth c md D cA n0 sv ev) (hdg : decode (q_b md) pc = .ok (.i2c, len)) (hK : ∀ pc1 l1 st1 σ1, K pc1 l1 st1 σ1 = some out → WG p L e R s m args below meth c Q n0 sv D cA md nE sE pc1 l1 st1 σ1) (hh : stepI ev call md pc l st σ K (.i2c) len = some out) : WG p L e R s m args below meth c Q n0 sv D cA md nE sE pc l st σ := by
  obtain ⟨h1, h⟩ := gd_some hh
  clear hh
  have h1 := Nat.eq_of_beq_eq_true h1
  subst h1
  split at h
  · intro H locs cells slots ls g hl
    exact lv_i2c hC.1 hC.2.1 hdg rfl (hK _ _ _ _ h H locs cells slots ls g hl)
  · cases h
theorem sd_dup (hC : CX p s m args meth c md D cA n0 sv ev) (hdg : decode (q_b md) pc = .ok (.dup, len)) (hK : ∀ pc1 l1 st1 σ1, K pc1 l1 st1 σ1 = some out → WG p L e R s m args below meth c Q n0 sv D cA md nE sE pc1 l1 st1 σ1) (hh : stepI ev call md pc l st σ K (.dup) len = some out) : WG p L e R s m args below meth c Q n0 sv D cA md nE sE pc l st σ := by
  obtain ⟨h1, h⟩ := gd_some hh
  clear hh
  have h1 := Nat.eq_of_beq_eq_true h1
  subst h1
  split at h
  · rename_i v r
    obtain ⟨h2, h⟩ := gd_some h
    have h2 := Nat.eq_of_beq_eq_true h2
    intro H locs cells slots ls g hl
    exact lv_dup hC.1 hC.2.1 hdg (by rw [cvv_cat]; exact h2) (hK _ _ _ _ h H locs cells slots ls g hl)
  · cases h
theorem sd_pop (hC : CX p s m args meth c md D cA n0 sv ev) (hdg : decode (q_b md) pc = .ok (.pop, len)) (hK : ∀ pc1 l1 st1 σ1, K pc1 l1 st1 σ1 = some out → WG p L e R s m args below meth c Q n0 sv D cA md nE sE pc1 l1 st1 σ1) (hh : stepI ev call md pc l st σ K (.pop) len = some out) : WG p L e R s m args below meth c Q n0 sv D cA md nE sE pc l st σ := by
  obtain ⟨h1, h⟩ := gd_some hh
  clear hh
  have h1 := Nat.eq_of_beq_eq_true h1
  subst h1
  split at h
  · rename_i v r
    obtain ⟨h2, h⟩ := gd_some h
    have h2 := Nat.eq_of_beq_eq_true h2
    intro H locs cells slots ls g hl
    exact lv_pop hC.1 hC.2.1 hdg (by rw [cvv_cat]; exact h2) (hK _ _ _ _ h H locs cells slots ls g hl)
  · cases h
theorem sd_dup2 (hC : CX p s m args meth c md D cA n0 sv ev) (hdg : decode (q_b md) pc = .ok (.dup2, len)) (hK : ∀ pc1 l1 st1 σ1, K pc1 l1 st1 σ1 = some out → WG p L e R s m args below meth c Q n0 sv D cA md nE sE pc1 l1 st1 σ1) (hh : stepI ev call md pc l st σ K (.dup2) len = some out) : WG p L e R s m args below meth c Q n0 sv D cA md nE sE pc l st σ := by
  obtain ⟨h1, h⟩ := gd_some hh
  clear hh
  have h1 := Nat.eq_of_beq_eq_true h1
  subst h1
  split at h
  · rename_i v w r
    obtain ⟨h2, h⟩ := gd_some h
    obtain ⟨h2, h3⟩ := Bool.and_eq_true_iff.mp h2
    have h2 := Nat.eq_of_beq_eq_true h2
    have h3 := Nat.eq_of_beq_eq_true h3
    intro H locs cells slots ls g hl
    exact lv_dup2_11 hC.1 hC.2.1 hdg (by rw [cvv_cat]; exact h2) (by rw [cvv_cat]; exact h3) (hK _ _ _ _ h H locs cells slots ls g hl)
  · cases h
theorem sd_iload {j : Nat} (hC : CX p s m args meth c md D cA n0 sv ev) (hdg : decode (q_b md) pc = .ok (.iload j, len)) (hK : ∀ pc1 l1 st1 σ1, K pc1 l1 st1 σ1 = some out → WG p L e R s m args below meth c Q n0 sv D cA md nE sE pc1 l1 st1 σ1) (hh : stepI ev call md pc l st σ K (.iload j) len = some out) : WG p L e R s m args below meth c Q n0 sv D cA md nE sE pc l st σ := by
  obtain ⟨h1, h⟩ := gd_some hh
  clear hh
  have h1 := Nat.eq_of_beq_eq_true h1
  subst h1
  obtain ⟨v, hv, h⟩ := ldV_some h
  try dsimp only at h
  split at h
  · intro H locs cells slots ls g hl
    exact lv_iload hC.1 hC.2.1 hdg (lget_has hv hl) (hK _ _ _ _ h H locs cells slots ls g hl)
  · cases h
theorem sd_iload_n {j : Fin 4} (hC : CX p s m args meth c md D cA n0 sv ev) (hdg : decode (q_b md) pc = .ok (.iload_n j, len)) (hK : ∀ pc1 l1 st1 σ1, K pc1 l1 st1 σ1 = some out → WG p L e R s m args below meth c Q n0 sv D cA md nE sE pc1 l1 st1 σ1) (hh : stepI ev call md pc l st σ K (.iload_n j) len = some out) : WG p L e R s m args below meth c Q n0 sv D cA md nE sE pc l st σ := by
  obtain ⟨h1, h⟩ := gd_some hh
  clear hh
  have h1 := Nat.eq_of_beq_eq_true h1
  subst h1
  obtain ⟨v, hv, h⟩ := ldV_some h
  try dsimp only at h
  split at h
  · intro H locs cells slots ls g hl
    exact lv_iload_n hC.1 hC.2.1 hdg rfl (lget_has hv hl) (hK _ _ _ _ h H locs cells slots ls g hl)
  · cases h
theorem sd_lload {j : Nat} (hC : CX p s m args meth c md D cA n0 sv ev) (hdg : decode (q_b md) pc = .ok (.lload j, len)) (hK : ∀ pc1 l1 st1 σ1, K pc1 l1 st1 σ1 = some out → WG p L e R s m args below meth c Q n0 sv D cA md nE sE pc1 l1 st1 σ1) (hh : stepI ev call md pc l st σ K (.lload j) len = some out) : WG p L e R s m args below meth c Q n0 sv D cA md nE sE pc l st σ := by
  obtain ⟨h1, h⟩ := gd_some hh
  clear hh
  have h1 := Nat.eq_of_beq_eq_true h1
  subst h1
  obtain ⟨v, hv, h⟩ := ldV_some h
  try dsimp only at h
  split at h
  · intro H locs cells slots ls g hl
    exact lv_lload hC.1 hC.2.1 hdg (lget_has hv hl) (hK _ _ _ _ h H locs cells slots ls g hl)
  · cases h
theorem sd_lload_n {j : Fin 4} (hC : CX p s m args meth c md D cA n0 sv ev) (hdg : decode (q_b md) pc = .ok (.lload_n j, len)) (hK : ∀ pc1 l1 st1 σ1, K pc1 l1 st1 σ1 = some out → WG p L e R s m args below meth c Q n0 sv D cA md nE sE pc1 l1 st1 σ1) (hh : stepI ev call md pc l st σ K (.lload_n j) len = some out) : WG p L e R s m args below meth c Q n0 sv D cA md nE sE pc l st σ := by
  obtain ⟨h1, h⟩ := gd_some hh
  clear hh
  have h1 := Nat.eq_of_beq_eq_true h1
  subst h1
  obtain ⟨v, hv, h⟩ := ldV_some h
  try dsimp only at h
  split at h
  · intro H locs cells slots ls g hl
    exact lv_lload_n hC.1 hC.2.1 hdg rfl (lget_has hv hl) (hK _ _ _ _ h H locs cells slots ls g hl)
  · cases h
theorem sd_aload {j : Nat} (hC : CX p s m args meth c md D cA n0 sv ev) (hdg : decode (q_b md) pc = .ok (.aload j, len)) (hK : ∀ pc1 l1 st1 σ1, K pc1 l1 st1 σ1 = some out → WG p L e R s m args below meth c Q n0 sv D cA md nE sE pc1 l1 st1 σ1) (hh : stepI ev call md pc l st σ K (.aload j) len = some out) : WG p L e R s m args below meth c Q n0 sv D cA md nE sE pc l st σ := by
  obtain ⟨h1, h⟩ := gd_some hh
  clear hh
  have h1 := Nat.eq_of_beq_eq_true h1
  subst h1
  obtain ⟨v, hv, h⟩ := ldV_some h
  try dsimp only at h
  split at h
  · rename_i x
    intro H locs cells slots ls g hl
    have k := hK _ _ _ _ h H locs cells slots ls g hl
    have hx := lget_has hv hl
    simp only [List.map_cons, cvv] at k hx
    cases ho : (if x < 1000000 then some (n0 + x) else sv (x - 1000000)) with
    | none =>
      rw [ho] at k hx
      exact lv_aloadN hC.1 hC.2.1 hdg hx k
    | some t =>
      rw [ho] at k hx
      exact lv_aload hC.1 hC.2.1 hdg hx k
  · cases h
theorem sd_aload_n {j : Fin 4} (hC : CX p s m args meth c md D cA n0 sv ev) (hdg : decode (q_b md) pc = .ok (.aload_n j, len)) (hK : ∀ pc1 l1 st1 σ1, K pc1 l1 st1 σ1 = some out → WG p L e R s m args below meth c Q n0 sv D cA md nE sE pc1 l1 st1 σ1) (hh : stepI ev call md pc l st σ K (.aload_n j) len = some out) : WG p L e R s m args below meth c Q n0 sv D cA md nE sE pc l st σ := by
  obtain ⟨h1, h⟩ := gd_some hh
  clear hh
  have h1 := Nat.eq_of_beq_eq_true h1
  subst h1
  obtain ⟨v, hv, h⟩ := ldV_some h
  try dsimp only at h
  split at h
  · rename_i x
    intro H locs cells slots ls g hl
    have k := hK _ _ _ _ h H locs cells slots ls g hl
    have hx := lget_has hv hl
    simp only [List.map_cons, cvv] at k hx
    cases ho : (if x < 1000000 then some (n0 + x) else sv (x - 1000000)) with
    | none =>
      rw [ho] at k hx
      exact lv_aload_nN hC.1 hC.2.1 hdg rfl hx k
    | some t =>
      rw [ho] at k hx
      exact lv_aload_n hC.1 hC.2.1 hdg rfl hx k
  · cases h
theorem sd_istore {j : Nat} (hC : CX p s m args meth c md D cA n0 sv ev) (hdg : decode (q_b md) pc = .ok (.istore j, len)) (hK : ∀ pc1 l1 st1 σ1, K pc1 l1 st1 σ1 = some out → WG p L e R s m args below meth c Q n0 sv D cA md nE sE pc1 l1 st1 σ1) (hh : stepI ev call md pc l st σ K (.istore j) len = some out) : WG p L e R s m args below meth c Q n0 sv D cA md nE sE pc l st σ := by
  obtain ⟨h1, h⟩ := gd_some hh
  clear hh
  obtain ⟨h1, h9⟩ := Bool.and_eq_true_iff.mp h1
  have h1 := Nat.eq_of_beq_eq_true h1
  subst h1
  have h9 := Nat.le_of_ble_eq_true h9
  split at h
  · rename_i x r
    intro H locs cells slots ls g hl
    exact lv_istore hC.1 hC.2.1 hdg hl h9 (lset1_map n0 sv l j (.int x)) (fun ls1 hl1 => hK _ _ _ _ h H locs cells slots ls1 g hl1)
  · cases h
theorem sd_istore_n {j : Fin 4} (hC : CX p s m args meth c md D cA n0 sv ev) (hdg : decode (q_b md) pc = .ok (.istore_n j, len)) (hK : ∀ pc1 l1 st1 σ1, K pc1 l1 st1 σ1 = some out → WG p L e R s m args below meth c Q n0 sv D cA md nE sE pc1 l1 st1 σ1) (hh : stepI ev call md pc l st σ K (.istore_n j) len = some out) : WG p L e R s m args below meth c Q n0 sv D cA md nE sE pc l st σ := by
  obtain ⟨h1, h⟩ := gd_some hh
  clear hh
  obtain ⟨h1, h9⟩ := Bool.and_eq_true_iff.mp h1
  have h1 := Nat.eq_of_beq_eq_true h1
  subst h1
  have h9 := Nat.le_of_ble_eq_true h9
  split at h
  · rename_i x r
    intro H locs cells slots ls g hl
    exact lv_istore_n hC.1 hC.2.1 hdg rfl hl h9 (lset1_map n0 sv l (j : Nat) (.int x)) (fun ls1 hl1 => hK _ _ _ _ h H locs cells slots ls1 g hl1)
  · cases h
theorem sd_lstore {j : Nat} (hC : CX p s m args meth c md D cA n0 sv ev) (hdg : decode (q_b md) pc = .ok (.lstore j, len)) (hK : ∀ pc1 l1 st1 σ1, K pc1 l1 st1 σ1 = some out → WG p L e R s m args below meth c Q n0 sv D cA md nE sE pc1 l1 st1 σ1) (hh : stepI ev call md pc l st σ K (.lstore j) len = some out) : WG p L e R s m args below meth c Q n0 sv D cA md nE sE pc l st σ := by
  obtain ⟨h1, h⟩ := gd_some hh
  clear hh
  obtain ⟨h1, h9⟩ := Bool.and_eq_true_iff.mp h1
  have h1 := Nat.eq_of_beq_eq_true h1
  subst h1
  have h9 := Nat.le_of_ble_eq_true h9
  split at h
  · rename_i x r
    intro H locs cells slots ls g hl
    exact lv_lstore hC.1 hC.2.1 hdg hl h9 (lset2_map n0 sv l j (.long x)) (fun ls1 hl1 => hK _ _ _ _ h H locs cells slots ls1 g hl1)
  · cases h
theorem sd_lstore_n {j : Fin 4} (hC : CX p s m args meth c md D cA n0 sv ev) (hdg : decode (q_b md) pc = .ok (.lstore_n j, len)) (hK : ∀ pc1 l1 st1 σ1, K pc1 l1 st1 σ1 = some out → WG p L e R s m args below meth c Q n0 sv D cA md nE sE pc1 l1 st1 σ1) (hh : stepI ev call md pc l st σ K (.lstore_n j) len = some out) : WG p L e R s m args below meth c Q n0 sv D cA md nE sE pc l st σ := by
  obtain ⟨h1, h⟩ := gd_some hh
  clear hh
  obtain ⟨h1, h9⟩ := Bool.and_eq_true_iff.mp h1
  have h1 := Nat.eq_of_beq_eq_true h1
  subst h1
  have h9 := Nat.le_of_ble_eq_true h9
  split at h
  · rename_i x r
    intro H locs cells slots ls g hl
    exact lv_lstore_n hC.1 hC.2.1 hdg rfl hl h9 (lset2_map n0 sv l (j : Nat) (.long x)) (fun ls1 hl1 => hK _ _ _ _ h H locs cells slots ls1 g hl1)
  · cases h
theorem sd_astore {j : Nat} (hC : CX p s m args meth c md D cA n0 sv ev) (hdg : decode (q_b md) pc = .ok (.astore j, len)) (hK : ∀ pc1 l1 st1 σ1, K pc1 l1 st1 σ1 = some out → WG p L e R s m args below meth c Q n0 sv D cA md nE sE pc1 l1 st1 σ1) (hh : stepI ev call md pc l st σ K (.astore j) len = some out) : WG p L e R s m args below meth c Q n0 sv D cA md nE sE pc l st σ := by
  obtain ⟨h1, h⟩ := gd_some hh
  clear hh
  obtain ⟨h1, h9⟩ := Bool.and_eq_true_iff.mp h1
  have h1 := Nat.eq_of_beq_eq_true h1
  subst h1
  have h9 := Nat.le_of_ble_eq_true h9
  split at h
  · rename_i x r
    intro H locs cells slots ls g hl
    have k := fun ls1 hl1 => hK _ _ _ _ h H locs cells slots ls1 g hl1
    have e := lset1_map n0 sv l j (.ref x)
    simp only [List.map_cons]
    cases ho : (if x < 1000000 then some (n0 + x) else sv (x - 1000000)) with
    | none =>
      have ec : cvv n0 sv (.ref x) = .null := by simp only [cvv, ho]; rfl
      rw [ec] at e ⊢
      exact lv_astoreN hC.1 hC.2.1 hdg hl h9 e k
    | some t =>
      have ec : cvv n0 sv (.ref x) = .ref t := by simp only [cvv, ho]; rfl
      rw [ec] at e ⊢
      exact lv_astore hC.1 hC.2.1 hdg hl h9 e k
  · cases h
theorem sd_astore_n {j : Fin 4} (hC : CX p s m args meth c md D cA n0 sv ev) (hdg : decode (q_b md) pc = .ok (.astore_n j, len)) (hK : ∀ pc1 l1 st1 σ1, K pc1 l1 st1 σ1 = some out → WG p L e R s m args below meth c Q n0 sv D cA md nE sE pc1 l1 st1 σ1) (hh : stepI ev call md pc l st σ K (.astore_n j) len = some out) : WG p L e R s m args below meth c Q n0 sv D cA md nE sE pc l st σ := by
  obtain ⟨h1, h⟩ := gd_some hh
  clear hh
  obtain ⟨h1, h9⟩ := Bool.and_eq_true_iff.mp h1
  have h1 := Nat.eq_of_beq_eq_true h1
  subst h1
  have h9 := Nat.le_of_ble_eq_true h9
  split at h
  · rename_i x r
    intro H locs cells slots ls g hl
    have k := fun ls1 hl1 => hK _ _ _ _ h H locs cells slots ls1 g hl1
    have e := lset1_map n0 sv l (j : Nat) (.ref x)
    simp only [List.map_cons]
    cases ho : (if x < 1000000 then some (n0 + x) else sv (x - 1000000)) with
    | none =>
      have ec : cvv n0 sv (.ref x) = .null := by simp only [cvv, ho]; rfl
      rw [ec] at e ⊢
      exact lv_astore_nN hC.1 hC.2.1 hdg rfl hl h9 e k
    | some t =>
      have ec : cvv n0 sv (.ref x) = .ref t := by simp only [cvv, ho]; rfl
      rw [ec] at e ⊢
      exact lv_astore_n hC.1 hC.2.1 hdg rfl hl h9 e k
  · cases h
theorem sd_iinc {j : Nat} {n : Int} (hC : CX p s m args meth c md D cA n0 sv ev) (hdg : decode (q_b md) pc = .ok (.iinc j n, len)) (hK : ∀ pc1 l1 st1 σ1, K pc1 l1 st1 σ1 = some out → WG p L e R s m args below meth c Q n0 sv D cA md nE sE pc1 l1 st1 σ1) (hh : stepI ev call md pc l st σ K (.iinc j n) len = some out) : WG p L e R s m args below meth c Q n0 sv D cA md nE sE pc l st σ := by
  obtain ⟨h1, h⟩ := gd_some hh
  clear hh
  obtain ⟨h1, h9⟩ := Bool.and_eq_true_iff.mp h1
  have h1 := Nat.eq_of_beq_eq_true h1
  subst h1
  have h9 := Nat.le_of_ble_eq_true h9
  obtain ⟨v, hv, h⟩ := ldV_some h
  try dsimp only at h
  split at h
  · rename_i x
    intro H locs cells slots ls g hl
    obtain ⟨k, hk⟩ := lget_ix (n0 := n0) (sv := sv) hv
    exact lv_iinc hC.1 hC.2.1 hdg hl hk rfl h9 (lset1_map n0 sv l j (.int (x + Int32.ofInt n))) (fun ls1 hl1 => hK _ _ _ _ h H locs cells slots ls1 g hl1)
  · cases h
theorem sd_ifCond {cnd : ClassFile.Cond} {off : Int} (hC : CX p s m args meth c md D cA n0 sv ev) (hdg : decode (q_b md) pc = .ok (.ifCond cnd off, len)) (hK : ∀ pc1 l1 st1 σ1, K pc1 l1 st1 σ1 = some out → WG p L e R s m args below meth c Q n0 sv D cA md nE sE pc1 l1 st1 σ1) (hh : stepI ev call md pc l st σ K (.ifCond cnd off) len = some out) : WG p L e R s m args below meth c Q n0 sv D cA md nE sE pc l st σ := by
  obtain ⟨h1, h⟩ := gd_some hh
  clear hh
  obtain ⟨h1, h9⟩ := Bool.and_eq_true_iff.mp h1
  have h1 := Nat.eq_of_beq_eq_true h1
  subst h1
  have ht : (pc : Int) + off = (tgt pc off : Nat) := by
    have := of_decide_eq_true h9
    simp only [tgt]
    omega
  split at h
  · intro H locs cells slots ls g hl
    try dsimp only at h
    cases cnd with
    | eq =>
      try dsimp only at h
      split at h
      · rename_i hz
        exact lv_if_eq (tgt := tgt pc off) hC.1 hC.2.1 hdg ht (fun _ => (hK _ _ _ _ h H locs cells slots ls g hl)) (fun q => absurd hz q)
      · rename_i hz
        exact lv_if_eq (tgt := tgt pc off) hC.1 hC.2.1 hdg ht (fun q => absurd q hz) (fun _ => (hK _ _ _ _ h H locs cells slots ls g hl))
    | ne =>
      try dsimp only at h
      split at h
      · rename_i hz
        exact lv_if_ne (tgt := tgt pc off) hC.1 hC.2.1 hdg ht (fun q => absurd hz q) (fun _ => (hK _ _ _ _ h H locs cells slots ls g hl))
      · rename_i hz
        exact lv_if_ne (tgt := tgt pc off) hC.1 hC.2.1 hdg ht (fun _ => (hK _ _ _ _ h H locs cells slots ls g hl)) (fun q => absurd q hz)
    | lt =>
      try dsimp only at h
      split at h
      · rename_i hz
        exact lv_if_lt (tgt := tgt pc off) hC.1 hC.2.1 hdg ht (fun _ => (hK _ _ _ _ h H locs cells slots ls g hl)) (fun q => absurd hz q)
      · rename_i hz
        exact lv_if_lt (tgt := tgt pc off) hC.1 hC.2.1 hdg ht (fun q => absurd q hz) (fun _ => (hK _ _ _ _ h H locs cells slots ls g hl))
    | ge =>
      try dsimp only at h
      split at h
      · rename_i hz
        exact lv_if_ge (tgt := tgt pc off) hC.1 hC.2.1 hdg ht (fun _ => (hK _ _ _ _ h H locs cells slots ls g hl)) (fun q => absurd hz q)
      · rename_i hz
        exact lv_if_ge (tgt := tgt pc off) hC.1 hC.2.1 hdg ht (fun q => absurd q hz) (fun _ => (hK _ _ _ _ h H locs cells slots ls g hl))
    | gt =>
      try dsimp only at h
      split at h
      · rename_i hz
        exact lv_if_gt (tgt := tgt pc off) hC.1 hC.2.1 hdg ht (fun _ => (hK _ _ _ _ h H locs cells slots ls g hl)) (fun q => absurd hz q)
      · rename_i hz
        exact lv_if_gt (tgt := tgt pc off) hC.1 hC.2.1 hdg ht (fun q => absurd q hz) (fun _ => (hK _ _ _ _ h H locs cells slots ls g hl))
    | le =>
      try dsimp only at h
      split at h
      · rename_i hz
        exact lv_if_le (tgt := tgt pc off) hC.1 hC.2.1 hdg ht (fun _ => (hK _ _ _ _ h H locs cells slots ls g hl)) (fun q => absurd hz q)
      · rename_i hz
        exact lv_if_le (tgt := tgt pc off) hC.1 hC.2.1 hdg ht (fun q => absurd q hz) (fun _ => (hK _ _ _ _ h H locs cells slots ls g hl))
  · cases h
theorem sd_if_icmp {cnd : ClassFile.Cond} {off : Int} (hC : CX p s m args meth c md D cA n0 sv ev) (hdg : decode (q_b md) pc = .ok (.if_icmp cnd off, len)) (hK : ∀ pc1 l1 st1 σ1, K pc1 l1 st1 σ1 = some out → WG p L e R s m args below meth c Q n0 sv D cA md nE sE pc1 l1 st1 σ1) (hh : stepI ev call md pc l st σ K (.if_icmp cnd off) len = some out) : WG p L e R s m args below meth c Q n0 sv D cA md nE sE pc l st σ := by
  obtain ⟨h1, h⟩ := gd_some hh
  clear hh
  obtain ⟨h1, h9⟩ := Bool.and_eq_true_iff.mp h1
  have h1 := Nat.eq_of_beq_eq_true h1
  subst h1
  have ht : (pc : Int) + off = (tgt pc off : Nat) := by
    have := of_decide_eq_true h9
    simp only [tgt]
    omega
  split at h
  · intro H locs cells slots ls g hl
    try dsimp only at h
    cases cnd with
    | eq =>
      try dsimp only at h
      split at h
      · rename_i hz
        exact lv_icmp_eq (tgt := tgt pc off) hC.1 hC.2.1 hdg ht (fun _ => (hK _ _ _ _ h H locs cells slots ls g hl)) (fun q => absurd hz q)
      · rename_i hz
        exact lv_icmp_eq (tgt := tgt pc off) hC.1 hC.2.1 hdg ht (fun q => absurd q hz) (fun _ => (hK _ _ _ _ h H locs cells slots ls g hl))
    | ne =>
      try dsimp only at h
      split at h
      · rename_i hz
        exact lv_icmp_ne (tgt := tgt pc off) hC.1 hC.2.1 hdg ht (fun q => absurd hz q) (fun _ => (hK _ _ _ _ h H locs cells slots ls g hl))
      · rename_i hz
        exact lv_icmp_ne (tgt := tgt pc off) hC.1 hC.2.1 hdg ht (fun _ => (hK _ _ _ _ h H locs cells slots ls g hl)) (fun q => absurd q hz)
    | lt =>
      try dsimp only at h
      split at h
      · rename_i hz
        exact lv_icmp_lt (tgt := tgt pc off) hC.1 hC.2.1 hdg ht (fun _ => (hK _ _ _ _ h H locs cells slots ls g hl)) (fun q => absurd hz q)
      · rename_i hz
        exact lv_icmp_lt (tgt := tgt pc off) hC.1 hC.2.1 hdg ht (fun q => absurd q hz) (fun _ => (hK _ _ _ _ h H locs cells slots ls g hl))
    | ge =>
      try dsimp only at h
      split at h
      · rename_i hz
        exact lv_icmp_ge (tgt := tgt pc off) hC.1 hC.2.1 hdg ht (fun _ => (hK _ _ _ _ h H locs cells slots ls g hl)) (fun q => absurd hz q)
      · rename_i hz
        exact lv_icmp_ge (tgt := tgt pc off) hC.1 hC.2.1 hdg ht (fun q => absurd q hz) (fun _ => (hK _ _ _ _ h H locs cells slots ls g hl))
    | gt =>
      try dsimp only at h
      split at h
      · rename_i hz
        exact lv_icmp_gt (tgt := tgt pc off) hC.1 hC.2.1 hdg ht (fun _ => (hK _ _ _ _ h H locs cells slots ls g hl)) (fun q => absurd hz q)
      · rename_i hz
        exact lv_icmp_gt (tgt := tgt pc off) hC.1 hC.2.1 hdg ht (fun q => absurd q hz) (fun _ => (hK _ _ _ _ h H locs cells slots ls g hl))
    | le =>
      try dsimp only at h
      split at h
      · rename_i hz
        exact lv_icmp_le (tgt := tgt pc off) hC.1 hC.2.1 hdg ht (fun _ => (hK _ _ _ _ h H locs cells slots ls g hl)) (fun q => absurd hz q)
      · rename_i hz
        exact lv_icmp_le (tgt := tgt pc off) hC.1 hC.2.1 hdg ht (fun q => absurd q hz) (fun _ => (hK _ _ _ _ h H locs cells slots ls g hl))
  · cases h
theorem sd_goto {off : Int} (hC : CX p s m args meth c md D cA n0 sv ev) (hdg : decode (q_b md) pc = .ok (.goto off, len)) (hK : ∀ pc1 l1 st1 σ1, K pc1 l1 st1 σ1 = some out → WG p L e R s m args below meth c Q n0 sv D cA md nE sE pc1 l1 st1 σ1) (hh : stepI ev call md pc l st σ K (.goto off) len = some out) : WG p L e R s m args below meth c Q n0 sv D cA md nE sE pc l st σ := by
  obtain ⟨h1, h⟩ := gd_some hh
  clear hh
  have h1 := Nat.eq_of_beq_eq_true h1
  subst h1
  obtain ⟨ht, h⟩ := jmp_some h
  intro H locs cells slots ls g hl
  exact lv_goto hC.1 hC.2.1 hdg ht (hK _ _ _ _ h H locs cells slots ls g hl)
theorem sd_tableswitch {dflt lo hi : Int} {offs : Array Int} (hC : CX p s m args meth c md D cA n0 sv ev) (hdg : decode (q_b md) pc = .ok (.tableswitch dflt lo hi offs, len)) (hK : ∀ pc1 l1 st1 σ1, K pc1 l1 st1 σ1 = some out → WG p L e R s m args below meth c Q n0 sv D cA md nE sE pc1 l1 st1 σ1) (hh : stepI ev call md pc l st σ K (.tableswitch dflt lo hi offs) len = some out) : WG p L e R s m args below meth c Q n0 sv D cA md nE sE pc l st σ := by
  obtain ⟨-, h⟩ := gd_some hh
  clear hh
  split at h
  · rename_i x r
    intro H locs cells slots ls g hl
    split at h
    · rename_i hz
      obtain ⟨ht, h⟩ := jmp_some h
      exact lv_tableOut hC.1 hC.2.1 hdg hz ht (hK _ _ _ _ h H locs cells slots ls g hl)
    · rename_i hz
      split at h
      · rename_i off ho
        obtain ⟨ht, h⟩ := jmp_some h
        exact lv_tableIn hC.1 hC.2.1 hdg (fun q => hz (Or.inl q)) (fun q => hz (Or.inr q)) ho ht (hK _ _ _ _ h H locs cells slots ls g hl)
      · cases h
  · cases h
end SND
