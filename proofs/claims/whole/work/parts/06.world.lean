/-! the worlds of the machine: what the heap holds where the abstract machine has a state -/
/-- a value as the machine has it: a cell's number is an address -/
def cvv (n0 : Nat) (sv : Nat → Option Nat) (v : Value) : Value := match v with
  | .ref a => va_rf (if a < 1000000 then some (n0 + a) else sv (a - 1000000))
  | w => w
def cq (n0 : Nat) (sv : Nat → Option Nat) (q : Nat × Value) : Nat × Value := (q.1, cvv n0 sv q.2)
theorem va_rf_cat (o : Option Nat) : (va_rf o).category = 1 := by cases o <;> rfl
theorem cvv_cat (n0 : Nat) (sv : Nat → Option Nat) (v : Value) : (cvv n0 sv v).category = v.category := by
  cases v with
  | ref a => exact va_rf_cat _
  | _ => rfl
theorem cvv_in {n0 : Nat} {sv : Nat → Option Nat} {a : Nat} (h : a < 1000000) : cvv n0 sv (.ref a) = .ref (n0 + a) := by
  simp [cvv, h, va_rf]
theorem cvv_ro {n0 : Nat} {sv : Nat → Option Nat} {a t : Nat} (h : 1000000 ≤ a) (hs : sv (a - 1000000) = some t) : cvv n0 sv (.ref a) = .ref t := by
  simp [cvv, Nat.not_lt.mpr h, hs, va_rf]
def conR (n0 : Nat) (row : Nat → Int32) (rowL : Nat → Int64) (t : FieldType) (rs : List (Option Nat)) : (Nat → Int32) ⊕ (Nat → Int64) ⊕ (Nat → UInt32) ⊕ (Nat → UInt64) ⊕ (Nat → Option Nat) := match t with
  | .long => .inr (.inl rowL)
  | .object _ => .inr (.inr (.inr (.inr (fun j => (rs.getD j none).map (fun b => n0 + b)))))
  | _ => .inl row
def entR (n0 : Nat) (sv : Nat → Option Nat) (cA : FieldType → ClassId) (row : Nat → Int32) (rowL : Nat → Int64) (x : TG × List (Option Nat)) : va_E := match x.1 with
  | .inl c => .inr (c, (List.range (q_N c)).map (fun k => cvv n0 sv (fv c k row x.2)))
  | .inr t => .inl (cA t.1, t.2, conR n0 row rowL t.1 x.2)
def wl (n0 : Nat) (sv : Nat → Option Nat) (cA : FieldType → ClassId) (σ : SG) : va_W := σ.2.2.1.mapIdx (fun i x => (n0 + i, entR n0 sv cA (σ.1 i) (σ.2.1 i) x))
theorem wl_get (n0 : Nat) (sv : Nat → Option Nat) (cA : FieldType → ClassId) (σ : SG) (a : Nat) : (wl n0 sv cA σ)[a]? = (σ.2.2.1[a]?).map (fun x => (n0 + a, entR n0 sv cA (σ.1 a) (σ.2.1 a) x)) := by
  simp [wl, List.getElem?_mapIdx]
theorem wl_at {n0 : Nat} {sv : Nat → Option Nat} {cA : FieldType → ClassId} {σ : SG} {a : Nat} {x : TG × List (Option Nat)} (h : σ.2.2.1[a]? = some x) : (wl n0 sv cA σ)[a]? = some (n0 + a, entR n0 sv cA (σ.1 a) (σ.2.1 a) x) := by
  rw [wl_get, h]; rfl
theorem wl_D (n0 : Nat) (sv : Nat → Option Nat) (cA : FieldType → ClassId) (σ : SG) : va_D (fun q => n0 ≤ q) (wl n0 sv cA σ) := by
  have key : ∀ (i : Nat) (q : Nat × va_E), (wl n0 sv cA σ)[i]? = some q → q.1 = n0 + i := by
    intro i q h
    rw [wl_get] at h
    cases hx : σ.2.2.1[i]? with
    | none => rw [hx] at h; cases h
    | some x => rw [hx] at h; cases h; rfl
  refine ⟨fun i j a b hi hj hab => ?_, fun k q hk => ?_⟩
  · have h1 := key i a hi
    have h2 := key j b hj
    omega
  · have h1 := key k q hk
    omega
theorem set_same {α : Type} {l : List α} {a : Nat} {x : α} (h : l[a]? = some x) : l.set a x = l := by
  apply List.ext_getElem?
  intro i
  by_cases hi : a = i
  · subst hi
    have hl := (List.getElem?_eq_some_iff.mp h).1
    rw [List.getElem?_set_self hl, h]
  · rw [List.getElem?_set_ne hi]
theorem wl_set {n0 : Nat} {sv : Nat → Option Nat} {cA : FieldType → ClassId} {σ σ' : SG} {a : Nat} {x' : TG × List (Option Nat)} {e : va_E} (hl : a < σ.2.2.1.length) (hw : σ'.2.2.1 = σ.2.2.1.set a x') (h1 : ∀ i, i ≠ a → σ'.1 i = σ.1 i) (h2 : ∀ i, i ≠ a → σ'.2.1 i = σ.2.1 i) (he : e = entR n0 sv cA (σ'.1 a) (σ'.2.1 a) x') : (wl n0 sv cA σ).set a (n0 + a, e) = wl n0 sv cA σ' := by
  have hwl : (wl n0 sv cA σ).length = σ.2.2.1.length := by simp [wl]
  apply List.ext_getElem?
  intro i
  by_cases hi : a = i
  · subst hi
    rw [List.getElem?_set_self (by rw [hwl]; exact hl), wl_get, hw, List.getElem?_set_self hl, he]
    rfl
  · rw [List.getElem?_set_ne hi, wl_get, wl_get, hw, List.getElem?_set_ne hi, h1 i (Ne.symm hi), h2 i (Ne.symm hi)]
theorem wl_push {n0 : Nat} {sv : Nat → Option Nat} {cA : FieldType → ClassId} {σ : SG} {x : TG × List (Option Nat)} {n : Nat} {e : va_E} (he : e = entR n0 sv cA (fun _ => 0) (fun _ => 0) x) : wl n0 sv cA σ ++ [(n0 + σ.2.2.1.length, e)] = wl n0 sv cA (va_up σ.1 σ.2.2.1.length (fun _ => 0), va_up σ.2.1 σ.2.2.1.length (fun _ => 0), (σ.2.2.1 ++ [x], σ.2.2.2 + n)) := by
  have hwl : (wl n0 sv cA σ).length = σ.2.2.1.length := by simp [wl]
  apply List.ext_getElem?
  intro i
  rw [wl_get]
  by_cases hi : i < σ.2.2.1.length
  · rw [List.getElem?_append_left (by rw [hwl]; exact hi), wl_get]
    simp only [List.getElem?_append_left hi]
    rw [show va_up σ.1 σ.2.2.1.length (fun _ => 0) i = σ.1 i by simp [va_up, Nat.ne_of_lt hi], show va_up σ.2.1 σ.2.2.1.length (fun _ => 0) i = σ.2.1 i by simp [va_up, Nat.ne_of_lt hi]]
  · by_cases he' : i = σ.2.2.1.length
    · subst he'
      rw [List.getElem?_append_right (by rw [hwl]; exact Nat.le_refl _)]
      simp [hwl, va_up, he]
    · rw [List.getElem?_eq_none (by simp [hwl]; omega)]
      simp only [Option.map_eq_none_iff.mpr, List.getElem?_eq_none (l := σ.2.2.1 ++ [x]) (i := i) (by simp; omega), Option.map_none]
/-- the array classes -/
def q_tys (cA : FieldType → ClassId) : List (ClassId × FieldType) := [(cA .int, .int), (cA .byte, .byte), (cA .boolean, .boolean), (cA .long, .long), (cA (.object "LampWires$Frame"), .object "LampWires$Frame"), (cA (.object "LampWires$Sheet"), .object "LampWires$Sheet")]
/-- what stands below the cells that are made: nobody writes it -/
def RO (n0 : Nat) (sv : Nat → Option Nat) (ev : EV) (U : State) (H : Heap) : Prop :=
  (∀ (k : Nat) (t : FieldType) (n : Nat) (f : Nat → Value), q_lk (roT ev) k = some (t, n, f) → 1000000 ≤ k ∧ ∃ a : Nat, sv (k - 1000000) = some a ∧ va_T t a n f (fun q => n0 ≤ q) U H) ∧
  (va_Z (q_st 0).1 (q_st 0).2.1 (q_st 0).2.2 (va_rf (sv 0)) (fun q => n0 ≤ q) U H ∧ va_Z (q_st 1).1 (q_st 1).2.1 (q_st 1).2.2 (va_rf (sv 1)) (fun q => n0 ≤ q) U H ∧ va_Z (q_st 11).1 (q_st 11).2.1 (q_st 11).2.2 (.int 1) (fun q => n0 ≤ q) U H ∧ va_Z (q_st 12).1 (q_st 12).2.1 (q_st 12).2.2 (va_rf (sv 12)) (fun q => n0 ≤ q) U H) ∧
  (∀ e ∈ q_rss, ∀ x ∈ e.2, x.2.2.1 = true → va_Nw (.fieldLinkNest (q_cn e.1) x.1 (q_st x.2.1).1 (q_st x.2.1).2.1 (q_st x.2.1).2.2 "LampWires") U) ∧
  (∀ e ∈ q_rms, ∀ x ∈ e.2, x.2.1 = 3 → va_Nw (.methodLinkNest (q_cn e.1) x.1 (q_y x.2.2.2.1) "LampWires") U) ∧
  (∀ x ∈ q_strs, ∃ a : Nat, sv (2 + x.1) = some a ∧ vk_R "LampWires$Tape" x.2.1 x.2.2 a U ∧ va_O "java/lang/String" a (fun q => n0 ≤ q) U H ∧ va_OF "java/lang/String" "coder" "B" (.int 0) a (fun q => n0 ≤ q) U H ∧ va_OF "java/lang/String" "value" "[B" (va_rf (sv (6 + x.1))) a (fun q => n0 ≤ q) U H) ∧
  va_AO "LampWires$Frame" U ∧ va_AO "LampWires$Sheet" U
theorem RO.moved {n0 : Nat} {sv : Nat → Option Nat} {ev : EV} {u U : State} {H : Heap} (hW : u.WarmedH U.vm) (h : RO n0 sv ev u H) : RO n0 sv ev U H := by
  obtain ⟨h1, ⟨z0, z1, z2, z3⟩, h3, h4, h5, h6, h7⟩ := h
  have hv := hW.alike
  refine ⟨fun k t n f hk => ?_, ⟨z0.moved hv, z1.moved hv, z2.moved hv, z3.moved hv⟩, fun e he x hx hb => (h3 e he x hx hb).warmF hW, fun e he x hx hb => (h4 e he x hx hb).warmM hW, fun x hx => ?_, h6.moved hv, h7.moved hv⟩
  · obtain ⟨g1, a, g2, g3⟩ := h1 k t n f hk
    exact ⟨g1, a, g2, g3.moved hv⟩
  · obtain ⟨a, g1, g2, g3, g4, g5⟩ := h5 x hx
    exact ⟨a, g1, g2.warm hW, g3.moved hv, g4.moved hv, g5.moved hv⟩
theorem RO.kept {n0 : Nat} {sv : Nat → Option Nat} {ev : EV} {U : State} {H H1 : Heap} (h : RO n0 sv ev U H) (hq : ∀ a : Nat, a < H.size → ¬ n0 ≤ a → H1[a]? = H[a]?) : RO n0 sv ev U H1 := by
  obtain ⟨h1, ⟨z0, z1, z2, z3⟩, h3, h4, h5, h6, h7⟩ := h
  refine ⟨fun k t n f hk => ?_, ⟨z0.kept hq, z1.kept hq, z2.kept hq, z3.kept hq⟩, h3, h4, fun x hx => ?_, h6, h7⟩
  · obtain ⟨g1, a, g2, g3⟩ := h1 k t n f hk
    exact ⟨g1, a, g2, g3.kept hq⟩
  · obtain ⟨a, g1, g2, g3, g4, g5⟩ := h5 x hx
    exact ⟨a, g1, g2, g3.kept hq, g4.kept hq, g5.kept hq⟩
theorem RO.same {n0 : Nat} {sv : Nat → Option Nat} {ev : EV} {u U : State} {H : Heap} (hv : u.vm = U.vm) (h : RO n0 sv ev u H) : RO n0 sv ev U H := by
  obtain ⟨h1, ⟨z0, z1, z2, z3⟩, h3, h4, h5, h6, h7⟩ := h
  have ha : u.vm.Alike U.vm := by rw [hv]; exact Vm.Alike.refl _
  refine ⟨fun k t n f hk => ?_, ⟨z0.moved ha, z1.moved ha, z2.moved ha, z3.moved ha⟩, fun e he x hx hb => (h3 e he x hx hb).same rfl hv, fun e he x hx hb => (h4 e he x hx hb).same rfl hv, fun x hx => ?_, h6.moved ha, h7.moved ha⟩
  · obtain ⟨g1, a, g2, g3⟩ := h1 k t n f hk
    exact ⟨g1, a, g2, g3.moved ha⟩
  · obtain ⟨a, g1, g2, g3, g4, g5⟩ := h5 x hx
    exact ⟨a, g1, g2.same hv.symm, g3.moved ha, g4.moved ha, g5.moved ha⟩
/-- where a method stands: the machine, its code, the tables, what nobody writes -/
def CX (p : Program) (s : State) (m : MethodId) (args : Array Value) (meth : Method) (c : Code) (md : Mth) (D : va_G) (cA : FieldType → ClassId) (n0 : Nat) (sv : Nat → Option Nat) (ev : EV) : Prop :=
  p.tables.exec = Jvm.exec ∧ c.code = q_b md ∧ c.maxLocals = q_L md ∧ s.vm.findClass (q_cn (q_o md)) = some m.cls ∧ (∀ w ∈ q_all, w.before args s = true) ∧ meth.sig.returnType = q_r md ∧ meth.locks = false ∧ ((q_y md).name = "<init>" → meth.name = "<init>") ∧ va_K D q_cl (q_tys cA) s ∧ RO n0 sv ev s s.heap ∧ q_dec md
/-- the heap at a place of a method -/
def GS (n0 : Nat) (sv : Nat → Option Nat) (D : va_G) (cA : FieldType → ClassId) (s : State) (nE sE : Nat) (σ : SG) (H : Heap) (locs : List Loc) (cells slots : Nat) : Prop :=
  va_P D q_cl (wl n0 sv cA σ) H ∧ va_S (fun q => n0 ≤ q) s.heap H locs ∧ nE + cells = σ.2.2.1.length ∧ sE + slots = σ.2.2.2 ∧ σ.2.2.1.length ≤ 1000000 ∧ s.heap.size = n0 + nE
theorem q_cl_at {ci : Nat} (h : ci < 13) : q_cl[ci]? = some (q_cn ci, q_T ci, q_N ci) := by
  simp [q_cl, h]
theorem q_at_dec {md : Mth} (hd : q_dec md) {pc : Nat} {i : Instr} {len : Nat} (h : q_at md pc = some (i, len)) : decode (q_b md) pc = .ok (i, len) := by
  unfold q_at at h
  cases hl : q_lk (q_c md) (pc / 32) with
  | none => rw [hl] at h; cases h
  | some l =>
    rw [hl] at h
    dsimp only at h
    have k := hd (pc / 32, l) (q_lk_mem _ _ _ hl) (pc, i, len) (q_lk_mem _ _ _ h)
    dsimp only at k
    exact k
theorem lget_at {l : LC} {i : Nat} {v : Value} (h : lget l i = some v) : (i, v) ∈ l := q_lk_mem l i v (by
  induction l with
  | nil => simp [lget] at h
  | cons a r ih =>
    obtain ⟨j, w⟩ := a
    simp only [lget] at h
    simp only [q_lk]
    cases hb : Nat.beq j i with
    | true => rw [hb] at h; exact h
    | false => rw [hb] at h; exact ih h)
theorem lget_has {n0 : Nat} {sv : Nat → Option Nat} {ls : Array Slot} {nL : Nat} {l : LC} {i : Nat} {v : Value} (h : lget l i = some v) (hl : lv_has ls nL (l.map (cq n0 sv))) : ls[i]? = some (.val (cvv n0 sv v)) :=
  hl.2.2 (i, cvv n0 sv v) (List.mem_map.mpr ⟨(i, v), lget_at h, rfl⟩)
theorem lget_ix {n0 : Nat} {sv : Nat → Option Nat} {l : LC} {i : Nat} {v : Value} (h : lget l i = some v) : ∃ k : Nat, (l.map (cq n0 sv))[k]? = some (i, cvv n0 sv v) := by
  obtain ⟨k, hk⟩ := List.getElem?_of_mem (lget_at h)
  exact ⟨k, by rw [List.getElem?_map, hk]; rfl⟩
theorem lset1_map (n0 : Nat) (sv : Nat → Option Nat) (l : LC) (i : Nat) (v : Value) : (i, cvv n0 sv v) :: (l.map (cq n0 sv)).filter (fun q => !(q.1 == i) && !(q.1 + 1 == i && q.2.category == 2)) = (lset1 l i v).map (cq n0 sv) := by
  simp only [lset1, List.map_cons, List.filter_map]
  congr 2
  apply List.filter_congr
  intro q _
  simp [Function.comp, cq, cvv_cat]
theorem lset2_map (n0 : Nat) (sv : Nat → Option Nat) (l : LC) (i : Nat) (v : Value) : (i, cvv n0 sv v) :: (l.map (cq n0 sv)).filter (fun q => !(q.1 == i) && (!(q.1 == i + 1) && !(q.1 + 1 == i && q.2.category == 2))) = (lset2 l i v).map (cq n0 sv) := by
  simp only [lset2, List.map_cons, List.filter_map]
  congr 2
  apply List.filter_congr
  intro q _
  simp [Function.comp, cq, cvv_cat]
theorem ldV_some {l : LC} {i : Nat} {K : Value → OT} {o : Option Value × SG} (h : ldV l i K = some o) : ∃ v, lget l i = some v ∧ K v = some o := by
  unfold ldV at h
  cases hv : lget l i with
  | none => rw [hv] at h; cases h
  | some v => rw [hv] at h; exact ⟨v, rfl, h⟩
theorem jmp_some {pc : Nat} {off : Int} {K : Nat → OT} {o : Option Value × SG} (h : jmp pc off K = some o) : (pc : Int) + off = (tgt pc off : Nat) ∧ K (tgt pc off) = some o := by
  obtain ⟨h1, h2⟩ := gd_some h
  refine ⟨?_, h2⟩
  have := of_decide_eq_true h1
  simp only [tgt]
  omega
theorem q_rf_mem {o i : Nat} {x : Nat × Nat × Nat} (h : q_rf o i = some x) : ∃ l, (o, l) ∈ q_rfs ∧ (i, x) ∈ l := by
  unfold q_rf at h
  cases hl : q_lk q_rfs o with
  | none => rw [hl] at h; cases h
  | some l =>
    rw [hl] at h
    dsimp only at h
    exact ⟨l, q_lk_mem _ _ _ hl, q_lk_mem _ _ _ h⟩
theorem q_rs_mem {o i : Nat} {x : Nat × Bool × Nat} (h : q_rs o i = some x) : ∃ l, (o, l) ∈ q_rss ∧ (i, x) ∈ l := by
  unfold q_rs at h
  cases hl : q_lk q_rss o with
  | none => rw [hl] at h; cases h
  | some l =>
    rw [hl] at h
    dsimp only at h
    exact ⟨l, q_lk_mem _ _ _ hl, q_lk_mem _ _ _ h⟩
theorem q_rk_mem {o i : Nat} {x : Value × Nat} (h : q_rk o i = some x) : ∃ l, (o, l) ∈ q_rks ∧ (i, x) ∈ l := by
  unfold q_rk at h
  cases hl : q_lk q_rks o with
  | none => rw [hl] at h; cases h
  | some l =>
    rw [hl] at h
    dsimp only at h
    exact ⟨l, q_lk_mem _ _ _ hl, q_lk_mem _ _ _ h⟩
theorem q_rc_mem {o i : Nat} {x : Nat × Nat} (h : q_rc o i = some x) : ∃ l, (o, l) ∈ q_rcs ∧ (i, x) ∈ l := by
  unfold q_rc at h
  cases hl : q_lk q_rcs o with
  | none => rw [hl] at h; cases h
  | some l =>
    rw [hl] at h
    dsimp only at h
    exact ⟨l, q_lk_mem _ _ _ hl, q_lk_mem _ _ _ h⟩
theorem q_ro_mem {o i : Nat} {x : Nat × Nat} (h : q_ro o i = some x) : ∃ l, (o, l) ∈ q_ros ∧ (i, x) ∈ l := by
  unfold q_ro at h
  cases hl : q_lk q_ros o with
  | none => rw [hl] at h; cases h
  | some l =>
    rw [hl] at h
    dsimp only at h
    exact ⟨l, q_lk_mem _ _ _ hl, q_lk_mem _ _ _ h⟩
theorem q_rm_mem {o i : Nat} {x : Nat × Nat × Mth × Nat × Nat × Nat} (h : q_rm o i = some x) : ∃ l, (o, l) ∈ q_rms ∧ (i, x) ∈ l := by
  unfold q_rm at h
  cases hl : q_lk q_rms o with
  | none => rw [hl] at h; cases h
  | some l =>
    rw [hl] at h
    dsimp only at h
    exact ⟨l, q_lk_mem _ _ _ hl, q_lk_mem _ _ _ h⟩
