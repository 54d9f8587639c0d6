/-! the abstract machine is the machine: every method, every depth -/
section SNZ
variable {p : Program} {L : Launch} {e : Env} {R : Room} {s : State} {m : MethodId} {args : Array Value} {below : List Frame} {meth : Method} {c : Code} {Q : State → Prop}
variable {n0 : Nat} {sv : Nat → Option Nat} {D : va_G} {cA : FieldType → ClassId} {ev : EV} {md : Mth} {nE sE : Nat}
variable {out : Option Value × SG} {call : Mth → List Value → SG → OT}
theorem snd_step {d pc len : Nat} {l : LC} {st : List Value} {σ : SG} {K : KT} {i : Instr} (hR : HR R nE sE out) (hRd : d + 1 ≤ R.frames ∧ 64 * (d + 1) ≤ R.locals) (hcall : ∀ cm av σ1 o1, q_dec cm → q_code cm → q_okm cm → call cm av σ1 = some o1 → MET L n0 sv D cA ev d cm av σ1 o1) (hC : CX p s m args meth c md D cA n0 sv ev) (hT : RET p L e R s m args below meth c Q n0 sv D cA md nE sE out) (hdg : decode (q_b md) pc = .ok (i, len)) (hK : ∀ pc1 l1 st1 σ1, K pc1 l1 st1 σ1 = some out → WG p L e R s m args below meth c Q n0 sv D cA md nE sE pc1 l1 st1 σ1) (hh : stepI ev call md pc l st σ K i len = some out) : WG p L e R s m args below meth c Q n0 sv D cA md nE sE pc l st σ := by
  cases i with
  | iconst n => exact sd_iconst hC hdg hK hh
  | bipush n => exact sd_bipush hC hdg hK hh
  | sipush n => exact sd_sipush hC hdg hK hh
  | lconst n => exact sd_lconst hC hdg hK hh
  | iadd => exact sd_iadd hC hdg hK hh
  | isub => exact sd_isub hC hdg hK hh
  | imul => exact sd_imul hC hdg hK hh
  | iand => exact sd_iand hC hdg hK hh
  | ior => exact sd_ior hC hdg hK hh
  | ixor => exact sd_ixor hC hdg hK hh
  | ishl => exact sd_ishl hC hdg hK hh
  | ishr => exact sd_ishr hC hdg hK hh
  | ladd => exact sd_ladd hC hdg hK hh
  | lsub => exact sd_lsub hC hdg hK hh
  | lmul => exact sd_lmul hC hdg hK hh
  | land => exact sd_land hC hdg hK hh
  | lor => exact sd_lor hC hdg hK hh
  | lxor => exact sd_lxor hC hdg hK hh
  | iushr => exact sd_iushr hC hdg hK hh
  | lshl => exact sd_lshl hC hdg hK hh
  | lshr => exact sd_lshr hC hdg hK hh
  | lushr => exact sd_lushr hC hdg hK hh
  | idiv => exact sd_idiv hC hdg hK hh
  | irem => exact sd_irem hC hdg hK hh
  | ldiv => exact sd_ldiv hC hdg hK hh
  | lrem => exact sd_lrem hC hdg hK hh
  | lcmp => exact sd_lcmp hC hdg hK hh
  | ineg => exact sd_ineg hC hdg hK hh
  | i2l => exact sd_i2l hC hdg hK hh
  | l2i => exact sd_l2i hC hdg hK hh
  | i2b => exact sd_i2b hC hdg hK hh
  | i2s => exact sd_i2s hC hdg hK hh
  | i2c => exact sd_i2c hC hdg hK hh
  | dup => exact sd_dup hC hdg hK hh
  | pop => exact sd_pop hC hdg hK hh
  | dup2 => exact sd_dup2 hC hdg hK hh
  | iload j => exact sd_iload hC hdg hK hh
  | iload_n j => exact sd_iload_n hC hdg hK hh
  | lload j => exact sd_lload hC hdg hK hh
  | lload_n j => exact sd_lload_n hC hdg hK hh
  | aload j => exact sd_aload hC hdg hK hh
  | aload_n j => exact sd_aload_n hC hdg hK hh
  | istore j => exact sd_istore hC hdg hK hh
  | istore_n j => exact sd_istore_n hC hdg hK hh
  | lstore j => exact sd_lstore hC hdg hK hh
  | lstore_n j => exact sd_lstore_n hC hdg hK hh
  | astore j => exact sd_astore hC hdg hK hh
  | astore_n j => exact sd_astore_n hC hdg hK hh
  | iinc j n => exact sd_iinc hC hdg hK hh
  | ifCond cnd off => exact sd_ifCond hC hdg hK hh
  | if_icmp cnd off => exact sd_if_icmp hC hdg hK hh
  | goto off => exact sd_goto hC hdg hK hh
  | tableswitch a b d2 e2 => exact sd_tableswitch hC hdg hK hh
  | ldc j => exact sd_ldc hC hdg hK hh
  | ldc_w j => exact sd_ldc_w hC hdg hK hh
  | ldc2_w j => exact sd_ldc2_w hC hdg hK hh
  | getfield j => exact sd_getfield hC hdg hK hh
  | getstatic j => exact sd_getstatic hC hdg hK hh
  | arraylength => exact sd_arraylength hC hdg hK hh
  | iaload => exact sd_iaload hC hdg hK hh
  | laload => exact sd_laload hC hdg hK hh
  | aaload => exact sd_aaload hC hdg hK hh
  | baload => exact sd_baload hC hdg hK hh
  | iastore => exact sd_iastore hC hdg hK hh
  | lastore => exact sd_lastore hC hdg hK hh
  | bastore => exact sd_bastore hC hdg hK hh
  | aastore => exact sd_aastore hC hdg hK hh
  | putfield j => exact sd_putfield hC hdg hK hh
  | new j => exact sd_new hR hC hdg hK hh
  | newarray ty => exact sd_newarray hR hC hdg hK hh
  | anewarray j => exact sd_anewarray hR hC hdg hK hh
  | invokevirtual j => exact sd_invokevirtual hR hRd hcall hC hdg hK hh
  | invokestatic j => exact sd_invokestatic hR hRd hcall hC hdg hK hh
  | invokespecial j => exact sd_invokespecial hR hRd hcall hC hdg hK hh
  | ireturn => exact sd_ireturn hT hdg hh
  | lreturn => exact sd_lreturn hT hdg hh
  | areturn => exact sd_areturn hT hdg hh
  | return_ => exact sd_return hT hdg hh
  | _ => cases hh
theorem runF_sound {d : Nat} (hR : HR R nE sE out) (hRd : d + 1 ≤ R.frames ∧ 64 * (d + 1) ≤ R.locals) (hcall : ∀ cm av σ1 o1, q_dec cm → q_code cm → q_okm cm → call cm av σ1 = some o1 → MET L n0 sv D cA ev d cm av σ1 o1) (hC : CX p s m args meth c md D cA n0 sv ev) (hT : RET p L e R s m args below meth c Q n0 sv D cA md nE sE out) :
    ∀ (n pc : Nat) (l : LC) (st : List Value) (σ : SG), runF ev call md n pc l st σ = some out → WG p L e R s m args below meth c Q n0 sv D cA md nE sE pc l st σ := by
  intro n
  induction n with
  | zero => intro pc l st σ h; cases h
  | succ n ih =>
    intro pc l st σ h
    have h : (match q_at md pc with
      | none => none
      | some (i, len) => stepI ev call md pc l st σ (runF ev call md n) i len) = some out := h
    cases hq : q_at md pc with
    | none => rw [hq] at h; cases h
    | some x =>
      obtain ⟨i, len⟩ := x
      rw [hq] at h
      dsimp only at h
      exact snd_step hR hRd hcall hC hT (q_at_dec hC.2.2.2.2.2.2.2.2.2.2 hq) ih h
end SNZ
theorem lv_args_map (n0 : Nat) (sv : Nat → Option Nat) : ∀ (av : List Value) (i : Nat), lv_args i (av.map (cvv n0 sv)) = (lv_args i av).map (cq n0 sv)
  | [], _ => rfl
  | v :: r, i => by
    simp only [List.map_cons, lv_args, cvv_cat, cq]
    rw [lv_args_map n0 sv r]
theorem lg_sl_len : ∀ (av : List Value), (lg_sl av).length = catS av
  | [] => rfl
  | v :: r => by
    have h := lg_sl_len r
    have hc := lv_cat v
    simp only [lg_sl, List.flatMap_cons, List.length_append] at h ⊢
    rw [show catS (v :: r) = v.category + catS r from by simp [catS], ← h]
    rcases hc with hc | hc <;> simp [hc]
theorem catS_cv (n0 : Nat) (sv : Nat → Option Nat) (r : List Value) : catS (r.map (cvv n0 sv)) = catS r := catS_map n0 sv r
theorem runD_sound (L : Launch) (n0 : Nat) (sv : Nat → Option Nat) (D : va_G) (cA : FieldType → ClassId) (ev : EV) (N : Nat) : ∀ (d : Nat) (md : Mth) (av : List Value) (σ : SG) (out : Option Value × SG), q_dec md → q_code md → q_okm md → runD ev N d md av σ = some out → MET L n0 sv D cA ev d md av σ out := by
  intro d
  induction d with
  | zero => intro md av σ out _ _ _ h; cases h
  | succ d ih =>
    intro md av σ out hd hc ho h
    obtain ⟨hw, h⟩ := gd_some (b := Nat.ble (catS av) (q_L md)) (x := runF ev (runD ev N d) md N 0 (lv_args 0 av) [] σ) h
    have hw := Nat.le_of_ble_eq_true hw
    refine Met.ofW (cc := q_b md) (maxL := q_L md) (ret := q_r md) ho.2.2.1 rfl ?_
    intro p e s m args below meth c s₁ B hml hv
    obtain ⟨rfl, hP, hz, hK, hRO, hlen⟩ := hv
    have hts := atoms_spec (ws := q_ws md) B.pre
    have hown := findClass_of_methodNamed B.named
    rw [ho.2.1] at hown
    have hC : CX p s m ((av.map (cvv n0 sv)).toArray) meth c md D cA n0 sv ev := ⟨B.exec, B.bytes, hml, hown, fun w hw => hts w (List.mem_cons_of_mem _ hw), B.returns, B.notSynchronized, fun h => by rw [(name_of_methodNamed B.named B.method).1]; exact h, hK, hRO, hd⟩
    have hl := lv_entry (av.map (cvv n0 sv)) (n := q_L md) (by rw [lg_sl_len, catS_cv]; exact hw)
    rw [lg_entry_eq]
    rw [lv_args_map] at hl
    generalize (lg_sl (av.map (cvv n0 sv)) ++ List.replicate (q_L md - (lg_sl (av.map (cvv n0 sv))).length) Slot.unset).toArray = ls at hl ⊢
    have hT : RET p L e (q_room (d + 1) σ out) s m ((av.map (cvv n0 sv)).toArray) below meth c (MQ below (CQ n0 sv D cA out) ((av.map (cvv n0 sv)).toArray) s (out.2.2.2.1.length - σ.2.2.1.length) (out.2.2.2.2 - σ.2.2.2) (fun q => n0 ≤ q)) n0 sv D cA md σ.2.2.1.length σ.2.2.2 out := by
      intro pc i H locs cells slots ls g hdg hr
      obtain ⟨gP, gS, g3, g4, g5, g6⟩ := g
      rw [show out.2.2.2.1.length - σ.2.2.1.length = cells by omega, show out.2.2.2.2 - σ.2.2.2 = slots by omega]
      have hq : ∀ t : State, t.heap = H → s.WarmedH t.vm → CQ n0 sv D cA out ((av.map (cvv n0 sv)).toArray) s (.returned (out.1.map (cvv n0 sv))) t := fun t ht _ => ⟨⟨rfl, by rw [ht]; exact gP, g5⟩, gS.F ht⟩
      obtain ⟨ov, σ2⟩ := out
      cases ov with
      | none =>
        obtain ⟨rfl, hr⟩ := hr
        exact W.vret B.exec B.bytes (by rw [B.returns]; exact hr) hq gS.2.2 hdg B.notSynchronized
      | some v =>
        cases v with
        | int x =>
          obtain ⟨rfl, ty, hr, hn⟩ := hr
          exact W.zret B.exec B.bytes (by rw [B.returns]; exact hr) hn hq gS.2.2 hdg B.notSynchronized
        | long x =>
          obtain ⟨rfl, hr⟩ := hr
          exact W.lret B.exec B.bytes (by rw [B.returns]; exact hr) hq gS.2.2 hdg B.notSynchronized
        | ref a =>
          obtain ⟨rfl, ha, nm, hr⟩ := hr
          exact W.aret B.exec B.bytes (by rw [B.returns]; exact hr) (Or.inl ⟨nm, rfl⟩) (by rw [cvv_in ha]; exact Or.inr ⟨_, rfl⟩) hq gS.2.2 hdg B.notSynchronized
        | _ => exact hr.elim
    have key := runF_sound (d := d) (Q := MQ below (CQ n0 sv D cA out) ((av.map (cvv n0 sv)).toArray) s (out.2.2.2.1.length - σ.2.2.1.length) (out.2.2.2.2 - σ.2.2.2) (fun q => n0 ≤ q)) (R := q_room (d + 1) σ out) (nE := σ.2.2.1.length) (sE := σ.2.2.2) ⟨by show _ ≤ _ + (_ - _); omega, by show _ ≤ _ + (_ - _); omega, by show 1 ≤ d + 1; omega, by show 64 ≤ 64 * (d + 1); omega⟩ ⟨Nat.le_refl _, Nat.le_refl _⟩ ih hC hT N 0 (lv_args 0 av) [] σ h
    exact key s.heap [] 0 0 ls ⟨hP, va_S.rf, by omega, by omega, hlen, hz⟩ hl
