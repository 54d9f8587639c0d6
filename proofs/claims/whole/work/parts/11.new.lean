/-! making cells; System.arraycopy, Math.max, Math.min, Object's constructor -/
/-- the room that is left: what the method's end needs -/
def HR (R : Room) (nE sE : Nat) (out : Option Value × SG) : Prop := out.2.2.2.1.length ≤ nE + R.cells ∧ out.2.2.2.2 ≤ sE + R.slots ∧ 1 ≤ R.frames ∧ 64 ≤ R.locals
theorem nfw : nativeFrameWords "java/lang/System" "arraycopy" 5 + 11 ≤ 56 := by decide +kernel
theorem q_blank : ∀ c, c < 13 → ∀ k, k < q_N c → (q_fk c k = 2 → defaultValue (q_ty c k) = .null) ∧ (q_fk c k = 3 → defaultValue (q_ty c k) = .null) := by decide +kernel
theorem fv_blank {n0 : Nat} {sv : Nat → Option Nat} {c : Nat} (hc : c < 13) {k : Nat} (hk : k < q_N c) : defaultValue (q_ty c k) = cvv n0 sv (fv c k (fun _ => 0) (List.replicate (q_N c) none)) := by
  obtain ⟨t0, t1, -, -, -⟩ := q_kinds c hc k hk
  obtain ⟨b2, b3⟩ := q_blank c hc k hk
  have h3 := q_kinds3 c hc k hk
  unfold fv
  split
  · rename_i h; rw [t0 h]; rfl
  · rename_i h; rw [t1 h]; rfl
  · rename_i h
    rw [b2 h]
    rw [show (List.replicate (q_N c) (none : Option Nat)).getD k none = none from by simp [List.getD_eq_getElem?_getD, hk]]
    rfl
  · rename_i h; rw [b3 h]; rfl
  · rename_i e0 e1 e2 e3
    have e0 : ¬ q_fk c k = 0 := e0
    have e1 : ¬ q_fk c k = 1 := e1
    have e2 : ¬ q_fk c k = 2 := e2
    have e3 : ¬ q_fk c k = 3 := e3
    omega
section SNW
variable {p : Program} {L : Launch} {e : Env} {R : Room} {s : State} {m : MethodId} {args : Array Value} {below : List Frame} {meth : Method} {c : Code} {Q : State → Prop}
variable {n0 : Nat} {sv : Nat → Option Nat} {D : va_G} {cA : FieldType → ClassId} {ev : EV} {md : Mth} {nE sE : Nat}
variable {pc len : Nat} {l : LC} {st : List Value} {σ : SG} {K : KT} {out : Option Value × SG} {call : Mth → List Value → SG → OT}
/-- a new cell comes behind all others -/
theorem GS.grow {H H1 : Heap} {locs : List Loc} {cells slots n : Nat} {x : TG × List (Option Nat)} (g : GS n0 sv D cA s nE sE σ H locs cells slots) (hz : H.size = n0 + σ.2.2.1.length) (hlt : σ.2.2.1.length < 1000000) (z1 : H1.size = n0 + σ.2.2.1.length + 1) (o1 : ∀ q : Nat, q < n0 + σ.2.2.1.length → H1[q]? = H[q]?) (he : va_at D q_cl (n0 + σ.2.2.1.length, entR n0 sv cA (fun _ => 0) (fun _ => 0) x) H1) : GS n0 sv D cA s nE sE (va_up σ.1 σ.2.2.1.length (fun _ => 0), va_up σ.2.1 σ.2.2.1.length (fun _ => 0), (σ.2.2.1 ++ [x], σ.2.2.2 + n)) H1 locs (cells + 1) (slots + n) := by
  obtain ⟨hP, hS, h3, h4, h5, h6⟩ := g
  have hk : ∀ (k : Nat) (y : Nat × va_E), (wl n0 sv cA σ)[k]? = some y → H1[y.1]? = H[y.1]? := fun k y hy => o1 y.1 (by rw [← hz]; exact (hP k y hy).lt)
  have hsing : va_P D q_cl [(n0 + σ.2.2.1.length, entR n0 sv cA (fun _ => 0) (fun _ => 0) x)] H1 := by
    intro k y hy
    have hz : k < 1 := (List.getElem?_eq_some_iff.mp hy).1
    rw [show k = 0 by omega] at hy
    cases hy
    exact he
  have hP1 := (hP.kept hk).app hsing
  rw [wl_push (n := n) rfl] at hP1
  refine ⟨hP1, ⟨by have := hS.1; omega, fun q g1 g2 => ?_, hS.2.2⟩, ?_, ?_, ?_, h6⟩
  · rw [o1 q (by have := hS.1; omega)]
    exact hS.2.1 q g1 g2
  · simp only [List.length_append, List.length_singleton]
    omega
  · dsimp only
    omega
  · simp only [List.length_append, List.length_singleton]
    omega
theorem sd_new {j : Nat} (hR : HR R nE sE out) (hC : CX p s m args meth c md D cA n0 sv ev) (hdg : decode (q_b md) pc = .ok (.new j, len)) (hK : ∀ pc1 l1 st1 σ1, K pc1 l1 st1 σ1 = some out → WG p L e R s m args below meth c Q n0 sv D cA md nE sE pc1 l1 st1 σ1) (hh : stepI ev call md pc l st σ K (.new j) len = some out) : WG p L e R s m args below meth c Q n0 sv D cA md nE sE pc l st σ := by
  obtain ⟨h1, h⟩ := gd_some hh
  clear hh
  have h1 := Nat.eq_of_beq_eq_true h1
  subst h1
  split at h
  · cases h
  · rename_i ci w hq
    obtain ⟨lst, g1, g2⟩ := q_rc_mem hq
    obtain ⟨hci, hw⟩ := q_rc_tab _ g1 _ g2
    dsimp only at hci hw
    obtain ⟨n1, n2, n3, n4⟩ := newK_some h
    intro H locs cells slots ls g hl
    refine W.sized (fun hsz => ?_)
    have hz := g.size hsz
    have hg3 := g.2.2.1
    have hg4 := g.2.2.2.1
    have hKn := hC.2.2.2.2.2.2.2.2.1.1 ci _ (q_cl_at hci)
    refine W.newcK hC.1 hC.2.1 hC.2.2.2.1 (hC.2.2.2.2.1 _ (q_in (q_ix w hw) rfl)) (hC.2.2.2.2.1 _ (q_in (q_insts ci hci) rfl)) (hC.2.2.2.2.1 _ (q_in (q_inits ci (by omega)) rfl)) rfl hdg (by have := hR.1; omega) (by have := hR.2.1; omega) hKn.2.1 hz fun H1 kC hkC e1 z1 o1 => ?_
    have hat : va_at D q_cl (n0 + σ.2.2.1.length, entR n0 sv cA (fun _ => 0) (fun _ => 0) (.inl ci, List.replicate (q_N ci) none)) H1 := by
      refine ⟨_, q_cl_at hci, ?_⟩
      refine (u_born (q_ty ci) hC.2.2.2.2.1 (q_wordsA ci hci) hKn hkC e1 (q_types ci hci)).to (fun k hk => ?_)
      rw [fv_blank (n0 := n0) (sv := sv) hci hk]
      show _ = ((List.range (q_N ci)).map (fun i => cvv n0 sv (fv ci i (fun _ => 0) (List.replicate (q_N ci) none)))).getD k .null
      rw [List.getD_eq_getElem?_getD, List.getElem?_map, List.getElem?_range hk]
      rfl
    have kk := hK _ _ _ _ n2 H1 locs (cells + 1) (slots + q_N ci) ls (g.grow hz n1 z1 o1 hat) hl
    simp only [List.map_cons] at kk
    rw [cvv_in n1] at kk
    exact kk
theorem sd_newarray {ty : ArrayType} (hR : HR R nE sE out) (hC : CX p s m args meth c md D cA n0 sv ev) (hdg : decode (q_b md) pc = .ok (.newarray ty, len)) (hK : ∀ pc1 l1 st1 σ1, K pc1 l1 st1 σ1 = some out → WG p L e R s m args below meth c Q n0 sv D cA md nE sE pc1 l1 st1 σ1) (hh : stepI ev call md pc l st σ K (.newarray ty) len = some out) : WG p L e R s m args below meth c Q n0 sv D cA md nE sE pc l st σ := by
  obtain ⟨h1, h⟩ := gd_some hh
  clear hh
  have h1 := Nat.eq_of_beq_eq_true h1
  subst h1
  split at h
  · rename_i n r
    split at h
    · cases h
    · rename_i hn
      have hg := gd_some h
      clear h
      obtain ⟨h2, h⟩ := hg
      obtain ⟨h2, h3⟩ := Bool.and_eq_true_iff.mp h2
      have h2 := Nat.le_of_ble_eq_true h2
      have h3 : newarray.typeOf ty = .int ∨ newarray.typeOf ty = .byte ∨ newarray.typeOf ty = .boolean ∨ newarray.typeOf ty = .long := by
        simpa using h3
      obtain ⟨n1, n2, n3, n4⟩ := newK_some h
      intro H locs cells slots ls g hl
      refine W.sized (fun hsz => ?_)
      have hz := g.size hsz
      have hg3 := g.2.2.1
      have hg4 := g.2.2.2.1
      have harr : (Cond.arrayClass (newarray.typeOf ty)).before args s = true := by
        refine hC.2.2.2.2.1 _ (q_in ?_ rfl)
        rcases h3 with h3 | h3 | h3 | h3 <;> rw [h3] <;> decide +kernel
      have hby : n.toNatClampNeg * componentBytes (newarray.typeOf ty) ≤ 536870912 := by
        refine Nat.le_trans (Nat.mul_le_mul_left _ ?_) h2
        rcases h3 with h3 | h3 | h3 | h3 <;> rw [h3] <;> decide
      refine va_newaK hC.1 hC.2.1 harr rfl hdg rfl hn rfl hby (by have := hR.1; omega) (by have := hR.2.1; omega) hz fun H1 cA1 e1 z1 o1 hAr hNm => ?_
      have hcA : cA1 = cA (newarray.typeOf ty) := by
        have hk := hC.2.2.2.2.2.2.2.2.1.2
        rcases h3 with h3 | h3 | h3 | h3 <;> rw [h3] at hNm ⊢
        · exact Option.some.inj (hNm.symm.trans (hk 0 _ rfl).2)
        · exact Option.some.inj (hNm.symm.trans (hk 1 _ rfl).2)
        · exact Option.some.inj (hNm.symm.trans (hk 2 _ rfl).2)
        · exact Option.some.inj (hNm.symm.trans (hk 3 _ rfl).2)
      have hat : va_at D q_cl (n0 + σ.2.2.1.length, entR n0 sv cA (fun _ => 0) (fun _ => 0) (.inr (newarray.typeOf ty, n.toNatClampNeg), [])) H1 := by
        subst hcA
        rcases h3 with h3 | h3 | h3 | h3 <;> rw [h3] at e1 ⊢ <;> exact e1
      have kk := hK _ _ _ _ n2 H1 locs (cells + 1) (slots + n.toNatClampNeg) ls (g.grow hz n1 z1 o1 hat) hl
      simp only [List.map_cons] at kk
      rw [cvv_in n1] at kk
      exact kk
  · cases h
theorem sd_anewarray {j : Nat} (hR : HR R nE sE out) (hC : CX p s m args meth c md D cA n0 sv ev) (hdg : decode (q_b md) pc = .ok (.anewarray j, len)) (hK : ∀ pc1 l1 st1 σ1, K pc1 l1 st1 σ1 = some out → WG p L e R s m args below meth c Q n0 sv D cA md nE sE pc1 l1 st1 σ1) (hh : stepI ev call md pc l st σ K (.anewarray j) len = some out) : WG p L e R s m args below meth c Q n0 sv D cA md nE sE pc l st σ := by
  obtain ⟨h1, h⟩ := gd_some hh
  clear hh
  have h1 := Nat.eq_of_beq_eq_true h1
  subst h1
  split at h
  · cases h
  · rename_i ci w hq
    obtain ⟨lst, g1, g2⟩ := q_rc_mem hq
    obtain ⟨hci, hw⟩ := q_rc_tab _ g1 _ g2
    dsimp only at hci hw
    split at h
    · rename_i n r
      split at h
      · cases h
      · rename_i hn
        have hg := gd_some h
        clear h
        obtain ⟨h2, h⟩ := hg
        obtain ⟨h2, h3⟩ := Bool.and_eq_true_iff.mp h2
        have h2 := Nat.le_of_ble_eq_true h2
        have h3 : ci = 1 ∨ ci = 6 := by
          rcases Bool.or_eq_true_iff.mp h3 with q | q
          · exact Or.inl (Nat.eq_of_beq_eq_true q)
          · exact Or.inr (Nat.eq_of_beq_eq_true q)
        obtain ⟨n1, n2, n3, n4⟩ := newK_some h
        intro H locs cells slots ls g hl
        refine W.sized (fun hsz => ?_)
        have hz := g.size hsz
        have hg3 := g.2.2.1
        have hg4 := g.2.2.2.1
        have hro := hC.2.2.2.2.2.2.2.2.2.1.2.2.2.2.2
        have hover : (Cond.arrayOver (.object (q_cn ci))).before args s = true := by
          rcases h3 with rfl | rfl
          · exact va_AO.use hro.1
          · exact va_AO.use hro.2
        refine W.anew hC.1 hC.2.1 hC.2.2.2.1 (hC.2.2.2.2.1 _ (q_in (q_ix w hw) rfl)) hover rfl hdg rfl hn h2 (by have := hR.1; omega) (by have := hR.2.1; omega) fun cA1 kA comp f1 f2 f3 f4 => ?_
        generalize hH1 : H.push ({ cls := cA1, slots := Array.replicate n.toNatClampNeg .null, vm := .none } : Cell) = H1
        have z1 : H1.size = n0 + σ.2.2.1.length + 1 := by rw [← hH1, Array.size_push, hz]
        have e1 : H1[n0 + σ.2.2.1.length]? = some (arrV cA1 n.toNatClampNeg (fun _ => .null)) := by rw [← hz, ← hH1, Array.getElem?_push_size, ← arrV_new]
        have o1 : ∀ q : Nat, q < n0 + σ.2.2.1.length → H1[q]? = H[q]? := fun q hq => by rw [← hH1, Array.getElem?_push, if_neg (by omega)]
        have hcA : cA1 = cA (.object (q_cn ci)) := by
          have hk := hC.2.2.2.2.2.2.2.2.1.2
          rcases h3 with rfl | rfl
          · obtain ⟨_, _, _, _, _, q4⟩ := (hk 4 _ rfl).2
            exact Option.some.inj (f1.symm.trans q4)
          · obtain ⟨_, _, _, _, _, q4⟩ := (hk 5 _ rfl).2
            exact Option.some.inj (f1.symm.trans q4)
        have hat : va_at D q_cl (n0 + σ.2.2.1.length, entR n0 sv cA (fun _ => 0) (fun _ => 0) (.inr (.object (q_cn ci), n.toNatClampNeg), List.replicate n.toNatClampNeg none)) H1 := by
          subst hcA
          show H1[n0 + σ.2.2.1.length]? = some (vp_cell _ (_, Sum.inr (Sum.inr (Sum.inr (Sum.inr _)))))
          rw [e1, vp_cell_q]
          congr 2
          funext j
          have : (List.replicate n.toNatClampNeg (none : Option Nat)).getD j none = none := by
            rw [List.getD_eq_getElem?_getD]
            cases hj : (List.replicate n.toNatClampNeg (none : Option Nat))[j]? with
            | none => rfl
            | some y => rw [(List.mem_replicate.mp (List.mem_of_getElem? hj)).2]; rfl
          rw [this]
          rfl
        have kk := hK _ _ _ _ n2 H1 locs (cells + 1) (slots + n.toNatClampNeg) ls (g.grow hz n1 z1 o1 hat) hl
        simp only [List.map_cons] at kk
        rw [cvv_in n1] at kk
        rw [hz]
        exact kk
    · cases h
end SNW
