/-! calls: a method's contract is what the abstract machine answers -/
def CP (n0 : Nat) (sv : Nat → Option Nat) (D : va_G) (cA : FieldType → ClassId) (ev : EV) (av : List Value) (σ : SG) : Array Value → State → Prop := fun v U =>
  v = (av.map (cvv n0 sv)).toArray ∧ va_P D q_cl (wl n0 sv cA σ) U.heap ∧ U.heap.size = n0 + σ.2.2.1.length ∧ va_K D q_cl (q_tys cA) U ∧ RO n0 sv ev U U.heap ∧ σ.2.2.1.length ≤ 1000000
def CQ (n0 : Nat) (sv : Nat → Option Nat) (D : va_G) (cA : FieldType → ClassId) (out : Option Value × SG) : Array Value → State → Outcome → State → Prop := fun _ st oc t =>
  (oc = .returned (out.1.map (cvv n0 sv)) ∧ va_P D q_cl (wl n0 sv cA out.2) t.heap ∧ out.2.2.2.1.length ≤ 1000000) ∧ va_F (fun q => n0 ≤ q) st t
def q_ws (md : Mth) : List Cond := Cond.code (q_y md) (q_b md) (q_L md) (q_r md) :: q_all
def q_room (d : Nat) (σ : SG) (out : Option Value × SG) : Room := { frames := d, cells := out.2.2.2.1.length - σ.2.2.1.length, slots := out.2.2.2.2 - σ.2.2.2, locals := 64 * d }
/-- the contract -/
def MET (L : Launch) (n0 : Nat) (sv : Nat → Option Nat) (D : va_G) (cA : FieldType → ClassId) (ev : EV) (d : Nat) (md : Mth) (av : List Value) (σ : SG) (out : Option Value × SG) : Prop :=
  Met L (q_y md) (q_ws md) (q_room d σ out) (CP n0 sv D cA ev av σ) (CQ n0 sv D cA out) (out.2.2.2.1.length - σ.2.2.1.length) (out.2.2.2.2 - σ.2.2.2) (fun q => n0 ≤ q)
theorem CP.blind {n0 : Nat} {sv : Nat → Option Nat} {D : va_G} {cA : FieldType → ClassId} {ev : EV} {av : List Value} {σ : SG} : FrameBlind (CP n0 sv D cA ev av σ) := by
  intro a U g mk h
  obtain ⟨h1, h2, h3, h4, h5, h6⟩ := h
  exact ⟨h1, h2, h3, va_K.moved (u := U) (U := U.calling g mk a) (Vm.Alike.refl U.vm) h4, RO.same (u := U) (U := U.calling g mk a) rfl h5, h6⟩
theorem q_good (md : Mth) (hc : q_code md) : GoodIn q_all (q_ws md) := by
  intro w hw
  rcases List.mem_cons.mp hw with rfl | hw
  · exact ⟨q_in hc rfl, good_of_word rfl⟩
  · exact ⟨hw, good_of_word (List.mem_filter.mp hw).2⟩
theorem callK_some {cr : OT} {σ : SG} {K : Option Value → SG → OT} {out : Option Value × SG} (h : callK cr σ K = some out) : ∃ o1 : Option Value × SG, cr = some o1 ∧ K o1.1 o1.2 = some out ∧ σ.2.2.1.length ≤ o1.2.2.2.1.length ∧ σ.2.2.2 ≤ o1.2.2.2.2 ∧ o1.2.2.2.1.length ≤ out.2.2.2.1.length ∧ o1.2.2.2.2 ≤ out.2.2.2.2 := by
  unfold callK at h
  split at h
  · cases h
  · rename_i v σ1
    split at h
    · cases h
    · rename_i r σ2 hk
      obtain ⟨h2, h3⟩ := gd_some h
      cases h3
      obtain ⟨h4, h5⟩ := Bool.and_eq_true_iff.mp h2
      obtain ⟨h6, h7⟩ := Bool.and_eq_true_iff.mp h4
      obtain ⟨h8, h9⟩ := Bool.and_eq_true_iff.mp h5
      exact ⟨(v, σ1), rfl, hk, Nat.le_of_ble_eq_true h6, Nat.le_of_ble_eq_true h7, Nat.le_of_ble_eq_true h8, Nat.le_of_ble_eq_true h9⟩
theorem q_cl_inv {ci : Nat} {r : vw_C} (h : q_cl[ci]? = some r) : r = (q_cn ci, q_T ci, q_N ci) := by
  have hl : ci < q_cl.length := (List.getElem?_eq_some_iff.mp h).1
  have hl : ci < 13 := by simpa [q_cl] using hl
  rw [q_cl_at hl] at h
  exact (Option.some.inj h).symm
section SNC
variable {p : Program} {L : Launch} {e : Env} {R : Room} {s : State} {m : MethodId} {args : Array Value} {below : List Frame} {meth : Method} {c : Code} {Q : State → Prop}
variable {n0 : Nat} {sv : Nat → Option Nat} {D : va_G} {cA : FieldType → ClassId} {ev : EV} {md : Mth} {nE sE : Nat}
variable {pc len : Nat} {l : LC} {st : List Value} {σ : SG} {K : KT} {out : Option Value × SG} {call : Mth → List Value → SG → OT}
theorem call_go {H : Heap} {locs : List Loc} {cells slots mc ms : Nat} {ls : Array Slot} {st0 rest : List Value} {a : Array Value} {o1 : Option Value × SG} (hr : va_Run p L e R s m args below meth c H locs cells slots mc ms (F0 m pc ls st0) rest (CQ n0 sv D cA o1 a) (fun q => n0 ≤ q)) (hS : va_S (fun q => n0 ≤ q) s.heap H locs)
    (kk : ∀ (H1 : Heap) (locs1 : List Loc), va_P D q_cl (wl n0 sv cA o1.2) H1 → o1.2.2.2.1.length ≤ 1000000 → va_S (fun q => n0 ≤ q) s.heap H1 locs1 → W p L e R s m args below meth c H1 locs1 (cells + mc) (slots + ms) Q (F0 m (pc + 3) ls ((o1.1.map (cvv n0 sv)).toList ++ rest))) : W p L e R s m args below meth c H locs cells slots Q (F0 m pc ls st0) := by
  intro T hT X
  obtain ⟨v, st₀, t, T', Lc, h0, X', hL, e1, e2, ⟨⟨hv, hp, hlen⟩, hz, hk⟩, stp⟩ := hr T hT X
  cases hv
  rw [h0] at hz hk
  obtain ⟨t2, a1, b1⟩ := kk T'.heap (locs ++ Lc) (by rw [e1]; exact hp) hlen ⟨Nat.le_trans hS.1 (by rw [e1]; exact hz), fun q g1 g2 => by rw [e1, hk q (Nat.lt_of_lt_of_le g1 hS.1) g2]; exact hS.2.1 q g1 g2, fun q hq => by
      rcases List.mem_append.mp hq with h | h
      · exact hS.2.2 q h
      · exact hL q h⟩ T' rfl X'
  exact ⟨t2, stp t2 a1, b1⟩
/-- what a call asks of the words and the room -/
theorem call_words {j d na : Nat} {cm : Mth} {o1 : Option Value × SG} (hC : CX p s m args meth c md D cA n0 sv ev) (hRd : d + 1 ≤ R.frames ∧ 64 * (d + 1) ≤ R.locals) (hd : q_code cm) (ho : q_okm cm) (hp : (parseMethodDescriptor (q_y cm).desc).map (fun d => d.parameters.length) = some na) :
    (q_room d σ o1).cells = o1.2.2.2.1.length - σ.2.2.1.length ∧ (q_room d σ o1).slots = o1.2.2.2.2 - σ.2.2.2 ∧ (q_room d σ o1).frames + 1 ≤ R.frames ∧ 8 + (q_L cm + 11) + (q_room d σ o1).locals ≤ R.locals ∧ (∀ w ∈ q_ws cm, ∀ (a' : Array Value) (U : State), s.WarmedH U.vm → w.before a' U = true) ∧ Cond.code (q_y cm) (q_b cm) (q_L cm) (q_r cm) ∈ q_ws cm ∧
      (Cond.code (q_y cm) (q_b cm) (q_L cm) (q_r cm)).before args s = true ∧ (Cond.initialized (q_y cm).cls).before args s = true ∧ ((q_y cm).cls ≠ "java/lang/invoke/MethodHandle" ∧ (q_y cm).cls ≠ "java/lang/invoke/VarHandle") ∧ (∀ sig, parseMethodDescriptor (q_y cm).desc = some sig → na = sig.parameters.length) := by
  obtain ⟨o1, o2, o3, o4, o5, o6⟩ := ho
  have hG := q_good cm hd
  refine ⟨rfl, rfl, hRd.1, ?_, pay_in hC.2.2.2.2.1 hG, List.mem_cons_self, hC.2.2.2.2.1 _ (q_in hd rfl), ?_, ⟨o4, o5⟩, ?_⟩
  · show 8 + (q_L cm + 11) + 64 * d ≤ R.locals
    have := hRd.2
    omega
  · rw [o2]
    exact hC.2.2.2.2.1 _ (q_in (q_inits _ o1) rfl)
  · intro sig h
    rw [h] at hp
    exact (Option.some.inj hp).symm
theorem sd_invokevirtual {j d : Nat} (hR : HR R nE sE out) (hRd : d + 1 ≤ R.frames ∧ 64 * (d + 1) ≤ R.locals) (hcall : ∀ cm av σ1 o1, q_dec cm → q_code cm → q_okm cm → call cm av σ1 = some o1 → MET L n0 sv D cA ev d cm av σ1 o1) (hC : CX p s m args meth c md D cA n0 sv ev) (hdg : decode (q_b md) pc = .ok (.invokevirtual j, len)) (hK : ∀ pc1 l1 st1 σ1, K pc1 l1 st1 σ1 = some out → WG p L e R s m args below meth c Q n0 sv D cA md nE sE pc1 l1 st1 σ1) (hh : stepI ev call md pc l st σ K (.invokevirtual j) len = some out) : WG p L e R s m args below meth c Q n0 sv D cA md nE sE pc l st σ := by
  obtain ⟨h1, h⟩ := gd_some hh
  clear hh
  have h1 := Nat.eq_of_beq_eq_true h1
  subst h1
  split at h
  · cases h
  · rename_i k na cm ww hq
    obtain ⟨w1, w2, w3⟩ := ww
    obtain ⟨lst, g1, g2⟩ := q_rm_mem hq
    obtain ⟨⟨ml1, ml2, ml3, ml4, ml5, ml6, ml7, ml8⟩, hd, hc, ho⟩ := q_rm_tab _ g1 _ g2
    dsimp only at ml1 ml2 ml3 ml4 ml5 ml6 ml7 ml8 hd hc ho
    split at h
    · rename_i b r hst
      have hg := gd_some h
      clear h
      obtain ⟨h2, h⟩ := hg
      obtain ⟨h2, h3⟩ := Bool.and_eq_true_iff.mp h2
      obtain ⟨h3, h4⟩ := Bool.and_eq_true_iff.mp h3
      have h2 := Nat.eq_of_beq_eq_true h2
      subst h2
      have h4 := Nat.le_of_ble_eq_true h4
      obtain ⟨o1, hcr, hk1, s1, s2, s3, s4⟩ := callK_some h
      have hM := hcall cm _ σ o1 hd hc ho hcr
      have hlen : na < st.length := by
        have := congrArg List.length hst
        simp only [List.length_drop, List.length_cons] at this
        omega
      intro H locs cells slots ls g hl
      refine W.sized (fun hsz => ?_)
      have hz := g.size hsz
      have hg3 := g.2.2.1
      have hg4 := g.2.2.2.1
      have hrecv : ∃ bb : Nat, cvv n0 sv (.ref b) = .ref bb ∧ ∃ cellB : Cell, H[bb]? = some cellB ∧ cellB.vm.isStatics = false ∧ s.vm.findClass (q_y cm).cls = some cellB.cls := by
        unfold isIn at h3
        split at h3
        · rename_i x rs hx
          have h3 := Nat.eq_of_beq_eq_true h3
          subst h3
          refine ⟨n0 + b, cvv_in (g.lt hx), ?_⟩
          obtain ⟨rr, hrr, -⟩ := g.1 b _ (wl_at hx)
          have hr9 := q_cl_inv hrr
          have hv := va_recv hC.2.2.2.2.2.2.2.2.1 g.1 hrr (wl_at hx)
          rw [hr9] at hv
          rw [ho.2.1]
          exact hv
        · cases h3
        · obtain ⟨h3, h5⟩ := Bool.and_eq_true_iff.mp h3
          obtain ⟨h5, h6⟩ := Bool.and_eq_true_iff.mp h5
          have h3 := Nat.eq_of_beq_eq_true h3
          have h5 := Nat.le_of_ble_eq_true h5
          have h6 := Nat.le_of_ble_eq_true h6
          obtain ⟨j1, tx, hin⟩ := q_strs_in (i := b - 1000002) (by omega)
          obtain ⟨t, f1, -, f3, -⟩ := hC.2.2.2.2.2.2.2.2.2.1.2.2.2.2.1 _ hin
          dsimp only at f1 f3
          refine ⟨t, cvv_ro (t := t) (ar_0 h5) (by rw [ar_2 h5]; exact f1), ?_⟩
          rw [ho.2.1, h3]
          obtain ⟨cell, e1, e2, e3, -⟩ := f3.kept g.2.1.2.1
          exact ⟨cell, e1, e2, e3⟩
      obtain ⟨bb, hbb, hcb⟩ := hrecv
      obtain ⟨x1, x2, x3, x4, x5, x6, x7, x8, x9, x10⟩ := call_words (σ := σ) (o1 := o1) (j := j) hC hRd hc ho ml7
      have hstk : st.map (cvv n0 sv) = (((st.take na).reverse.map (cvv n0 sv))).reverse ++ .ref bb :: r.map (cvv n0 sv) := by
        have e1 : st = st.take na ++ .ref b :: r := by rw [← hst]; exact (List.take_append_drop na st).symm
        conv => lhs; rw [e1]
        rw [List.map_append, List.map_cons, hbb, ← List.map_reverse, List.reverse_reverse]
      rw [hstk]
      refine call_go (va_runV (As := (st.take na).reverse.map (cvv n0 sv)) (C := (q_y cm).cls) ⟨hC.1, hC.2.1, hC.2.2.1, hC.2.2.2.1, hC.2.2.2.2.1⟩ hM ⟨⟨x1, x2, x3, x4, x5, x6, x7, x8, x9, x10, hC.2.2.2.2.1 _ (q_in (q_ix w1 (ml1 (by decide))) rfl)⟩, hC.2.2.2.2.1 _ (q_in (q_ix w2 (ml4 (by decide))) rfl), hC.2.2.2.2.1 _ (q_in (q_ix w3 (ml5 rfl)) rfl)⟩ ⟨CP.blind, hcb, fun U hU hW => ⟨?_, by rw [hU]; exact g.1, by rw [hU]; exact hz, va_K.moved hW.alike hC.2.2.2.2.2.2.2.2.1, ?_, g.2.2.2.2.1⟩⟩ rfl (by simp; omega) hl.1 rfl (lv_room (by rw [catS_map]; exact h4)) hdg ⟨by have := hR.1; omega, by have := hR.2.1; omega⟩) g.2.1 (fun H1 locs1 hP1 hl1 hS1 => ?_)
      · rw [List.map_cons, hbb]
      · rw [hU]
        exact (hC.2.2.2.2.2.2.2.2.2.1.kept g.2.1.2.1).moved hW
      · have kk := hK _ _ _ _ hk1 H1 locs1 (cells + (o1.2.2.2.1.length - σ.2.2.1.length)) (slots + (o1.2.2.2.2 - σ.2.2.2)) ls ⟨hP1, hS1, by omega, by omega, hl1, g.2.2.2.2.2⟩ hl
        rw [List.map_append] at kk
        have e9 : (o1.1.toList).map (cvv n0 sv) = (o1.1.map (cvv n0 sv)).toList := by cases o1.1 <;> rfl
        rw [e9] at kk
        exact kk
    · cases h
end SNC
