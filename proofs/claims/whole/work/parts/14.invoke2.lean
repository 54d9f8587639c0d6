/-! calls of static methods and of constructors -/
section SND2
variable {p : Program} {L : Launch} {e : Env} {R : Room} {s : State} {m : MethodId} {args : Array Value} {below : List Frame} {meth : Method} {c : Code} {Q : State → Prop}
variable {n0 : Nat} {sv : Nat → Option Nat} {D : va_G} {cA : FieldType → ClassId} {ev : EV} {md : Mth} {nE sE : Nat}
variable {pc len : Nat} {l : LC} {st : List Value} {σ : SG} {K : KT} {out : Option Value × SG} {call : Mth → List Value → SG → OT}
set_option maxRecDepth 20000 in
theorem q_mwords : Cond.native arraycopyName ∈ lw_tbl ∧ Cond.static arraycopyName ∈ lw_tbl ∧ Cond.initialized "java/lang/System" ∈ lw_tbl ∧ Cond.static Lib.Math.max.name ∈ lw_tbl ∧ Cond.static Lib.Math.min.name ∈ lw_tbl ∧ Cond.initialized "java/lang/Math" ∈ lw_tbl ∧ Cond.code Lib.Math.max.name Lib.Math.max.code 2 (some .int) ∈ lw_tbl ∧ Cond.code Lib.Math.min.name Lib.Math.min.code 2 (some .int) ∈ lw_tbl ∧ Cond.instanceMethod Lib.objectInit ∈ lw_tbl ∧ Cond.code Lib.objectInit ⟨#[0xb1]⟩ 1 none ∈ lw_tbl ∧ Cond.static Lib.Math.abs.name ∈ lw_tbl ∧ Cond.code Lib.Math.abs.name Lib.Math.abs.code 1 (some .int) ∈ lw_tbl := by decide +kernel
theorem sd_invokestatic {j d : Nat} (hR : HR R nE sE out) (hRd : d + 1 ≤ R.frames ∧ 64 * (d + 1) ≤ R.locals) (hcall : ∀ cm av σ1 o1, q_dec cm → q_code cm → q_okm cm → call cm av σ1 = some o1 → MET L n0 sv D cA ev d cm av σ1 o1) (hC : CX p s m args meth c md D cA n0 sv ev) (hdg : decode (q_b md) pc = .ok (.invokestatic j, len)) (hK : ∀ pc1 l1 st1 σ1, K pc1 l1 st1 σ1 = some out → WG p L e R s m args below meth c Q n0 sv D cA md nE sE pc1 l1 st1 σ1) (hh : stepI ev call md pc l st σ K (.invokestatic j) len = some out) : WG p L e R s m args below meth c Q n0 sv D cA md nE sE pc l st σ := by
  obtain ⟨h1, h⟩ := gd_some hh
  clear hh
  have h1 := Nat.eq_of_beq_eq_true h1
  subst h1
  obtain ⟨mw1, mw2, mw3, mw4, mw5, mw6, mw7, mw8, -, -, mw11, mw12⟩ := q_mwords
  split at h
  · rename_i k na cm ww hq
    obtain ⟨w1, w2, w3⟩ := ww
    obtain ⟨lst, g1, g2⟩ := q_rm_mem hq
    obtain ⟨⟨ml1, ml2, ml3, ml4, ml5, ml6, ml7, ml8⟩, hd, hc, ho⟩ := q_rm_tab _ g1 _ g2
    dsimp only at ml1 ml2 ml3 ml4 ml5 ml6 ml7 ml8 hd hc ho
    have hg := gd_some h
    clear h
    obtain ⟨h2, h⟩ := hg
    obtain ⟨h2, h3⟩ := Bool.and_eq_true_iff.mp h2
    obtain ⟨h3, h4⟩ := Bool.and_eq_true_iff.mp h3
    have h2 := Nat.eq_of_beq_eq_true h2
    subst h2
    have h3 := Nat.le_of_ble_eq_true h3
    have h4 := Nat.le_of_ble_eq_true h4
    obtain ⟨o1, hcr, hk1, s1, s2, s3, s4⟩ := callK_some h
    have hM := hcall cm _ σ o1 hd hc ho hcr
    intro H locs cells slots ls g hl
    refine W.sized (fun hsz => ?_)
    have hz := g.size hsz
    have hg3 := g.2.2.1
    have hg4 := g.2.2.2.1
    obtain ⟨x1, x2, x3, x4, x5, x6, x7, x8, x9, x10⟩ := call_words (σ := σ) (o1 := o1) (j := j) hC hRd hc ho ml7
    have hstk : st.map (cvv n0 sv) = (((st.take na).reverse.map (cvv n0 sv))).reverse ++ (st.drop na).map (cvv n0 sv) := by
      conv => lhs; rw [← List.take_append_drop na st]
      rw [List.map_append, ← List.map_reverse, List.reverse_reverse]
    rw [hstk]
    refine call_go (va_runS (As := (st.take na).reverse.map (cvv n0 sv)) ⟨hC.1, hC.2.1, hC.2.2.1, hC.2.2.2.1, hC.2.2.2.2.1⟩ hM ⟨⟨x1, x2, x3, x4, x5, x6, x7, x8, x9, x10, hC.2.2.2.2.1 _ (q_in (q_ix w1 (ml1 (by decide))) rfl)⟩, hC.2.2.2.2.1 _ (q_in (q_ix w2 (ml3 rfl)) rfl)⟩ ⟨CP.blind, fun U hU hW => ⟨rfl, by rw [hU]; exact g.1, by rw [hU]; exact hz, va_K.moved hW.alike hC.2.2.2.2.2.2.2.2.1, ?_, g.2.2.2.2.1⟩⟩ rfl (by simp; omega) hl.1 rfl (lv_room (by rw [catS_map]; exact h4)) hdg ⟨by have := hR.1; omega, by have := hR.2.1; omega⟩) g.2.1 (fun H1 locs1 hP1 hl1 hS1 => ?_)
    · rw [hU]
      exact (hC.2.2.2.2.2.2.2.2.2.1.kept g.2.1.2.1).moved hW
    · have kk := hK _ _ _ _ hk1 H1 locs1 (cells + (o1.2.2.2.1.length - σ.2.2.1.length)) (slots + (o1.2.2.2.2 - σ.2.2.2)) ls ⟨hP1, hS1, by omega, by omega, hl1, g.2.2.2.2.2⟩ hl
      rw [List.map_append] at kk
      have e9 : (o1.1.toList).map (cvv n0 sv) = (o1.1.map (cvv n0 sv)).toList := by cases o1.1 <;> rfl
      rw [e9] at kk
      exact kk
  · split at h
    · rename_i w hq
      obtain ⟨lst, g1, g2⟩ := q_ro_mem hq
      obtain ⟨-, r1, -⟩ := q_ro_tab _ g1 _ g2
      dsimp only at r1
      have hlink := hC.2.2.2.2.1 _ (q_in (q_ix w (r1 rfl)) rfl)
      split at h
      · rename_i n dp a sp a0 r
        have hg := gd_some h
        clear h
        obtain ⟨h2, h⟩ := hg
        obtain ⟨h2, h3⟩ := Bool.and_eq_true_iff.mp h2
        obtain ⟨h3, h4⟩ := Bool.and_eq_true_iff.mp h3
        obtain ⟨h4, h5⟩ := Bool.and_eq_true_iff.mp h4
        have h2 := of_decide_eq_true h2
        have h3 := Nat.le_of_ble_eq_true h3
        obtain ⟨n0a, rs0, hx0, -⟩ := okA_some h4
        obtain ⟨n1a, rs1, hx1, -⟩ := okA_some h5
        split at h
        · cases h
        · rename_i hneg
          have e0 : lenA ev σ a0 = some n0a := by unfold lenA; rw [hx0]
          have e1 : lenA ev σ a = some n1a := by unfold lenA; rw [hx1]
          rw [e0, e1] at h
          dsimp only at h
          split at h
          · rename_i hrg
            intro H locs cells slots ls g hl
            simp only [List.map_cons]
            rw [cvv_in (g.lt hx0), cvv_in (g.lt hx1)]
            refine va_copyi (ty := .int) hC.1 hC.2.1 (by rw [hC.2.2.1]; exact hl.1.symm) hC.2.2.2.1 hlink (hC.2.2.2.2.1 _ (q_in mw1 rfl)) (hC.2.2.2.2.1 _ (q_in mw2 rfl)) (hC.2.2.2.2.1 _ (q_in mw3 rfl)) hC.2.2.2.2.2.2.2.2.1 g.1 (wl_D n0 sv cA σ) g.2.1 a0 a 0 0 (wl_at hx0) (wl_at hx1) rfl rfl rfl (fun q => hneg (Or.inr (Or.inr q))) (fun q => hneg (Or.inr (Or.inl q))) (fun q => hneg (Or.inl q)) hrg.1 hrg.2 (fun _ _ => rfl) hR.2.2.1 ?_ hdg (fun H1 locs1 hP1 hD1 hS1 => ?_)
            · rw [catS_map]
              have := nfw
              have := hR.2.2.2
              omega
            · rw [wl_set (σ' := (va_up σ.1 a (va_cpy (σ.1 a0) (σ.1 a) sp.toNatClampNeg dp.toNatClampNeg n.toNatClampNeg), σ.2)) (x' := (.inr (.int, n1a), rs1)) (List.getElem?_eq_some_iff.mp hx1).1 (set_same hx1).symm (fun i hi => by simp [va_up, hi]) (fun _ _ => rfl) (by show _ = entR n0 sv cA (va_up σ.1 a _ a) _ _; rw [show va_up σ.1 a (va_cpy (σ.1 a0) (σ.1 a) sp.toNatClampNeg dp.toNatClampNeg n.toNatClampNeg) a = va_cpy (σ.1 a0) (σ.1 a) sp.toNatClampNeg dp.toNatClampNeg n.toNatClampNeg from by simp [va_up]]; rfl)] at hP1
              exact hK _ _ _ _ h H1 locs1 cells slots ls (g.put rfl rfl hP1 hS1) hl
          · cases h
      · cases h
    · rename_i w hq
      obtain ⟨lst, g1, g2⟩ := q_ro_mem hq
      obtain ⟨-, -, r2, -⟩ := q_ro_tab _ g1 _ g2
      dsimp only at r2
      split at h
      · rename_i y x r
        have hg := gd_some h
        clear h
        obtain ⟨h2, h⟩ := hg
        have h2 := Nat.le_of_ble_eq_true h2
        obtain ⟨h, m1, m2⟩ := monK_some h
        intro H locs cells slots ls g hl
        have hg3 := g.2.2.1
        have hg4 := g.2.2.2.1
        refine va_mmax hC.1 hC.2.1 (by rw [hC.2.2.1]; exact hl.1.symm) hC.2.2.2.1 (hC.2.2.2.2.1 _ (q_in (q_ix w (r2 rfl)) rfl)) (hC.2.2.2.2.1 _ (q_in mw4 rfl)) (hC.2.2.2.2.1 _ (q_in mw6 rfl)) (hC.2.2.2.2.1 _ (q_in mw7 rfl)) hR.2.2.1 (by rw [catS_map]; have := hR.2.2.2; omega) (by have := hR.1; omega) (by have := hR.2.1; omega) hdg (hK _ _ _ _ h H locs cells slots ls g hl)
      · cases h
    · rename_i w hq
      obtain ⟨lst, g1, g2⟩ := q_ro_mem hq
      obtain ⟨-, -, -, r3, -⟩ := q_ro_tab _ g1 _ g2
      dsimp only at r3
      split at h
      · rename_i y x r
        have hg := gd_some h
        clear h
        obtain ⟨h2, h⟩ := hg
        have h2 := Nat.le_of_ble_eq_true h2
        obtain ⟨h, m1, m2⟩ := monK_some h
        intro H locs cells slots ls g hl
        have hg3 := g.2.2.1
        have hg4 := g.2.2.2.1
        refine va_mmin hC.1 hC.2.1 (by rw [hC.2.2.1]; exact hl.1.symm) hC.2.2.2.1 (hC.2.2.2.2.1 _ (q_in (q_ix w (r3 rfl)) rfl)) (hC.2.2.2.2.1 _ (q_in mw5 rfl)) (hC.2.2.2.2.1 _ (q_in mw6 rfl)) (hC.2.2.2.2.1 _ (q_in mw8 rfl)) hR.2.2.1 (by rw [catS_map]; have := hR.2.2.2; omega) (by have := hR.1; omega) (by have := hR.2.1; omega) hdg (hK _ _ _ _ h H locs cells slots ls g hl)
      · cases h
    · rename_i w hq
      obtain ⟨lst, g1, g2⟩ := q_ro_mem hq
      obtain ⟨-, -, -, -, r4⟩ := q_ro_tab _ g1 _ g2
      dsimp only at r4
      split at h
      · rename_i x r
        have hg := gd_some h
        clear h
        obtain ⟨h2, h⟩ := hg
        have h2 := Nat.le_of_ble_eq_true h2
        obtain ⟨h, m1, m2⟩ := monK_some h
        intro H locs cells slots ls g hl
        have hg3 := g.2.2.1
        have hg4 := g.2.2.2.1
        refine va_mabs hC.1 hC.2.1 (by rw [hC.2.2.1]; exact hl.1.symm) hC.2.2.2.1 (hC.2.2.2.2.1 _ (q_in (q_ix w (r4 rfl)) rfl)) (hC.2.2.2.2.1 _ (q_in mw11 rfl)) (hC.2.2.2.2.1 _ (q_in mw6 rfl)) (hC.2.2.2.2.1 _ (q_in mw12 rfl)) hR.2.2.1 (by rw [catS_map]; have := hR.2.2.2; omega) (by have := hR.1; omega) (by have := hR.2.1; omega) hdg (hK _ _ _ _ h H locs cells slots ls g hl)
      · cases h
    · cases h
theorem sd_invokespecial {j d : Nat} (hR : HR R nE sE out) (hRd : d + 1 ≤ R.frames ∧ 64 * (d + 1) ≤ R.locals) (hcall : ∀ cm av σ1 o1, q_dec cm → q_code cm → q_okm cm → call cm av σ1 = some o1 → MET L n0 sv D cA ev d cm av σ1 o1) (hC : CX p s m args meth c md D cA n0 sv ev) (hdg : decode (q_b md) pc = .ok (.invokespecial j, len)) (hK : ∀ pc1 l1 st1 σ1, K pc1 l1 st1 σ1 = some out → WG p L e R s m args below meth c Q n0 sv D cA md nE sE pc1 l1 st1 σ1) (hh : stepI ev call md pc l st σ K (.invokespecial j) len = some out) : WG p L e R s m args below meth c Q n0 sv D cA md nE sE pc l st σ := by
  obtain ⟨h1, h⟩ := gd_some hh
  clear hh
  have h1 := Nat.eq_of_beq_eq_true h1
  subst h1
  obtain ⟨-, -, -, -, -, -, -, -, mw9, mw10, -⟩ := q_mwords
  split at h
  · rename_i k na cm ww hq
    obtain ⟨w1, w2, w3⟩ := ww
    obtain ⟨lst, g1, g2⟩ := q_rm_mem hq
    obtain ⟨⟨ml1, ml2, ml3, ml4, ml5, ml6, ml7, ml8⟩, hd, hc, ho⟩ := q_rm_tab _ g1 _ g2
    dsimp only at ml1 ml2 ml3 ml4 ml5 ml6 ml7 ml8 hd hc ho
    split at h
    · rename_i b r hst
      have hg := gd_some h
      clear h
      obtain ⟨h2, h⟩ := hg
      obtain ⟨h2, h3⟩ := Bool.and_eq_true_iff.mp h2
      obtain ⟨h3, h4⟩ := Bool.and_eq_true_iff.mp h3
      obtain ⟨h4, h5⟩ := Bool.and_eq_true_iff.mp h4
      have h2 := Nat.le_of_ble_eq_true h2
      have h3 := Nat.le_of_ble_eq_true h3
      have h4 := Nat.le_of_ble_eq_true h4
      have h5 : b < 1000000 := Nat.le_of_ble_eq_true h5
      obtain ⟨o1, hcr, hk1, s1, s2, s3, s4⟩ := callK_some h
      have hM := hcall cm _ σ o1 hd hc ho hcr
      have hlen : na < st.length := by
        have := congrArg List.length hst
        simp only [List.length_drop, List.length_cons] at this
        omega
      obtain ⟨hnm, hret⟩ := ml6 h2
      intro H locs cells slots ls g hl
      refine W.sized (fun hsz => ?_)
      have hz := g.size hsz
      have hg3 := g.2.2.1
      have hg4 := g.2.2.2.1
      have hbb : cvv n0 sv (.ref b) = .ref (n0 + b) := cvv_in h5
      obtain ⟨x1, x2, x3, x4, x5, x6, x7, x8, x9, x10⟩ := call_words (σ := σ) (o1 := o1) (j := j) hC hRd hc ho ml7
      have hstk : st.map (cvv n0 sv) = (((st.take na).reverse.map (cvv n0 sv))).reverse ++ .ref (n0 + b) :: r.map (cvv n0 sv) := by
        have e1 : st = st.take na ++ .ref b :: r := by rw [← hst]; exact (List.take_append_drop na st).symm
        conv => lhs; rw [e1]
        rw [List.map_append, List.map_cons, hbb, ← List.map_reverse, List.reverse_reverse]
      rw [hstk]
      have hpre : PreS s H (CP n0 sv D cA ev (.ref b :: (st.take na).reverse) σ) (.ref (n0 + b) :: (st.take na).reverse.map (cvv n0 sv)) := by
        refine ⟨CP.blind, fun U hU hW => ⟨?_, by rw [hU]; exact g.1, by rw [hU]; exact hz, va_K.moved hW.alike hC.2.2.2.2.2.2.2.2.1, ?_, g.2.2.2.2.1⟩⟩
        · rw [List.map_cons, hbb]
        · rw [hU]
          exact (hC.2.2.2.2.2.2.2.2.2.1.kept g.2.1.2.1).moved hW
      have hroom : cells + (o1.2.2.2.1.length - σ.2.2.1.length) ≤ R.cells ∧ slots + (o1.2.2.2.2 - σ.2.2.2) ≤ R.slots := ⟨by have := hR.1; omega, by have := hR.2.1; omega⟩
      have fin : ∀ (H1 : Heap) (locs1 : List Loc), va_P D q_cl (wl n0 sv cA o1.2) H1 → o1.2.2.2.1.length ≤ 1000000 → va_S (fun q => n0 ≤ q) s.heap H1 locs1 → W p L e R s m args below meth c H1 locs1 (cells + (o1.2.2.2.1.length - σ.2.2.1.length)) (slots + (o1.2.2.2.2 - σ.2.2.2)) Q (F0 m (pc + 3) ls ((o1.1.map (cvv n0 sv)).toList ++ r.map (cvv n0 sv))) := by
        intro H1 locs1 hP1 hl1 hS1
        have kk := hK _ _ _ _ hk1 H1 locs1 (cells + (o1.2.2.2.1.length - σ.2.2.1.length)) (slots + (o1.2.2.2.2 - σ.2.2.2)) ls ⟨hP1, hS1, by omega, by omega, hl1, g.2.2.2.2.2⟩ hl
        rw [List.map_append] at kk
        have e9 : (o1.1.toList).map (cvv n0 sv) = (o1.1.map (cvv n0 sv)).toList := by cases o1.1 <;> rfl
        rw [e9] at kk
        exact kk
      rw [hret] at x6 x7
      rcases (show k = 2 ∨ k = 3 by omega) with rfl | rfl
      · exact call_go (va_runI (As := (st.take na).reverse.map (cvv n0 sv)) ⟨hC.1, hC.2.1, hC.2.2.1, hC.2.2.2.1, hC.2.2.2.2.1⟩ hM ⟨⟨x1, x2, x3, x4, x5, x6, x7, x8, x9, x10, hC.2.2.2.2.1 _ (q_in (q_ix w1 (ml1 (by decide))) rfl)⟩, hnm, hC.2.2.2.2.1 _ (q_in (q_ix w2 (ml4 (by decide))) rfl)⟩ hpre rfl (by simp; omega) hl.1 rfl (lv_room (by rw [catS_map]; exact h4)) hdg hroom) g.2.1 fin
      · have hnest := hC.2.2.2.2.2.2.2.2.2.1.2.2.2.1 _ g1 _ g2 rfl
        exact call_go (va_runIN (As := (st.take na).reverse.map (cvv n0 sv)) (host := "LampWires") ⟨hC.1, hC.2.1, hC.2.2.1, hC.2.2.2.1, hC.2.2.2.2.1⟩ hM ⟨⟨⟨x1, x2, x3, x4, x5, x6⟩, x7, x8, x9, x10, va_Nw.use rfl hnest⟩, hnm, hC.2.2.2.2.1 _ (q_in (q_ix w2 (ml4 (by decide))) rfl)⟩ hpre rfl (by simp; omega) hl.1 rfl (lv_room (by rw [catS_map]; exact h4)) hdg hroom) g.2.1 fin
    · cases h
  · split at h
    · rename_i w hq
      obtain ⟨lst, g1, g2⟩ := q_ro_mem hq
      obtain ⟨r0, -⟩ := q_ro_tab _ g1 _ g2
      dsimp only at r0
      split at h
      · rename_i a r
        have hg := gd_some h
        clear h
        obtain ⟨h2, h⟩ := hg
        obtain ⟨h2, h3⟩ := Bool.and_eq_true_iff.mp h2
        have h2 := Nat.le_of_ble_eq_true h2
        have h3 : a < 1000000 := Nat.le_of_ble_eq_true h3
        intro H locs cells slots ls g hl
        have kk := hK _ _ _ _ h H locs cells slots ls g hl
        simp only [List.map_cons]
        rw [cvv_in h3]
        exact W.objInit hC.1 hC.2.1 hC.2.2.2.1 (hC.2.2.2.2.1 _ (q_in (q_ix w (r0 rfl)) rfl)) (hC.2.2.2.2.1 _ (q_in mw9 rfl)) (hC.2.2.2.2.1 _ (q_in mw10 rfl)) rfl (by rw [hC.2.2.1]; exact hl.1) rfl hdg hR.2.2.1 (by show 2 * 0 + _ + 12 ≤ _; rw [catS_map]; have := hR.2.2.2; omega) kk
      · cases h
    · cases h
end SND2
