/-! arrays and fields: reading and writing -/
theorem wr_eq (h : HI) (a k : Nat) (v : Int32) : wr h a k v a = upd (h a) k v := by simp [wr, va_up]
theorem wr_ne (h : HI) (a k : Nat) (v : Int32) {i : Nat} (hi : i ≠ a) : wr h a k v i = h i := by simp [wr, va_up, hi]
theorem wrL_eq (h : HL) (a k : Nat) (v : Int64) : wrL h a k v a = vp_updL (h a) k v := by simp [wrL, va_up]
theorem wrL_ne (h : HL) (a k : Nat) (v : Int64) {i : Nat} (hi : i ≠ a) : wrL h a k v i = h i := by simp [wrL, va_up, hi]
theorem ro_val {n0 : Nat} {sv : Nat → Option Nat} {ev : EV} {k : Nat} {t : FieldType} {n : Nat} {f : Nat → Value} (h : q_lk (roT ev) k = some (t, n, f)) (j : Nat) : cvv n0 sv (f j) = f j := by
  have hm := q_lk_mem _ _ _ h
  simp only [roT, List.mem_cons, Prod.mk.injEq, List.not_mem_nil, or_false] at hm
  rcases hm with ⟨-, -, -, rfl⟩ | ⟨-, -, -, rfl⟩ | ⟨-, -, -, rfl⟩ | ⟨-, -, -, rfl⟩ | ⟨-, -, -, rfl⟩ | ⟨-, -, -, rfl⟩ | ⟨-, -, -, rfl⟩ <;> rfl
theorem ro_obj {ev : EV} {k : Nat} {C : String} {n : Nat} {f : Nat → Value} (h : q_lk (roT ev) k = some (.object C, n, f)) : False := by
  have hm := q_lk_mem _ _ _ h
  simp [roT] at hm
section SNA
variable {p : Program} {L : Launch} {e : Env} {R : Room} {s : State} {m : MethodId} {args : Array Value} {below : List Frame} {meth : Method} {c : Code} {Q : State → Prop}
variable {n0 : Nat} {sv : Nat → Option Nat} {D : va_G} {cA : FieldType → ClassId} {ev : EV} {md : Mth} {nE sE : Nat}
variable {pc len : Nat} {l : LC} {st : List Value} {σ : SG} {K : KT} {out : Option Value × SG} {call : Mth → List Value → SG → OT}
theorem sd_iaload (hC : CX p s m args meth c md D cA n0 sv ev) (hdg : decode (q_b md) pc = .ok (.iaload, len)) (hK : ∀ pc1 l1 st1 σ1, K pc1 l1 st1 σ1 = some out → WG p L e R s m args below meth c Q n0 sv D cA md nE sE pc1 l1 st1 σ1) (hh : stepI ev call md pc l st σ K (.iaload) len = some out) : WG p L e R s m args below meth c Q n0 sv D cA md nE sE pc l st σ := by
  obtain ⟨h1, h⟩ := gd_some hh
  clear hh
  have h1 := Nat.eq_of_beq_eq_true h1
  subst h1
  split at h
  · rename_i i a r
    split at h
    · rename_i v hv
      intro H locs cells slots ls g hl
      have kk := hK _ _ _ _ h H locs cells slots ls g hl
      simp only [List.map_cons] at kk ⊢
      rcases ldA_some hv with ⟨n, rs, hx, hi, rfl⟩ | ⟨n, f, hx, hi, rfl⟩
      · rw [cvv_in (g.lt hx)]
        exact va_iald hC.1 hC.2.1 hC.2.2.2.2.2.2.2.2.1 g.1 a 0 (wl_at hx) rfl hi hdg kk
      · obtain ⟨g1, t, g2, g3⟩ := hC.2.2.2.2.2.2.2.2.2.1.1 _ _ _ _ hx
        rw [cvv_ro g1 g2]
        rw [ro_val hx] at kk
        exact va_ti hC.1 hC.2.1 g3 g.2.1 hi rfl hdg kk
    · cases h
  · cases h
theorem sd_laload (hC : CX p s m args meth c md D cA n0 sv ev) (hdg : decode (q_b md) pc = .ok (.laload, len)) (hK : ∀ pc1 l1 st1 σ1, K pc1 l1 st1 σ1 = some out → WG p L e R s m args below meth c Q n0 sv D cA md nE sE pc1 l1 st1 σ1) (hh : stepI ev call md pc l st σ K (.laload) len = some out) : WG p L e R s m args below meth c Q n0 sv D cA md nE sE pc l st σ := by
  obtain ⟨h1, h⟩ := gd_some hh
  clear hh
  have h1 := Nat.eq_of_beq_eq_true h1
  subst h1
  split at h
  · rename_i i a r
    split at h
    · rename_i v hv
      intro H locs cells slots ls g hl
      have kk := hK _ _ _ _ h H locs cells slots ls g hl
      simp only [List.map_cons] at kk ⊢
      rcases ldA_some hv with ⟨n, rs, hx, hi, rfl⟩ | ⟨n, f, hx, hi, rfl⟩
      · rw [cvv_in (g.lt hx)]
        exact va_lald hC.1 hC.2.1 hC.2.2.2.2.2.2.2.2.1 g.1 a 3 (wl_at hx) rfl hi hdg kk
      · obtain ⟨g1, t, g2, g3⟩ := hC.2.2.2.2.2.2.2.2.2.1.1 _ _ _ _ hx
        rw [cvv_ro g1 g2]
        rw [ro_val hx] at kk
        exact va_tl hC.1 hC.2.1 g3 g.2.1 hi rfl hdg kk
    · cases h
  · cases h
theorem sd_baload (hC : CX p s m args meth c md D cA n0 sv ev) (hdg : decode (q_b md) pc = .ok (.baload, len)) (hK : ∀ pc1 l1 st1 σ1, K pc1 l1 st1 σ1 = some out → WG p L e R s m args below meth c Q n0 sv D cA md nE sE pc1 l1 st1 σ1) (hh : stepI ev call md pc l st σ K (.baload) len = some out) : WG p L e R s m args below meth c Q n0 sv D cA md nE sE pc l st σ := by
  obtain ⟨h1, h⟩ := gd_some hh
  clear hh
  have h1 := Nat.eq_of_beq_eq_true h1
  subst h1
  split at h
  · rename_i i a r
    split at h
    · rename_i v hv
      intro H locs cells slots ls g hl
      have kk := hK _ _ _ _ h H locs cells slots ls g hl
      simp only [List.map_cons] at kk ⊢
      rcases ldA_some hv with ⟨n, rs, hx, hi, rfl⟩ | ⟨n, f, hx, hi, rfl⟩
      · rw [cvv_in (g.lt hx)]
        exact va_bald hC.1 hC.2.1 hC.2.2.2.2.2.2.2.2.1 g.1 a 1 (wl_at hx) rfl hi hdg kk
      · obtain ⟨g1, t, g2, g3⟩ := hC.2.2.2.2.2.2.2.2.2.1.1 _ _ _ _ hx
        rw [cvv_ro g1 g2]
        rw [ro_val hx] at kk
        exact va_tb hC.1 hC.2.1 g3 g.2.1 hi rfl hdg kk
    · split at h
      · rename_i v hv
        intro H locs cells slots ls g hl
        have kk := hK _ _ _ _ h H locs cells slots ls g hl
        simp only [List.map_cons] at kk ⊢
        rcases ldA_some hv with ⟨n, rs, hx, hi, rfl⟩ | ⟨n, f, hx, hi, rfl⟩
        · rw [cvv_in (g.lt hx)]
          exact va_zald hC.1 hC.2.1 hC.2.2.2.2.2.2.2.2.1 g.1 a 2 (wl_at hx) rfl hi hdg kk
        · obtain ⟨g1, t, g2, g3⟩ := hC.2.2.2.2.2.2.2.2.2.1.1 _ _ _ _ hx
          rw [cvv_ro g1 g2]
          rw [ro_val hx] at kk
          exact va_tz hC.1 hC.2.1 g3 g.2.1 hi rfl hdg kk
      · cases h
  · cases h
theorem sd_aaload (hC : CX p s m args meth c md D cA n0 sv ev) (hdg : decode (q_b md) pc = .ok (.aaload, len)) (hK : ∀ pc1 l1 st1 σ1, K pc1 l1 st1 σ1 = some out → WG p L e R s m args below meth c Q n0 sv D cA md nE sE pc1 l1 st1 σ1) (hh : stepI ev call md pc l st σ K (.aaload) len = some out) : WG p L e R s m args below meth c Q n0 sv D cA md nE sE pc l st σ := by
  obtain ⟨h1, h⟩ := gd_some hh
  clear hh
  have h1 := Nat.eq_of_beq_eq_true h1
  subst h1
  split at h
  · rename_i i a r
    split at h
    · rename_i b hv
      have hg := gd_some h
      clear h
      obtain ⟨h2, h⟩ := hg
      have h2 : b < 1000000 := Nat.le_of_ble_eq_true h2
      intro H locs cells slots ls g hl
      have kk := hK _ _ _ _ h H locs cells slots ls g hl
      simp only [List.map_cons] at kk ⊢
      rcases ldA_some hv with ⟨n, rs, hx, hi, hv2⟩ | ⟨n, f, hx, hi, -⟩
      · rw [cvv_in (g.lt hx)]
        rw [cvv_in h2] at kk
        have hr : rs.getD i.toNatClampNeg none = some b := by
          have hv3 : Value.ref b = rv (rs.getD i.toNatClampNeg none) := hv2
          cases hz : rs.getD i.toNatClampNeg none with
          | none => rw [hz] at hv3; cases hv3
          | some z => rw [hz] at hv3; cases hv3; rfl
        refine va_aldq hC.1 hC.2.1 hC.2.2.2.2.2.2.2.2.1 g.1 a 4 (wl_at hx) rfl hi hdg ?_
        show W p L e R s m args below meth c H locs cells slots Q (F0 m (pc + 1) ls (va_rf ((rs.getD i.toNatClampNeg none).map (fun b => n0 + b)) :: _))
        rw [hr]
        exact kk
      · exact (ro_obj hx).elim
    · split at h
      · rename_i b hv
        have hg := gd_some h
        clear h
        obtain ⟨h2, h⟩ := hg
        have h2 : b < 1000000 := Nat.le_of_ble_eq_true h2
        intro H locs cells slots ls g hl
        have kk := hK _ _ _ _ h H locs cells slots ls g hl
        simp only [List.map_cons] at kk ⊢
        rcases ldA_some hv with ⟨n, rs, hx, hi, hv2⟩ | ⟨n, f, hx, hi, -⟩
        · rw [cvv_in (g.lt hx)]
          rw [cvv_in h2] at kk
          have hr : rs.getD i.toNatClampNeg none = some b := by
            have hv3 : Value.ref b = rv (rs.getD i.toNatClampNeg none) := hv2
            cases hz : rs.getD i.toNatClampNeg none with
            | none => rw [hz] at hv3; cases hv3
            | some z => rw [hz] at hv3; cases hv3; rfl
          refine va_aldq hC.1 hC.2.1 hC.2.2.2.2.2.2.2.2.1 g.1 a 5 (wl_at hx) rfl hi hdg ?_
          show W p L e R s m args below meth c H locs cells slots Q (F0 m (pc + 1) ls (va_rf ((rs.getD i.toNatClampNeg none).map (fun b => n0 + b)) :: _))
          rw [hr]
          exact kk
        · exact (ro_obj hx).elim
      · cases h
  · cases h
theorem sd_iastore (hC : CX p s m args meth c md D cA n0 sv ev) (hdg : decode (q_b md) pc = .ok (.iastore, len)) (hK : ∀ pc1 l1 st1 σ1, K pc1 l1 st1 σ1 = some out → WG p L e R s m args below meth c Q n0 sv D cA md nE sE pc1 l1 st1 σ1) (hh : stepI ev call md pc l st σ K (.iastore) len = some out) : WG p L e R s m args below meth c Q n0 sv D cA md nE sE pc l st σ := by
  obtain ⟨h1, h⟩ := gd_some hh
  clear hh
  have h1 := Nat.eq_of_beq_eq_true h1
  subst h1
  split at h
  · rename_i x i a r
    have hg := gd_some h
    clear h
    obtain ⟨h2, h⟩ := hg
    obtain ⟨n, rs, hx, hi⟩ := okA_some h2
    intro H locs cells slots ls g hl
    simp only [List.map_cons]
    rw [cvv_in (g.lt hx)]
    refine va_iast hC.1 hC.2.1 hC.2.2.2.2.2.2.2.2.1 g.1 (wl_D n0 sv cA σ) g.2.1 a 0 (wl_at hx) rfl hi hdg (fun H1 locs1 hP1 hD1 hS1 => ?_)
    rw [wl_set (σ' := (wr σ.1 a i.toNatClampNeg x, σ.2)) (x' := (.inr (.int, n), rs)) (List.getElem?_eq_some_iff.mp hx).1 (set_same hx).symm (fun i hi => wr_ne _ _ _ _ hi) (fun _ _ => rfl) (by show _ = entR n0 sv cA (wr σ.1 a i.toNatClampNeg _ a) _ _; rw [wr_eq]; rfl)] at hP1
    exact hK _ _ _ _ h H1 locs1 cells slots ls (g.put rfl rfl hP1 hS1) hl
  · cases h
theorem sd_lastore (hC : CX p s m args meth c md D cA n0 sv ev) (hdg : decode (q_b md) pc = .ok (.lastore, len)) (hK : ∀ pc1 l1 st1 σ1, K pc1 l1 st1 σ1 = some out → WG p L e R s m args below meth c Q n0 sv D cA md nE sE pc1 l1 st1 σ1) (hh : stepI ev call md pc l st σ K (.lastore) len = some out) : WG p L e R s m args below meth c Q n0 sv D cA md nE sE pc l st σ := by
  obtain ⟨h1, h⟩ := gd_some hh
  clear hh
  have h1 := Nat.eq_of_beq_eq_true h1
  subst h1
  split at h
  · rename_i x i a r
    have hg := gd_some h
    clear h
    obtain ⟨h2, h⟩ := hg
    obtain ⟨n, rs, hx, hi⟩ := okA_some h2
    intro H locs cells slots ls g hl
    simp only [List.map_cons]
    rw [cvv_in (g.lt hx)]
    refine va_last hC.1 hC.2.1 hC.2.2.2.2.2.2.2.2.1 g.1 (wl_D n0 sv cA σ) g.2.1 a 3 (wl_at hx) rfl hi hdg (fun H1 locs1 hP1 hD1 hS1 => ?_)
    rw [wl_set (σ' := (σ.1, wrL σ.2.1 a i.toNatClampNeg x, σ.2.2)) (x' := (.inr (.long, n), rs)) (List.getElem?_eq_some_iff.mp hx).1 (set_same hx).symm (fun _ _ => rfl) (fun i hi => wrL_ne _ _ _ _ hi) (by show _ = entR n0 sv cA _ (wrL σ.2.1 a i.toNatClampNeg _ a) _; rw [wrL_eq]; rfl)] at hP1
    exact hK _ _ _ _ h H1 locs1 cells slots ls (g.put rfl rfl hP1 hS1) hl
  · cases h
theorem sd_bastore (hC : CX p s m args meth c md D cA n0 sv ev) (hdg : decode (q_b md) pc = .ok (.bastore, len)) (hK : ∀ pc1 l1 st1 σ1, K pc1 l1 st1 σ1 = some out → WG p L e R s m args below meth c Q n0 sv D cA md nE sE pc1 l1 st1 σ1) (hh : stepI ev call md pc l st σ K (.bastore) len = some out) : WG p L e R s m args below meth c Q n0 sv D cA md nE sE pc l st σ := by
  obtain ⟨h1, h⟩ := gd_some hh
  clear hh
  have h1 := Nat.eq_of_beq_eq_true h1
  subst h1
  split at h
  · rename_i x i a r
    cases h2 : okA σ .byte a i with
    | true =>
      rw [h2] at h
      dsimp only [cond] at h
      obtain ⟨n, rs, hx, hi⟩ := okA_some h2
      intro H locs cells slots ls g hl
      simp only [List.map_cons]
      rw [cvv_in (g.lt hx)]
      refine va_bast hC.1 hC.2.1 hC.2.2.2.2.2.2.2.2.1 g.1 (wl_D n0 sv cA σ) g.2.1 a 1 (wl_at hx) rfl hi hdg (fun H1 locs1 hP1 hD1 hS1 => ?_)
      rw [wl_set (σ' := (wr σ.1 a i.toNatClampNeg x.toInt8.toInt32, σ.2)) (x' := (.inr (.byte, n), rs)) (List.getElem?_eq_some_iff.mp hx).1 (set_same hx).symm (fun i hi => wr_ne _ _ _ _ hi) (fun _ _ => rfl) (by show _ = entR n0 sv cA (wr σ.1 a i.toNatClampNeg _ a) _ _; rw [wr_eq]; rfl)] at hP1
      exact hK _ _ _ _ h H1 locs1 cells slots ls (g.put rfl rfl hP1 hS1) hl
    | false =>
      rw [h2] at h
      dsimp only [cond] at h
      clear h2
      have hg := gd_some h
      clear h
      obtain ⟨h2, h⟩ := hg
      obtain ⟨n, rs, hx, hi⟩ := okA_some h2
      intro H locs cells slots ls g hl
      simp only [List.map_cons]
      rw [cvv_in (g.lt hx)]
      refine va_zast hC.1 hC.2.1 hC.2.2.2.2.2.2.2.2.1 g.1 (wl_D n0 sv cA σ) g.2.1 a 2 (wl_at hx) rfl hi hdg (fun H1 locs1 hP1 hD1 hS1 => ?_)
      rw [wl_set (σ' := (wr σ.1 a i.toNatClampNeg (x &&& 1), σ.2)) (x' := (.inr (.boolean, n), rs)) (List.getElem?_eq_some_iff.mp hx).1 (set_same hx).symm (fun i hi => wr_ne _ _ _ _ hi) (fun _ _ => rfl) (by show _ = entR n0 sv cA (wr σ.1 a i.toNatClampNeg _ a) _ _; rw [wr_eq]; rfl)] at hP1
      exact hK _ _ _ _ h H1 locs1 cells slots ls (g.put rfl rfl hP1 hS1) hl
  · cases h
theorem sd_aastore (hC : CX p s m args meth c md D cA n0 sv ev) (hdg : decode (q_b md) pc = .ok (.aastore, len)) (hK : ∀ pc1 l1 st1 σ1, K pc1 l1 st1 σ1 = some out → WG p L e R s m args below meth c Q n0 sv D cA md nE sE pc1 l1 st1 σ1) (hh : stepI ev call md pc l st σ K (.aastore) len = some out) : WG p L e R s m args below meth c Q n0 sv D cA md nE sE pc l st σ := by
  obtain ⟨h1, h⟩ := gd_some hh
  clear hh
  have h1 := Nat.eq_of_beq_eq_true h1
  subst h1
  split at h
  · rename_i b i a r
    split at h
    · rename_i C n rs hx
      split at h
      · rename_i c0 rs0 hb
        have hg := gd_some h
        clear h
        obtain ⟨h2, h⟩ := hg
        obtain ⟨h2, h3⟩ := Bool.and_eq_true_iff.mp h2
        obtain ⟨h3, hlr⟩ := Bool.and_eq_true_iff.mp h3
        have hlr : i.toNatClampNeg < rs.length := Nat.le_of_ble_eq_true hlr
        have h2 := of_decide_eq_true h2
        subst h2
        have h3 : c0 = 1 ∨ c0 = 6 := by
          rcases Bool.or_eq_true_iff.mp h3 with q | q
          · exact Or.inl (Nat.eq_of_beq_eq_true q)
          · exact Or.inr (Nat.eq_of_beq_eq_true q)
        have hty : ∃ t0 : Nat, (q_tys cA)[t0]? = some (cA (.object (q_cn c0)), .object (q_cn c0)) := by
          rcases h3 with rfl | rfl
          · exact ⟨4, rfl⟩
          · exact ⟨5, rfl⟩
        have h3 : c0 < 13 := by omega
        split at h
        · cases h
        · rename_i hi
          have hi : vp_in i n := hi
          intro H locs cells slots ls g hl
          simp only [List.map_cons]
          rw [cvv_in (g.lt hx), cvv_in (g.lt hb)]
          obtain ⟨t0, ht0⟩ := hty
          refine va_astq hC.1 hC.2.1 hC.2.2.2.2.2.2.2.2.1 g.1 (wl_D n0 sv cA σ) g.2.1 a t0 b c0 (wl_at hx) (r := (q_cn c0, q_T c0, q_N c0)) ht0 (wl_at hb) (q_cl_at h3) hi hdg (fun H1 locs1 hP1 hD1 hS1 => ?_)
          rw [wl_set (σ' := (σ.1, σ.2.1, (σ.2.2.1.set a (.inr (.object (q_cn c0), n), rs.set i.toNatClampNeg (some b)), σ.2.2.2))) (x' := (.inr (.object (q_cn c0), n), rs.set i.toNatClampNeg (some b))) (List.getElem?_eq_some_iff.mp hx).1 rfl (fun _ _ => rfl) (fun _ _ => rfl) ?_] at hP1
          · exact hK _ _ _ _ h H1 locs1 cells slots ls (g.put (by simp) rfl hP1 hS1) hl
          · show (Sum.inl (cA (.object (q_cn c0)), n, Sum.inr (Sum.inr (Sum.inr (Sum.inr _)))) : va_E) = Sum.inl (cA (.object (q_cn c0)), n, Sum.inr (Sum.inr (Sum.inr (Sum.inr _))))
            congr 7
            funext j
            by_cases hj : j = i.toNatClampNeg
            · subst hj
              simp [va_up, hlr]
            · simp only [va_up, if_neg hj]
              rw [List.getD_eq_getElem?_getD, List.getD_eq_getElem?_getD, List.getElem?_set_ne (Ne.symm hj)]
      · cases h
    · cases h
  · cases h
end SNA
