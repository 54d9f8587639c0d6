/-! fields, arrays, statics, constants: the abstract machine's are the machine's -/
theorem ar_2 {a : Nat} (h : 1000002 ≤ a) : a - 1000000 = 2 + (a - 1000002) := by omega
theorem ar_6 {a : Nat} (h : 1000002 ≤ a) : a + 4 - 1000000 = 6 + (a - 1000002) := by omega
theorem ar_0 {a : Nat} (h : 1000002 ≤ a) : 1000000 ≤ a := by omega
theorem ar_9 {a : Nat} (h : 1000002 ≤ a) : ¬ a + 4 < 1000000 := by omega
theorem q_wordsA : ∀ c, c < 13 → ∀ w ∈ u_ws (q_cn c) (q_T c) (q_N c), w ∈ q_all := by
  intro c hc w hw
  refine q_in (q_words c hc w hw) ?_
  obtain ⟨k, -, rfl⟩ := List.mem_map.mp hw
  unfold u_lay
  split <;> rfl
def q_isr (t : FieldType) : Bool := match t with
  | .object _ => true
  | .array _ => true
  | _ => false
set_option maxRecDepth 20000 in
theorem q_kinds : ∀ c, c < 13 → ∀ k, k < q_N c → ((q_fk c k = 0 → q_ty c k = .int) ∧ (q_fk c k = 1 → q_ty c k = .boolean) ∧ (q_fk c k = 2 → q_isr (q_ty c k) = true) ∧ (q_fk c k = 3 → q_isr (q_ty c k) = true) ∧ (q_T c k).1 = q_cn c) := by decide +kernel
theorem q_isr_fit {t : FieldType} (h : q_isr t = true) (o : Option Nat) : narrow t (va_rf o) = va_rf o ∧ fits t (va_rf o) = true := by
  cases t <;> first | (cases h; done) | (cases o <;> exact ⟨rfl, rfl⟩)
theorem cvv_rf (n0 : Nat) (sv : Nat → Option Nat) (a : Nat) : cvv n0 sv (.ref a) = va_rf (if a < 1000000 then some (n0 + a) else sv (a - 1000000)) := rfl
theorem ldA_some {ev : EV} {σ : SG} {ty : FieldType} {a : Nat} {i : Int32} {v : Value} (h : ldA ev σ ty a i = some v) :
    (∃ n rs, σ.2.2.1[a]? = some (.inr (ty, n), rs) ∧ vp_in i n ∧ v = elA σ ty a i.toNatClampNeg rs) ∨ (∃ n f, q_lk (roT ev) a = some (ty, n, f) ∧ vp_in i n ∧ v = f i.toNatClampNeg) := by
  unfold ldA at h
  split at h
  · rename_i t n rs hx
    split at h
    · rename_i ht
      subst ht
      split at h
      · cases h
      · rename_i hi
        cases h
        exact Or.inl ⟨n, rs, hx, hi, rfl⟩
    · cases h
  · cases h
  · split at h
    · rename_i t n f hx
      split at h
      · rename_i ht
        subst ht
        split at h
        · cases h
        · rename_i hi
          cases h
          exact Or.inr ⟨n, f, hx, hi, rfl⟩
      · cases h
    · cases h
theorem okA_some {σ : SG} {ty : FieldType} {a : Nat} {i : Int32} (h : okA σ ty a i = true) : ∃ n rs, σ.2.2.1[a]? = some (.inr (ty, n), rs) ∧ vp_in i n := by
  unfold okA at h
  split at h
  · rename_i t n rs hx
    split at h
    · rename_i ht
      subst ht
      split at h
      · cases h
      · rename_i hi
        exact ⟨n, rs, hx, hi⟩
    · cases h
  · cases h
section SNH
variable {p : Program} {L : Launch} {e : Env} {R : Room} {s : State} {m : MethodId} {args : Array Value} {below : List Frame} {meth : Method} {c : Code} {Q : State → Prop}
variable {n0 : Nat} {sv : Nat → Option Nat} {D : va_G} {cA : FieldType → ClassId} {ev : EV} {md : Mth} {nE sE : Nat}
variable {pc len : Nat} {l : LC} {st : List Value} {σ : SG} {K : KT} {out : Option Value × SG} {call : Mth → List Value → SG → OT}
theorem GS.lt {H : Heap} {locs : List Loc} {cells slots : Nat} (g : GS n0 sv D cA s nE sE σ H locs cells slots) {a : Nat} {x : TG × List (Option Nat)} (h : σ.2.2.1[a]? = some x) : a < 1000000 := by
  have h1 := (List.getElem?_eq_some_iff.mp h).1
  have h2 := g.2.2.2.2.1
  omega
/-- a cell is written: what was read off the machine, and what is told of it -/
theorem GS.put {σ1 : SG} {H H1 : Heap} {locs locs1 : List Loc} {cells slots : Nat} (g : GS n0 sv D cA s nE sE σ H locs cells slots) (h1 : σ1.2.2.1.length = σ.2.2.1.length) (h2 : σ1.2.2.2 = σ.2.2.2) (hP : va_P D q_cl (wl n0 sv cA σ1) H1) (hS : va_S (fun q => n0 ≤ q) s.heap H1 locs1) : GS n0 sv D cA s nE sE σ1 H1 locs1 cells slots :=
  ⟨hP, hS, by rw [h1]; exact g.2.2.1, by rw [h2]; exact g.2.2.2.1, by rw [h1]; exact g.2.2.2.2.1, g.2.2.2.2.2⟩
theorem sd_ldc {j : Nat} (hC : CX p s m args meth c md D cA n0 sv ev) (hdg : decode (q_b md) pc = .ok (.ldc j, len)) (hK : ∀ pc1 l1 st1 σ1, K pc1 l1 st1 σ1 = some out → WG p L e R s m args below meth c Q n0 sv D cA md nE sE pc1 l1 st1 σ1) (hh : stepI ev call md pc l st σ K (.ldc j) len = some out) : WG p L e R s m args below meth c Q n0 sv D cA md nE sE pc l st σ := by
  obtain ⟨h1, h⟩ := gd_some hh
  clear hh
  have h1 := Nat.eq_of_beq_eq_true h1
  subst h1
  split at h
  · rename_i z w hq
    obtain ⟨lst, g1, g2⟩ := q_rk_mem hq
    have g3 : lw_tbl[w]? = some (Cond.constant (q_cn (q_o md)) j z) := of_decide_eq_true (q_rk_tab _ g1 _ g2)
    intro H locs cells slots ls g hl
    exact lv_ldc hC.1 hC.2.1 hC.2.2.2.1 (hC.2.2.2.2.1 _ (q_in (q_ix w g3) rfl)) hdg (hK _ _ _ _ h H locs cells slots ls g hl)
  · rename_i a w hq
    obtain ⟨lst, g1, g2⟩ := q_rk_mem hq
    have g3 : q_o md = 7 ∧ a < 1000006 ∧ 1000002 ≤ a ∧ ((q_lk q_strs (a - 1000002)).map (fun x => x.1)) = some j := of_decide_eq_true (q_rk_tab _ g1 _ g2)
    obtain ⟨e1, e2, e3, e4⟩ := g3
    cases hs : q_lk q_strs (a - 1000002) with
    | none => rw [hs] at e4; cases e4
    | some x =>
      obtain ⟨j1, tx⟩ := x
      rw [hs] at e4
      cases e4
      obtain ⟨t, f1, f2, -⟩ := hC.2.2.2.2.2.2.2.2.2.1.2.2.2.2.1 _ (q_lk_mem _ _ _ hs)
      intro H locs cells slots ls g hl
      have k := hK _ _ _ _ h H locs cells slots ls g hl
      simp only [List.map_cons] at k
      rw [cvv_ro (t := t) (ar_0 e3) (by rw [ar_2 e3]; exact f1)] at k
      have hown := hC.2.2.2.1
      rw [e1] at hown
      exact va_ldcS (own := "LampWires$Tape") hC.1 hC.2.1 hown f2 hdg k
  · cases h
theorem sd_ldc_w {j : Nat} (hC : CX p s m args meth c md D cA n0 sv ev) (hdg : decode (q_b md) pc = .ok (.ldc_w j, len)) (hK : ∀ pc1 l1 st1 σ1, K pc1 l1 st1 σ1 = some out → WG p L e R s m args below meth c Q n0 sv D cA md nE sE pc1 l1 st1 σ1) (hh : stepI ev call md pc l st σ K (.ldc_w j) len = some out) : WG p L e R s m args below meth c Q n0 sv D cA md nE sE pc l st σ := by
  obtain ⟨h1, h⟩ := gd_some hh
  clear hh
  have h1 := Nat.eq_of_beq_eq_true h1
  subst h1
  split at h
  · rename_i z w hq
    obtain ⟨lst, g1, g2⟩ := q_rk_mem hq
    have g3 : lw_tbl[w]? = some (Cond.constant (q_cn (q_o md)) j z) := of_decide_eq_true (q_rk_tab _ g1 _ g2)
    intro H locs cells slots ls g hl
    exact lv_ldcw hC.1 hC.2.1 hC.2.2.2.1 (hC.2.2.2.2.1 _ (q_in (q_ix w g3) rfl)) hdg (hK _ _ _ _ h H locs cells slots ls g hl)
  · cases h
theorem sd_ldc2_w {j : Nat} (hC : CX p s m args meth c md D cA n0 sv ev) (hdg : decode (q_b md) pc = .ok (.ldc2_w j, len)) (hK : ∀ pc1 l1 st1 σ1, K pc1 l1 st1 σ1 = some out → WG p L e R s m args below meth c Q n0 sv D cA md nE sE pc1 l1 st1 σ1) (hh : stepI ev call md pc l st σ K (.ldc2_w j) len = some out) : WG p L e R s m args below meth c Q n0 sv D cA md nE sE pc l st σ := by
  obtain ⟨h1, h⟩ := gd_some hh
  clear hh
  have h1 := Nat.eq_of_beq_eq_true h1
  subst h1
  split at h
  · rename_i z w hq
    obtain ⟨lst, g1, g2⟩ := q_rk_mem hq
    have g3 : lw_tbl[w]? = some (Cond.constantLong (q_cn (q_o md)) j z) := of_decide_eq_true (q_rk_tab _ g1 _ g2)
    intro H locs cells slots ls g hl
    exact lv_ldc2 hC.1 hC.2.1 hC.2.2.2.1 (hC.2.2.2.2.1 _ (q_in (q_ix w g3) rfl)) hdg (hK _ _ _ _ h H locs cells slots ls g hl)
  · cases h
theorem q_strs_in {i : Nat} (h : i < 4) : ∃ j t, (i, j, t) ∈ q_strs := by
  match i, h with
  | 0, _ => exact ⟨_, _, List.mem_of_getElem? (i := 0) rfl⟩
  | 1, _ => exact ⟨_, _, List.mem_of_getElem? (i := 1) rfl⟩
  | 2, _ => exact ⟨_, _, List.mem_of_getElem? (i := 2) rfl⟩
  | 3, _ => exact ⟨_, _, List.mem_of_getElem? (i := 3) rfl⟩
theorem sd_getfield {j : Nat} (hC : CX p s m args meth c md D cA n0 sv ev) (hdg : decode (q_b md) pc = .ok (.getfield j, len)) (hK : ∀ pc1 l1 st1 σ1, K pc1 l1 st1 σ1 = some out → WG p L e R s m args below meth c Q n0 sv D cA md nE sE pc1 l1 st1 σ1) (hh : stepI ev call md pc l st σ K (.getfield j) len = some out) : WG p L e R s m args below meth c Q n0 sv D cA md nE sE pc l st σ := by
  obtain ⟨h1, h⟩ := gd_some hh
  clear hh
  have h1 := Nat.eq_of_beq_eq_true h1
  subst h1
  split at h
  · cases h
  · rename_i ci k w hq
    obtain ⟨lst, g1, g2⟩ := q_rf_mem hq
    split at h
    · rename_i a r
      split at h
      · rename_i c0 rs hx
        have hg := gd_some h
        clear h
        obtain ⟨h2, h⟩ := hg
        obtain ⟨h2, h3⟩ := Bool.and_eq_true_iff.mp h2
        have h2 := Nat.eq_of_beq_eq_true h2
        subst h2
        have h3 : c0 < 13 := Nat.le_of_ble_eq_true h3
        obtain ⟨k1, k2, k3⟩ := q_rf_tab _ g1 _ g2 h3
        dsimp only at k1 k2 k3
        intro H locs cells slots ls g hl
        have kk := hK _ _ _ _ h H locs cells slots ls g hl
        simp only [List.map_cons] at kk ⊢
        rw [cvv_in (g.lt hx)]
        refine va_get (D := D) (ci := c0) (C := q_cn c0) (T := q_T c0) (N := q_N c0) hC.1 hC.2.1 hC.2.2.2.2.1 (q_wordsA c0 h3) hC.2.2.2.1 hC.2.2.2.2.2.2.2.2.1 g.1 a (wl_at hx) (q_cl_at h3) k k1 (hC.2.2.2.2.1 _ (q_in (q_ix w k2) rfl)) (fun x hx => by rw [k3] at hx; exact hx) ?_ hdg kk
        rw [List.getElem?_map, List.getElem?_range k1]
        rfl
      · cases h
      · have hg := gd_some h
        clear h
        obtain ⟨h2, h⟩ := hg
        obtain ⟨h2, h3⟩ := Bool.and_eq_true_iff.mp h2
        obtain ⟨h3, h4⟩ := Bool.and_eq_true_iff.mp h3
        have h2 := Nat.eq_of_beq_eq_true h2
        subst h2
        have h3 := Nat.le_of_ble_eq_true h3
        have h4 := Nat.le_of_ble_eq_true h4
        obtain ⟨-, k2⟩ := q_rf_str _ g1 _ g2 (by dsimp only; omega)
        dsimp only at k2
        obtain ⟨j1, tx, hin⟩ := q_strs_in (i := a - 1000002) (by omega)
        obtain ⟨t, f1, -, -, f4, f5⟩ := hC.2.2.2.2.2.2.2.2.2.1.2.2.2.2.1 _ hin
        dsimp only at f1 f4 f5
        intro H locs cells slots ls g hl
        have kk := hK _ _ _ _ h H locs cells slots ls g hl
        simp only [List.map_cons] at kk ⊢
        rw [cvv_ro (t := t) (ar_0 h3) (by rw [ar_2 h3]; exact f1)]
        rcases k2 with ⟨rfl, k2⟩ | ⟨rfl, k2⟩
        · exact vk_getf hC.1 hC.2.1 f4 g.2.1 hC.2.2.2.1 (hC.2.2.2.2.1 _ (q_in (q_ix w k2) rfl)) (fun _ h9 => h9) hdg kk
        · refine vk_getf hC.1 hC.2.1 f5 g.2.1 hC.2.2.2.1 (hC.2.2.2.2.1 _ (q_in (q_ix w k2) rfl)) (fun _ h9 => h9) hdg ?_
          have ec : cvv n0 sv (.ref (a + 4)) = va_rf (sv (6 + (a - 1000002))) := by
            rw [cvv_rf, if_neg (ar_9 h3), ar_6 h3]
          rw [← ec]
          exact kk
    · cases h
theorem sd_getstatic {j : Nat} (hC : CX p s m args meth c md D cA n0 sv ev) (hdg : decode (q_b md) pc = .ok (.getstatic j, len)) (hK : ∀ pc1 l1 st1 σ1, K pc1 l1 st1 σ1 = some out → WG p L e R s m args below meth c Q n0 sv D cA md nE sE pc1 l1 st1 σ1) (hh : stepI ev call md pc l st σ K (.getstatic j) len = some out) : WG p L e R s m args below meth c Q n0 sv D cA md nE sE pc l st σ := by
  obtain ⟨h1, h⟩ := gd_some hh
  clear hh
  have h1 := Nat.eq_of_beq_eq_true h1
  subst h1
  split at h
  · cases h
  · rename_i k b w hq
    obtain ⟨lst, g1, g2⟩ := q_rs_mem hq
    obtain ⟨k0, k1, k2⟩ := q_rs_tab _ g1 _ g2
    dsimp only at k0 k1 k2
    have hnest := hC.2.2.2.2.2.2.2.2.2.1.2.2.1 _ g1 _ g2
    dsimp only at hnest
    obtain ⟨z0, z1, z2, z3⟩ := hC.2.2.2.2.2.2.2.2.2.1.2.1
    intro H locs cells slots ls g hl
    have kk := hK _ _ _ _ h H locs cells slots ls g hl
    simp only [List.map_cons] at kk
    have key : ∀ v : Value, va_Z (q_st k).1 (q_st k).2.1 (q_st k).2.2 v (fun q => n0 ≤ q) s s.heap → W p L e R s m args below meth c H locs cells slots Q (F0 m (pc + 3) ls (v :: st.map (cvv n0 sv))) → W p L e R s m args below meth c H locs cells slots Q (F0 m pc ls (st.map (cvv n0 sv))) := by
      intro v hz kv
      cases b with
      | false => exact va_gets hC.1 hC.2.1 hz g.2.1 hC.2.2.2.1 (hC.2.2.2.2.1 _ (q_in (q_ix w (k1 rfl)) rfl)) (fun _ h9 => h9) hdg kv
      | true => exact va_getsN hC.1 hC.2.1 hz g.2.1 hC.2.2.2.1 (va_Nw.use rfl (hnest rfl)) (fun _ h9 => h9) hdg kv
    rcases k0 with rfl | rfl | rfl | rfl
    · exact key _ z0 kk
    · exact key _ z1 kk
    · exact key _ z2 kk
    · exact key _ z3 kk
theorem sd_arraylength (hC : CX p s m args meth c md D cA n0 sv ev) (hdg : decode (q_b md) pc = .ok (.arraylength, len)) (hK : ∀ pc1 l1 st1 σ1, K pc1 l1 st1 σ1 = some out → WG p L e R s m args below meth c Q n0 sv D cA md nE sE pc1 l1 st1 σ1) (hh : stepI ev call md pc l st σ K .arraylength len = some out) : WG p L e R s m args below meth c Q n0 sv D cA md nE sE pc l st σ := by
  obtain ⟨h1, h⟩ := gd_some hh
  clear hh
  have h1 := Nat.eq_of_beq_eq_true h1
  subst h1
  split at h
  · rename_i a r
    split at h
    · rename_i n hn
      intro H locs cells slots ls g hl
      have kk := hK _ _ _ _ h H locs cells slots ls g hl
      simp only [List.map_cons] at kk ⊢
      unfold lenA at hn
      split at hn
      · rename_i n1 rs hx
        cases hn
        rw [cvv_in (g.lt hx)]
        exact va_alen hC.1 hC.2.1 hC.2.2.2.2.2.2.2.2.1 g.1 a 0 (wl_at hx) (ty := .int) rfl rfl hdg kk
      · rename_i n1 rs hx
        cases hn
        rw [cvv_in (g.lt hx)]
        exact va_alen hC.1 hC.2.1 hC.2.2.2.2.2.2.2.2.1 g.1 a 3 (wl_at hx) (ty := .long) rfl rfl hdg kk
      · cases hn
      · split at hn
        · rename_i t n1 f hx
          cases hn
          obtain ⟨g1, t9, g2, g3⟩ := hC.2.2.2.2.2.2.2.2.2.1.1 _ _ _ _ hx
          rw [cvv_ro g1 g2]
          exact va_tlen hC.1 hC.2.1 g3 g.2.1 rfl hdg kk
        · cases hn
    · cases h
  · cases h
end SNH
