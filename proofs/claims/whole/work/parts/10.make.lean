/-! writing fields, making cells, the few methods that are taken whole -/
set_option maxRecDepth 20000 in
theorem q_kinds3 : ∀ c, c < 13 → ∀ k, k < q_N c → q_fk c k ≤ 3 := by decide +kernel
theorem catS_map (n0 : Nat) (sv : Nat → Option Nat) (r : List Value) : ((r.map (cvv n0 sv)).map fun v => v.category).sum = catS r := by
  unfold catS
  rw [List.map_map]
  congr 1
  apply List.map_congr_left
  intro v _
  exact cvv_cat n0 sv v
theorem map_set_at {N k : Nat} {f f1 : Nat → Value} {v : Value} (hk : k < N) (hv : f1 k = v) (ho : ∀ i, i ≠ k → f1 i = f i) : ((List.range N).map f).set k v = (List.range N).map f1 := by
  apply List.ext_getElem?
  intro i
  by_cases hi : k = i
  · subst hi
    rw [List.getElem?_set_self (by simpa using hk), List.getElem?_map, List.getElem?_range hk, ← hv]
    rfl
  · rw [List.getElem?_set_ne hi, List.getElem?_map, List.getElem?_map]
    by_cases hz : i < N
    · rw [List.getElem?_range hz]
      show some (f i) = some (f1 i)
      rw [ho i (Ne.symm hi)]
    · rw [List.getElem?_eq_none (by simpa using hz)]
      rfl
theorem newK_some {σ : SG} {x : TG × List (Option Nat)} {n : Nat} {K : SG → OT} {out : Option Value × SG} (h : newK σ x n K = some out) : σ.2.2.1.length < 1000000 ∧ K (va_up σ.1 σ.2.2.1.length (fun _ => 0), va_up σ.2.1 σ.2.2.1.length (fun _ => 0), (σ.2.2.1 ++ [x], σ.2.2.2 + n)) = some out ∧ σ.2.2.1.length + 1 ≤ out.2.2.2.1.length ∧ σ.2.2.2 + n ≤ out.2.2.2.2 := by
  unfold newK at h
  obtain ⟨h1, h⟩ := gd_some h
  split at h
  · cases h
  · rename_i r σ2 hk
    obtain ⟨h2, h3⟩ := gd_some h
    cases h3
    obtain ⟨h4, h5⟩ := Bool.and_eq_true_iff.mp h2
    exact ⟨Nat.le_of_ble_eq_true h1, hk, Nat.le_of_ble_eq_true h4, Nat.le_of_ble_eq_true h5⟩
theorem monK_some {σ : SG} {x : OT} {out : Option Value × SG} (h : monK σ x = some out) : x = some out ∧ σ.2.2.1.length ≤ out.2.2.2.1.length ∧ σ.2.2.2 ≤ out.2.2.2.2 := by
  unfold monK at h
  split at h
  · cases h
  · obtain ⟨h2, h3⟩ := gd_some h
    cases h3
    obtain ⟨h4, h5⟩ := Bool.and_eq_true_iff.mp h2
    exact ⟨rfl, Nat.le_of_ble_eq_true h4, Nat.le_of_ble_eq_true h5⟩
section SNM
variable {p : Program} {L : Launch} {e : Env} {R : Room} {s : State} {m : MethodId} {args : Array Value} {below : List Frame} {meth : Method} {c : Code} {Q : State → Prop}
variable {n0 : Nat} {sv : Nat → Option Nat} {D : va_G} {cA : FieldType → ClassId} {ev : EV} {md : Mth} {nE sE : Nat}
variable {pc len : Nat} {l : LC} {st : List Value} {σ : SG} {K : KT} {out : Option Value × SG} {call : Mth → List Value → SG → OT}
theorem W.sized {H : Heap} {locs : List Loc} {cells slots : Nat} {g : JFrame} (k : H.size ≤ s.heap.size + cells → W p L e R s m args below meth c H locs cells slots Q g) : W p L e R s m args below meth c H locs cells slots Q g := by
  intro T hT X
  have h := X.heapSize
  rw [hT] at h
  exact k h T hT X
theorem GS.size {H : Heap} {locs : List Loc} {cells slots : Nat} (g : GS n0 sv D cA s nE sE σ H locs cells slots) (h : H.size ≤ s.heap.size + cells) : H.size = n0 + σ.2.2.1.length := by
  obtain ⟨hP, hS, h3, -, -, h6⟩ := g
  have h7 : n0 + σ.2.2.1.length ≤ H.size := by
    cases hn : σ.2.2.1.length with
    | zero =>
      have := hS.1
      omega
    | succ k =>
      have hlt : k < σ.2.2.1.length := by omega
      have hk : σ.2.2.1[k]? = some σ.2.2.1[k] := List.getElem?_eq_getElem hlt
      have h8 := (hP k _ (wl_at hk)).lt
      dsimp only at h8
      omega
  omega
theorem put_go {a c0 k j w : Nat} {rs rs1 : List (Option Nat)} {v : Value} {r : List Value} {σ1 : SG} {H : Heap} {locs : List Loc} {cells slots : Nat} {ls : Array Slot} (hC : CX p s m args meth c md D cA n0 sv ev) (hdg : decode (q_b md) pc = .ok (.putfield j, 3)) (hx : σ.2.2.1[a]? = some (.inl c0, rs)) (h3 : c0 < 13) (k1 : k < q_N c0) (k2 : lw_tbl[w]? = some (Cond.fieldLink (q_cn (q_o md)) j (q_cn c0) (q_T c0 k).2.1 (q_T c0 k).2.2.1)) (k3 : (q_T c0 k).1 = q_cn c0)
    (hf : (!(q_T c0 k).2.2.2 || (decide ((q_y md).name = "<init>") && Nat.beq (q_o md) c0)) = true) (hw : σ1.2.2.1 = σ.2.2.1.set a (.inl c0, rs1)) (hs : σ1.2.2.2 = σ.2.2.2) (h1 : ∀ i, i ≠ a → σ1.1 i = σ.1 i) (h2 : ∀ i, i ≠ a → σ1.2.1 i = σ.2.1 i) (ho : ∀ i, i ≠ k → fv c0 i (σ1.1 a) rs1 = fv c0 i (σ.1 a) rs) (hv : cvv n0 sv (fv c0 k (σ1.1 a) rs1) = v) (hn : narrow (q_ty c0 k) v = v) (hfit : fits (q_ty c0 k) v = true)
    (g : GS n0 sv D cA s nE sE σ H locs cells slots) (hl : lv_has ls (q_L md) (l.map (cq n0 sv))) (kk : WG p L e R s m args below meth c Q n0 sv D cA md nE sE (pc + 3) l r σ1) : W p L e R s m args below meth c H locs cells slots Q (F0 m pc ls (v :: .ref (n0 + a) :: r.map (cvv n0 sv))) := by
  have hset : (wl n0 sv cA σ).set a (n0 + a, .inr (c0, ((List.range (q_N c0)).map (fun i => cvv n0 sv (fv c0 i (σ.1 a) rs))).set k v)) = wl n0 sv cA σ1 := by
    refine wl_set (x' := (.inl c0, rs1)) (List.getElem?_eq_some_iff.mp hx).1 hw h1 h2 ?_
    exact congrArg (fun z => (Sum.inr (c0, z) : va_E)) (map_set_at (f := fun i => cvv n0 sv (fv c0 i (σ.1 a) rs)) (f1 := fun i => cvv n0 sv (fv c0 i (σ1.1 a) rs1)) k1 hv (fun i hi => congrArg (cvv n0 sv) (ho i hi)))
  have fin : ∀ (H1 : Heap) (locs1 : List Loc), va_P D q_cl ((wl n0 sv cA σ).set a (n0 + a, .inr (c0, ((List.range (q_N c0)).map (fun i => cvv n0 sv (fv c0 i (σ.1 a) rs))).set k v))) H1 → va_D (fun q => n0 ≤ q) ((wl n0 sv cA σ).set a (n0 + a, .inr (c0, ((List.range (q_N c0)).map (fun i => cvv n0 sv (fv c0 i (σ.1 a) rs))).set k v))) → va_S (fun q => n0 ≤ q) s.heap H1 locs1 → W p L e R s m args below meth c H1 locs1 cells slots Q (F0 m (pc + 3) ls (r.map (cvv n0 sv))) := by
    intro H1 locs1 hP1 _ hS1
    rw [hset] at hP1
    exact kk H1 locs1 cells slots ls (g.put (by rw [hw]; simp) hs hP1 hS1) hl
  have hlink := hC.2.2.2.2.1 _ (q_in (q_ix w k2) rfl)
  have hkl : k < ((List.range (q_N c0)).map (fun i => cvv n0 sv (fv c0 i (σ.1 a) rs))).length := by simpa using k1
  cases hb : (q_T c0 k).2.2.2 with
  | false =>
    exact va_put (D := D) (ci := c0) (ty := q_ty c0 k) (C := q_cn c0) (T := q_T c0) (N := q_N c0) hC.1 hC.2.1 hC.2.2.2.2.1 (q_wordsA c0 h3) (q_ty c0) (q_types c0 h3) (q_names c0 h3) hC.2.2.2.1 hC.2.2.2.2.2.2.2.2.1 g.1 (wl_D n0 sv cA σ) g.2.1 a (wl_at hx) (q_cl_at h3) k k1 hlink (fun x hx => by rw [k3] at hx; exact hx) hb (q_types c0 h3 k k1) hn hfit hkl hdg fin
  | true =>
    rw [hb] at hf
    have hf : (decide ((q_y md).name = "<init>") && Nat.beq (q_o md) c0) = true := hf
    obtain ⟨f1, f2⟩ := Bool.and_eq_true_iff.mp hf
    have f1 := of_decide_eq_true f1
    have f2 := Nat.eq_of_beq_eq_true f2
    exact va_putF (D := D) (ci := c0) (ty := q_ty c0 k) (C := q_cn c0) (T := q_T c0) (N := q_N c0) hC.1 hC.2.1 hC.2.2.2.2.1 (q_wordsA c0 h3) (q_ty c0) (q_types c0 h3) (q_names c0 h3) hC.2.2.2.1 hC.2.2.2.2.2.2.2.2.1 g.1 (wl_D n0 sv cA σ) g.2.1 a (wl_at hx) (q_cl_at h3) k k1 hlink (fun x hx => by rw [k3] at hx; exact hx) hb (hC.2.2.2.2.2.2.2.1 f1) (by rw [k3, f2]) (q_types c0 h3 k k1) hn hfit hkl hdg fin
theorem nz_b {b : Nat} (h : b < 1000000) : ¬ Int32.ofNat (b + 1) = 0 ∧ (Int32.ofNat (b + 1)).toNatClampNeg = b + 1 := ⟨nI_ne0 (n := b + 1) (by omega) (by omega), nI_clamp (n := b + 1) (by omega)⟩
theorem fv_int {c0 k : Nat} {row : Nat → Int32} {rs : List (Option Nat)} {x : Int32} {i : Nat} (hi : i ≠ k) : fv c0 i (upd row k x) rs = fv c0 i row rs := by
  unfold fv
  rw [show upd row k x i = row i from by simp [upd, hi]]
theorem fv_ref {c0 k : Nat} {row : Nat → Int32} {rs : List (Option Nat)} {x : Option Nat} {i : Nat} (hi : i ≠ k) : fv c0 i row (rs.set k x) = fv c0 i row rs := by
  unfold fv
  rw [show (rs.set k x).getD i none = rs.getD i none from by rw [List.getD_eq_getElem?_getD, List.getD_eq_getElem?_getD, List.getElem?_set_ne (Ne.symm hi)]]
theorem sd_putfield {j : Nat} (hC : CX p s m args meth c md D cA n0 sv ev) (hdg : decode (q_b md) pc = .ok (.putfield j, len)) (hK : ∀ pc1 l1 st1 σ1, K pc1 l1 st1 σ1 = some out → WG p L e R s m args below meth c Q n0 sv D cA md nE sE pc1 l1 st1 σ1) (hh : stepI ev call md pc l st σ K (.putfield j) len = some out) : WG p L e R s m args below meth c Q n0 sv D cA md nE sE pc l st σ := by
  obtain ⟨h1, h⟩ := gd_some hh
  clear hh
  have h1 := Nat.eq_of_beq_eq_true h1
  subst h1
  split at h
  · cases h
  · rename_i ci k w hq
    obtain ⟨lst, g1, g2⟩ := q_rf_mem hq
    split at h
    · rename_i v a r
      split at h
      · rename_i c0 rs hx
        have hg := gd_some h
        clear h
        obtain ⟨h2, h⟩ := hg
        obtain ⟨h2, h3⟩ := Bool.and_eq_true_iff.mp h2
        have h2 := Nat.eq_of_beq_eq_true h2
        subst h2
        have h3 : c0 < 13 := Nat.le_of_ble_eq_true h3
        obtain ⟨k1, k2, k3⟩ := q_rf_tab _ g1 _ g2 h3
        dsimp only at k1 k2 k3
        obtain ⟨t0, t1, t2, t3, -⟩ := q_kinds c0 h3 k k1
        unfold putV at h
        have hg := gd_some h
        clear h
        obtain ⟨hf, h⟩ := hg
        intro H locs cells slots ls g hl
        simp only [List.map_cons]
        rw [cvv_in (g.lt hx)]
        split at h
        · rename_i hk
          split at h
          · rename_i x
            exact put_go (σ1 := (wr σ.1 a k x, σ.2)) (rs1 := rs) hC hdg hx h3 k1 k2 k3 hf (set_same hx).symm rfl (fun i hi => wr_ne _ _ _ _ hi) (fun _ _ => rfl) (fun i hi => by dsimp only; rw [wr_eq]; exact fv_int hi) (by dsimp only; rw [wr_eq]; unfold fv; rw [hk]; simp [upd, cvv]) (by rw [t0 hk]; rfl) (by rw [t0 hk]; rfl) g hl (hK _ _ _ _ h)
          · cases h
        · rename_i hk
          split at h
          · rename_i x
            split at h
            · rename_i hb
              exact put_go (σ1 := (wr σ.1 a k x, σ.2)) (rs1 := rs) hC hdg hx h3 k1 k2 k3 hf (set_same hx).symm rfl (fun i hi => wr_ne _ _ _ _ hi) (fun _ _ => rfl) (fun i hi => by dsimp only; rw [wr_eq]; exact fv_int hi) (by dsimp only; rw [wr_eq]; unfold fv; rw [hk]; simp [upd, cvv]) (by rw [t1 hk]; rcases hb with rfl | rfl <;> rfl) (by rw [t1 hk]; rcases hb with rfl | rfl <;> rfl) g hl (hK _ _ _ _ h)
            · cases h
          · cases h
        · rename_i hk
          split at h
          · rename_i b
            have hg := gd_some h
            clear h
            obtain ⟨hb, h⟩ := hg
            obtain ⟨hb, hlr⟩ := Bool.and_eq_true_iff.mp hb
            have hb : b < 1000000 := Nat.le_of_ble_eq_true hb
            have hlr : k < rs.length := Nat.le_of_ble_eq_true hlr
            have hfit := q_isr_fit (t2 hk) (some (n0 + b))
            rw [show va_rf (some (n0 + b)) = cvv n0 sv (.ref b) from (cvv_in hb).symm] at hfit
            exact put_go (σ1 := (σ.1, σ.2.1, (σ.2.2.1.set a (.inl c0, rs.set k (some b)), σ.2.2.2))) (rs1 := rs.set k (some b)) hC hdg hx h3 k1 k2 k3 hf rfl rfl (fun _ _ => rfl) (fun _ _ => rfl) (fun i hi => fv_ref hi) (by unfold fv; rw [hk]; show cvv n0 sv (rv ((rs.set k (some b)).getD k none)) = _; rw [List.getD_eq_getElem?_getD, List.getElem?_set_self hlr]; rfl) hfit.1 hfit.2 g hl (hK _ _ _ _ h)
          · cases h
        · rename_i hk
          split at h
          · rename_i b
            have hg := gd_some h
            clear h
            obtain ⟨hb, h⟩ := hg
            have hb : b < 1000000 := Nat.le_of_ble_eq_true hb
            have hfit := q_isr_fit (t3 hk) (some (n0 + b))
            rw [show va_rf (some (n0 + b)) = cvv n0 sv (.ref b) from (cvv_in hb).symm] at hfit
            obtain ⟨hz, hc9⟩ := nz_b hb
            exact put_go (σ1 := (wr σ.1 a k (Int32.ofNat (b + 1)), σ.2)) (rs1 := rs) hC hdg hx h3 k1 k2 k3 hf (set_same hx).symm rfl (fun i hi => wr_ne _ _ _ _ hi) (fun _ _ => rfl) (fun i hi => by dsimp only; rw [wr_eq]; exact fv_int hi) (by dsimp only; rw [wr_eq]; unfold fv; rw [hk]; show cvv n0 sv (if upd (σ.1 a) k (Int32.ofNat (b + 1)) k = 0 then .null else .ref ((upd (σ.1 a) k (Int32.ofNat (b + 1)) k).toNatClampNeg - 1)) = _; rw [show upd (σ.1 a) k (Int32.ofNat (b + 1)) k = Int32.ofNat (b + 1) from by simp [upd], if_neg hz, hc9]; rfl) hfit.1 hfit.2 g hl (hK _ _ _ _ h)
          · cases h
        · cases h
      · cases h
    · cases h
end SNM
