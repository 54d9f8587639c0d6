/-! the reference's light -/
abbrev Pd (A : St) (q : Nat) (hi : HI) : Prop :=
  (∀ p, p < q → hi 81 p = nI (Few A (pln A p))) ∧
  (∀ p i, p < q → i < Few A (pln A p) → hi 80 (16 * p + i) = nI (Gt A (FT A (pln A p) i)))
theorem Pd.n {A : St} {q : Nat} {hi : HI} (h_ : Pd A q hi) : ∀ p, p < q → hi 81 p = nI (Few A (pln A p)) := h_.1
theorem Pd.g {A : St} {q : Nat} {hi : HI} (h_ : Pd A q hi) : ∀ p i, p < q → i < Few A (pln A p) → hi 80 (16 * p + i) = nI (Gt A (FT A (pln A p) i)) := h_.2
theorem few16 {A : St} (hw : WF A) (pl : Plnd A) {p : Nat} (hp : p < 4) : Few A (pln A p) ≤ 16 := by
  have := pl p hp
  have := hw.n16
  rcases Few_cases hw (pln A p) with h | h <;> omega
theorem m_findPlan {N : Nat} (hN : 70000 ≤ N) {A : St} (hw : WF A) (pl : Plnd A) {hi : HI} {hl : HL} (hR : RM A hi) : wp (f_MD_findPlan N hi hl) (fun o => RM A o.2.1 ∧ LoC hi o.2.1 ∧ Pd A 4 o.2.1) := by
  unfold f_MD_findPlan
  have p3 := pow3_le hw.w6
  refine wp.bnd (P := fun z => RM A z.1 ∧ LoC hi z.1 ∧ Pd A 4 z.1) ?_ (fun z hz => by rw [wp_some]; exact hz)
  refine wp_for 4 (fun p s => s.1 = nI p ∧ RM A s.2.1 ∧ LoC hi s.2.1 ∧ Pd A p s.2.1) ?_ ?_ (i := 0) (by omega) ⟨rfl, hR, LoC.refl _, fun p hp => by omega, fun p i hp => by omega⟩ (by omega)
  · rintro p ⟨q, g, gl⟩ hp ⟨rfl, rm, lo, pd⟩
    dsimp only at rm lo pd
    unfold B_MD_findPlan_2
    dsimp only
    refine wp_neg (nI_ge (b := 4) hp (by omega)) ?_
    rw [m_plane hN hw hp rm, Option.bind_some]
    dsimp only
    refine (m_findFrame hN hw (pln_lt A p) rm).bnd (fun x hx => ?_)
    obtain ⟨x1, x2, x3, x4, x5, x6⟩ := hx
    have c := pl p hp
    have f16 := few16 hw pl hp
    obtain ⟨ts, t1, t2⟩ := x6 c
    have ft := FT_eq t1
    have ef : fwI A (pln A p) = nI (Few A (pln A p)) := by unfold fwI; rw [if_neg c]
    have cp : (nI p).toNatClampNeg = p := nI_clamp (by omega)
    rw [x1, ef, cp]
    refine wp_neg (nI_in' (by omega) (by omega)) ?_
    generalize hy : wr x.2.1 81 p (nI (Few A (pln A p))) = y
    have yo : ∀ a, a ≠ 81 → y a = x.2.1 a := fun a ha => by rw [← hy, wr_o ha]
    refine wp.bnd (P := fun z => Sam [80] y z.1 ∧ Pd A (p + 1) z.1) ?_ (fun z hz => ?_)
    · refine wp_for (Few A (pln A p)) (fun i s => s.1 = nI i ∧ Sam [80] y s.2.1 ∧ Pd A p s.2.1 ∧ ∀ j, j < i → s.2.1 80 (16 * p + j) = nI (Gt A (FT A (pln A p) j))) ?_ ?_ (i := 0) (Nat.zero_le _) ⟨rfl, Sam.refl _ _, ⟨(fun q hq => ?_), (fun q i hq hi => ?_)⟩, fun j hj => by omega⟩ (by omega)
      · rintro i ⟨q, g', gl'⟩ hi1 ⟨rfl, sm, pd', h⟩
        dsimp only at sm pd' h
        have e81 : g' 81 p = nI (Few A (pln A p)) := by rw [sm 81 (by decide), ← hy, wr_s]
        have e79 : g' 79 i = nI (ts i) := by rw [sm 79 (by decide), yo 79 (by omega)]; exact t2 i hi1
        have tl := (t1 i hi1).1
        have e74 : g' 74 (ts i) = nI (Gt A (ts i)) := by rw [sm 74 (by decide), yo 74 (by omega)]; exact x4.2.g _ tl
        have e16 : (16 : Int32) * nI p + nI i = nI (16 * p + i) := by rw [lit_I, pk_mul, nI_add]
        unfold B_MD_findPlan_24
        dsimp only
        have ci : (nI i).toNatClampNeg = i := nI_clamp (by omega)
        have ct : (nI (ts i)).toNatClampNeg = ts i := nI_clamp (by omega)
        have cc : (nI (16 * p + i)).toNatClampNeg = 16 * p + i := nI_clamp (by omega)
        simp only [cp, ci, e79, ct, e74, e16, cc]
        refine wp_neg (nI_in' (by omega) (by omega)) (wp_neg (by rw [e81]; exact nI_ge hi1 (by omega)) (wp_neg (nI_in' (by omega) (by omega)) (wp_neg (nI_in' (by omega) (by omega)) (wp_neg (nI_in' (by omega) (by omega)) ?_))))
        rw [wp_some]
        refine ⟨nI_1 i, sm.wr (by decide), ⟨fun q hq => ?_, fun q j hq hj => ?_⟩, fun j hj => ?_⟩
        · dsimp only; rw [wr_o (by omega)]; exact pd'.n q hq
        · dsimp only
          have := few16 hw pl (show q < 4 by omega)
          rw [wr_k (by omega)]; exact pd'.g q j hq hj
        · dsimp only
          rw [wr_i]
          by_cases e : j = i
          · rw [if_pos (by omega), e, ← ft i hi1]
          · rw [if_neg (by omega)]; exact h j (by omega)
      · rintro ⟨q, g', gl'⟩ ⟨rfl, sm, pd', h⟩
        dsimp only at sm pd' h
        have e81 : g' 81 p = nI (Few A (pln A p)) := by rw [sm 81 (by decide), ← hy, wr_s]
        unfold B_MD_findPlan_24
        dsimp only
        rw [cp]
        refine wp_neg (nI_in' (by omega) (by omega)) (wp_pos (by rw [e81]; exact nI_le (Nat.le_refl _) (by omega)) ?_)
        rw [wp_some]
        refine ⟨sm, fun q hq => ?_, fun q i hq hi => ?_⟩
        · by_cases e : q = p
          · rw [e]; exact e81
          · exact pd'.n q (by omega)
        · by_cases e : q = p
          · subst e; exact h i hi
          · exact pd'.g q i (by omega) hi
      · dsimp only; rw [← hy, wr_k (by omega), x5 81 (by omega)]; exact pd.n q hq
      · dsimp only; rw [yo 80 (by omega), x5 80 (by omega)]; exact pd.g q i hq hi
    · rw [wp_some]
      refine ⟨nI_1 p, ?_, ?_, hz.2⟩
      · refine x2.same (fun a ha => ?_) (fun j _ => ?_)
        · rw [hz.1 a (fun q => by
            simp only [List.mem_cons, List.not_mem_nil, or_false] at q
            subst q; revert ha; decide), yo a (fun q => by subst q; revert ha; decide)]
        · dsimp only; rw [hz.1 65 (by decide), yo 65 (by omega)]
      · refine lo.trans (x3.trans (fun a ha => ?_))
        rw [hz.1 a (by simp; omega), yo a (by omega)]
  · rintro ⟨q, g, gl⟩ ⟨rfl, rm, lo, pd⟩
    dsimp only at rm lo pd
    unfold B_MD_findPlan_2
    dsimp only
    refine wp_pos (nI_le (a := 4) (b := 4) (by omega) (by omega)) ?_
    rw [wp_some]
    exact ⟨rm, lo, pd⟩
theorem m_lightOf {N : Nat} (hN : 70000 ≤ N) {A : St} (hw : WF A) (pl : Plnd A) {hi : HI} {hl : HL} (pd : Pd A 4 hi) {l : Nat} (hl16 : l < 16) : wp (f_MD_lightOf N (nI l) hi hl) (fun o => o = (lN (ltP A l 4), hi, hl)) := by
  unfold f_MD_lightOf
  refine wp.bnd (P := fun z => z = (lN (ltP A l 4), hi, hl)) ?_ (fun z hz => by subst hz; rw [wp_some])
  refine wp_for 4 (fun p s => s = (lN (ltP A l p), nI p, hi, hl)) ?_ ?_ (i := 0) (by omega) rfl (by omega)
  · rintro p s hp rfl
    unfold B_MD_lightOf_5
    dsimp only
    refine wp_neg (nI_ge (b := 4) hp (by omega)) ?_
    have f16 := few16 hw pl hp
    have cp : (nI p).toNatClampNeg = p := nI_clamp (by omega)
    refine wp.bnd (P := fun z => z = (lN (ltP A l (p + 1)), hi, hl)) ?_ (fun z hz => by subst hz; rw [wp_some, nI_1])
    refine wp_for (Few A (pln A p)) (fun i s => s = (lN (ltP A l p + lt1 A l p i), nI i, hi, hl)) ?_ ?_ (i := 0) (Nat.zero_le _) rfl (by omega)
    · rintro i s hi1 rfl
      unfold B_MD_lightOf_14 J_MD_lightOf_68
      dsimp only
      have e16 : (16 : Int32) * nI p + nI i = nI (16 * p + i) := by rw [lit_I, pk_mul, nI_add]
      have cc : (nI (16 * p + i)).toNatClampNeg = 16 * p + i := nI_clamp (by omega)
      have e80 := pd.g p i hp hi1
      have gl := Gt_lt hw (FT A (pln A p) i)
      simp only [cp, e16, cc, e80]
      refine wp_neg (nI_in' (by omega) (by omega)) (wp_neg (by rw [pd.n p hp]; exact nI_ge hi1 (by omega)) (wp_neg (nI_in' (by omega) (by omega)) ?_))
      have sc : lt1 A l p (i + 1) = lt1 A l p i + shr (Gt A (FT A (pln A p) i)) l * 2 ^ p := by unfold lt1; rw [fb_sm_succ]
      by_cases c : (Gt A (FT A (pln A p) i)).testBit l = true
      · refine wp_pos ((ni_bit1 (by omega) (by omega)).mpr c) ?_
        rw [m_bits hN gl, Option.bind_some]
        dsimp only
        have pp : popN (Gt A (FT A (pln A p) i)) ≠ 0 := fun q => by
          rw [(pop_0 gl).mp q, Nat.zero_testBit] at c; cases c
        have pl16 : popN (Gt A (FT A (pln A p) i)) ≤ 16 := fb_ct_le _ _
        refine wp_neg (nI_ne0 (by omega) (by omega)) ?_
        rw [wp_some]
        have e1 : (720720 : Int32) / nI (popN (Gt A (FT A (pln A p) i))) = nI (720720 / popN (Gt A (FT A (pln A p) i))) := by
          rw [show (720720 : Int32) = nI 720720 from rfl, pk_div (by omega) (by omega) (by omega)]
        have d31 : 720720 / popN (Gt A (FT A (pln A p) i)) < 2 ^ 31 := Nat.lt_of_le_of_lt (Nat.div_le_self _ _) (by omega)
        rw [e1, nI_l d31, wb_shl _ (by omega), lN_add, nI_1, sc]
        unfold shr
        rw [if_pos c, Nat.add_assoc]
      · refine wp_neg (fun q => c ((ni_bit1 (by omega) (by omega)).mp q)) ?_
        rw [wp_some]
        show (lN _ + lN 0, nI i + 1, hi, hl) = _
        rw [lN_add, nI_1, sc]
        unfold shr
        rw [if_neg c, Nat.zero_mul]; rfl
    · rintro s rfl
      unfold B_MD_lightOf_14
      dsimp only
      rw [cp]
      refine wp_neg (nI_in' (by omega) (by omega)) (wp_pos (by rw [pd.n p hp]; exact nI_le (Nat.le_refl _) (by omega)) ?_)
      rw [wp_some]; rfl
  · rintro s rfl
    unfold B_MD_lightOf_5
    dsimp only
    refine wp_pos (nI_le (a := 4) (b := 4) (by omega) (by omega)) ?_
    rw [wp_some]
theorem S_light {N : Nat} (hN : 70000 ≤ N) (a b : Int32) : Sim (f_LW_light N a b) (f_MD_light N a b) := by
  refine Sim.of (fun A hw => ?_)
  have n16 := hw.n16
  have hc : ∀ (hi : HI) (hl : HL), f_MD_in N b.toInt64 0 1 hi hl = some (b2i (rg b 0 2), hi, hl) := fun hi hl => e_in32 N b _ _ hi hl (x := 0) (y := 2) (ltL64 0 (by decide)) (ltL64 1 (by decide))
  rcases rgE a 0 A.n with ⟨e, _⟩ | ⟨e, _⟩
  · refine Sim.bad (ans := -1) hw (fun hi hl hR => ?_) (fun hi hl hR => ?_)
    · unfold f_LW_light
      rw [e_isLamp hR.bd.n (by omega), e]; rfl
    · unfold f_MD_light
      rw [m_isLamp hR.bd.n (by omega), e]; rfl
  rcases rgE b 0 2 with ⟨f, _⟩ | ⟨f, _⟩
  · refine Sim.bad (ans := -1) hw (fun hi hl hR => ?_) (fun hi hl hR => ?_)
    · unfold f_LW_light
      rw [e_isLamp hR.bd.n (by omega), e]
      simp only [Option.bind_some, b2i_tt, if_false]
      rw [e_isFrac, f]; rfl
    · unfold f_MD_light
      rw [m_isLamp hR.bd.n (by omega), e]
      simp only [Option.bind_some, b2i_tt, if_false]
      rw [hc, f]; rfl
  obtain ⟨l, _, l1, rfl⟩ := rg_t (by omega) e
  obtain ⟨k, _, k1, rfl⟩ := rg_t (by omega) f
  refine ⟨if cD (Plnd A) then frc (ltP A l 4) k else -4, A, hw, fun hi hl hR => ?_, fun hi hl hR => ?_⟩
  · unfold f_LW_light
    rw [e_isLamp hR.bd.n (by omega), e]
    simp only [Option.bind_some, b2i_tt, if_false]
    rw [e_isFrac, f]
    simp only [Option.bind_some, b2i_tt, if_false]
    refine (c_planLight hN hw hR).bnd (fun x hx => ?_)
    obtain ⟨x1, x2, x3⟩ := hx
    rcases x1 with ⟨x1, pl, h42⟩ | ⟨x1, pl⟩
    · have bnd := ltP_le hw pl (l := l) (p := 4) (Nat.le_refl _)
      refine wp_neg (by rw [x1]; decide) (wp_neg (nI_in (by omega) (by omega)) ?_)
      rw [nI_clamp (by omega), h42 l l1]
      refine (e_frac hN (by omega) k1).bnd (fun y hy => ?_)
      subst hy
      rw [wp_some, if_pos (cD_t.mpr pl)]
      exact ⟨rfl, x2, x3⟩
    · refine wp_pos x1 ?_
      rw [wp_some, cD_f.mpr pl]
      exact ⟨rfl, x2, x3⟩
  · unfold f_MD_light
    rw [m_isLamp hR.bd.n (by omega), e]
    simp only [Option.bind_some, b2i_tt, if_false]
    rw [hc, f]
    simp only [Option.bind_some, b2i_tt, if_false]
    refine (m_isPlanned hN hw hR).bnd (fun x hx => ?_)
    obtain ⟨x1, x2, x3⟩ := hx
    rcases x1 with ⟨x1, pl⟩ | ⟨x1, pl⟩
    · have bnd := ltP_le hw pl (l := l) (p := 4) (Nat.le_refl _)
      refine wp_neg (by rw [x1]; decide) ?_
      refine (m_findPlan hN hw pl x2).bnd (fun y hy => ?_)
      obtain ⟨y1, y2, pd⟩ := hy
      refine (m_lightOf hN hw pl pd (by omega)).bnd (fun z hz => ?_)
      subst hz
      dsimp only
      refine (m_low hN (by omega) k1).bnd (fun u hu => ?_)
      subst hu
      rw [wp_some, if_pos (cD_t.mpr pl)]
      exact ⟨rfl, y1, x3.trans y2⟩
    · refine wp_pos x1 ?_
      rw [wp_some, cD_f.mpr pl]
      exact ⟨rfl, x2, x3⟩
