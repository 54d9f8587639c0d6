/-! planes, plan -/
noncomputable def pln (A : St) (p : Nat) : Nat := msk (fun l => (A.lev l).testBit p = true) A.n
theorem pln_lt (A : St) (p : Nat) : pln A p < 2 ^ A.n := msk_lt _ _
theorem pl_term {v p l : Nat} (hv : v ≤ 15) (hp : p < 4) (hl : l < 16) : ((nI v >>> (nI p &&& nI 31)) &&& nI 1) <<< (nI l &&& nI 31) = nI (if v.testBit p = true then 2 ^ l else 0) := by
  have h2 : 2 ^ l ≤ 2 ^ 15 := Nat.pow_le_pow_right (by omega) (by omega)
  rw [ni_shr (by omega) (by omega), fa_and, Nat.and_one_is_mod, ni_shl (by omega)]
  · congr 1
    rw [Nat.testBit_eq_decide_div_mod_eq]
    by_cases c : v / 2 ^ p % 2 = 1
    · rw [c]; simp
    · have : v / 2 ^ p % 2 = 0 := by omega
      rw [this]; simp
  · have : v / 2 ^ p % 2 ≤ 1 := by omega
    have := Nat.mul_le_mul this h2
    omega
theorem e_plane {N : Nat} (hN : 70000 ≤ N) {A : St} (hw : WF A) {p : Nat} (hp : p < 4) {hi : HI} {hl : HL} (hR : RC A hi) : f_Board_plane N (nI p) hi hl = some (nI (pln A p), hi, hl) := by
  have n16 := hw.n16
  have key : wp (lpN (fun s => B_Board_plane_4 N (nI p) s.1 s.2.1 s.2.2.1 s.2.2.2) N (0, 0, hi, hl)) (fun z => z = (nI (pln A p), hi, hl)) := by
    refine wp_for A.n (fun i s => ∃ M, s = (nI M, nI i, hi, hl) ∧ ∀ x, M.testBit x = true ↔ x < i ∧ (A.lev x).testBit p = true) ?_ ?_ (i := 0) (Nat.zero_le _) ⟨0, rfl, fun x => by simp⟩ (by omega)
    · rintro i s hi1 ⟨M, rfl, hM⟩
      unfold B_Board_plane_4
      dsimp only
      have lv := hw.lev i hi1
      refine wp_neg (by rw [hR.bd.n]; exact nI_ge hi1 (by omega)) (wp_neg (nI_in (by omega) (by omega)) ?_)
      rw [wp_some, nI_clamp (by omega), hR.bd.e i hi1]
      refine ⟨M ||| (if (A.lev i).testBit p = true then 2 ^ i else 0), ?_, bit_addN _ hM ?_⟩
      · rw [← fa_or, ← pl_term lv hp (by omega), nI_1]; rfl
      · by_cases c : (A.lev i).testBit p = true
        · exact Or.inl ⟨c, if_pos c⟩
        · exact Or.inr ⟨c, if_neg c⟩
    · rintro s ⟨M, rfl, hM⟩
      unfold B_Board_plane_4
      dsimp only
      refine wp_pos (by rw [hR.bd.n]; exact nI_le (Nat.le_refl _) (by omega)) ?_
      rw [wp_some]
      unfold pln
      rw [← msk_eq hM]
  obtain ⟨z, h1, rfl⟩ := key
  unfold f_Board_plane
  rw [h1]; rfl
theorem m_plane {N : Nat} (hN : 70000 ≤ N) {A : St} (hw : WF A) {p : Nat} (hp : p < 4) {hi : HI} {hl : HL} (hR : RM A hi) : f_MD_planeOf N (nI p) hi hl = some (nI (pln A p), hi, hl) := by
  have n16 := hw.n16
  have key : wp (lpN (fun s => B_MD_planeOf_4 N (nI p) s.1 s.2.1 s.2.2.1 s.2.2.2) N (0, 0, hi, hl)) (fun z => z = (nI (pln A p), hi, hl)) := by
    refine wp_for A.n (fun i s => ∃ M, s = (nI M, nI i, hi, hl) ∧ ∀ x, M.testBit x = true ↔ x < i ∧ (A.lev x).testBit p = true) ?_ ?_ (i := 0) (Nat.zero_le _) ⟨0, rfl, fun x => by simp⟩ (by omega)
    · rintro i s hi1 ⟨M, rfl, hM⟩
      unfold B_MD_planeOf_4
      dsimp only
      have lv := hw.lev i hi1
      refine wp_neg (by rw [hR.bd.n]; exact nI_ge hi1 (by omega)) (wp_neg (nI_in (by omega) (by omega)) ?_)
      rw [wp_some, nI_clamp (by omega), hR.bd.e i hi1]
      refine ⟨M ||| (if (A.lev i).testBit p = true then 2 ^ i else 0), ?_, bit_addN _ hM ?_⟩
      · rw [← fa_or, ← pl_term lv hp (by omega), nI_1]; rfl
      · by_cases c : (A.lev i).testBit p = true
        · exact Or.inl ⟨c, if_pos c⟩
        · exact Or.inr ⟨c, if_neg c⟩
    · rintro s ⟨M, rfl, hM⟩
      unfold B_MD_planeOf_4
      dsimp only
      refine wp_pos (by rw [hR.bd.n]; exact nI_le (Nat.le_refl _) (by omega)) ?_
      rw [wp_some]
      unfold pln
      rw [← msk_eq hM]
  obtain ⟨z, h1, rfl⟩ := key
  unfold f_MD_planeOf
  rw [h1]; rfl
def Plnd (A : St) : Prop := ∀ p, p < 4 → Few A (pln A p) ≠ 100
theorem m_isPlanned {N : Nat} (hN : 70000 ≤ N) {A : St} (hw : WF A) {hi : HI} {hl : HL} (hR : RM A hi) : wp (f_MD_isPlanned N hi hl) (fun o => ((o.1 = 1 ∧ Plnd A) ∨ (o.1 = 0 ∧ ¬ Plnd A)) ∧ RM A o.2.1 ∧ LoC hi o.2.1) := by
  unfold f_MD_isPlanned
  refine wp.bnd (P := fun z => ((z.1 = 1 ∧ Plnd A) ∨ (z.1 = 0 ∧ ¬ Plnd A)) ∧ RM A z.2.1 ∧ LoC hi z.2.1) ?_ (fun z hz => ?_)
  · refine wp_for 4 (fun i s => s.2.1 = nI i ∧ ((s.1 = 1 ∧ ∀ p, p < i → Few A (pln A p) ≠ 100) ∨ (s.1 = 0 ∧ ¬ Plnd A)) ∧ RM A s.2.2.1 ∧ LoC hi s.2.2.1) ?_ ?_ (i := 0) (by omega) ⟨rfl, Or.inl ⟨rfl, fun p hp => by omega⟩, hR, LoC.refl _⟩ (by omega)
    · rintro i ⟨v, q, g, gl⟩ hi1 ⟨rfl, h, rm, lo⟩
      dsimp only at h rm lo
      unfold B_MD_isPlanned_4 J_MD_isPlanned_31 J_MD_isPlanned_32
      dsimp only
      refine wp_neg (nI_ge (b := 4) hi1 (by omega)) ?_
      rcases h with ⟨rfl, h⟩ | ⟨rfl, h⟩
      · refine wp_neg (by decide) ?_
        rw [m_plane hN hw hi1 rm, Option.bind_some]
        dsimp only
        refine (m_frameOf hN hw (pln_lt A i) rm).bnd (fun x hx => ?_)
        obtain ⟨x1, x2, x3, _⟩ := hx
        rw [x1]
        unfold fwI
        by_cases c : Few A (pln A i) = 100
        · refine wp_pos (by rw [if_pos c]) ?_
          rw [wp_some]
          exact ⟨nI_1 i, Or.inr ⟨rfl, fun q => q i hi1 c⟩, x2, lo.trans x3⟩
        · have := Few_le hw (pln A i)
          refine wp_neg (by rw [if_neg c, ni_neg4 (by omega)]; exact id) ?_
          rw [wp_some]
          refine ⟨nI_1 i, Or.inl ⟨rfl, fun p hp => ?_⟩, x2, lo.trans x3⟩
          by_cases e : p = i
          · rw [e]; exact c
          · exact h p (by omega)
      · refine wp_pos rfl ?_
        rw [wp_some]
        exact ⟨nI_1 i, Or.inr ⟨rfl, h⟩, rm, lo⟩
    · rintro ⟨v, q, g, gl⟩ ⟨rfl, h, rm, lo⟩
      dsimp only at h rm lo
      unfold B_MD_isPlanned_4
      dsimp only
      refine wp_pos (nI_le (a := 4) (b := 4) (by omega) (by omega)) ?_
      rw [wp_some]
      exact ⟨h, rm, lo⟩
  · refine wp_pos ?_ (by rw [wp_some]; exact hz)
    rcases hz.1 with ⟨h, _⟩ | ⟨h, _⟩
    · exact Or.inr h
    · exact Or.inl h
noncomputable def plS (A : St) (k i : Nat) : Nat := fb_sm (fun p => if k = 0 then Few A (pln A p) * 2 ^ p else Few A (pln A p)) i
theorem shl_few {f i : Nat} (hf : f ≤ 16) (hi : i < 4) : nI f <<< (nI i &&& nI 31) = nI (f * 2 ^ i) := by
  have h2 : 2 ^ i ≤ 2 ^ 3 := Nat.pow_le_pow_right (by omega) (by omega)
  have := Nat.mul_le_mul hf h2
  exact ni_shl (by omega) (by omega)
theorem S_plan {N : Nat} (hN : 70000 ≤ N) (q : Int32) : Sim (f_LW_plan N q) (f_MD_plan N q) := by
  refine Sim.of (fun A hw => ?_)
  have n16 := hw.n16
  have hb : ∀ (hi : HI) (hl : HL), f_MD_in N q.toInt64 10 13 hi hl = some (b2i (rg q 10 14), hi, hl) := fun hi hl => e_in32 N q _ _ hi hl (x := 10) (y := 14) (ltL64 10 (by decide)) (ltL64 13 (by decide))
  have hc : ∀ (hi : HI) (hl : HL), f_MD_in N q.toInt64 0 1 hi hl = some (b2i (rg q 0 2), hi, hl) := fun hi hl => e_in32 N q _ _ hi hl (x := 0) (y := 2) (ltL64 0 (by decide)) (ltL64 1 (by decide))
  have few16 : ∀ p, Few A (pln A p) = 100 ∨ Few A (pln A p) ≤ 16 := fun p => by rcases Few_cases hw (pln A p) with h | h <;> omega
  rcases rgE q 10 14 with ⟨e, e1⟩ | ⟨e, _⟩
  · rcases rgE q 0 2 with ⟨f, f1⟩ | ⟨f, _⟩
    · refine Sim.bad (ans := -1) hw (fun hi hl hR => ?_) (fun hi hl hR => ?_)
      · have z0 : ¬ q = 0 := fun h => f1 (by rw [h]; decide)
        have z1 : ¬ q = 1 := fun h => f1 (by rw [h]; decide)
        unfold f_LW_plan J_LW_plan_31
        rw [if_neg z0, if_neg z1]
        simp (disch := omega) only [lit_I, fa_lt, fa_le, nI_toInt, decide_eq_true_eq]
        repeat' split
        all_goals first | rfl | (exfalso; omega)
      · unfold f_MD_plan
        rw [hb, e]
        simp only [Option.bind_some, b2i_ff, if_true]
        rw [hc, f]; rfl
    · obtain ⟨k, _, k2, rfl⟩ := rg_t (by omega) f
      have n0 : (nI k = 0) ↔ k = 0 := nI_eq (b := 0) (by omega) (by omega)
      have n1 : (nI k = 1) ↔ k = 1 := nI_eq (b := 1) (by omega) (by omega)
      have bound : Plnd A → ∀ i, i ≤ 4 → plS A k i ≤ 128 * i := fun pl i hi => by
        have := fb_sm_bound (f := fun p => if k = 0 then Few A (pln A p) * 2 ^ p else Few A (pln A p)) (c := 128) (n := i) (fun p hp => by
          have h1 := few16 p
          have h2 := pl p (by omega)
          have h3 : 2 ^ p ≤ 2 ^ 3 := Nat.pow_le_pow_right (by omega) (by omega)
          have h4 : Few A (pln A p) * 2 ^ p ≤ 16 * 8 := Nat.mul_le_mul (by omega) h3
          split <;> omega)
        unfold plS; omega
      refine ⟨if cD (Plnd A) then nI (plS A k 4) else -4, A, hw, fun hi hl hR => ?_, fun hi hl hR => ?_⟩
      · have go : wp (J_LW_plan_42 N (nI k) hi hl) (fun o => o.1 = (if cD (Plnd A) then nI (plS A k 4) else -4) ∧ RC A o.2.1 ∧ HiC hi o.2.1) := by
          unfold J_LW_plan_42
          refine wp.bnd (P := fun z => ((z.1 = 0 ∧ z.2.1 = nI (plS A k 4) ∧ Plnd A) ∨ (z.1 = 1 ∧ ¬ Plnd A)) ∧ RC A z.2.2.1 ∧ HiC hi z.2.2.1) ?_ (fun z hz => ?_)
          · refine wp_for 4 (fun i s => s.2.1 = nI i ∧ s.1 = nI (plS A k i) ∧ (∀ p, p < i → Few A (pln A p) ≠ 100) ∧ RC A s.2.2.1 ∧ HiC hi s.2.2.1) ?_ ?_ (i := 0) (by omega) ⟨rfl, rfl, fun p hp => by omega, hR, HiC.refl _⟩ (by omega)
            · rintro i ⟨v, q, g, gl⟩ hi1 ⟨rfl, rfl, h, rc, hh⟩
              dsimp only at rc hh
              unfold B_LW_plan_46 J_LW_plan_92
              dsimp only
              refine wp_neg (nI_ge (b := 4) hi1 (by omega)) ?_
              rw [e_plane hN hw hi1 rc, Option.bind_some]
              dsimp only
              refine (c_frameOf hN hw (pln_lt A i) rc).bnd (fun x hx => ?_)
              obtain ⟨f, f8, x1, x2, x3, fp⟩ := hx
              rw [x1]
              refine wp_pos (gF_8 f f8) ?_
              have sz := fp.sz hw
              unfold fwI at sz
              by_cases c : Few A (pln A i) = 100
              · rw [if_pos c] at sz
                refine wp_pos sz ?_
                rw [wp_some]
                exact ⟨Or.inr ⟨rfl, fun q => q i hi1 c⟩, x2, hh.trans x3⟩
              · rw [if_neg c] at sz
                have f16 : Few A (pln A i) ≤ 16 := by have := few16 i; omega
                refine wp_neg (by rw [sz, ni_neg4 (by omega)]; exact id) ?_
                have h' : ∀ p, p < i + 1 → Few A (pln A p) ≠ 100 := fun p hp => by
                  by_cases e : p = i
                  · rw [e]; exact c
                  · exact h p (by omega)
                by_cases k0 : k = 0
                · refine wp_pos (n0.mpr k0) ?_
                  rw [wp_some]
                  refine ⟨nI_1 i, ?_, h', x2, hh.trans x3⟩
                  dsimp only
                  have s1 := shl_few f16 hi1
                  rw [sz]
                  show nI (plS A k i) + (nI (Few A (pln A i)) <<< (nI i &&& nI 31)) = _
                  rw [s1, nI_add]
                  unfold plS
                  rw [fb_sm_succ, if_pos k0]
                · refine wp_neg (fun q => k0 (n0.mp q)) ?_
                  rw [wp_some]
                  refine ⟨nI_1 i, ?_, h', x2, hh.trans x3⟩
                  dsimp only
                  rw [sz, nI_add]
                  unfold plS
                  rw [fb_sm_succ, if_neg k0]
            · rintro ⟨v, q, g, gl⟩ ⟨rfl, rfl, h, rc, hh⟩
              dsimp only at rc hh
              unfold B_LW_plan_46
              dsimp only
              refine wp_pos (nI_le (a := 4) (b := 4) (by omega) (by omega)) ?_
              rw [wp_some]
              exact ⟨Or.inl ⟨rfl, rfl, h⟩, rc, hh⟩
          · obtain ⟨z1, z2, z3⟩ := hz
            rcases z1 with ⟨a1, a2, a3⟩ | ⟨a1, a2⟩
            · refine wp_pos a1 ?_
              rw [wp_some, if_pos (cD_t.mpr a3)]
              exact ⟨a2, z2, z3⟩
            · refine wp_neg (by rw [a1]; omega) ?_
              rw [wp_some, cD_f.mpr a2]
              exact ⟨rfl, z2, z3⟩
        unfold f_LW_plan J_LW_plan_31
        refine wp_pos (nI_lt (b := 10) (by omega) (by omega)) ?_
        by_cases k0 : k = 0
        · exact wp_pos (n0.mpr k0) go
        · exact wp_neg (fun q => k0 (n0.mp q)) (wp_pos (n1.mpr (by omega)) go)
      · unfold f_MD_plan
        rw [hb, e]
        simp only [Option.bind_some, b2i_ff, if_true]
        rw [hc, f]
        simp only [Option.bind_some, b2i_tt, if_false]
        refine (m_isPlanned hN hw hR).bnd (fun x hx => ?_)
        obtain ⟨x1, x2, x3⟩ := hx
        rcases x1 with ⟨x1, pl⟩ | ⟨x1, pl⟩
        · refine wp_neg (by rw [x1]; decide) ?_
          rw [if_pos (cD_t.mpr pl)]
          refine wp.bnd (P := fun z => z.1 = nI (plS A 0 4) ∧ z.2.1 = nI (plS A 1 4) ∧ RM A z.2.2.1 ∧ LoC hi z.2.2.1) ?_ (fun z hz => ?_)
          · refine wp_for 4 (fun i s => s.2.2.1 = nI i ∧ s.1 = nI (plS A 0 i) ∧ s.2.1 = nI (plS A 1 i) ∧ RM A s.2.2.2.1 ∧ LoC hi s.2.2.2.1) ?_ ?_ (i := 0) (by omega) ⟨rfl, rfl, rfl, x2, x3⟩ (by omega)
            · rintro i ⟨v, w, q, g, gl⟩ hi1 ⟨rfl, rfl, rfl, rm, lo⟩
              dsimp only at rm lo
              unfold B_MD_plan_56
              dsimp only
              refine wp_neg (nI_ge (b := 4) hi1 (by omega)) ?_
              rw [m_plane hN hw hi1 rm, Option.bind_some]
              dsimp only
              refine (m_frameOf hN hw (pln_lt A i) rm).bnd (fun y hy => ?_)
              obtain ⟨y1, y2, y3, _⟩ := hy
              have c := pl i hi1
              have f16 : Few A (pln A i) ≤ 16 := by have := few16 i; omega
              rw [wp_some, y1]
              unfold fwI
              rw [if_neg c]
              refine ⟨nI_1 i, ?_, ?_, y2, lo.trans y3⟩
              · dsimp only
                have s1 := shl_few f16 hi1
                show nI (plS A 0 i) + (nI (Few A (pln A i)) <<< (nI i &&& nI 31)) = _
                rw [s1, nI_add]
                unfold plS
                rw [fb_sm_succ, if_pos rfl]
              · dsimp only
                rw [nI_add]
                unfold plS
                rw [fb_sm_succ, if_neg (by omega)]
            · rintro ⟨v, w, q, g, gl⟩ ⟨rfl, rfl, rfl, rm, lo⟩
              dsimp only at rm lo
              unfold B_MD_plan_56
              dsimp only
              refine wp_pos (nI_le (a := 4) (b := 4) (by omega) (by omega)) ?_
              rw [wp_some]
              exact ⟨rfl, rfl, rm, lo⟩
          · obtain ⟨z1, z2, z3, z4⟩ := hz
            by_cases k0 : k = 0
            · refine wp_pos (n0.mpr k0) ?_
              rw [wp_some, k0]
              exact ⟨z1, z3, z4⟩
            · refine wp_neg (fun q => k0 (n0.mp q)) ?_
              rw [wp_some, show k = 1 by omega]
              exact ⟨z2, z3, z4⟩
        · refine wp_pos x1 ?_
          rw [wp_some, cD_f.mpr pl]
          exact ⟨rfl, x2, x3⟩
  · obtain ⟨k, k1, k2, rfl⟩ := rg_t (by omega) e
    have ek : nI k - 10 = nI (k - 10) := pk_sub (b := 10) k1
    refine ⟨fwI A (pln A (k - 10)), A, hw, fun hi hl hR => ?_, fun hi hl hR => ?_⟩
    · unfold f_LW_plan
      refine wp_neg (nI_nlt (b := 10) (by omega) (by omega)) (wp_neg (nI_ge (b := 14) (by omega) (by omega)) ?_)
      rw [ek, e_plane hN hw (by omega) hR, Option.bind_some]
      dsimp only
      refine (c_frameOf hN hw (pln_lt A _) hR).bnd (fun x hx => ?_)
      obtain ⟨f, f8, x1, x2, x3, fp⟩ := hx
      rw [x1]
      refine wp_pos (gF_8 f f8) ?_
      rw [wp_some]
      exact ⟨fp.sz hw, x2, x3⟩
    · unfold f_MD_plan
      rw [hb, e]
      simp only [Option.bind_some, b2i_tt, if_false]
      rw [ek, m_plane hN hw (by omega) hR, Option.bind_some]
      dsimp only
      refine (m_frameOf hN hw (pln_lt A _) hR).bnd (fun x hx => ?_)
      rw [wp_some]
      exact ⟨hx.1, hx.2.1, hx.2.2.1⟩
