/-! count -/
theorem e_are {N : Nat} (hN : 70000 ≤ N) {A : St} (hw : WF A) {h : Nat} (hh : h ≤ 2) {hi : HI} {hl : HL} (hR : RC A hi) : f_Board_lampsThatAre N (nI h) hi hl = some (nI (fb_ct (fun l => decide (A.st l = h)) A.n), hi, hl) := by
  have n16 := hw.n16
  have key : wp (lpN (fun s => B_Board_lampsThatAre_4 N (nI h) s.1 s.2.1 s.2.2.1 s.2.2.2) N (0, 0, hi, hl)) (fun z => z = (nI (fb_ct (fun l => decide (A.st l = h)) A.n), hi, hl)) := by
    refine wp_for A.n (fun i s => s = (nI (fb_ct (fun l => decide (A.st l = h)) i), nI i, hi, hl)) ?_ ?_ (i := 0) (Nat.zero_le _) rfl (by omega)
    · rintro i s hi1 rfl
      unfold B_Board_lampsThatAre_4 J_Board_lampsThatAre_25
      dsimp only
      have s2 := hw.st2 i hi1
      rw [nI_clamp (by omega)]
      refine wp_neg (by rw [hR.bd.n]; exact nI_ge hi1 (by omega)) (wp_neg (nI_in' (by omega) (by omega)) ?_)
      by_cases c : A.st i = h
      · refine wp_pos (by rw [hR.bd.st i hi1, c]) ?_
        rw [wp_some, nI_1, nI_1, fb_ct_succ, decide_eq_true c]; rfl
      · refine wp_neg (by rw [hR.bd.st i hi1]; exact fun q => c ((nI_eq (by omega) (by omega)).mp q)) ?_
        rw [wp_some, nI_1, fb_ct_succ, decide_eq_false c]; rfl
    · rintro s rfl
      unfold B_Board_lampsThatAre_4
      dsimp only
      refine wp_pos (by rw [hR.bd.n]; exact nI_le (Nat.le_refl _) (by omega)) ?_
      rw [wp_some]
  obtain ⟨z, h1, rfl⟩ := key
  unfold f_Board_lampsThatAre
  rw [h1]; rfl
theorem e_levSum {N : Nat} (hN : 70000 ≤ N) {A : St} (hw : WF A) {hi : HI} {hl : HL} (hR : RC A hi) : f_Board_levelSum N hi hl = some (nI (fb_sm A.lev A.n), hi, hl) := by
  have n16 := hw.n16
  have key : wp (lpN (fun s => B_Board_levelSum_4 N s.1 s.2.1 s.2.2.1 s.2.2.2) N (0, 0, hi, hl)) (fun z => z = (nI (fb_sm A.lev A.n), hi, hl)) := by
    refine wp_for A.n (fun i s => s = (nI (fb_sm A.lev i), nI i, hi, hl)) ?_ ?_ (i := 0) (Nat.zero_le _) rfl (by omega)
    · rintro i s hi1 rfl
      unfold B_Board_levelSum_4
      dsimp only
      rw [nI_clamp (by omega)]
      refine wp_neg (by rw [hR.bd.n]; exact nI_ge hi1 (by omega)) (wp_neg (nI_in' (by omega) (by omega)) ?_)
      rw [wp_some, hR.bd.e i hi1, nI_add, nI_1, fb_sm_succ]
    · rintro s rfl
      unfold B_Board_levelSum_4
      dsimp only
      refine wp_pos (by rw [hR.bd.n]; exact nI_le (Nat.le_refl _) (by omega)) ?_
      rw [wp_some]
  obtain ⟨z, h1, rfl⟩ := key
  unfold f_Board_levelSum
  rw [h1]; rfl
def snC (A : St) (i : Nat) : Nat := fb_ct (fun k => decide (A.sn k ≠ -4)) i
theorem e_linesSeen {N : Nat} (hN : 70000 ≤ N) {A : St} (hw : WF A) {hi : HI} {hl : HL} (hR : RC A hi) : f_Script_linesSeen N hi hl = some (nI (snC A A.lines), hi, hl) := by
  have l12 := hw.l12
  have key : wp (lpN (fun s => B_Script_linesSeen_4 N s.1 s.2.1 s.2.2.1 s.2.2.2) N (0, 0, hi, hl)) (fun z => z = (nI (snC A A.lines), hi, hl)) := by
    refine wp_for A.lines (fun i s => s = (nI (snC A i), nI i, hi, hl)) ?_ ?_ (i := 0) (Nat.zero_le _) rfl (by omega)
    · rintro i s hi1 rfl
      unfold B_Script_linesSeen_4 J_Script_linesSeen_26
      dsimp only
      rw [nI_clamp (by omega)]
      refine wp_neg (by rw [hR.sc.n]; exact nI_ge hi1 (by omega)) (wp_neg (nI_in' (by omega) (by omega)) ?_)
      by_cases c : A.sn i = -4
      · refine wp_pos (by rw [hR.sc.s i hi1, c]) ?_
        rw [wp_some, nI_1]
        unfold snC
        rw [fb_ct_succ, decide_eq_false (fun q => q c)]; rfl
      · refine wp_neg (by rw [hR.sc.s i hi1]; exact c) ?_
        rw [wp_some, nI_1, nI_1]
        unfold snC
        rw [fb_ct_succ, decide_eq_true c]; rfl
    · rintro s rfl
      unfold B_Script_linesSeen_4
      dsimp only
      refine wp_pos (by rw [hR.sc.n]; exact nI_le (Nat.le_refl _) (by omega)) ?_
      rw [wp_some]
  obtain ⟨z, h1, rfl⟩ := key
  unfold f_Script_linesSeen
  rw [h1]; rfl
noncomputable def cntA (A : St) (p : Int32) : Int32 := if p = 0 then nI A.w else if p = 1 then nI A.n else if p = 2 then nI A.sup else if p = 3 then nI (fb_ct (fun l => decide (A.st l = 1)) A.n) else if p = 4 then nI (fb_ct (fun l => decide (A.st l = 2)) A.n) else if p = 5 then nI A.lines else if p = 6 then nI (snC A A.lines) else if p = 7 then nI (fb_sm A.lev A.n) else if p = 8 then nI A.taped else if p = 9 then (if A.has 0 = 1 then nI (A.size 0) else -4) else -1
theorem S_count {N : Nat} (hN : 70000 ≤ N) (p : Int32) : Sim (f_LW_count N p) (f_MD_count N p) := by
  refine Sim.of (fun A hw => ?_)
  have n16 := hw.n16
  have l12 := hw.l12
  refine Sim.bad (ans := cntA A p) hw (fun hi hl hR => ?_) (fun hi hl hR => ?_)
  · unfold f_LW_count
    have a1 := e_are (N := N) hN hw (h := 1) (by omega) hR (hl := hl)
    have a2 := e_are (N := N) hN hw (h := 2) (by omega) hR (hl := hl)
    have a3 := e_levSum (N := N) hN hw hR (hl := hl)
    have a4 := e_linesSeen (N := N) hN hw hR (hl := hl)
    have z : hi (57 + 2 * Int32.toNatClampNeg 0) 1 = if A.has 0 = 1 then nI (A.size 0) else -4 := (hR.sh 0 (by omega)).z
    have g0 : gS (57 + 2 * Int32.toNatClampNeg 0) := (gS_4 0 (by omega)).1
    have i0 : ¬ ((0 : Int32) < 0 ∨ 4 ≤ Int32.toNatClampNeg 0) := by decide
    rw [show f_Board_lampsThatAre N 1 hi hl = _ from a1, show f_Board_lampsThatAre N 2 hi hl = _ from a2, a3, a4, hR.bd.w, hR.bd.n, hR.bd.s, hR.sc.n, hR.tp.n, z, if_neg i0, if_pos g0]
    simp only [Option.bind_some]
    unfold cntA
    by_cases c0 : p = 0
    · rw [if_pos c0, if_pos c0]
    rw [if_neg c0, if_neg c0]
    by_cases c1 : p = 1
    · rw [if_pos c1, if_pos c1]
    rw [if_neg c1, if_neg c1]
    by_cases c2 : p = 2
    · rw [if_pos c2, if_pos c2]
    rw [if_neg c2, if_neg c2]
    by_cases c3 : p = 3
    · rw [if_pos c3, if_pos c3]
    rw [if_neg c3, if_neg c3]
    by_cases c4 : p = 4
    · rw [if_pos c4, if_pos c4]
    rw [if_neg c4, if_neg c4]
    by_cases c5 : p = 5
    · rw [if_pos c5, if_pos c5]
    rw [if_neg c5, if_neg c5]
    by_cases c6 : p = 6
    · rw [if_pos c6, if_pos c6]
    rw [if_neg c6, if_neg c6]
    by_cases c7 : p = 7
    · rw [if_pos c7, if_pos c7]
    rw [if_neg c7, if_neg c7]
    by_cases c8 : p = 8
    · rw [if_pos c8, if_pos c8]
    rw [if_neg c8, if_neg c8]
    by_cases c9 : p = 9
    · rw [if_pos c9, if_pos c9]
    rw [if_neg c9, if_neg c9]
  · unfold f_MD_count
    have k1 : wp (lpN (fun s => B_MD_count_13 N p 0 s.1 s.2.1 s.2.2.1 s.2.2.2.1 s.2.2.2.2.1 s.2.2.2.2.2) N (0, 0, 0, 0, hi, hl)) (fun z => z = (nI (fb_ct (fun l => decide (A.st l = 1)) A.n), nI (fb_ct (fun l => decide (A.st l = 2)) A.n), nI (fb_sm A.lev A.n), hi, hl)) := by
      refine wp_for A.n (fun i s => s = (nI (fb_ct (fun l => decide (A.st l = 1)) i), nI (fb_ct (fun l => decide (A.st l = 2)) i), nI (fb_sm A.lev i), nI i, hi, hl)) ?_ ?_ (i := 0) (Nat.zero_le _) rfl (by omega)
      · rintro i s hi1 rfl
        unfold B_MD_count_13 J_MD_count_39 J_MD_count_58
        dsimp only
        have s2 := hw.st2 i hi1
        have ci : (nI i).toNatClampNeg = i := nI_clamp (by omega)
        have r1 := hR.bd.st i hi1
        have r2 := hR.bd.e i hi1
        have ix : ¬ (nI i < 0 ∨ 16 ≤ i) := nI_in' (by omega) (by omega)
        have zz : ∀ x : Nat, nI x + 0 = nI x := fun x => nI_add x 0
        simp only [ci, r1, r2, nI_add, nI_1, zz]
        refine wp_neg (by rw [hR.bd.n]; exact nI_ge hi1 (by omega)) (wp_neg ix ?_)
        rcases (show A.st i = 0 ∨ A.st i = 1 ∨ A.st i = 2 by omega) with c | c | c
        · refine wp_neg (by rw [c]; decide) (wp_neg ix (wp_neg (by rw [c]; decide) (wp_neg ix ?_)))
          rw [wp_some, fb_ct_succ, fb_ct_succ, fb_sm_succ, c]; rfl
        · refine wp_pos (by rw [c]; rfl) (wp_neg ix (wp_neg (by rw [c]; decide) (wp_neg ix ?_)))
          rw [wp_some, fb_ct_succ, fb_ct_succ, fb_sm_succ, c]; rfl
        · refine wp_neg (by rw [c]; decide) (wp_neg ix (wp_pos (by rw [c]; rfl) (wp_neg ix ?_)))
          rw [wp_some, fb_ct_succ, fb_ct_succ, fb_sm_succ, c]; rfl
      · rintro s rfl
        unfold B_MD_count_13
        dsimp only
        refine wp_pos (by rw [hR.bd.n]; exact nI_le (Nat.le_refl _) (by omega)) ?_
        rw [wp_some]
    obtain ⟨z, h1, rfl⟩ := k1
    rw [h1, Option.bind_some]
    dsimp only
    have k2 : ∀ a b c, wp (lpN (fun s => B_MD_count_81 N p a b c s.1 s.2.1 s.2.2.1 s.2.2.2) N (0, 0, hi, hl)) (fun z => z = (nI (snC A A.lines), hi, hl)) := by
      intro a b c
      refine wp_for A.lines (fun i s => s = (nI (snC A i), nI i, hi, hl)) ?_ ?_ (i := 0) (Nat.zero_le _) rfl (by omega)
      · rintro i s hi1 rfl
        unfold B_MD_count_81 J_MD_count_109
        dsimp only
        rw [nI_clamp (by omega)]
        refine wp_neg (by rw [hR.ln]; exact nI_ge hi1 (by omega)) (wp_neg (nI_in' (by omega) (by omega)) ?_)
        by_cases d : A.sn i = -4
        · refine wp_pos (by rw [hR.sn i hi1, d]) ?_
          rw [wp_some]
          show (nI _ + nI 0, nI i + 1, hi, hl) = _
          rw [nI_add, nI_1]
          unfold snC
          rw [fb_ct_succ, decide_eq_false (fun q => q d)]; rfl
        · refine wp_neg (by rw [hR.sn i hi1]; exact d) ?_
          rw [wp_some]
          show (nI _ + nI 1, nI i + 1, hi, hl) = _
          rw [nI_add, nI_1]
          unfold snC
          rw [fb_ct_succ, decide_eq_true d]; rfl
      · rintro s rfl
        unfold B_MD_count_81
        dsimp only
        refine wp_pos (by rw [hR.ln]; exact nI_le (Nat.le_refl _) (by omega)) ?_
        rw [wp_some]
    obtain ⟨z, h2, rfl⟩ := k2 (nI (fb_ct (fun l => decide (A.st l = 1)) A.n)) (nI (fb_ct (fun l => decide (A.st l = 2)) A.n)) (nI (fb_sm A.lev A.n))
    rw [h2, Option.bind_some]
    dsimp only
    have i0 : ¬ ((0 : Int32) < 0 ∨ 4 ≤ Int32.toNatClampNeg 0) := by decide
    have z0 : Int32.toNatClampNeg 0 = 0 := by decide
    have sz : hi 92 0 = if A.has 0 = 1 then nI (A.lane 0) else -4 := hR.la 0 (by omega)
    rw [hR.bd.w, hR.bd.n, hR.bd.s, hR.ln, hR.tn, if_neg i0]
    unfold cntA
    by_cases hs : A.has 0 = 1
    · rw [if_pos hs] at sz
      have lan := hw.lane 0 (by omega)
      have n4 : ¬ hi 92 (Int32.toNatClampNeg 0) = -4 := by rw [z0, sz, ni_neg4 (by omega)]; exact id
      have s93 : hi 93 (Int32.toNatClampNeg 0) = nI (A.size 0) := hR.sz 0 (by omega) hs
      rw [if_neg n4, if_neg i0, s93, if_pos hs]
      by_cases c0 : p = 0
      · rw [if_pos c0, if_pos c0]
      rw [if_neg c0, if_neg c0]
      by_cases c1 : p = 1
      · rw [if_pos c1, if_pos c1]
      rw [if_neg c1, if_neg c1]
      by_cases c2 : p = 2
      · rw [if_pos c2, if_pos c2]
      rw [if_neg c2, if_neg c2]
      by_cases c3 : p = 3
      · rw [if_pos c3, if_pos c3]
      rw [if_neg c3, if_neg c3]
      by_cases c4 : p = 4
      · rw [if_pos c4, if_pos c4]
      rw [if_neg c4, if_neg c4]
      by_cases c5 : p = 5
      · rw [if_pos c5, if_pos c5]
      rw [if_neg c5, if_neg c5]
      by_cases c6 : p = 6
      · rw [if_pos c6, if_pos c6]
      rw [if_neg c6, if_neg c6]
      by_cases c7 : p = 7
      · rw [if_pos c7, if_pos c7]
      rw [if_neg c7, if_neg c7]
      by_cases c8 : p = 8
      · rw [if_pos c8, if_pos c8]
      rw [if_neg c8, if_neg c8]
      by_cases c9 : p = 9
      · rw [if_pos c9, if_pos c9]
      rw [if_neg c9, if_neg c9]
    · rw [if_neg hs] at sz
      have n4 : hi 92 (Int32.toNatClampNeg 0) = -4 := by rw [z0, sz]
      rw [if_pos n4, if_neg hs]
      by_cases c0 : p = 0
      · rw [if_pos c0, if_pos c0]
      rw [if_neg c0, if_neg c0]
      by_cases c1 : p = 1
      · rw [if_pos c1, if_pos c1]
      rw [if_neg c1, if_neg c1]
      by_cases c2 : p = 2
      · rw [if_pos c2, if_pos c2]
      rw [if_neg c2, if_neg c2]
      by_cases c3 : p = 3
      · rw [if_pos c3, if_pos c3]
      rw [if_neg c3, if_neg c3]
      by_cases c4 : p = 4
      · rw [if_pos c4, if_pos c4]
      rw [if_neg c4, if_neg c4]
      by_cases c5 : p = 5
      · rw [if_pos c5, if_pos c5]
      rw [if_neg c5, if_neg c5]
      by_cases c6 : p = 6
      · rw [if_pos c6, if_pos c6]
      rw [if_neg c6, if_neg c6]
      by_cases c7 : p = 7
      · rw [if_pos c7, if_pos c7]
      rw [if_neg c7, if_neg c7]
      by_cases c8 : p = 8
      · rw [if_pos c8, if_pos c8]
      rw [if_neg c8, if_neg c8]
      by_cases c9 : p = 9
      · rw [if_pos c9, if_pos c9]
      rw [if_neg c9, if_neg c9]
