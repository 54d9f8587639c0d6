/-! line, round, at -/
section
variable {N : Nat} {A : St} {hi : HI} {hl : HL}
theorem tk_le (hw : WF A) {i : Nat} (hi : i ≤ A.lines) : fb_sm A.pk i ≤ 720 := by
  have h := fb_sm_bound (f := A.pk) (c := 60) (n := i) (fun k hk => hw.pk60 k (by omega))
  have := hw.l12
  omega
theorem e_ticks (hN : 70000 ≤ N) (hw : WF A) (hR : RC A hi) {k : Nat} (hk : k ≤ A.lines) : f_Script_ticksBefore N (nI k) hi hl = some (nI (fb_sm A.pk k), hi, hl) := by
  have l12 := hw.l12
  have key : wp (lpN (fun s => B_Script_ticksBefore_4 N (nI k) s.1 s.2.1 s.2.2.1 s.2.2.2) N (0, 0, hi, hl)) (fun z => z = (nI (fb_sm A.pk k), hi, hl)) := by
    refine wp_for k (fun i s => s = (nI (fb_sm A.pk i), nI i, hi, hl)) ?_ ?_ (i := 0) (Nat.zero_le _) rfl (by omega)
    · rintro i s hi1 rfl
      unfold B_Script_ticksBefore_4
      dsimp only
      rw [nI_clamp (by omega)]
      refine wp_neg (nI_ge hi1 (by omega)) (wp_neg (by rw [hR.sc.n]; exact nI_ge (by omega) (by omega)) (wp_neg (nI_in' (by omega) (by omega)) ?_))
      rw [wp_some, hR.sc.k i (by omega), nI_add, nI_1, fb_sm_succ]
    · rintro s rfl
      unfold B_Script_ticksBefore_4
      dsimp only
      refine wp_pos (nI_le (Nat.le_refl _) (by omega)) ?_
      rw [wp_some]
  obtain ⟨z, h1, rfl⟩ := key
  unfold f_Script_ticksBefore
  rw [h1]; rfl
theorem m_begin (hN : 70000 ≤ N) (hw : WF A) (hR : RM A hi) {k : Nat} (hk : k ≤ A.lines) : f_MD_beginOf N (nI k) hi hl = some (nI (fb_sm A.pk k), hi, hl) := by
  have l12 := hw.l12
  have key : wp (lpN (fun s => B_MD_beginOf_4 N (nI k) s.1 s.2.1 s.2.2.1 s.2.2.2) N (0, 0, hi, hl)) (fun z => z = (nI (fb_sm A.pk k), hi, hl)) := by
    refine wp_for k (fun i s => s = (nI (fb_sm A.pk i), nI i, hi, hl)) ?_ ?_ (i := 0) (Nat.zero_le _) rfl (by omega)
    · rintro i s hi1 rfl
      unfold B_MD_beginOf_4
      dsimp only
      rw [nI_clamp (by omega)]
      refine wp_neg (nI_ge hi1 (by omega)) (wp_neg (nI_in' (by omega) (by omega)) ?_)
      rw [wp_some, hR.pk i (by omega), nI_add, nI_1, fb_sm_succ]
    · rintro s rfl
      unfold B_MD_beginOf_4
      dsimp only
      refine wp_pos (nI_le (Nat.le_refl _) (by omega)) ?_
      rw [wp_some]
  obtain ⟨z, h1, rfl⟩ := key
  unfold f_MD_beginOf
  rw [h1]; rfl
end
theorem S_line {N : Nat} (hN : 70000 ≤ N) (p q : Int32) : Sim (f_LW_line N p q) (f_MD_line N p q) := by
  refine Sim.of (fun A hw => ?_)
  have l12 := hw.l12
  have hb : ∀ (hi : HI) (hl : HL), f_MD_in N q.toInt64 0 4 hi hl = some (b2i (rg q 0 5), hi, hl) := fun hi hl => e_in32 N q _ _ hi hl (x := 0) (y := 5) (ltL64 0 (by decide)) (ltL64 4 (by decide))
  rcases rgE p 0 A.lines with ⟨e, _⟩ | ⟨e, _⟩
  · refine Sim.bad (ans := -1) hw (fun hi hl hR => ?_) (fun hi hl hR => ?_)
    · unfold f_LW_line
      rw [e_isLine hR.sc.n (by omega), e]; rfl
    · unfold f_MD_line
      rw [m_isLine hR.ln (by omega), e]; rfl
  obtain ⟨k, _, k1, rfl⟩ := rg_t (by omega) e
  have ck : (nI k).toNatClampNeg = k := nI_clamp (by omega)
  have ix : ¬ (nI k < 0 ∨ 12 ≤ k) := nI_in' (by omega) (by omega)
  rcases rgE q 0 5 with ⟨f, f1⟩ | ⟨f, _⟩
  · have z0 : ¬ q = 0 := fun h => f1 (by rw [h]; decide)
    have z1 : ¬ q = 1 := fun h => f1 (by rw [h]; decide)
    have z2 : ¬ q = 2 := fun h => f1 (by rw [h]; decide)
    have z3 : ¬ q = 3 := fun h => f1 (by rw [h]; decide)
    have z4 : ¬ q = 4 := fun h => f1 (by rw [h]; decide)
    refine Sim.bad (ans := -1) hw (fun hi hl hR => ?_) (fun hi hl hR => ?_)
    · unfold f_LW_line
      rw [e_isLine hR.sc.n (by omega), e]
      simp only [Option.bind_some, b2i_tt, if_false]
      rw [if_neg z0, if_neg z1, if_neg z2, if_neg z3, if_neg z4]
    · unfold f_MD_line
      rw [m_isLine hR.ln (by omega), e]
      simp only [Option.bind_some, b2i_tt, if_false]
      rw [hb, f]; rfl
  obtain ⟨w, _, w1, rfl⟩ := rg_t (by omega) f
  have n : ∀ c, c < 5 → ((nI w = nI c) ↔ w = c) := fun c hc => nI_eq (by omega) (by omega)
  have tl := hw.pt k k1
  refine ⟨if w = 0 then nI (A.pt k) else if w = 1 then nI (A.pk k) else if w = 2 then nI (fb_sm A.pk k) else if w = 3 then nI (Gt A (A.pt k)) else A.sn k, A, hw, fun hi hl hR => ?_, fun hi hl hR => ?_⟩
  · have r1 := hR.sc.t k k1
    have r2 := hR.sc.k k k1
    have r3 := hR.sc.s k k1
    unfold f_LW_line
    rw [e_isLine hR.sc.n (by omega), e]
    simp only [Option.bind_some, b2i_tt, if_false, ck, if_neg ix, r1, r2, r3]
    rcases (show w = 0 ∨ w = 1 ∨ w = 2 ∨ w = 3 ∨ w = 4 by omega) with c | c | c | c | c
    · refine wp_pos (by rw [c]; rfl) ?_
      rw [wp_some, if_pos c]
      exact ⟨rfl, hR, HiC.refl _⟩
    · refine wp_neg (by rw [c]; decide) (wp_pos (by rw [c]; rfl) ?_)
      rw [wp_some, c]
      exact ⟨rfl, hR, HiC.refl _⟩
    · refine wp_neg (by rw [c]; decide) (wp_neg (by rw [c]; decide) (wp_pos (by rw [c]; rfl) ?_))
      rw [e_ticks hN hw hR (by omega), Option.bind_some, wp_some, c]
      exact ⟨rfl, hR, HiC.refl _⟩
    · refine wp_neg (by rw [c]; decide) (wp_neg (by rw [c]; decide) (wp_neg (by rw [c]; decide) (wp_pos (by rw [c]; rfl) ?_)))
      refine (c_lampsIn hN hw hR tl).bnd (fun x hx => ?_)
      rw [wp_some, c]
      exact ⟨hx.1, hR.ways hx.2, HiC.of hx.2 (by decide)⟩
    · refine wp_neg (by rw [c]; decide) (wp_neg (by rw [c]; decide) (wp_neg (by rw [c]; decide) (wp_neg (by rw [c]; decide) (wp_pos (by rw [c]; rfl) ?_))))
      rw [wp_some, c]
      exact ⟨rfl, hR, HiC.refl _⟩
  · have r1 := hR.pt k k1
    have r2 := hR.pk k k1
    have r3 := hR.sn k k1
    unfold f_MD_line
    rw [m_isLine hR.ln (by omega), e]
    simp only [Option.bind_some, b2i_tt, if_false]
    rw [hb, f]
    simp only [Option.bind_some, b2i_tt, if_false, ck, if_neg ix, r1, r2, r3]
    rcases (show w = 0 ∨ w = 1 ∨ w = 2 ∨ w = 3 ∨ w = 4 by omega) with c | c | c | c | c
    · refine wp_pos (by rw [c]; rfl) ?_
      rw [wp_some, if_pos c]
      exact ⟨rfl, hR, LoC.refl _⟩
    · refine wp_neg (by rw [c]; decide) (wp_pos (by rw [c]; rfl) ?_)
      rw [wp_some, c]
      exact ⟨rfl, hR, LoC.refl _⟩
    · refine wp_neg (by rw [c]; decide) (wp_neg (by rw [c]; decide) (wp_pos (by rw [c]; rfl) ?_))
      rw [m_begin hN hw hR (by omega), Option.bind_some, wp_some, c]
      exact ⟨rfl, hR, LoC.refl _⟩
    · refine wp_neg (by rw [c]; decide) (wp_neg (by rw [c]; decide) (wp_neg (by rw [c]; decide) (wp_pos (by rw [c]; rfl) ?_)))
      refine (m_glows hN hw tl (hR.gb hw)).bnd (fun x hx => ?_)
      rw [wp_some, c]
      exact ⟨hx.1, hR.glows hx.2.1 hx.2.2.1, LoC.of hx.2.1 (by decide)⟩
    · refine wp_neg (by rw [c]; decide) (wp_neg (by rw [c]; decide) (wp_neg (by rw [c]; decide) (wp_neg (by rw [c]; decide) ?_)))
      rw [wp_some, c]
      exact ⟨rfl, hR, LoC.refl _⟩
noncomputable def anyA (A : St) : Nat → Nat
  | 0 => 0
  | i + 1 => anyA A i ||| Gt A (A.pt i)
noncomputable def allA (A : St) (s : Nat) : Nat → Nat
  | 0 => s
  | i + 1 => allA A s i &&& Gt A (A.pt i)
noncomputable def shoA (A : St) (i : Nat) : Nat := fb_ct (fun k => decide (Lst A A.st (A.pt k) = 0)) i
theorem S_round {N : Nat} (hN : 70000 ≤ N) (p : Int32) : Sim (f_LW_round N p) (f_MD_round N p) := by
  refine Sim.of (fun A hw => ?_)
  have l12 := hw.l12
  have n16 := hw.n16
  have hb : ∀ (hi : HI) (hl : HL), f_MD_in N p.toInt64 0 3 hi hl = some (b2i (rg p 0 4), hi, hl) := fun hi hl => e_in32 N p _ _ hi hl (x := 0) (y := 4) (ltL64 0 (by decide)) (ltL64 3 (by decide))
  rcases rgE p 0 4 with ⟨f, f1⟩ | ⟨f, _⟩
  · have z0 : ¬ p = 0 := fun h => f1 (by rw [h]; decide)
    have z1 : ¬ p = 1 := fun h => f1 (by rw [h]; decide)
    have z2 : ¬ p = 2 := fun h => f1 (by rw [h]; decide)
    have z3 : ¬ p = 3 := fun h => f1 (by rw [h]; decide)
    refine Sim.bad (ans := -1) hw (fun hi hl hR => ?_) (fun hi hl hR => ?_)
    · unfold f_LW_round
      rw [if_neg z0, if_neg z1, if_neg z2, if_neg z3]
    · unfold f_MD_round
      rw [hb, f]; rfl
  obtain ⟨w, _, w1, rfl⟩ := rg_t (by omega) f
  refine ⟨if w = 0 then nI (fb_sm A.pk A.lines) else if w = 1 then nI (anyA A A.lines) else if w = 2 then nI (allA A (if A.lines = 0 then 0 else 2 ^ A.n - 1) A.lines) else nI (shoA A A.lines), A, hw, fun hi hl hR => ?_, fun hi hl hR => ?_⟩
  · unfold f_LW_round
    rcases (show w = 0 ∨ w = 1 ∨ w = 2 ∨ w = 3 by omega) with c | c | c | c
    · refine wp_pos (by rw [c]; rfl) ?_
      rw [hR.sc.n, e_ticks hN hw hR (Nat.le_refl _), Option.bind_some, wp_some, if_pos c]
      exact ⟨rfl, hR, HiC.refl _⟩
    · refine wp_neg (by rw [c]; decide) (wp_pos (by rw [c]; rfl) ?_)
      unfold f_LW_lampsInAnyLine
      rw [wp_bind, wp_bind]
      refine wp.mono (P := fun z => z.1 = nI (anyA A A.lines) ∧ RC A z.2.1 ∧ HiC hi z.2.1) ?_ (fun z hz => by rw [wp_some, wp_some, c]; exact hz)
      refine wp_for A.lines (fun i s => s.2.1 = nI i ∧ s.1 = nI (anyA A i) ∧ RC A s.2.2.1 ∧ HiC hi s.2.2.1) ?_ ?_ (i := 0) (Nat.zero_le _) ⟨rfl, rfl, hR, HiC.refl _⟩ (by omega)
      · rintro i ⟨v, q, g, gl⟩ hi1 ⟨rfl, rfl, rc, hh⟩
        dsimp only at rc hh
        unfold B_LW_lampsInAnyLine_4
        dsimp only
        rw [nI_clamp (by omega), rc.sc.t i hi1]
        refine wp_neg (by rw [rc.sc.n]; exact nI_ge hi1 (by omega)) (wp_neg (nI_in' (by omega) (by omega)) ?_)
        refine (c_lampsIn hN hw rc (hw.pt i hi1)).bnd (fun x hx => ?_)
        rw [wp_some, hx.1, fa_or]
        exact ⟨nI_1 i, rfl, rc.ways hx.2, hh.trans (HiC.of hx.2 (by decide))⟩
      · rintro ⟨v, q, g, gl⟩ ⟨rfl, rfl, rc, hh⟩
        dsimp only at rc hh
        unfold B_LW_lampsInAnyLine_4
        dsimp only
        refine wp_pos (by rw [rc.sc.n]; exact nI_le (Nat.le_refl _) (by omega)) ?_
        rw [wp_some]
        exact ⟨rfl, rc, hh⟩
    · refine wp_neg (by rw [c]; decide) (wp_neg (by rw [c]; decide) (wp_pos (by rw [c]; rfl) ?_))
      have go : ∀ s, wp (J_LW_lampsInAllLines_21 N (nI s) hi hl) (fun z => z.1 = nI (allA A s A.lines) ∧ RC A z.2.1 ∧ HiC hi z.2.1) := by
        intro s
        unfold J_LW_lampsInAllLines_21
        rw [wp_bind]
        refine wp.mono (P := fun z => z.1 = nI (allA A s A.lines) ∧ RC A z.2.1 ∧ HiC hi z.2.1) ?_ (fun z hz => by rw [wp_some]; exact hz)
        refine wp_for A.lines (fun i t => t.2.1 = nI i ∧ t.1 = nI (allA A s i) ∧ RC A t.2.2.1 ∧ HiC hi t.2.2.1) ?_ ?_ (i := 0) (Nat.zero_le _) ⟨rfl, rfl, hR, HiC.refl _⟩ (by omega)
        · rintro i ⟨v, q, g, gl⟩ hi1 ⟨rfl, rfl, rc, hh⟩
          dsimp only at rc hh
          unfold B_LW_lampsInAllLines_24
          dsimp only
          rw [nI_clamp (by omega), rc.sc.t i hi1]
          refine wp_neg (by rw [rc.sc.n]; exact nI_ge hi1 (by omega)) (wp_neg (nI_in' (by omega) (by omega)) ?_)
          refine (c_lampsIn hN hw rc (hw.pt i hi1)).bnd (fun x hx => ?_)
          rw [wp_some, hx.1, fa_and]
          exact ⟨nI_1 i, rfl, rc.ways hx.2, hh.trans (HiC.of hx.2 (by decide))⟩
        · rintro ⟨v, q, g, gl⟩ ⟨rfl, rfl, rc, hh⟩
          dsimp only at rc hh
          unfold B_LW_lampsInAllLines_24
          dsimp only
          refine wp_pos (by rw [rc.sc.n]; exact nI_le (Nat.le_refl _) (by omega)) ?_
          rw [wp_some]
          exact ⟨rfl, rc, hh⟩
      unfold f_LW_lampsInAllLines
      rw [wp_bind]
      by_cases z : A.lines = 0
      · refine wp_pos (by rw [hR.sc.n, z]; rfl) ((go 0).mono (fun o ho => by rw [wp_some, c, if_pos z]; exact ho))
      · refine wp_neg (by rw [hR.sc.n]; exact fun q => z ((nI_eq (b := 0) (by omega) (by omega)).mp q)) ?_
        rw [e_allLamps hR.bd.n n16, Option.bind_some]
        exact (go _).mono (fun o ho => by rw [wp_some, c, if_neg z]; exact ho)
    · refine wp_neg (by rw [c]; decide) (wp_neg (by rw [c]; decide) (wp_neg (by rw [c]; decide) (wp_pos (by rw [c]; rfl) ?_)))
      unfold f_LW_linesThatAreShorts
      rw [wp_bind, wp_bind]
      refine wp.mono (P := fun z => z.1 = nI (shoA A A.lines) ∧ RC A z.2.1 ∧ HiC hi z.2.1) ?_ (fun z hz => by rw [wp_some, wp_some, c]; exact hz)
      refine wp_for A.lines (fun i s => s.2.1 = nI i ∧ s.1 = nI (shoA A i) ∧ RC A s.2.2.1 ∧ HiC hi s.2.2.1) ?_ ?_ (i := 0) (Nat.zero_le _) ⟨rfl, rfl, hR, HiC.refl _⟩ (by omega)
      · rintro i ⟨v, q, g, gl⟩ hi1 ⟨rfl, rfl, rc, hh⟩
        dsimp only at rc hh
        unfold B_LW_linesThatAreShorts_4 J_LW_linesThatAreShorts_34
        dsimp only
        rw [nI_clamp (by omega), rc.sc.t i hi1]
        refine wp_neg (by rw [rc.sc.n]; exact nI_ge hi1 (by omega)) (wp_neg (nI_in' (by omega) (by omega)) ?_)
        refine (c_leastIn hN hw rc (hw.pt i hi1)).bnd (fun x hx => ?_)
        by_cases z : Lst A A.st (A.pt i) = 0
        · refine wp_pos (by rw [hx.1, LsI_0 hw]; exact z) ?_
          rw [wp_some]
          refine ⟨nI_1 i, ?_, rc.ways hx.2, hh.trans (HiC.of hx.2 (by decide))⟩
          dsimp only
          rw [nI_1]
          unfold shoA
          rw [fb_ct_succ, decide_eq_true z]; rfl
        · refine wp_neg (by rw [hx.1, LsI_0 hw]; exact z) ?_
          rw [wp_some]
          refine ⟨nI_1 i, ?_, rc.ways hx.2, hh.trans (HiC.of hx.2 (by decide))⟩
          dsimp only
          unfold shoA
          rw [fb_ct_succ, decide_eq_false z]; rfl
      · rintro ⟨v, q, g, gl⟩ ⟨rfl, rfl, rc, hh⟩
        dsimp only at rc hh
        unfold B_LW_linesThatAreShorts_4
        dsimp only
        refine wp_pos (by rw [rc.sc.n]; exact nI_le (Nat.le_refl _) (by omega)) ?_
        rw [wp_some]
        exact ⟨rfl, rc, hh⟩
  · have go : ∀ s, wp (J_MD_round_35 N (nI w) 0 (nI s) hi hl) (fun z => z.1 = (if w = 0 then nI (fb_sm A.pk A.lines) else if w = 1 then nI (anyA A A.lines) else if w = 2 then nI (allA A s A.lines) else nI (shoA A A.lines)) ∧ RM A z.2.1 ∧ LoC hi z.2.1) := by
      intro s
      unfold J_MD_round_35
      refine wp.bnd (P := fun z => z.1 = nI (anyA A A.lines) ∧ z.2.1 = nI (allA A s A.lines) ∧ z.2.2.1 = nI (shoA A A.lines) ∧ RM A z.2.2.2.1 ∧ LoC hi z.2.2.2.1) ?_ (fun z hz => ?_)
      · refine wp_for A.lines (fun i t => t.1 = nI (anyA A i) ∧ t.2.1 = nI (allA A s i) ∧ t.2.2.1 = nI (shoA A i) ∧ t.2.2.2.1 = nI i ∧ RM A t.2.2.2.2.1 ∧ LoC hi t.2.2.2.2.1) ?_ ?_ (i := 0) (Nat.zero_le _) ⟨rfl, rfl, rfl, rfl, hR, LoC.refl _⟩ (by omega)
        · rintro i ⟨v1, v2, v3, q, g, gl⟩ hi1 ⟨rfl, rfl, rfl, rfl, rm, lo⟩
          dsimp only at rm lo
          unfold B_MD_round_42 J_MD_round_92
          dsimp only
          rw [nI_clamp (by omega), rm.pt i hi1]
          refine wp_neg (by rw [rm.ln]; exact nI_ge hi1 (by omega)) (wp_neg (nI_in' (by omega) (by omega)) ?_)
          refine (m_glows hN hw (hw.pt i hi1) (rm.gb hw)).bnd (fun x hx => ?_)
          obtain ⟨h1, h2, h3, h4⟩ := hx
          have ll : Lst A A.st (A.pt i) ≤ 10000 := by rcases Lst_cases hw A.st (A.pt i) with q | q <;> omega
          rw [h1, fa_or, fa_and]
          by_cases z : Lst A A.st (A.pt i) = 0
          · refine wp_pos (by rw [h4, z]; rfl) ?_
            rw [wp_some]
            refine ⟨rfl, rfl, ?_, nI_1 i, rm.glows h2 h3, lo.trans (LoC.of h2 (by decide))⟩
            dsimp only
            rw [nI_1]
            unfold shoA
            rw [fb_ct_succ, decide_eq_true z]; rfl
          · refine wp_neg (by rw [h4]; exact fun q => z ((nI_eq (b := 0) (by omega) (by omega)).mp q)) ?_
            rw [wp_some]
            refine ⟨rfl, rfl, ?_, nI_1 i, rm.glows h2 h3, lo.trans (LoC.of h2 (by decide))⟩
            dsimp only
            show nI _ + nI 0 = _
            rw [nI_add]
            unfold shoA
            rw [fb_ct_succ, decide_eq_false z]; rfl
        · rintro ⟨v1, v2, v3, q, g, gl⟩ ⟨rfl, rfl, rfl, rfl, rm, lo⟩
          dsimp only at rm lo
          unfold B_MD_round_42
          dsimp only
          refine wp_pos (by rw [rm.ln]; exact nI_le (Nat.le_refl _) (by omega)) ?_
          rw [wp_some]
          exact ⟨rfl, rfl, rfl, rm, lo⟩
      · obtain ⟨z1, z2, z3, z4, z5⟩ := hz
        rcases (show w = 0 ∨ w = 1 ∨ w = 2 ∨ w = 3 by omega) with c | c | c | c
        · refine wp_pos (by rw [c]; rfl) ?_
          rw [z4.ln, m_begin hN hw z4 (Nat.le_refl _), Option.bind_some, wp_some, if_pos c]
          exact ⟨rfl, z4, z5⟩
        · refine wp_neg (by rw [c]; decide) (wp_pos (by rw [c]; rfl) ?_)
          rw [wp_some, c]
          exact ⟨z1, z4, z5⟩
        · refine wp_neg (by rw [c]; decide) (wp_neg (by rw [c]; decide) (wp_pos (by rw [c]; rfl) ?_))
          rw [wp_some, c]
          exact ⟨z2, z4, z5⟩
        · refine wp_neg (by rw [c]; decide) (wp_neg (by rw [c]; decide) (wp_neg (by rw [c]; decide) ?_))
          rw [wp_some, c]
          exact ⟨z3, z4, z5⟩
    unfold f_MD_round
    rw [hb, f]
    simp only [Option.bind_some, b2i_tt, if_false]
    by_cases z : A.lines = 0
    · refine wp_pos (by rw [hR.ln, z]; rfl) ((go 0).mono (fun o ho => by rw [if_pos z]; exact ho))
    · refine wp_neg (by rw [hR.ln]; exact fun q => z ((nI_eq (b := 0) (by omega) (by omega)).mp q)) ?_
      rw [hR.bd.n, all_lamps n16]
      exact (go _).mono (fun o ho => by rw [if_neg z]; exact ho)
theorem tick_line {A : St} : ∀ {n r : Nat}, r < fb_sm A.pk n → ∃ κ, κ < n ∧ fb_sm A.pk κ ≤ r ∧ r < fb_sm A.pk (κ + 1) := by
  intro n
  induction n with
  | zero => intro r h; exact absurd h (Nat.not_lt_zero r)
  | succ n ih =>
    intro r h
    by_cases c : r < fb_sm A.pk n
    · obtain ⟨κ, k1, k2⟩ := ih c
      exact ⟨κ, by omega, k2⟩
    · exact ⟨n, by omega, by omega, h⟩
theorem S_at {N : Nat} (hN : 70000 ≤ N) (p : Int32) : Sim (f_LW_at N p) (f_MD_at N p) := by
  refine Sim.of (fun A hw => ?_)
  have l12 := hw.l12
  have hb : ∀ (hi : HI) (hl : HL), f_MD_in N p.toInt64 0 9999 hi hl = some (b2i (rg p 0 10000), hi, hl) := fun hi hl => e_in32 N p _ _ hi hl (x := 0) (y := 10000) (ltL64 0 (by decide)) (ltL64 9999 (by decide))
  rcases rgE p 0 10000 with ⟨f, f1⟩ | ⟨f, _⟩
  · refine Sim.bad (ans := -1) hw (fun hi hl hR => ?_) (fun hi hl hR => ?_)
    · unfold f_LW_at
      simp (disch := omega) only [lit_I, fa_lt, fa_le, nI_toInt, decide_eq_true_eq]
      repeat' split
      all_goals first | rfl | (exfalso; omega)
    · unfold f_MD_at
      rw [hb, f]; rfl
  obtain ⟨t, _, t1, rfl⟩ := rg_t (by omega) f
  have tk := tk_le hw (Nat.le_refl A.lines)
  have t0 : ¬ nI t < 0 := nI_pos (by omega)
  have t9 : nI t ≤ 9999 := nI_le (b := 9999) (by omega) (by omega)
  by_cases z : A.lines = 0
  · have s0 : fb_sm A.pk A.lines = 0 := by rw [z]; rfl
    refine Sim.bad (ans := -2) hw (fun hi hl hR => ?_) (fun hi hl hR => ?_)
    · unfold f_LW_at
      rw [if_neg t0, if_pos t9, hR.sc.n, e_ticks hN hw hR (Nat.le_refl _), Option.bind_some]
      dsimp only
      rw [if_neg (by rw [s0]; decide)]
    · unfold f_MD_at
      rw [hb, f]
      simp only [Option.bind_some, b2i_tt, if_false]
      rw [if_pos (by rw [hR.ln, z]; rfl)]
  have s1 : 1 ≤ fb_sm A.pk A.lines := by
    have a := fb_sm_part A.pk (i := 0) (n := A.lines) (by omega)
    have b := hw.pk1 0 (by omega)
    omega
  have em : nI t - nI t / nI (fb_sm A.pk A.lines) * nI (fb_sm A.pk A.lines) = nI (t % fb_sm A.pk A.lines) := pk_rem (by omega) (by omega) (by omega)
  have ml : t % fb_sm A.pk A.lines < fb_sm A.pk A.lines := Nat.mod_lt _ (by omega)
  obtain ⟨κ, κ1, κ2, κ3⟩ := tick_line ml
  generalize hr : t % fb_sm A.pk A.lines = r at *
  have sm : ∀ i, i < κ → fb_sm A.pk (i + 1) ≤ r := fun i hi => by
    have := fb_sm_mono A.pk (i + 1) (κ - (i + 1))
    rw [show i + 1 + (κ - (i + 1)) = κ by omega] at this
    omega
  refine ⟨nI (Gt A (A.pt κ)), A, hw, fun hi hl hR => ?_, fun hi hl hR => ?_⟩
  · unfold f_LW_at
    refine wp_neg t0 (wp_pos t9 ?_)
    rw [hR.sc.n, e_ticks hN hw hR (Nat.le_refl _), Option.bind_some]
    dsimp only
    refine wp_pos (nI_le (a := 1) s1 (by omega)) (wp_neg (nI_ne0 (by omega) (by omega)) ?_)
    rw [em]
    have key : wp (lpN (fun s => B_Script_turnAt_4 N s.1 s.2.1 s.2.2.1 s.2.2.2) N (nI r, 0, hi, hl)) (fun z => z = (1, nI κ, hi, hl)) := by
      refine wp_for κ (fun i s => s = (nI (r - fb_sm A.pk i), nI i, hi, hl)) ?_ ?_ (i := 0) (Nat.zero_le _) rfl (by omega)
      · rintro i s hi1 rfl
        unfold B_Script_turnAt_4
        dsimp only
        have s2 := sm i hi1
        rw [fb_sm_succ] at s2
        have pk := hw.pk60 i (by omega)
        have r1 := hR.sc.k i (by omega)
        have ci : (nI i).toNatClampNeg = i := nI_clamp (by omega)
        simp only [ci, r1]
        refine wp_neg (by rw [hR.sc.n]; exact nI_ge (by omega) (by omega)) (wp_neg (nI_in' (by omega) (by omega)) (wp_pos (nI_le (by omega) (by omega)) (wp_neg (nI_in' (by omega) (by omega)) ?_)))
        rw [wp_some, pk_sub (by omega), nI_1, fb_sm_succ, Nat.sub_sub]
      · rintro s rfl
        unfold B_Script_turnAt_4
        dsimp only
        rw [fb_sm_succ] at κ3
        have pk := hw.pk60 κ (by omega)
        have r1 := hR.sc.k κ (by omega)
        have ci : (nI κ).toNatClampNeg = κ := nI_clamp (by omega)
        simp only [ci, r1]
        refine wp_neg (by rw [hR.sc.n]; exact nI_ge (by omega) (by omega)) (wp_neg (nI_in' (by omega) (by omega)) (wp_neg (nI_ge (by omega) (by omega)) ?_))
        rw [wp_some]
    obtain ⟨zz, h1, rfl⟩ := key
    unfold f_Script_turnAt
    rw [h1, Option.bind_some, wp_bind]
    dsimp only
    refine wp_neg (by omega) (wp_neg (nI_in (by omega) (by omega)) ?_)
    rw [wp_some, nI_clamp (by omega)]
    dsimp only
    rw [hR.sc.t κ (by omega)]
    refine (c_lampsIn hN hw hR (hw.pt κ (by omega))).bnd (fun x hx => ?_)
    rw [wp_some]
    exact ⟨hx.1, hR.ways hx.2, HiC.of hx.2 (by decide)⟩
  · unfold f_MD_at
    rw [hb, f]
    simp only [Option.bind_some, b2i_tt, if_false]
    refine wp_neg (by rw [hR.ln]; exact fun q => z ((nI_eq (b := 0) (by omega) (by omega)).mp q)) ?_
    rw [hR.ln, m_begin hN hw hR (Nat.le_refl _), Option.bind_some]
    dsimp only
    refine wp_neg (nI_ne0 (by omega) (by omega)) ?_
    rw [em]
    have key : wp (lpN (fun s => B_MD_at_37 N s.1 s.2.1 s.2.2.1 s.2.2.2) N (nI r, 0, hi, hl)) (fun z => z = (nI κ, hi, hl)) := by
      refine wp_for κ (fun i s => s = (nI (r - fb_sm A.pk i), nI i, hi, hl)) ?_ ?_ (i := 0) (Nat.zero_le _) rfl (by omega)
      · rintro i s hi1 rfl
        unfold B_MD_at_37
        dsimp only
        have s2 := sm i hi1
        rw [fb_sm_succ] at s2
        have pk := hw.pk60 i (by omega)
        have r1 := hR.pk i (by omega)
        have ci : (nI i).toNatClampNeg = i := nI_clamp (by omega)
        simp only [ci, r1]
        refine wp_neg (nI_in' (by omega) (by omega)) (wp_neg (nI_nlt (by omega) (by omega)) (wp_neg (nI_in' (by omega) (by omega)) ?_))
        rw [wp_some, pk_sub (by omega), nI_1, fb_sm_succ, Nat.sub_sub]
      · rintro s rfl
        unfold B_MD_at_37
        dsimp only
        rw [fb_sm_succ] at κ3
        have pk := hw.pk60 κ (by omega)
        have r1 := hR.pk κ (by omega)
        have ci : (nI κ).toNatClampNeg = κ := nI_clamp (by omega)
        simp only [ci, r1]
        refine wp_neg (nI_in' (by omega) (by omega)) (wp_pos (nI_lt (by omega) (by omega)) ?_)
        rw [wp_some]
    obtain ⟨zz, h1, rfl⟩ := key
    rw [h1, Option.bind_some]
    dsimp only
    refine wp_neg (nI_in (by omega) (by omega)) ?_
    rw [nI_clamp (by omega), hR.pt κ (by omega)]
    refine (m_glows hN hw (hw.pt κ (by omega)) (hR.gb hw)).bnd (fun x hx => ?_)
    rw [wp_some]
    exact ⟨hx.1, hR.glows hx.2.1 hx.2.2.1, LoC.of hx.2.1 (by decide)⟩
