/-! shown -/
theorem RC.uni {A : St} {hi h1 : HI} (h : RC A hi) (hs : Sam [38, 39, 40] hi h1) (hu : UnOK A (h1 38) (h1 39)) : RC A h1 := by
  obtain ⟨a1, a2, a3, a4, a5, a6, a7, a8, a9, a10⟩ := h
  have e : ∀ i, i < 8 → h1 (20 + 2 * i) = hi (20 + 2 * i) ∧ h1 (21 + 2 * i) = hi (21 + 2 * i) := by
    intro i hi
    constructor <;> refine hs _ ?_ <;> revert i <;> decide
  have e2 : ∀ i, i < 4 → h1 (57 + 2 * i) = hi (57 + 2 * i) ∧ h1 (58 + 2 * i) = hi (58 + 2 * i) := by
    intro i hi
    constructor <;> refine hs _ ?_ <;> revert i <;> decide
  refine ⟨?_, ?_, ?_, ?_, ?_, hu, ?_, ?_, ?_, ?_⟩
  · rw [hs 1 (by decide), hs 2 (by decide), hs 3 (by decide), hs 4 (by decide), hs 5 (by decide), hs 6 (by decide)]; exact a1
  · rw [hs 12 (by decide), hs 13 (by decide), hs 14 (by decide), hs 15 (by decide), hs 16 (by decide)]; exact a2
  · rw [hs 17 (by decide)]; exact a3
  · rw [hs 18 (by decide)]; exact a4
  · intro i hi
    rw [(e i hi).1, (e i hi).2]; exact a5 i hi
  · rw [hs 43 (by decide), hs 46 (by decide)]; exact a7
  · rw [hs 47 (by decide), hs 48 (by decide), hs 49 (by decide), hs 50 (by decide)]; exact a8
  · rw [hs 51 (by decide), hs 52 (by decide), hs 53 (by decide)]; exact a9
  · intro i hi
    rw [(e2 i hi).1, (e2 i hi).2]; exact a10 i hi
theorem S_shown {N : Nat} (hN : 70000 ≤ N) (p : Int32) : Sim (f_LW_shown N p) (f_MD_shown N p) := by
  refine Sim.of (fun A hw => ?_)
  have n16 := hw.n16
  have p2 := pow2_le n16
  have hb : ∀ (hi : HI) (hl : HL), f_MD_in N p.toInt64 0 16 hi hl = some (b2i (rg p 0 17), hi, hl) := fun hi hl => e_in32 N p _ _ hi hl (x := 0) (y := 17) (ltL64 0 (by decide)) (ltL64 16 (by decide))
  rcases rgE p 0 17 with ⟨e, e1⟩ | ⟨e, _⟩
  · refine Sim.bad (ans := -1) hw (fun hi hl hR => ?_) (fun hi hl hR => ?_)
    · unfold f_LW_shown
      simp (disch := omega) only [lit_I, fa_lt, fa_le, nI_toInt, decide_eq_true_eq]
      repeat' split
      all_goals first | rfl | (exfalso; omega)
    · unfold f_MD_shown
      rw [hb, e]; rfl
  obtain ⟨k, _, k1, rfl⟩ := rg_t (by omega) e
  refine ⟨nI (cntFew A k), A, hw, fun hi hl hR => ?_, fun hi hl hR => ?_⟩
  · unfold f_LW_shown J_LW_shown_48
    refine wp_neg (nI_pos (by omega)) (wp_pos (nI_le (b := 16) (by omega) (by omega)) ?_)
    have ck : (nI k).toNatClampNeg = k := nI_clamp (by omega)
    rw [ck]
    rcases hR.un with z | ⟨z1, z2⟩
    · refine wp_pos z ?_
      refine (c_fillTable hN hw hR).bnd (fun x hx => ?_)
      obtain ⟨r1, r2, tb⟩ := hx
      obtain ⟨K, ks, ts, kn⟩ := tb.kn
      rw [r1.bd.n]
      refine (c_reckon hN hw kn).bnd (fun y hy => ?_)
      refine wp_neg (nI_in' (by omega) (by omega)) ?_
      rw [wp_some]
      exact ⟨hy.2.2 k (by omega), r1.uni hy.1 (Or.inr ⟨hy.2.1, hy.2.2⟩), (HiC.of r2 (by decide)).trans (HiC.of hy.1 (by decide))⟩
    · refine wp_neg (by rw [z1]; decide) (wp_neg (nI_in' (by omega) (by omega)) ?_)
      rw [wp_some]
      exact ⟨z2 k (by omega), hR, HiC.refl _⟩
  · unfold f_MD_shown
    rw [hb, e]
    simp only [Option.bind_some, b2i_tt, if_false]
    refine (m_freshens hN hw hR).bnd (fun x hx => ?_)
    obtain ⟨r1, r2, r3, mf⟩ := hx
    refine wp.bnd (P := fun z => z = (nI (cntFew A k), x.2.1, x.2.2)) ?_ (fun z hz => by subst hz; rw [wp_some]; exact ⟨rfl, r1, r2⟩)
    have e1 : (1 : Int32) <<< (nI A.n &&& 31) = nI (2 ^ A.n) := ni_one (by omega)
    refine wp_for (2 ^ A.n) (fun i s => s = (nI (fb_ct (fun p => decide (Few A p ≤ k)) i), nI i, x.2.1, x.2.2)) ?_ ?_ (i := 0) (Nat.zero_le _) rfl (by omega)
    · rintro i s hi1 rfl
      unfold B_MD_shown_22 J_MD_shown_48
      dsimp only
      rw [nI_clamp (by omega)]
      refine wp_neg (by rw [r1.bd.n, e1]; exact nI_ge hi1 (by omega)) (wp_neg (nI_in' (by omega) (by omega)) ?_)
      have fl := Few_le hw i
      by_cases c : k < Few A i
      · refine wp_pos (by rw [mf.fw i hi1]; exact nI_lt c (by omega)) ?_
        rw [wp_some]
        show (nI _ + nI 0, nI i + 1, x.2.1, x.2.2) = _
        rw [nI_add, nI_1, fb_ct_succ, decide_eq_false (by omega)]; rfl
      · refine wp_neg (by rw [mf.fw i hi1]; exact nI_nlt (by omega) (by omega)) ?_
        rw [wp_some]
        show (nI _ + nI 1, nI i + 1, x.2.1, x.2.2) = _
        rw [nI_add, nI_1, fb_ct_succ, decide_eq_true (by omega)]; rfl
    · rintro s rfl
      unfold B_MD_shown_22
      dsimp only
      refine wp_pos (by rw [r1.bd.n, e1]; exact nI_le (Nat.le_refl _) (by omega)) ?_
      rw [wp_some]; rfl
