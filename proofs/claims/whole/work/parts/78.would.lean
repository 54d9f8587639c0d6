/-! supposed faults -/
def FOK (A : St) (f : Int32) : Prop := f = -4 ∨ ∃ j, j < 2 * A.n ∧ f = nI j
theorem FOK.none (A : St) : FOK A (-4) := Or.inl rfl
theorem FOK.of {A : St} {j : Nat} (h : j < 2 * A.n) : FOK A (nI j) := Or.inr ⟨j, h, rfl⟩
theorem gst_le (f g : Int32) (l : Nat) : gst f g l ≤ 2 := by
  unfold gst
  split
  · have := Nat.mod_lt g.toNatClampNeg (show 0 < 2 by omega); omega
  · split
    · have := Nat.mod_lt f.toNatClampNeg (show 0 < 2 by omega); omega
    · omega
/-- a row of faults behind one fault more -/
def spl (h : Nat → Nat) (f : Int32) (l : Nat) : Nat := if f ≠ -4 ∧ f.toNatClampNeg / 2 = l then 1 + f.toNatClampNeg % 2 else h l
theorem spl_gst (f g : Int32) (l : Nat) : spl (spl (fun _ => 0) f) g l = gst f g l := rfl
theorem c_spoil {N : Nat} {A : St} (hw : WF A) {f : Int32} (hf : FOK A f) {hi : HI} {hl : HL} {h : Nat → Nat} (h54 : ∀ l, l < 16 → hi 54 l = nI (h l)) : wp (f_Guesses_spoil N f hi hl) (fun o => Sam [54] hi o.2.1 ∧ ∀ l, l < 16 → o.2.1 54 l = nI (spl h f l)) := by
  have n16 := hw.n16
  unfold f_Guesses_spoil J_Guesses_spoil_24
  rcases hf with rfl | ⟨j, j1, rfl⟩
  · refine wp_pos rfl ?_
    rw [wp_some]
    refine ⟨Sam.refl _ _, fun l hl => ?_⟩
    unfold spl
    rw [if_neg (fun q => q.1 rfl)]; exact h54 l hl
  · have n4 : ¬ nI j = -4 := by rw [ni_neg4 (by omega)]; exact id
    have e2 : nI j / 2 = nI (j / 2) := pk_div (d := 2) (by omega) (by omega) (by omega)
    have er : nI j - nI j / 2 * 2 = nI (j % 2) := pk_rem (d := 2) (by omega) (by omega) (by omega)
    have cj : (nI j).toNatClampNeg = j := nI_clamp (by omega)
    have key : ∀ v : Int32, v = nI (1 + j % 2) → wp (if nI (j / 2) < 0 ∨ 16 ≤ (nI (j / 2)).toNatClampNeg then none else some ((), wr hi 54 (nI (j / 2)).toNatClampNeg v, hl)) (fun o : Unit × HI × HL => Sam [54] hi o.2.1 ∧ ∀ l, l < 16 → o.2.1 54 l = nI (spl h (nI j) l)) := by
      rintro v rfl
      refine wp_neg (nI_in (by omega) (by omega)) ?_
      rw [wp_some, nI_clamp (by omega)]
      refine ⟨(Sam.refl _ _).wr (by decide), fun l hl => ?_⟩
      dsimp only
      rw [wr_i]
      unfold spl
      rw [cj]
      by_cases c : l = j / 2
      · rw [if_pos c, if_pos ⟨n4, c.symm⟩]
      · rw [if_neg c, if_neg (fun q => c q.2.symm)]; exact h54 l hl
    rw [er, e2]
    refine wp_neg n4 ?_
    by_cases c : j % 2 = 0
    · exact wp_pos (by rw [c]; rfl) (key 1 (by rw [c]; rfl))
    · exact wp_neg (fun q => c ((nI_eq (b := 0) (by omega) (by omega)).mp q)) (key 2 (by rw [show j % 2 = 1 by omega]; rfl))
theorem c_suppose {N : Nat} (hN : 70000 ≤ N) {A : St} (hw : WF A) {f g : Int32} (hf : FOK A f) (hg : FOK A g) {hi : HI} {hl : HL} (bd : Bd A (hi 1) (hi 2) (hi 3) (hi 4) (hi 5) (hi 6)) : wp (f_Guesses_suppose N f g hi hl) (fun o => Sam [7, 8, 9, 54] hi o.2.1 ∧ o.2.1 7 2 = nI A.w ∧ o.2.1 7 3 = nI A.sup ∧ ∃ D L, Mat o.2.1 8 9 D L ∧ Ld (Stg A (gst f g)) D L) := by
  unfold f_Guesses_suppose
  have n16 := hw.n16
  refine (c_fill hN 54 0 rfl (by decide) _ _).bnd (fun x hx => ?_)
  refine (c_spoil hw hf (h := fun _ => 0) (fun l hl => hx.2 l hl)).bnd (fun y hy => ?_)
  refine (c_spoil hw hg hy.2).bnd (fun z hz => ?_)
  have s : Sam [54] hi z.2.1 := Sam.trans hx.1 (Sam.trans hy.1 hz.1 [54] (by decide) (by decide)) _ (by decide) (by decide)
  refine (c_load hN hw (p := 54) (h := gst f g) (by rw [s 1 (by decide), s 2 (by decide), s 3 (by decide), s 4 (by decide), s 5 (by decide), s 6 (by decide)]; exact bd) (fun l hl => hz.2 l (by omega)) (fun l _ => gst_le f g l) rfl (Or.inr (by omega))).bnd (fun u hu => ?_)
  rw [wp_some]
  exact ⟨Sam.trans s hu.1 _ (by decide) (by decide), hu.2⟩
theorem m_guesses {N : Nat} (hN : 70000 ≤ N) {A : St} (hw : WF A) {f g : Int32} (hf : FOK A f) (hg : FOK A g) {hi : HI} {hl : HL} : wp (f_MD_guesses N f g hi hl) (fun o => Sam [89] hi o.2.1 ∧ ∀ l, l < 16 → o.2.1 89 l = nI (gst f g l)) := by
  unfold f_MD_guesses
  have n16 := hw.n16
  refine wp.bnd (P := fun z => Sam [89] hi z.1 ∧ ∀ l, l < 16 → z.1 89 l = 0) ?_ (fun z hz => ?_)
  · refine wp_for 16 (fun i s => s.1 = nI i ∧ Sam [89] hi s.2.1 ∧ ∀ l, l < i → s.2.1 89 l = 0) ?_ ?_ (i := 0) (by omega) ⟨rfl, Sam.refl _ _, fun l hl => by omega⟩ (by omega)
    · rintro i ⟨q, h, l⟩ hi1 ⟨rfl, sm, h0⟩
      dsimp only at sm h0
      unfold B_MD_guesses_2
      dsimp only
      refine wp_neg (nI_ge (b := 16) hi1 (by omega)) (wp_neg (nI_in (by omega) (by omega)) ?_)
      rw [wp_some, nI_clamp (by omega)]
      refine ⟨nI_1 i, sm.wr (by decide), fun l hl => ?_⟩
      dsimp only
      rw [wr_i]
      split
      · rfl
      · exact h0 l (by omega)
    · rintro ⟨q, h, l⟩ ⟨rfl, sm, h0⟩
      dsimp only at sm h0
      unfold B_MD_guesses_2
      dsimp only
      refine wp_pos (nI_le (a := 16) (b := 16) (by omega) (by omega)) ?_
      rw [wp_some]
      exact ⟨sm, h0⟩
  · obtain ⟨z1, z2⟩ := hz
    have val : ∀ j, j < 2 * A.n → nI j / 2 = nI (j / 2) ∧ (1 : Int32) + (nI j - nI j / 2 * 2) = nI (1 + j % 2) := fun j hj => ⟨pk_div (d := 2) (by omega) (by omega) (by omega), by
      rw [show nI j - nI j / 2 * 2 = nI (j % 2) from pk_rem (d := 2) (by omega) (by omega) (by omega)]
      exact nI_add 1 _⟩
    have second : ∀ (h1 : HI) (l1 : HL) (h : Nat → Nat), Sam [89] hi h1 → (∀ l, l < 16 → h1 89 l = nI (h l)) → wp (J_MD_guesses_40 N g h1 l1) (fun o => Sam [89] hi o.2.1 ∧ ∀ l, l < 16 → o.2.1 89 l = nI (spl h g l)) := by
      intro h1 l1 h s1 hh
      unfold J_MD_guesses_40
      rcases hg with rfl | ⟨j, j1, rfl⟩
      · refine wp_pos rfl ?_
        rw [wp_some]
        refine ⟨s1, fun l hl => ?_⟩
        unfold spl
        rw [if_neg (fun q => q.1 rfl)]; exact hh l hl
      · have n4 : ¬ nI j = -4 := by rw [ni_neg4 (by omega)]; exact id
        have cj : (nI j).toNatClampNeg = j := nI_clamp (by omega)
        refine wp_neg n4 ?_
        rw [(val j j1).2, (val j j1).1, nI_clamp (by omega)]
        refine wp_neg (nI_in' (by omega) (by omega)) ?_
        rw [wp_some]
        refine ⟨s1.wr (by decide), fun l hl => ?_⟩
        dsimp only
        rw [wr_i]
        unfold spl
        rw [cj]
        by_cases c : l = j / 2
        · rw [if_pos c, if_pos ⟨n4, c.symm⟩]
        · rw [if_neg c, if_neg (fun q => c q.2.symm)]; exact hh l hl
    rcases hf with rfl | ⟨j, j1, rfl⟩
    · refine wp_pos rfl ((second _ _ (spl (fun _ => 0) (-4)) z1 (fun l hl => ?_)).mono (fun o ho => ho))
      unfold spl
      rw [if_neg (fun q => q.1 rfl), z2 l hl]; rfl
    · have n4 : ¬ nI j = -4 := by rw [ni_neg4 (by omega)]; exact id
      have cj : (nI j).toNatClampNeg = j := nI_clamp (by omega)
      refine wp_neg n4 ?_
      rw [(val j j1).2, (val j j1).1, nI_clamp (by omega)]
      refine wp_neg (nI_in' (by omega) (by omega)) ((second _ _ (spl (fun _ => 0) (nI j)) (z1.wr (by decide)) (fun l hl => ?_)).mono (fun o ho => ho))
      rw [wr_i]
      unfold spl
      rw [cj]
      by_cases c : l = j / 2
      · rw [if_pos c, if_pos ⟨n4, c.symm⟩]
      · rw [if_neg c, if_neg (fun q => c q.2.symm), z2 l hl]; rfl
theorem RM.gb89 {A : St} {hi h1 : HI} (h : RM A hi) {f g : Int32} (hs : Sam [89] hi h1) (hw : WF A) (h89 : ∀ l, l < 16 → h1 89 l = nI (gst f g l)) : RM A h1 ∧ GB A (gst f g) 89 h1 := by
  have n16 := hw.n16
  refine ⟨h.same (fun a ha => hs a (fun q => ?_)) (fun j _ => by rw [hs 65 (by decide)]), ?_⟩
  · simp only [List.mem_cons, List.not_mem_nil, or_false] at q
    subst q; revert ha; decide
  · refine ⟨?_, ?_, ?_, ?_, ?_, ?_, fun l hl => h89 l (by omega), fun l _ => gst_le f g l, rfl, Or.inr rfl⟩
    · rw [hs 65 (by decide)]; exact h.bd.w
    · rw [hs 65 (by decide)]; exact h.bd.s
    · rw [hs 65 (by decide)]; exact h.bd.n
    · rw [hs 66 (by decide)]; exact h.bd.f
    · rw [hs 67 (by decide)]; exact h.bd.t
    · rw [hs 68 (by decide)]; exact h.bd.v
theorem S_would {N : Nat} (hN : 70000 ≤ N) (p f g : Int32) : Sim (f_LW_would N p f g) (f_MD_would N p f g) := by
  refine Sim.of (fun A hw => ?_)
  have w6 := hw.w6
  have n16 := hw.n16
  have p3 := pow3_le w6
  rcases rgE p 0 (3 ^ A.w) with ⟨e, _⟩ | ⟨e, _⟩
  · refine Sim.bad (ans := -1) hw (fun hi hl hR => ?_) (fun hi hl hR => ?_)
    · unfold f_LW_would
      rw [e_isTurn hR.bd.w w6, e]; rfl
    · unfold f_MD_would
      rw [m_isTurn hR.bd.w w6 hN, e]; rfl
  obtain ⟨t, _, t1, rfl⟩ := rg_t (by omega) e
  cases hf : (decide (f = -4) || rg f 0 (2 * A.n)) with
  | false =>
    refine Sim.bad (ans := -1) hw (fun hi hl hR => ?_) (fun hi hl hR => ?_)
    · unfold f_LW_would
      rw [e_isTurn hR.bd.w w6, e]
      simp only [Option.bind_some, b2i_tt, if_false]
      rw [e_isFaultC hR.bd.n n16, hf]; rfl
    · unfold f_MD_would
      rw [m_isTurn hR.bd.w w6 hN, e]
      simp only [Option.bind_some, b2i_tt, if_false]
      rw [m_isFault hR.bd.n n16, hf]; rfl
  | true =>
  cases hg : (decide (g = -4) || rg g 0 (2 * A.n)) with
  | false =>
    refine Sim.bad (ans := -1) hw (fun hi hl hR => ?_) (fun hi hl hR => ?_)
    · unfold f_LW_would
      rw [e_isTurn hR.bd.w w6, e]
      simp only [Option.bind_some, b2i_tt, if_false]
      rw [e_isFaultC hR.bd.n n16, hf]
      simp only [Option.bind_some, b2i_tt, if_false]
      rw [e_isFaultC hR.bd.n n16, hg]; rfl
    · unfold f_MD_would
      rw [m_isTurn hR.bd.w w6 hN, e]
      simp only [Option.bind_some, b2i_tt, if_false]
      rw [m_isFault hR.bd.n n16, hf]
      simp only [Option.bind_some, b2i_tt, if_false]
      rw [m_isFault hR.bd.n n16, hg]; rfl
  | true =>
  have fok : ∀ {x : Int32}, (decide (x = -4) || rg x 0 (2 * A.n)) = true → FOK A x := fun h => by
    rw [Bool.or_eq_true, decide_eq_true_iff] at h
    rcases h with h | h
    · exact Or.inl h
    · obtain ⟨j, _, j1, j2⟩ := rg_t (by omega) h
      exact Or.inr ⟨j, j1, j2⟩
  have ff := fok hf
  have gg := fok hg
  by_cases bad : f ≠ -4 ∧ g ≠ -4 ∧ f / 2 = g / 2
  · refine Sim.bad (ans := -1) hw (fun hi hl hR => ?_) (fun hi hl hR => ?_)
    · unfold f_LW_would
      rw [e_isTurn hR.bd.w w6, e]
      simp only [Option.bind_some, b2i_tt, if_false]
      rw [e_isFaultC hR.bd.n n16, hf]
      simp only [Option.bind_some, b2i_tt, if_false]
      rw [e_isFaultC hR.bd.n n16, hg]
      simp only [Option.bind_some, b2i_tt, if_false]
      rw [if_neg bad.1, if_neg bad.2.1, if_pos bad.2.2]
    · unfold f_MD_would
      rw [m_isTurn hR.bd.w w6 hN, e]
      simp only [Option.bind_some, b2i_tt, if_false]
      rw [m_isFault hR.bd.n n16, hf]
      simp only [Option.bind_some, b2i_tt, if_false]
      rw [m_isFault hR.bd.n n16, hg]
      simp only [Option.bind_some, b2i_tt, if_false]
      rw [if_neg bad.1, if_neg bad.2.1, if_pos bad.2.2]
  · refine ⟨nI (GM A (gst f g) t), A, hw, fun hi hl hR => ?_, fun hi hl hR => ?_⟩
    · have go : wp (J_LW_would_58 N (nI t) f g hi hl) (fun o => o.1 = nI (GM A (gst f g) t) ∧ RC A o.2.1 ∧ HiC hi o.2.1) := by
        unfold J_LW_would_58
        refine (c_suppose hN hw ff gg hR.bd).bnd (fun x hx => ?_)
        obtain ⟨s1, x2, x3, D, L, mt, ld⟩ := hx
        refine (c_solve hN hw t1 x2 x3 mt ld).bnd (fun y hy => ?_)
        have s : Sam [7, 8, 9, 10, 11, 54] hi y.2.1 := Sam.trans s1 hy.1 _ (by decide) (by decide)
        rw [wp_some]
        exact ⟨hy.2.2.2.2, hR.sam s (by decide), HiC.of s (by decide)⟩
      unfold f_LW_would
      rw [e_isTurn hR.bd.w w6, e]
      simp only [Option.bind_some, b2i_tt, if_false]
      rw [e_isFaultC hR.bd.n n16, hf]
      simp only [Option.bind_some, b2i_tt, if_false]
      rw [e_isFaultC hR.bd.n n16, hg]
      simp only [Option.bind_some, b2i_tt, if_false]
      by_cases c1 : f = -4
      · exact wp_pos c1 go
      · refine wp_neg c1 ?_
        by_cases c2 : g = -4
        · exact wp_pos c2 go
        · exact wp_neg c2 (wp_neg (fun q => bad ⟨c1, c2, q⟩) go)
    · have go : wp (J_MD_would_47 N (nI t) f g hi hl) (fun o => o.1 = nI (GM A (gst f g) t) ∧ RM A o.2.1 ∧ LoC hi o.2.1) := by
        unfold J_MD_would_47
        refine (m_guesses hN hw ff gg).bnd (fun x hx => ?_)
        obtain ⟨rm, gb⟩ := hR.gb89 hx.1 hw hx.2
        refine (m_glows hN hw t1 gb).bnd (fun y hy => ?_)
        rw [wp_some]
        exact ⟨hy.1, rm.glows hy.2.1 hy.2.2.1, (LoC.of hx.1 (by decide)).trans (LoC.of hy.2.1 (by decide))⟩
      unfold f_MD_would
      rw [m_isTurn hR.bd.w w6 hN, e]
      simp only [Option.bind_some, b2i_tt, if_false]
      rw [m_isFault hR.bd.n n16, hf]
      simp only [Option.bind_some, b2i_tt, if_false]
      rw [m_isFault hR.bd.n n16, hg]
      simp only [Option.bind_some, b2i_tt, if_false]
      by_cases c1 : f = -4
      · exact wp_pos c1 go
      · refine wp_neg c1 ?_
        by_cases c2 : g = -4
        · exact wp_pos c2 go
        · exact wp_neg c2 (wp_neg (fun q => bad ⟨c1, c2, q⟩) go)
