/-! tells of the reference -/
theorem m_gs {N : Nat} (hN : 70000 ≤ N) {A : St} (hw : WF A) {f g : Int32} (hf : FOK A f) (hg : FOK A g) {hi h0 : HI} {hl : HL} (hR : RM A hi) (lo : LoC h0 hi) : wp (f_MD_guesses N f g hi hl) (fun o => RM A o.2.1 ∧ LoC h0 o.2.1 ∧ GB A (gst f g) 89 o.2.1 ∧ Sam [89] hi o.2.1) := by
  refine (m_guesses hN hw hf hg).mono (fun o ho => ?_)
  obtain ⟨r1, r2⟩ := hR.gb89 ho.1 hw ho.2
  exact ⟨r1, lo.trans (LoC.of ho.1 (by decide)), r2, ho.1⟩
theorem m_gl {N : Nat} (hN : 70000 ≤ N) {A : St} (hw : WF A) {h : Nat → Nat} {t : Nat} (ht : t < 3 ^ A.w) {hi h0 : HI} {hl : HL} (hR : RM A hi) (lo : LoC h0 hi) (gb : GB A h 89 hi) : wp (f_MD_glows N (nI t) 89 hi hl) (fun o => o.1 = nI (GM A h t) ∧ RM A o.2.1 ∧ LoC h0 o.2.1 ∧ Sam [65, 71, 72, 73] hi o.2.1 ∧ ∀ j, j ≠ 12 → o.2.1 65 j = hi 65 j) := by
  refine (m_glows hN hw ht gb).mono (fun o ho => ?_)
  exact ⟨ho.1, hR.glows ho.2.1 ho.2.2.1, lo.trans (LoC.of ho.2.1 (by decide)), ho.2.1, ho.2.2.1⟩
theorem m_telIn {N : Nat} (hN : 70000 ≤ N) {A : St} (hw : WF A) {f : Nat} (hf : f < 2 * A.n) {hi h0 : HI} {hl : HL} (hR : RM A hi) (lo : LoC h0 hi) (v1 v2 v3 : Int32) : wp (lpN (fun s => B_MD_tells_37 N v1 v2 v3 (nI f) s.1 s.2.1 s.2.2.1 s.2.2.2) N (0, 0, hi, hl)) (fun o => RM A o.2.1 ∧ LoC h0 o.2.1 ∧ ((o.1 = 1 ∧ Tells A f) ∨ (o.1 = 0 ∧ ¬ Tells A f))) := by
  have l12 := hw.l12
  have g31 : ∀ h t, GM A h t < 2 ^ 31 := fun h t => Nat.lt_of_lt_of_le (GM_lt A h t) (Nat.le_trans (pow2_le hw.n16) (by omega))
  refine wp_for A.lines (fun k s => s.2.1 = nI k ∧ RM A s.2.2.1 ∧ LoC h0 s.2.2.1 ∧ ((s.1 = 1 ∧ Tells A f) ∨ (s.1 = 0 ∧ ∀ j, j < k → GM A (gst (nI f) (-4)) (A.pt j) = GM A (gst (-4) (-4)) (A.pt j)))) ?_ ?_ (i := 0) (Nat.zero_le _) ⟨rfl, hR, lo, Or.inr ⟨rfl, fun j hj => by omega⟩⟩ (by omega)
  · rintro k ⟨c, q, g, gl⟩ hk ⟨rfl, rm, lc, h⟩
    dsimp only at rm lc h
    unfold B_MD_tells_37 J_MD_tells_104 J_MD_tells_109
    dsimp only
    refine wp_neg (by rw [rm.ln]; exact nI_ge hk (by omega)) ?_
    refine (m_gs hN hw (FOK.none A) (FOK.none A) rm lc).bnd (fun x hx => ?_)
    obtain ⟨x1, x2, x3, _⟩ := hx
    rw [nI_clamp (by omega), x1.pt k hk]
    refine wp_neg (nI_in' (by omega) (by omega)) ?_
    refine (m_gl hN hw (hw.pt k hk) x1 x2 x3).bnd (fun y hy => ?_)
    obtain ⟨y0, y1, y2, _⟩ := hy
    refine (m_gs hN hw (FOK.of hf) (FOK.none A) y1 y2).bnd (fun u hu => ?_)
    obtain ⟨u1, u2, u3, _⟩ := hu
    rcases h with ⟨c1, tl⟩ | ⟨c0, all⟩
    · refine wp_neg (by rw [c1]; decide) ?_
      rw [wp_some]
      exact ⟨nI_1 k, u1, u2, Or.inl ⟨rfl, tl⟩⟩
    · refine wp_pos c0 (wp_neg (nI_in' (by omega) (by omega)) ?_)
      rw [u1.pt k hk]
      refine (m_gl hN hw (hw.pt k hk) u1 u2 u3).bnd (fun v hv => ?_)
      obtain ⟨v0, v1, v2, _⟩ := hv
      by_cases c : GM A (gst (nI f) (-4)) (A.pt k) = GM A (gst (-4) (-4)) (A.pt k)
      · refine wp_pos (by rw [v0, y0, c]) ?_
        rw [wp_some]
        refine ⟨nI_1 k, v1, v2, Or.inr ⟨rfl, fun j hj => ?_⟩⟩
        by_cases e : j = k
        · rw [e]; exact c
        · exact all j (by omega)
      · refine wp_neg (by rw [v0, y0]; exact fun q => c ((nI_eq (g31 _ _) (g31 _ _)).mp q)) ?_
        rw [wp_some]
        exact ⟨nI_1 k, v1, v2, Or.inl ⟨rfl, k, hk, c⟩⟩
  · rintro ⟨c, q, g, gl⟩ ⟨rfl, rm, lc, h⟩
    dsimp only at rm lc h
    unfold B_MD_tells_37
    dsimp only
    refine wp_pos (by rw [rm.ln]; exact nI_le (Nat.le_refl _) (by omega)) ?_
    rw [wp_some]
    refine ⟨rm, lc, ?_⟩
    rcases h with h | ⟨c0, all⟩
    · exact Or.inl h
    · exact Or.inr ⟨c0, fun ⟨k, k1, k2⟩ => k2 (all k k1)⟩
theorem m_tel {N : Nat} (hN : 70000 ≤ N) {A : St} (hw : WF A) {hi h0 : HI} {hl : HL} (hR : RM A hi) (lo : LoC h0 hi) (v1 : Int32) : wp (lpN (fun s => B_MD_tells_20 N v1 s.1 s.2.1 s.2.2.1 s.2.2.2.1 s.2.2.2.2) N (0, (-4), 0, hi, hl)) (fun o => o.1 = nI (telN A) ∧ o.2.1 = telF A ∧ RM A o.2.2.1 ∧ LoC h0 o.2.2.1) := by
  have n16 := hw.n16
  have e2 : (2 : Int32) * nI A.n = nI (2 * A.n) := pk_mul 2 A.n
  refine wp_for (2 * A.n) (fun f s => s.2.2.1 = nI f ∧ RM A s.2.2.2.1 ∧ LoC h0 s.2.2.2.1 ∧ s.1 = nI (fb_ct (fun f => cD (Tells A f)) f) ∧ s.2.1 = fstA (fun j => j < f ∧ ¬ Tells A j)) ?_ ?_ (i := 0) (Nat.zero_le _) ⟨rfl, hR, lo, rfl, (fstA_none (fun t q => by omega)).symm⟩ (by omega)
  · rintro f ⟨m, ft, q, g, gl⟩ hf ⟨rfl, rm, lc, h1, h2⟩
    dsimp only at rm lc h1 h2
    unfold B_MD_tells_20 J_MD_tells_128 J_MD_tells_146 J_MD_tells_147
    dsimp only
    refine wp_neg (by rw [rm.bd.n, e2]; exact nI_ge hf (by omega)) ?_
    refine (m_telIn hN hw hf rm lc v1 m ft).bnd (fun x hx => ?_)
    obtain ⟨x1, x2, x3⟩ := hx
    rcases x3 with ⟨x3, tl⟩ | ⟨x3, tl⟩
    · refine wp_neg (by rw [x3]; decide) (wp_neg (by rw [x3]; decide) ?_)
      rw [wp_some]
      refine ⟨nI_1 f, x1, x2, ?_, ?_⟩
      · dsimp only; rw [h1, nI_1, fb_ct_succ, cD_t.mpr tl]; rfl
      · dsimp only; rw [h2, fst_no (Q := fun j => ¬ Tells A j) (fun q => q tl)]
    · refine wp_pos x3 (wp_pos x3 ?_)
      have c6 : fb_ct (fun f => cD (Tells A f)) (f + 1) = fb_ct (fun f => cD (Tells A f)) f := by rw [fb_ct_succ, cD_f.mpr tl]; rfl
      have fy := fst_yes (Q := fun j => ¬ Tells A j) (f := f) (by omega) tl
      have h0' : m + 0 = nI (fb_ct (fun f => cD (Tells A f)) (f + 1)) := by rw [c6, h1]; exact nI_add _ 0
      by_cases c : fstA (fun j => j < f ∧ ¬ Tells A j) = -4
      · rw [if_pos c] at fy
        refine wp_pos (by rw [h2]; exact c) ?_
        rw [wp_some]
        exact ⟨nI_1 f, x1, x2, h0', fy.symm⟩
      · rw [if_neg c] at fy
        refine wp_neg (by rw [h2]; exact c) ?_
        rw [wp_some]
        exact ⟨nI_1 f, x1, x2, h0', h2.trans fy.symm⟩
  · rintro ⟨m, ft, q, g, gl⟩ ⟨rfl, rm, lc, h1, h2⟩
    dsimp only at rm lc h1 h2
    unfold B_MD_tells_20
    dsimp only
    refine wp_pos (by rw [rm.bd.n, e2]; exact nI_le (Nat.le_refl _) (by omega)) ?_
    rw [wp_some]
    exact ⟨h1, h2, rm, lc⟩
theorem S_tells {N : Nat} (hN : 70000 ≤ N) (p : Int32) : Sim (f_LW_tells N p) (f_MD_tells N p) := by
  refine Sim.of (fun A hw => ?_)
  have ein : ∀ hi hl, f_MD_in N p.toInt64 0 1 hi hl = some (b2i (rg p 0 2), hi, hl) := fun hi hl => e_in32 N p _ _ hi hl (x := 0) (y := 2) (ltL64 0 (by decide)) (ltL64 1 (by decide))
  have key : ∀ v : Int32, (v = 0 ∨ v = 1) → ∀ hi hl, RC A hi → wp (J_LW_tells_11 N v hi hl) (fun o => o.1 = (if v = 0 then nI (telN A) else telF A) ∧ RC A o.2.1 ∧ HiC hi o.2.1) := by
    intro v hv hi hl hR
    unfold J_LW_tells_11
    refine (c_weigh hN hw hR).bnd (fun x hx => ?_)
    obtain ⟨x1, x2, x3, x4⟩ := hx
    by_cases c : v = 0
    · rw [if_pos c, if_pos c]
      rw [wp_some]
      exact ⟨x3, x1, x2⟩
    · rw [if_neg c, if_neg c]
      rw [wp_some]
      exact ⟨x4, x1, x2⟩
  have p01 : rg p 0 2 = true → p = 0 ∨ p = 1 := fun h => by
    obtain ⟨j, _, j2, rfl⟩ := rg_t (by omega) h
    rcases j with _ | _ | j
    · exact Or.inl rfl
    · exact Or.inr rfl
    · omega
  cases e : rg p 0 2 with
  | false =>
    refine Sim.bad (ans := -1) hw (fun hi hl hR => ?_) (fun hi hl hR => ?_)
    · unfold f_LW_tells
      rw [if_neg (fun q => by rw [q] at e; revert e; decide), if_neg (fun q => by rw [q] at e; revert e; decide)]
    · unfold f_MD_tells
      rw [ein, e]; rfl
  | true =>
    refine ⟨if p = 0 then nI (telN A) else telF A, A, hw, fun hi hl hR => ?_, fun hi hl hR => ?_⟩
    · unfold f_LW_tells
      rcases p01 e with c | c
      · rw [if_pos c]; exact key p (p01 e) hi hl hR
      · rw [if_neg (by rw [c]; decide), if_pos c]; exact key p (p01 e) hi hl hR
    · unfold f_MD_tells
      rw [ein, e]
      simp only [Option.bind_some, b2i_tt, if_false]
      refine (m_tel hN hw hR (LoC.refl hi) p).bnd (fun x hx => ?_)
      obtain ⟨x1, x2, x3, x4⟩ := hx
      by_cases c : p = 0
      · rw [if_pos c, if_pos c, wp_some]
        exact ⟨x1, x3, x4⟩
      · rw [if_neg c, if_neg c, wp_some]
        exact ⟨x2, x3, x4⟩
