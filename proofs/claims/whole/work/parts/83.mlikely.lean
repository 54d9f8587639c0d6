/-! likely of the reference -/
abbrev RkM (A : St) (h0 : HI) (d : Int32) (L : List (Int32 × Int32)) (h : HI) : Prop :=
  (RM A h) ∧
  (LoC h0 h) ∧
  (h 65 40 = d) ∧
  (Rk L (h 65 39) (h 90) (h 91))
theorem RkM.r {A : St} {h0 : HI} {d : Int32} {L : List (Int32 × Int32)} {h : HI} (h_ : RkM A h0 d L h) : RM A h := h_.1
theorem RkM.l {A : St} {h0 : HI} {d : Int32} {L : List (Int32 × Int32)} {h : HI} (h_ : RkM A h0 d L h) : LoC h0 h := h_.2.1
theorem RkM.d {A : St} {h0 : HI} {d : Int32} {L : List (Int32 × Int32)} {h : HI} (h_ : RkM A h0 d L h) : h 65 40 = d := h_.2.2.1
theorem RkM.k {A : St} {h0 : HI} {d : Int32} {L : List (Int32 × Int32)} {h : HI} (h_ : RkM A h0 d L h) : Rk L (h 65 39) (h 90) (h 91) := h_.2.2.2
theorem m_expl {N : Nat} (hN : 70000 ≤ N) {A : St} (hw : WF A) {f g : Int32} (hf : FOK A f) (hg : FOK A g) {h0 hi : HI} {hl : HL} {d : Int32} {L : List (Int32 × Int32)} (r : RkM A h0 d L hi) : wp (f_MD_explains N f g hi hl) (fun o => RkM A h0 d L o.2.1 ∧ ((o.1 = 1 ∧ Expl A f g) ∨ (o.1 = 0 ∧ ¬ Expl A f g))) := by
  have l12 := hw.l12
  unfold f_MD_explains
  obtain ⟨r1, r2, r3, r4⟩ := r
  refine (m_gs hN hw hf hg r1 r2).bnd (fun x hx => ?_)
  obtain ⟨x1, x2, x3, x4⟩ := hx
  have rx : RkM A h0 d L x.2.1 := ⟨x1, x2, by rw [x4 65 (by decide)]; exact r3, by rw [x4 65 (by decide), x4 90 (by decide), x4 91 (by decide)]; exact r4⟩
  refine wp.bnd (P := fun o => RkM A h0 d L o.2.1 ∧ ((o.1 = 1 ∧ Expl A f g) ∨ (o.1 = 0 ∧ ¬ Expl A f g))) ?_ (fun z hz => ?_)
  · refine wp_for A.lines (fun k s => s.2.1 = nI k ∧ RkM A h0 d L s.2.2.1 ∧ GB A (gst f g) 89 s.2.2.1 ∧ ((s.1 = 1 ∧ ∀ j, j < k → A.sn j ≠ -4 → A.sn j = nI (GM A (gst f g) (A.pt j))) ∨ (s.1 = 0 ∧ ¬ Expl A f g))) ?_ ?_ (i := 0) (Nat.zero_le _) ⟨rfl, rx, x3, Or.inl ⟨rfl, fun j hj => by omega⟩⟩ (by omega)
    · rintro k ⟨v, q, h1, l1⟩ hk ⟨rfl, rr, gb, h⟩
      dsimp only at rr gb h
      unfold B_MD_explains_11 J_MD_explains_61 J_MD_explains_66
      dsimp only
      refine wp_neg (by rw [rr.r.ln]; exact nI_ge hk (by omega)) ?_
      rcases h with ⟨v1, h⟩ | ⟨v0, ne⟩
      · refine wp_neg (by rw [v1]; decide) ?_
        have r83 : h1 83 k = nI (A.pt k) := rr.r.pt k hk
        have r85 : h1 85 k = A.sn k := rr.r.sn k hk
        rw [nI_clamp (by omega), r83]
        refine wp_neg (nI_in' (by omega) (by omega)) ?_
        by_cases c4 : A.sn k = -4
        · refine wp_pos (by rw [r85]; exact c4) ?_
          rw [wp_some]
          refine ⟨nI_1 k, rr, gb, Or.inl ⟨rfl, fun j hj hn => ?_⟩⟩
          by_cases e : j = k
          · exact absurd (e ▸ c4) hn
          · exact h j (by omega) hn
        · refine wp_neg (by rw [r85]; exact c4) (wp_neg (nI_in' (by omega) (by omega)) ?_)
          refine (m_gl hN hw (hw.pt k hk) rr.r rr.l gb).bnd (fun y hy => ?_)
          obtain ⟨y0, y1, y2, y3, y4⟩ := hy
          have y85 : y.2.1 85 k = A.sn k := y1.sn k hk
          have ry : RkM A h0 d L y.2.1 := ⟨y1, y2, by rw [y4 40 (by omega)]; exact rr.d, by rw [y4 39 (by omega), y3 90 (by decide), y3 91 (by decide)]; exact rr.k⟩
          have gy : GB A (gst f g) 89 y.2.1 := by
            obtain ⟨a1, a2, a3, a4, a5, a6, a7, a8, a9, b1⟩ := gb
            exact ⟨y1.bd.w, y1.bd.s, y1.bd.n, y1.bd.f, y1.bd.t, y1.bd.v, by rw [y3 89 (by decide)]; exact a7, a8, a9, b1⟩
          refine wp_neg (nI_in' (by omega) (by omega)) ?_
          by_cases c : A.sn k = nI (GM A (gst f g) (A.pt k))
          · refine wp_pos (by rw [y0, y85, c]) ?_
            rw [wp_some]
            refine ⟨nI_1 k, ry, gy, Or.inl ⟨rfl, fun j hj hn => ?_⟩⟩
            by_cases e : j = k
            · rw [e]; exact c
            · exact h j (by omega) hn
          · refine wp_neg (by rw [y0, y85]; exact fun q => c q.symm) ?_
            rw [wp_some]
            exact ⟨nI_1 k, ry, gy, Or.inr ⟨rfl, fun q => c (q k hk c4)⟩⟩
      · refine wp_pos v0 ?_
        rw [wp_some]
        exact ⟨rr, Or.inr ⟨v0, ne⟩⟩
    · rintro ⟨v, q, h1, l1⟩ ⟨rfl, rr, gb, h⟩
      dsimp only at rr gb h
      unfold B_MD_explains_11
      dsimp only
      refine wp_pos (by rw [rr.r.ln]; exact nI_le (Nat.le_refl _) (by omega)) ?_
      rw [wp_some]
      exact ⟨rr, h⟩
  · obtain ⟨z1, z2⟩ := hz
    refine wp_pos (by rcases z2 with ⟨e, _⟩ | ⟨e, _⟩ <;> rw [e] <;> decide) ?_
    rw [wp_some]
    exact ⟨z1, z2⟩
theorem m_tries {N : Nat} (hN : 70000 ≤ N) {A : St} (hw : WF A) {h0 : HI} {d : Int32} : Tr A 65 (f_MD_tries N) (RkM A h0 d) := by
  refine ⟨fun L h r => r.r.bd.n, fun f g L h l hf hg hL r => ?_⟩
  unfold f_MD_tries
  refine (m_expl hN hw hf hg r).bnd (fun y hy => ?_)
  obtain ⟨y1, y2⟩ := hy
  unfold exS
  rcases y2 with ⟨y2, ex⟩ | ⟨y2, ex⟩
  · rw [if_pos (cD_t.mpr ex)]
    have e2 : y.2.1 65 39 = nI L.length := y1.k.1
    have ew : ∀ v, (wr y.2.1 90 L.length v) 65 39 = nI L.length := fun v => by rw [wr_o (by omega)]; exact e2
    refine wp_neg (by rw [y2]; decide) ?_
    rw [e2, nI_clamp (by omega), ew, nI_clamp (by omega)]
    rw [if_neg (nI_in' (by omega) (by omega)), if_neg (nI_in' (by omega) (by omega)), wp_some]
    refine ⟨y1.r.same (fun a ha => ?_) (fun j hj => ?_), ((y1.l.wr (by omega)).wr (by omega)).wr (by omega), ?_, ?_⟩
    · dsimp only
      have n65 : a ≠ 65 := fun q => by subst q; revert ha; decide
      have n90 : a ≠ 90 := fun q => by subst q; revert ha; decide
      have n91 : a ≠ 91 := fun q => by subst q; revert ha; decide
      rw [wr_o n65, wr_o n91, wr_o n90]
    · dsimp only
      have n39 : j ≠ 39 := fun q => by subst q; revert hj; decide
      rw [wr_k n39, wr_o (by omega), wr_o (by omega)]
    · dsimp only; rw [wr_k (by omega), wr_o (by omega), wr_o (by omega)]; exact y1.d
    · dsimp only
      have r := y1.k.snoc (a := f) (b := g) (f1 := (wr (wr (wr y.2.1 90 L.length f) 91 L.length g) 65 39 (nI L.length + 1)) 90) (s1 := (wr (wr (wr y.2.1 90 L.length f) 91 L.length g) 65 39 (nI L.length + 1)) 91) (fun j => by rw [wr_o (by omega), wr_o (by omega), wr_i]) (fun j => by rw [wr_o (by omega), wr_i, wr_o (by omega)])
      rw [e2] at r
      have e3 : (wr (wr y.2.1 90 L.length f) 91 L.length g) 65 39 = nI L.length := by rw [wr_o (by omega), wr_o (by omega)]; exact e2
      rw [e3, wr_s]; exact r
  · have nx : ¬ cD (Expl A f g) = true := by rw [cD_f.mpr ex]; decide
    rw [if_neg nx]
    refine wp_pos y2 ?_
    rw [wp_some]
    exact y1
theorem RkM.set {A : St} {h0 h : HI} {d e : Int32} {L : List (Int32 × Int32)} (r : RkM A h0 d L h) : RkM A h0 e L (wr h 65 40 e) := by
  refine ⟨r.r.same (fun a ha => ?_) (fun j hj => ?_), r.l.wr (by omega), wr_s _ _ _ _, ?_⟩
  · have n65 : a ≠ 65 := fun q => by subst q; revert ha; decide
    rw [wr_o n65]
  · have n40 : j ≠ 40 := fun q => by subst q; revert hj; decide
    rw [wr_k n40]
  · rw [wr_k (by omega), wr_o (by omega), wr_o (by omega)]; exact r.k
theorem m_findLikely {N : Nat} (hN : 70000 ≤ N) {A : St} (hw : WF A) {hi : HI} {hl : HL} (hR : RM A hi) : wp (f_MD_findLikely N hi hl) (fun o => ∃ d, RkM A hi d (glL A) o.2.1 ∧ (if (glL A).isEmpty then -4 else d) = glF A) := by
  unfold f_MD_findLikely
  obtain ⟨gl_0, gl_1, gl_2⟩ := gl_len hw
  have r0 : RkM A hi 0 [] (wr (wr hi 65 39 0) 65 40 0) := by
    refine RkM.set (d := hi 65 40) ⟨hR.same (fun a ha => ?_) (fun j hj => ?_), (LoC.refl hi).wr (by omega), ?_, ?_⟩
    · have n65 : a ≠ 65 := fun q => by subst q; revert ha; decide
      rw [wr_o n65]
    · have n39 : j ≠ 39 := fun q => by subst q; revert hj; decide
      rw [wr_k n39]
    · rw [wr_k (by omega)]
    · rw [wr_s]; exact Rk.nil _ _
  refine ((m_tries hN hw).2 (-4) (-4) [] _ hl (FOK.none A) (FOK.none A) (by decide) r0).bnd (fun x hx => ?_)
  rw [gl0_eq] at hx
  have x2 : x.2.1 65 39 = nI (gl0 A).length := hx.k.1
  by_cases c0 : (gl0 A).isEmpty = true
  · refine wp_pos (by rw [x2]; exact (emp_0 (by omega)).mpr c0) ?_
    have n0 : gl0 A = [] := List.isEmpty_iff.mp c0
    rw [n0] at hx
    refine (lk_one hN hw (m_tries hN hw) (l := x.2.2) (hx.set (e := 1))).bnd (fun v hv => ?_)
    have v2 : v.1 65 39 = nI (gl1 A).length := hv.k.1
    unfold J_MD_findLikely_55
    by_cases c1 : (gl1 A).isEmpty = true
    · refine wp_pos (by rw [v2]; exact (emp_0 (by omega)).mpr c1) ?_
      have n1 : gl1 A = [] := List.isEmpty_iff.mp c1
      rw [n1] at hv
      refine (lk_two hN hw (m_tries hN hw) (l := v.2) (hv.set (e := 2))).bnd (fun u hu => ?_)
      rw [wp_some]
      have eL : gl2 A = glL A := by unfold glL; rw [if_pos c0, if_pos c1]
      rw [eL] at hu
      refine ⟨2, hu, ?_⟩
      unfold glF
      rw [if_pos c0, if_pos c1, eL]
    · refine wp_neg (by rw [v2]; exact fun q => c1 ((emp_0 (by omega)).mp q)) ?_
      rw [wp_some]
      have eL : gl1 A = glL A := by unfold glL; rw [if_pos c0, if_neg c1]
      rw [eL] at hv c1
      refine ⟨1, hv, ?_⟩
      unfold glF
      rw [if_neg c1, if_pos c0, eL, if_neg c1]
  · refine wp_neg (by rw [x2]; exact fun q => c0 ((emp_0 (by omega)).mp q)) ?_
    unfold J_MD_findLikely_55
    refine wp_neg (by rw [x2]; exact fun q => c0 ((emp_0 (by omega)).mp q)) ?_
    rw [wp_some]
    have eL : gl0 A = glL A := by unfold glL; rw [if_neg c0]
    rw [eL] at hx c0
    refine ⟨0, hx, ?_⟩
    unfold glF
    rw [if_neg c0, eL, if_neg c0]
noncomputable def lkA (A : St) (q : Nat) : Int32 := if q = 0 then glF A else if q = 1 then nI (glL A).length else if q % 1000 < (glL A).length then (if 2000 ≤ q then ((glL A).getD (q % 1000) (0, 0)).2 else ((glL A).getD (q % 1000) (0, 0)).1) else -1
theorem S_likely {N : Nat} (hN : 70000 ≤ N) (p : Int32) : Sim (f_LW_likely N p) (f_MD_likely N p) := by
  refine Sim.of (fun A hw => ?_)
  have ein : ∀ hi hl, f_MD_in N p.toInt64 0 1 hi hl = some (b2i (rg p 0 2), hi, hl) := fun hi hl => e_in32 N p _ _ hi hl (x := 0) (y := 2) (ltL64 0 (by decide)) (ltL64 1 (by decide))
  have ein2 : ∀ hi hl, f_MD_in N p.toInt64 1000 2999 hi hl = some (b2i (rg p 1000 3000), hi, hl) := fun hi hl => e_in32 N p _ _ hi hl (x := 1000) (y := 3000) (ltL64 1000 (by decide)) (ltL64 2999 (by decide))
  have lL : (glL A).length ≤ 480 := by
    obtain ⟨g0, g1, g2⟩ := gl_len hw
    unfold glL
    split
    · split
      · exact g2
      · omega
    · omega
  have er : ∀ q, q < 3000 → nI q - nI q / 1000 * 1000 = nI (q % 1000) := fun q hq => pk_rem (d := 1000) (by omega) (by omega) (by omega)
  have good : ∀ q, (q < 2 ∨ 1000 ≤ q ∧ q < 3000) → p = nI q → CC (f_LW_likely N p) A (lkA A q) A ∧ ∀ hi hl, RM A hi → wp (J_MD_likely_26 N p hi hl) (fun o => o.1 = lkA A q ∧ RM A o.2.1 ∧ LoC hi o.2.1) := by
    intro q hq ep
    subst ep
    refine ⟨fun hi hl hR => ?_, fun hi hl hR => ?_⟩
    · unfold f_LW_likely
      refine (c_list hN hw hR).bnd (fun x hx => ?_)
      obtain ⟨x1, x2, x3, x4, x5, x6⟩ := hx
      rw [er q (by omega)]
      by_cases q0 : q = 0
      · refine wp_pos (by rw [q0]; rfl) ?_
        rw [wp_some]
        exact ⟨by unfold lkA; rw [if_pos q0]; exact x3, x1, x2⟩
      refine wp_neg (fun h => q0 ((nI_eq (b := 0) (by omega) (by omega)).mp h)) ?_
      by_cases q1 : q = 1
      · refine wp_pos (by rw [q1]; rfl) ?_
        rw [wp_some]
        exact ⟨by unfold lkA; rw [if_neg q0, if_pos q1]; exact x4, x1, x2⟩
      refine wp_neg (fun h => q1 ((nI_eq (b := 1) (by omega) (by omega)).mp h)) ?_
      have m1 := Nat.mod_lt q (show 0 < 1000 by omega)
      refine wp_neg (nI_nlt (a := q) (b := 1000) (by omega) (by omega)) ?_
      by_cases q2 : 2000 ≤ q
      · refine wp_pos (nI_le (a := 2000) (b := q) q2 (by omega)) ?_
        unfold J_LW_likely_85
        refine wp_neg (nI_nlt (a := q) (b := 2000) q2 (by omega)) (wp_neg (nI_ge (b := 3000) (by omega) (by omega)) ?_)
        by_cases c : q % 1000 < (glL A).length
        · refine wp_neg (by rw [x4]; exact nI_ge c (by omega)) (wp_neg (nI_in (by omega) (by omega)) ?_)
          rw [wp_some, nI_clamp (by omega)]
          exact ⟨by unfold lkA; rw [if_neg q0, if_neg q1, if_pos c, if_pos q2]; exact (x6 _ c).2, x1, x2⟩
        · refine wp_pos (by rw [x4]; exact nI_le (by omega) (by omega)) ?_
          rw [wp_some]
          exact ⟨by unfold lkA; rw [if_neg q0, if_neg q1, if_neg c], x1, x2⟩
      · refine wp_neg (nI_ge (b := 2000) (by omega) (by omega)) ?_
        by_cases c : q % 1000 < (glL A).length
        · refine wp_neg (by rw [x4]; exact nI_ge c (by omega)) (wp_neg (nI_in (by omega) (by omega)) ?_)
          rw [wp_some, nI_clamp (by omega)]
          exact ⟨by unfold lkA; rw [if_neg q0, if_neg q1, if_pos c, if_neg q2]; exact (x6 _ c).1, x1, x2⟩
        · refine wp_pos (by rw [x4]; exact nI_le (by omega) (by omega)) ?_
          unfold J_LW_likely_85
          refine wp_pos (nI_lt (b := 2000) (by omega) (by omega)) ?_
          rw [wp_some]
          exact ⟨by unfold lkA; rw [if_neg q0, if_neg q1, if_neg c], x1, x2⟩
    · unfold J_MD_likely_26
      refine (m_findLikely hN hw hR).bnd (fun x hx => ?_)
      obtain ⟨d, ⟨x1, x2, x3, x4, x5⟩, x6⟩ := hx
      rw [er q (by omega)]
      by_cases q2 : 2 ≤ q
      · refine wp_pos (nI_le (a := 2) q2 (by omega)) ?_
        have m1 := Nat.mod_lt q (show 0 < 1000 by omega)
        by_cases c : q % 1000 < (glL A).length
        · refine wp_pos (by rw [x4]; exact nI_lt c (by omega)) ?_
          by_cases q3 : 2000 ≤ q
          · refine wp_pos (nI_le (a := 2000) q3 (by omega)) (wp_neg (nI_in (by omega) (by omega)) ?_)
            rw [wp_some, nI_clamp (by omega)]
            exact ⟨by unfold lkA; rw [if_neg (by omega), if_neg (by omega), if_pos c, if_pos q3]; exact (x5 _ c).2, x1, x2⟩
          · refine wp_neg (nI_ge (b := 2000) (by omega) (by omega)) (wp_neg (nI_in (by omega) (by omega)) ?_)
            rw [wp_some, nI_clamp (by omega)]
            exact ⟨by unfold lkA; rw [if_neg (by omega), if_neg (by omega), if_pos c, if_neg q3]; exact (x5 _ c).1, x1, x2⟩
        · refine wp_neg (by rw [x4]; exact nI_nlt (by omega) (by omega)) ?_
          rw [wp_some]
          exact ⟨by unfold lkA; rw [if_neg (by omega), if_neg (by omega), if_neg c], x1, x2⟩
      · refine wp_neg (nI_ge (b := 2) (by omega) (by omega)) ?_
        by_cases q1 : q = 1
        · refine wp_pos (by rw [q1]; rfl) ?_
          rw [wp_some]
          exact ⟨by unfold lkA; rw [if_neg (by omega), if_pos q1]; exact x4, x1, x2⟩
        refine wp_neg (fun h => q1 ((nI_eq (b := 1) (by omega) (by omega)).mp h)) ?_
        have q0 : q = 0 := by omega
        by_cases ce : (glL A).isEmpty = true
        · rw [if_pos ce] at x6
          refine wp_pos (by rw [x4]; exact (emp_0 (by omega)).mpr ce) ?_
          rw [wp_some]
          exact ⟨by unfold lkA; rw [if_pos q0]; exact x6, x1, x2⟩
        · rw [if_neg ce] at x6
          refine wp_neg (by rw [x4]; exact fun q => ce ((emp_0 (by omega)).mp q)) ?_
          rw [wp_some]
          exact ⟨by unfold lkA; rw [if_pos q0]; exact x3.trans x6, x1, x2⟩
  cases e : rg p 0 2 with
  | true =>
    obtain ⟨q, _, q2, ep⟩ := rg_t (by omega) e
    obtain ⟨g1, g2⟩ := good q (Or.inl q2) ep
    refine ⟨_, A, hw, g1, fun hi hl hR => ?_⟩
    unfold f_MD_likely
    rw [ein, e]
    simp only [Option.bind_some, b2i_tt, if_false]
    exact g2 hi hl hR
  | false =>
    cases e2 : rg p 1000 3000 with
    | true =>
      obtain ⟨q, q1, q2, ep⟩ := rg_t (by omega) e2
      obtain ⟨g1, g2⟩ := good q (Or.inr ⟨q1, q2⟩) ep
      refine ⟨_, A, hw, g1, fun hi hl hR => ?_⟩
      unfold f_MD_likely
      rw [ein, e]
      simp only [Option.bind_some, b2i_f, if_true]
      rw [ein2, e2]
      simp only [Option.bind_some, b2i_tt, if_false]
      exact g2 hi hl hR
    | false =>
      refine ⟨-1, A, hw, fun hi hl hR => ?_, MM.q (fun hi hl hR => ?_)⟩
      · unfold f_LW_likely
        refine (c_list hN hw hR).bnd (fun x hx => ?_)
        obtain ⟨x1, x2, x3⟩ := hx
        have n1 : ¬ (0 ≤ p.toInt ∧ p.toInt < 2) := fun h => by rw [rg_iff.mpr h] at e; cases e
        have n2 : ¬ (1000 ≤ p.toInt ∧ p.toInt < 3000) := fun h => by rw [rg_iff.mpr h] at e2; cases e2
        have k0 : (0 : Int32).toInt = 0 := by decide
        have k1 : (1 : Int32).toInt = 1 := by decide
        have k2 : (1000 : Int32).toInt = 1000 := by decide
        have k3 : (2000 : Int32).toInt = 2000 := by decide
        have k4 : (3000 : Int32).toInt = 3000 := by decide
        refine wp_neg (fun q => n1 (by rw [q]; omega)) (wp_neg (fun q => n1 (by rw [q]; omega)) ?_)
        have bad : wp (J_LW_likely_85 N p (p - p / 1000 * 1000) x.2.1 x.2.2) (fun o => o.1 = -1 ∧ RC A o.2.1 ∧ HiC hi o.2.1) := by
          unfold J_LW_likely_85
          by_cases c : p < 2000
          · refine wp_pos c ?_
            rw [wp_some]; exact ⟨rfl, x1, x2⟩
          · refine wp_neg c (wp_pos ?_ ?_)
            · rw [fa_lt] at c
              rw [fa_le]; omega
            · rw [wp_some]; exact ⟨rfl, x1, x2⟩
        by_cases c : p < 1000
        · exact wp_pos c bad
        · refine wp_neg c (wp_pos ?_ bad)
          rw [fa_lt] at c
          rw [fa_le]; omega
      · unfold f_MD_likely
        rw [ein, e]
        simp only [Option.bind_some, b2i_f, if_true]
        rw [ein2, e2]; rfl
