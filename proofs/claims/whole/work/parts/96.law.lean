/-! the law's loop -/
def LI (hi : HI) : Prop := ∃ A, WF A ∧ RC A hi ∧ RM A hi
theorem Sim.law {fc fm : HI → HL → Option (Int32 × HI × HL)} (S : Sim fc fm) {hi : HI} {hl : HL} (h : LI hi) {β : Type} {F : Int32 × HI × HL → Option β} {Q : β → Prop} (k : ∀ z, wp (fm z.2.1 z.2.2) (fun y => z.1 = y.1 ∧ LI y.2.1) → wp (F z) Q) : wp ((fc hi hl).bind F) Q := by
  obtain ⟨A, hw, hc, hm⟩ := h
  exact (S A hi hl hw hc hm).bnd k
theorem lw_less {L i : Nat} (hL : L ≤ 2048) (hi : i < 2 ^ 31) : ((Int32.ofNat L - 4) < nI i) ↔ L < i + 4 := by
  show (nI L - nI 4 < nI i) ↔ _
  by_cases c : 4 ≤ L
  · rw [pk_sub c, nI_ltI (by omega) hi]
    omega
  · have e : L = 0 ∨ L = 1 ∨ L = 2 ∨ L = 3 := by omega
    refine ⟨fun _ => by omega, fun _ => ?_⟩
    rw [fa_lt, nI_toInt hi]
    rcases e with rfl | rfl | rfl | rfl
    · rw [show (nI 0 - nI 4).toInt = -4 by decide]; omega
    · rw [show (nI 1 - nI 4).toInt = -3 by decide]; omega
    · rw [show (nI 2 - nI 4).toInt = -2 by decide]; omega
    · rw [show (nI 3 - nI 4).toInt = -1 by decide]; omega
set_option maxRecDepth 20000 in
set_option maxHeartbeats 4000000 in
theorem law_step {ev : EV} (hL : ev.1 ≤ 2048) {N : Nat} (hN : 70000 ≤ N) {i : Nat} (hi4 : i + 4 ≤ ev.1) {hi : HI} {hl : HL} (h : LI hi) : wp (B_LA_law_18 ev N (nI i) hi hl) (fun z => ∃ g gl, z = .inl (nI (i + 4), g, gl) ∧ LI g) := by
  unfold B_LA_law_18
  have ix : ∀ k, k < 4 → ¬ ((nI i + nI k) < 0 ∨ ev.1 ≤ (nI i + nI k).toNatClampNeg) := fun k hk => by
    rw [nI_add]
    exact nI_in (by omega) (by omega)
  have ix1 := ix 1 (by omega)
  have ix2 := ix 2 (by omega)
  have ix3 := ix 3 (by omega)
  have fin : ∀ g gl, LI g → wp (J_LA_law_1166 ev N (nI i) g gl) (fun z => ∃ g gl, z = .inl (nI (i + 4), g, gl) ∧ LI g) := fun g gl hg => by
    unfold J_LA_law_1166
    rw [wp_some]
    refine ⟨g, gl, ?_, hg⟩
    rw [show nI i + 4 = nI (i + 4) from nI_add i 4]
  refine wp_neg (fun q => by have := (lw_less hL (by omega)).mp q; omega) (wp_neg (nI_in (by omega) (by omega)) ?_)
  by_cases c0 : ev.2 (nI i).toNatClampNeg &&& 63 = 0
  · exact wp_pos c0 (wp_neg ix1 (Sim.law (S_wires hN _) h (fun z hz => wp_neg ix1 (hz.bnd (fun y hy => wp_pos hy.1 (fin _ _ hy.2))))))
  refine wp_neg c0 ?_
  by_cases c1 : ev.2 (nI i).toNatClampNeg &&& 63 = 1
  · exact wp_pos c1 (wp_neg ix1 (Sim.law (S_supply hN _) h (fun z hz => wp_neg ix1 (hz.bnd (fun y hy => wp_pos hy.1 (fin _ _ hy.2))))))
  refine wp_neg c1 ?_
  by_cases c2 : ev.2 (nI i).toNatClampNeg &&& 63 = 2
  · exact wp_pos c2 (wp_neg ix1 (wp_neg ix2 (wp_neg ix3 (Sim.law (S_lamp hN _ _ _) h (fun z hz => wp_neg ix1 (wp_neg ix2 (wp_neg ix3 (hz.bnd (fun y hy => wp_pos hy.1 (fin _ _ hy.2))))))))))
  refine wp_neg c2 ?_
  by_cases c3 : ev.2 (nI i).toNatClampNeg &&& 63 = 3
  · exact wp_pos c3 (wp_neg ix1 (wp_neg ix2 (Sim.law (S_lampOf _ _) h (fun z hz => wp_neg ix1 (wp_neg ix2 (hz.bnd (fun y hy => wp_pos hy.1 (fin _ _ hy.2))))))))
  refine wp_neg c3 ?_
  by_cases c4 : ev.2 (nI i).toNatClampNeg &&& 63 = 4
  · exact wp_pos c4 (wp_neg ix1 (wp_neg ix2 (Sim.law (S_hurt hN _ _) h (fun z hz => wp_neg ix1 (wp_neg ix2 (hz.bnd (fun y hy => wp_pos hy.1 (fin _ _ hy.2))))))))
  refine wp_neg c4 ?_
  by_cases c5 : ev.2 (nI i).toNatClampNeg &&& 63 = 5
  · exact wp_pos c5 (wp_neg ix1 (wp_neg ix2 (Sim.law (S_between hN _ _) h (fun z hz => wp_neg ix1 (wp_neg ix2 (hz.bnd (fun y hy => wp_pos hy.1 (fin _ _ hy.2))))))))
  refine wp_neg c5 ?_
  by_cases c6 : ev.2 (nI i).toNatClampNeg &&& 63 = 6
  · exact wp_pos c6 (wp_neg ix1 (wp_neg ix2 (Sim.law (S_glow hN _ _) h (fun z hz => wp_neg ix1 (wp_neg ix2 (hz.bnd (fun y hy => wp_pos hy.1 (fin _ _ hy.2))))))))
  refine wp_neg c6 ?_
  by_cases c7 : ev.2 (nI i).toNatClampNeg &&& 63 = 7
  · exact wp_pos c7 (wp_neg ix1 (Sim.law (S_turns hN _) h (fun z hz => wp_neg ix1 (hz.bnd (fun y hy => wp_pos hy.1 (fin _ _ hy.2))))))
  refine wp_neg c7 ?_
  by_cases c8 : ev.2 (nI i).toNatClampNeg &&& 63 = 8
  · exact wp_pos c8 (wp_neg ix1 (Sim.law (S_alone hN _) h (fun z hz => wp_neg ix1 (hz.bnd (fun y hy => wp_pos hy.1 (fin _ _ hy.2))))))
  refine wp_neg c8 ?_
  by_cases c9 : ev.2 (nI i).toNatClampNeg &&& 63 = 9
  · exact wp_pos c9 (wp_neg ix1 (Sim.law (S_astray hN _) h (fun z hz => wp_neg ix1 (hz.bnd (fun y hy => wp_pos hy.1 (fin _ _ hy.2))))))
  refine wp_neg c9 ?_
  by_cases c10 : ev.2 (nI i).toNatClampNeg &&& 63 = 10
  · exact wp_pos c10 (wp_neg ix1 (Sim.law (S_frame hN _) h (fun z hz => wp_neg ix1 (hz.bnd (fun y hy => wp_pos hy.1 (fin _ _ hy.2))))))
  refine wp_neg c10 ?_
  by_cases c11 : ev.2 (nI i).toNatClampNeg &&& 63 = 11
  · exact wp_pos c11 (wp_neg ix1 (wp_neg ix2 (Sim.law (S_frameTurn hN _ _) h (fun z hz => wp_neg ix1 (wp_neg ix2 (hz.bnd (fun y hy => wp_pos hy.1 (fin _ _ hy.2))))))))
  refine wp_neg c11 ?_
  by_cases c12 : ev.2 (nI i).toNatClampNeg &&& 63 = 12
  · exact wp_pos c12 (Sim.law (S_sets hN) h (fun z hz => hz.bnd (fun y hy => wp_pos hy.1 (fin _ _ hy.2))))
  refine wp_neg c12 ?_
  by_cases c13 : ev.2 (nI i).toNatClampNeg &&& 63 = 13
  · exact wp_pos c13 (wp_neg ix1 (Sim.law (S_shown hN _) h (fun z hz => wp_neg ix1 (hz.bnd (fun y hy => wp_pos hy.1 (fin _ _ hy.2))))))
  refine wp_neg c13 ?_
  by_cases c14 : ev.2 (nI i).toNatClampNeg &&& 63 = 14
  · exact wp_pos c14 (wp_neg ix1 (wp_neg ix2 (Sim.law (S_level hN _ _) h (fun z hz => wp_neg ix1 (wp_neg ix2 (hz.bnd (fun y hy => wp_pos hy.1 (fin _ _ hy.2))))))))
  refine wp_neg c14 ?_
  by_cases c15 : ev.2 (nI i).toNatClampNeg &&& 63 = 15
  · exact wp_pos c15 (wp_neg ix1 (Sim.law (S_plan hN _) h (fun z hz => wp_neg ix1 (hz.bnd (fun y hy => wp_pos hy.1 (fin _ _ hy.2))))))
  refine wp_neg c15 ?_
  by_cases c16 : ev.2 (nI i).toNatClampNeg &&& 63 = 16
  · exact wp_pos c16 (wp_neg ix1 (wp_neg ix2 (Sim.law (S_light hN _ _) h (fun z hz => wp_neg ix1 (wp_neg ix2 (hz.bnd (fun y hy => wp_pos hy.1 (fin _ _ hy.2))))))))
  refine wp_neg c16 ?_
  by_cases c17 : ev.2 (nI i).toNatClampNeg &&& 63 = 17
  · exact wp_pos c17 (wp_neg ix1 (Sim.law (S_uneven hN _) h (fun z hz => wp_neg ix1 (hz.bnd (fun y hy => wp_pos hy.1 (fin _ _ hy.2))))))
  refine wp_neg c17 ?_
  by_cases c18 : ev.2 (nI i).toNatClampNeg &&& 63 = 18
  · exact wp_pos c18 (wp_neg ix1 (wp_neg ix2 (Sim.law (S_feed hN _) h (fun z hz => wp_neg ix1 (wp_neg ix2 (hz.bnd (fun y hy => wp_pos hy.1 (fin _ _ hy.2))))))))
  refine wp_neg c18 ?_
  by_cases c19 : ev.2 (nI i).toNatClampNeg &&& 63 = 19
  · exact wp_pos c19 (wp_neg ix1 (Sim.law (S_end _) h (fun z hz => wp_neg ix1 (hz.bnd (fun y hy => wp_pos hy.1 (fin _ _ hy.2))))))
  refine wp_neg c19 ?_
  by_cases c20 : ev.2 (nI i).toNatClampNeg &&& 63 = 20
  · exact wp_pos c20 (Sim.law (S_program hN) h (fun z hz => hz.bnd (fun y hy => wp_pos hy.1 (fin _ _ hy.2))))
  refine wp_neg c20 ?_
  by_cases c21 : ev.2 (nI i).toNatClampNeg &&& 63 = 21
  · exact wp_pos c21 (Sim.law S_fault h (fun z hz => hz.bnd (fun y hy => wp_pos hy.1 (fin _ _ hy.2))))
  refine wp_neg c21 ?_
  by_cases c22 : ev.2 (nI i).toNatClampNeg &&& 63 = 22
  · exact wp_pos c22 (wp_neg ix1 (wp_neg ix2 (Sim.law (S_line hN _ _) h (fun z hz => wp_neg ix1 (wp_neg ix2 (hz.bnd (fun y hy => wp_pos hy.1 (fin _ _ hy.2))))))))
  refine wp_neg c22 ?_
  by_cases c23 : ev.2 (nI i).toNatClampNeg &&& 63 = 23
  · exact wp_pos c23 (wp_neg ix1 (Sim.law (S_round hN _) h (fun z hz => wp_neg ix1 (hz.bnd (fun y hy => wp_pos hy.1 (fin _ _ hy.2))))))
  refine wp_neg c23 ?_
  by_cases c24 : ev.2 (nI i).toNatClampNeg &&& 63 = 24
  · exact wp_pos c24 (wp_neg ix1 (wp_neg ix2 (Sim.law (S_shows hN _ _) h (fun z hz => wp_neg ix1 (wp_neg ix2 (hz.bnd (fun y hy => wp_pos hy.1 (fin _ _ hy.2))))))))
  refine wp_neg c24 ?_
  by_cases c25 : ev.2 (nI i).toNatClampNeg &&& 63 = 25
  · exact wp_pos c25 (wp_neg ix1 (Sim.law (S_at hN _) h (fun z hz => wp_neg ix1 (hz.bnd (fun y hy => wp_pos hy.1 (fin _ _ hy.2))))))
  refine wp_neg c25 ?_
  by_cases c26 : ev.2 (nI i).toNatClampNeg &&& 63 = 26
  · exact wp_pos c26 (wp_neg ix1 (wp_neg ix2 (Sim.law (S_seen _ _) h (fun z hz => wp_neg ix1 (wp_neg ix2 (hz.bnd (fun y hy => wp_pos hy.1 (fin _ _ hy.2))))))))
  refine wp_neg c26 ?_
  by_cases c27 : ev.2 (nI i).toNatClampNeg &&& 63 = 27
  · exact wp_pos c27 (wp_neg ix1 (Sim.law (S_likely hN _) h (fun z hz => wp_neg ix1 (hz.bnd (fun y hy => wp_pos hy.1 (fin _ _ hy.2))))))
  refine wp_neg c27 ?_
  by_cases c28 : ev.2 (nI i).toNatClampNeg &&& 63 = 28
  · exact wp_pos c28 (wp_neg ix1 (Sim.law (S_tells hN _) h (fun z hz => wp_neg ix1 (hz.bnd (fun y hy => wp_pos hy.1 (fin _ _ hy.2))))))
  refine wp_neg c28 ?_
  by_cases c29 : ev.2 (nI i).toNatClampNeg &&& 63 = 29
  · exact wp_pos c29 (wp_neg ix1 (wp_neg ix2 (wp_neg ix3 (Sim.law (S_would hN _ _ _) h (fun z hz => wp_neg ix1 (wp_neg ix2 (wp_neg ix3 (hz.bnd (fun y hy => wp_pos hy.1 (fin _ _ hy.2))))))))))
  refine wp_neg c29 ?_
  by_cases c30 : ev.2 (nI i).toNatClampNeg &&& 63 = 30
  · exact wp_pos c30 (wp_neg ix1 (wp_neg ix2 (wp_neg ix3 (Sim.law (S_sheet hN _ _ _) h (fun z hz => wp_neg ix1 (wp_neg ix2 (wp_neg ix3 (hz.bnd (fun y hy => wp_pos hy.1 (fin _ _ hy.2))))))))))
  refine wp_neg c30 ?_
  by_cases c31 : ev.2 (nI i).toNatClampNeg &&& 63 = 31
  · exact wp_pos c31 (wp_neg ix1 (wp_neg ix2 (wp_neg ix3 (Sim.law (S_lay hN _ _ _) h (fun z hz => wp_neg ix1 (wp_neg ix2 (wp_neg ix3 (hz.bnd (fun y hy => wp_pos hy.1 (fin _ _ hy.2))))))))))
  refine wp_neg c31 ?_
  by_cases c32 : ev.2 (nI i).toNatClampNeg &&& 63 = 32
  · exact wp_pos c32 (wp_neg ix1 (wp_neg ix2 (wp_neg ix3 (Sim.law (S_levels hN _ _ _) h (fun z hz => wp_neg ix1 (wp_neg ix2 (wp_neg ix3 (hz.bnd (fun y hy => wp_pos hy.1 (fin _ _ hy.2))))))))))
  refine wp_neg c32 ?_
  by_cases c33 : ev.2 (nI i).toNatClampNeg &&& 63 = 33
  · exact wp_pos c33 (wp_neg ix1 (Sim.law (S_count hN _) h (fun z hz => wp_neg ix1 (hz.bnd (fun y hy => wp_pos hy.1 (fin _ _ hy.2))))))
  refine wp_neg c33 ?_
  exact fin _ _ h
theorem law_runs {ev : EV} (hL : ev.1 ≤ 2048) {hi : HI} {hl : HL} (h : LI hi) : ∃ N hi1 hl1, f_LA_law ev N hi hl = some (1, hi1, hl1) := by
  have key : wp (lpN (fun s => B_LA_law_18 ev 70000 s.1 s.2.1 s.2.2) 70000 (0, hi, hl)) (fun x => x.1 = 0) := by
    refine wp_lp (fun k s => ∃ i g gl, s = (nI i, g, gl) ∧ i ≤ ev.1 ∧ k = ev.1 - i ∧ LI g) ?_ ev.1 _ 70000 ⟨0, hi, hl, rfl, Nat.zero_le _, rfl, h⟩ (by omega)
    rintro k s ⟨i, g, gl, rfl, i1, rfl, hg⟩
    dsimp only
    by_cases c : i + 4 ≤ ev.1
    · refine (law_step hL (Nat.le_refl _) c hg).mono (fun z hz => ?_)
      obtain ⟨g2, gl2, rfl, hg2⟩ := hz
      exact ⟨ev.1 - (i + 4), by omega, i + 4, g2, gl2, rfl, c, rfl, hg2⟩
    · unfold B_LA_law_18
      refine wp_pos ((lw_less hL (by omega)).mpr (by omega)) ?_
      rw [wp_some]
  obtain ⟨x, h1, h2⟩ := key
  refine ⟨70000, x.2.1, x.2.2, ?_⟩
  unfold f_LA_law
  rw [h1, Option.bind_some, if_pos h2]
/-! the start -/
theorem WF_0 : WF st_0 := by
  have n0 : ∀ l, ¬ l < st_0.n := fun l q => Nat.not_lt_zero l q
  have l0 : ∀ l, ¬ l < st_0.lines := fun l q => Nat.not_lt_zero l q
  exact ⟨by decide, by decide, by decide, by decide, by decide, (fun l q => absurd q (n0 l)), (fun l q => absurd q (n0 l)), (fun l q => absurd q (n0 l)), (fun l q => absurd q (n0 l)), (fun l q => absurd q (n0 l)), (fun l q => absurd q (n0 l)), (fun l q => absurd q (n0 l)), (fun l k q => absurd q (n0 l)), by decide, (fun l q => absurd q (l0 l)), (fun l q => absurd q (l0 l)), (fun l q => absurd q (l0 l)), (fun l q => absurd q (l0 l)), by decide, (fun i q => absurd q (Nat.not_lt_zero i)), by decide, (fun k _ => Nat.zero_le _), (fun k _ => Nat.zero_le _)⟩
theorem has_0 (k : Nat) : ¬ st_0.has k = 1 := fun q => by
  have e : st_0.has k = 0 := rfl
  omega
set_option maxRecDepth 20000 in
theorem LI_0 {hi : HI} (h : Fresh hi) : LI hi := by
  obtain ⟨f12, a0, a1, a2, f17, f18, f20, f22, f24, f26, f28, f30, f32, f34, f36, f38, f43, f47, f51, s57, s59, s61, s63, m0, m1, m2, m3, m4, m5, m6, m7, m8, m9, m10, m11, m12, m13, m14, m15, m16, m17, m18, m19, m20, m21, m22, m23, m24, m25, m26, m27, m28, m29, m30, m31, m32, m33, m34, m35, m36, m37, m38, m39, m40, m41, m42, m43, m44, m45, l0, l1, l2, l3⟩ := h
  refine ⟨st_0, WF_0, ?_, ?_⟩
  · refine ⟨⟨a0, a1, a2, (fun l q => absurd q (Nat.not_lt_zero l)), (fun l q => absurd q (Nat.not_lt_zero l)), (fun l q => absurd q (Nat.not_lt_zero l)), (fun l q => absurd q (Nat.not_lt_zero l)), (fun l q => absurd q (Nat.not_lt_zero l))⟩, Or.inl (f12 0), f17, ⟨0, by decide, f18 1⟩, (fun i q => ?_), Or.inl (f38 0), ⟨f43 0, f43 1, (fun i q => absurd q (Nat.not_lt_zero i))⟩, ⟨f47 0, (fun i q => absurd q (Nat.not_lt_zero i)), (fun i q => absurd q (Nat.not_lt_zero i)), (fun i q => absurd q (Nat.not_lt_zero i))⟩, ⟨Or.inl (f51 0), Or.inl (f51 5)⟩, (fun k q => ?_)⟩
    · have e : i = 0 ∨ i = 1 ∨ i = 2 ∨ i = 3 ∨ i = 4 ∨ i = 5 ∨ i = 6 ∨ i = 7 := by omega
      rcases e with rfl | rfl | rfl | rfl | rfl | rfl | rfl | rfl
      · exact Or.inl (f20 0)
      · exact Or.inl (f22 0)
      · exact Or.inl (f24 0)
      · exact Or.inl (f26 0)
      · exact Or.inl (f28 0)
      · exact Or.inl (f30 0)
      · exact Or.inl (f32 0)
      · exact Or.inl (f34 0)
    · refine ⟨?_, (fun q => absurd q (has_0 k)), (fun q => absurd q (has_0 k))⟩
      rw [if_neg (has_0 k)]
      have e : k = 0 ∨ k = 1 ∨ k = 2 ∨ k = 3 := by omega
      rcases e with rfl | rfl | rfl | rfl
      · exact s57
      · exact s59
      · exact s61
      · exact s63
  · refine ⟨⟨m0, m1, m2, (fun l q => absurd q (Nat.not_lt_zero l)), (fun l q => absurd q (Nat.not_lt_zero l)), (fun l q => absurd q (Nat.not_lt_zero l)), (fun l q => absurd q (Nat.not_lt_zero l)), (fun l q => absurd q (Nat.not_lt_zero l))⟩, Or.inl m8, m23, (fun l q => absurd q (Nat.not_lt_zero l)), (fun l q => absurd q (Nat.not_lt_zero l)), (fun l q => absurd q (Nat.not_lt_zero l)), m31, (fun l q => absurd q (Nat.not_lt_zero l)), m36, (fun k q => ?_), (fun k _ q => absurd q (has_0 k)), (fun k _ q => absurd q (has_0 k))⟩
    rw [if_neg (has_0 k)]
    have e : k = 0 ∨ k = 1 ∨ k = 2 ∨ k = 3 := by omega
    rcases e with rfl | rfl | rfl | rfl
    · exact l0
    · exact l1
    · exact l2
    · exact l3
theorem law_all {ev : EV} (hL : ev.1 ≤ 2048) : ∃ N d σ1, runF ev (runD ev N d) m_LA_law N 0 [(0, .ref 1000010)] [] σ_0 = some (some (.int 1), σ1) ∧ σ1.2.2.1.length ≤ 600000 ∧ σ1.2.2.2 ≤ 7302250 ∧ d < 1000 := law_top (fun hi hl h => law_runs hL (LI_0 h))
