/-! program -/
def St.pF (A : St) (f : Nat) : St := (A.setN 4 0).setN 5 f
def St.pG (A : St) (L : Nat) (tf kf : Nat → Nat) : St := (((((A.setN 4 0).setN 5 0).setN 3 L).setA 5 tf).setA 6 kf).setI 0 (fun _ => -4)
theorem c_program {N : Nat} (hN : 70000 ≤ N) {A : St} (hw : WF A) {hi : HI} {hl : HL} (hR : RC A hi) : wp (f_LW_program N hi hl) (fun o => HiC hi o.2.1 ∧ ((∃ e, progA A = .inl e ∧ o.1 = -10 - nI e.2 ∧ 1 ≤ e.1 ∧ e.1 ≤ 5 ∧ RC (A.pF e.1) o.2.1) ∨ (∃ L tf kf, progA A = .inr (L, tf, kf) ∧ o.1 = nI L ∧ L ≤ 12 ∧ (∀ j, j < L → tf j < 3 ^ A.w ∧ 1 ≤ kf j ∧ kf j ≤ 60) ∧ RC (A.pG L tf kf) o.2.1))) := by
  unfold f_LW_program
  rw [hR.bd.w]
  refine (c_tell hN hw ⟨hR.tp.n, hR.tp.y⟩).bnd (fun z hz => ?_)
  obtain ⟨z1, z2, z3⟩ := hz
  have o : ∀ a, a ≠ 43 → a ≠ 44 → a ≠ 45 → wr z.2.1 43 0 0 a = hi a := fun a h1 h2 h3 => by
    rw [wr_o h1]
    exact z1 a (by simp; omega)
  have hc : HiC hi (wr z.2.1 43 0 0) := fun a ha => o a (by omega) (by omega) (by omega)
  have g0 : wr z.2.1 43 0 0 43 0 = nI 0 := by rw [wr_s]; rfl
  rcases z3 with ⟨e, e1, f⟩ | ⟨L, tf, kf, e1, l12, g1, g3, ln⟩
  · have k1 : wr z.2.1 43 0 0 43 1 = nI e.1 := by rw [wr_k (by omega)]; exact f.k
    have k2 : wr z.2.1 43 0 0 43 2 = nI e.2 := by rw [wr_k (by omega)]; exact f.p
    refine wp_neg (by rw [k1]; exact nI_ne0 f.a (by have := f.b; omega)) ?_
    rw [wp_some]
    refine ⟨hc, Or.inl ⟨e, e1, by dsimp only; rw [k2], f.a, f.b, ?_⟩⟩
    dsimp only
    refine hR.keep ⟨rfl, rfl, rfl, rfl, rfl, rfl, rfl⟩ (fun a ha hb => o a (fun q => hb (by rw [q]; decide)) (fun q => by rw [q] at ha; revert ha; decide) (fun q => by rw [q] at ha; revert ha; decide)) (fun l hl => ?_) ⟨g0, k1, fun i hi => absurd hi (Nat.not_lt_zero i)⟩ ?_ ?_ (fun k hk => ?_)
    · rw [o 6 (by omega) (by omega) (by omega)]; exact hR.bd.e l hl
    · rw [o 47 (by omega) (by omega) (by omega), o 48 (by omega) (by omega) (by omega), o 49 (by omega) (by omega) (by omega), o 50 (by omega) (by omega) (by omega)]; exact hR.sc
    · rw [o 51 (by omega) (by omega) (by omega), o 52 (by omega) (by omega) (by omega), o 53 (by omega) (by omega) (by omega), sb_Gs ⟨⟨rfl, rfl, rfl, rfl, rfl, rfl⟩, rfl, rfl⟩ rfl]; exact hR.gs
    · rw [o _ (by omega) (by omega) (by omega), o _ (by omega) (by omega) (by omega)]; exact hR.sh k hk
  · have k1 : wr z.2.1 43 0 0 43 1 = 0 := by rw [wr_k (by omega)]; exact g1
    have k3 : wr z.2.1 43 0 0 43 3 = nI L := by rw [wr_k (by omega)]; exact g3
    have k44 : wr z.2.1 43 0 0 44 = z.2.1 44 := wr_o (by omega)
    have k45 : wr z.2.1 43 0 0 45 = z.2.1 45 := wr_o (by omega)
    rw [← k44, ← k45] at ln
    refine wp_pos k1 ?_
    generalize wr z.2.1 43 0 0 = g at *
    unfold f_Script_take
    rw [k3, wp_bind, wp_bind]
    refine wp.mono (P := fun x => Sam [47, 48, 49, 50] g x.1 ∧ x.1 47 0 = nI L ∧ ∀ j, j < L → x.1 48 j = nI (tf j) ∧ x.1 49 j = nI (kf j) ∧ x.1 50 j = -4) ?_ (fun x hx => ?_)
    · refine wp_for L (fun i s => s.1 = nI i ∧ Sam [47, 48, 49, 50] g s.2.1 ∧ s.2.1 47 0 = nI L ∧ ∀ j, j < i → s.2.1 48 j = nI (tf j) ∧ s.2.1 49 j = nI (kf j) ∧ s.2.1 50 j = -4) ?_ ?_ (i := 0) (by omega) ⟨rfl, (Sam.refl _ g).wr (by decide), by dsimp only; rw [wr_s], fun j hj => by omega⟩ (by omega)
      · rintro i ⟨v, u, ul⟩ hi1 ⟨rfl, sm, u0, h⟩
        dsimp only at sm u0 h
        unfold B_Script_take_10
        dsimp only
        have ii := nI_in (c := i) (N := 12) (by omega) (by omega)
        refine wp_neg (by rw [u0]; exact nI_ge hi1 (by omega)) (wp_neg ii (wp_neg ii (wp_neg ii (wp_neg ii (wp_neg ii ?_)))))
        rw [wp_some, nI_clamp (by omega)]
        refine ⟨nI_1 i, ((sm.wr (by decide)).wr (by decide)).wr (by decide), ?_, fun j hj => ?_⟩
        · dsimp only; rw [wr_o (by omega), wr_o (by omega), wr_o (by omega)]; exact u0
        · dsimp only
          rw [wr_o (a := 50) (b := 48) (by omega), wr_o (a := 49) (b := 48) (by omega), wr_o (a := 50) (b := 49) (by omega), wr_o (a := 48) (b := 45) (by omega), wr_i, wr_i, wr_i]
          by_cases q : j = i
          · subst q
            rw [if_pos rfl, if_pos rfl, if_pos rfl, sm 44 (by decide), sm 45 (by decide)]
            exact ⟨(ln j hi1).1, (ln j hi1).2.1, rfl⟩
          · rw [if_neg q, if_neg q, if_neg q, wr_o (by omega), wr_o (by omega), wr_o (by omega)]
            exact h j (by omega)
      · rintro ⟨v, u, ul⟩ ⟨rfl, sm, u0, h⟩
        dsimp only at sm u0 h
        unfold B_Script_take_10
        dsimp only
        refine wp_pos (by rw [u0]; exact nI_le (Nat.le_refl _) (by omega)) ?_
        rw [wp_some]
        exact ⟨sm, u0, h⟩
    · obtain ⟨x1, x2, x3⟩ := hx
      rw [wp_some]
      unfold f_Guesses_forget
      rw [Option.bind_some, wp_some]
      dsimp only
      have o2 : ∀ a, a ≠ 47 → a ≠ 48 → a ≠ 49 → a ≠ 50 → a ≠ 51 → wr (wr x.1 51 0 0) 51 5 0 a = g a := fun a h1 h2 h3 h4 h5 => by
        rw [wr_o h5, wr_o h5]
        exact x1 a (by simp; omega)
      have e51 : ∀ a, a ≠ 51 → wr (wr x.1 51 0 0) 51 5 0 a = x.1 a := fun a h5 => by rw [wr_o h5, wr_o h5]
      have w47 : wr (wr x.1 51 0 0) 51 5 0 47 0 = nI L := by rw [e51 47 (by omega)]; exact x2
      have w510 : wr (wr x.1 51 0 0) 51 5 0 51 0 = 0 := by rw [wr_k (by omega), wr_s]
      have w515 : wr (wr x.1 51 0 0) 51 5 0 51 5 = 0 := by rw [wr_s]
      have w48 := e51 48 (by omega)
      have w49 := e51 49 (by omega)
      have w50 := e51 50 (by omega)
      generalize wr (wr x.1 51 0 0) 51 5 0 = u at *
      refine ⟨fun a ha => (o2 a (by omega) (by omega) (by omega) (by omega) (by omega)).trans (hc a ha), Or.inr ⟨L, tf, kf, e1, w47, l12, fun j hj => (ln j hj).2.2, ?_⟩⟩
      refine hR.keep ⟨rfl, rfl, rfl, rfl, rfl, rfl, rfl⟩ (fun a ha hb => ?_) (fun l hl => ?_) ⟨?_, ?_, fun i hi => absurd hi (Nat.not_lt_zero i)⟩ ⟨w47, fun i hi => ?_, fun i hi => ?_, fun i hi => ?_⟩ ⟨Or.inl w510, Or.inl w515⟩ (fun k hk => ?_)
      · simp only [List.mem_cons, List.not_mem_nil, or_false, not_or] at hb
        rw [o2 a (by omega) (by omega) (by omega) (by omega) (by omega)]
        exact o a (by omega) (fun q => by rw [q] at ha; revert ha; decide) (fun q => by rw [q] at ha; revert ha; decide)
      · rw [o2 6 (by omega) (by omega) (by omega) (by omega) (by omega), o 6 (by omega) (by omega) (by omega)]; exact hR.bd.e l hl
      · rw [o2 43 (by omega) (by omega) (by omega) (by omega) (by omega)]; exact g0
      · rw [o2 43 (by omega) (by omega) (by omega) (by omega) (by omega)]; exact k1
      · rw [w48]; exact (x3 i hi).1
      · rw [w49]; exact (x3 i hi).2.1
      · rw [w50]; exact (x3 i hi).2.2
      · rw [o2 _ (by omega) (by omega) (by omega) (by omega) (by omega), o2 _ (by omega) (by omega) (by omega) (by omega) (by omega), o _ (by omega) (by omega) (by omega), o _ (by omega) (by omega) (by omega)]; exact hR.sh k hk
theorem m_program {N : Nat} (hN : 70000 ≤ N) {A : St} (hw : WF A) {hi : HI} {hl : HL} (hR : RM A hi) : wp (f_MD_program N hi hl) (fun o => LoC hi o.2.1 ∧ ((∃ e, progA A = .inl e ∧ o.1 = -10 - nI e.2 ∧ RM (A.pF e.1) o.2.1) ∨ (∃ L tf kf, progA A = .inr (L, tf, kf) ∧ o.1 = nI L ∧ RM (A.pG L tf kf) o.2.1))) := by
  unfold f_MD_program
  rw [← Option.bind_assoc]
  refine (m_prog hN hw ⟨hR.tn, hR.ty⟩ hR.bd.w).bnd (fun z hz => ?_)
  obtain ⟨zb, zr⟩ := hz
  unfold J_MD_program_40
  have o : ∀ a, a ≠ 65 → a ≠ 86 → a ≠ 87 → wr z.1 65 31 0 a = hi a := fun a h1 h2 h3 => by
    rw [wr_o h1]
    exact zb.s a (by simp; omega)
  have k : ∀ j, j ≠ 27 → j ≠ 31 → j < 32 ∨ 37 < j → wr z.1 65 31 0 65 j = hi 65 j := fun j a b c => by rw [wr_k b]; exact zb.k j a c
  have g31 : wr z.1 65 31 0 65 31 = nI 0 := by rw [wr_s]; rfl
  have lc : LoC hi (wr z.1 65 31 0) := fun a ha => o a (by omega) (by omega) (by omega)
  obtain ⟨a1, a2, a3, a4, a5, a6, a7, a8, a9, b1, b2, b3⟩ := id hR
  rcases zr with ⟨e, e1, f⟩ | ⟨L, tf, kf, e1, l12, g1, g27, ln⟩
  · have k36 : wr z.1 65 31 0 65 36 = nI e.1 := by rw [wr_k (by omega)]; exact f.k
    have k37 : wr z.1 65 31 0 65 37 = nI e.2 := by rw [wr_k (by omega)]; exact f.p
    refine wp_neg (by rw [k36]; exact nI_nle f.a (by have := f.b; omega)) ?_
    rw [wp_some]
    refine ⟨lc, Or.inl ⟨e, e1, by dsimp only; rw [k37], ?_⟩⟩
    dsimp only
    refine hR.keep ⟨rfl, rfl, rfl, rfl, rfl, rfl, rfl⟩ (fun a ha hb => o a (fun q => by subst q; revert ha; decide) (fun q => by subst q; revert ha; decide) (fun q => by subst q; revert ha; decide)) (fun j hj => k j (fun q => by subst q; revert hj; decide) (fun q => by subst q; revert hj; decide) ?_) (fun l hl => ?_) ?_ ?_ ?_ ?_ g31 (fun i hi => absurd hi (Nat.not_lt_zero i)) k36 ?_ ?_ ?_
    · simp only [List.mem_cons, List.not_mem_nil, or_false] at hj
      omega
    · rw [o 70 (by omega) (by omega) (by omega)]; exact a1.e l hl
    · rw [k 23 (by omega) (by omega) (by omega)]; exact a3
    · rw [o 83 (by omega) (by omega) (by omega)]; exact a4
    · rw [o 84 (by omega) (by omega) (by omega)]; exact a5
    · rw [o 85 (by omega) (by omega) (by omega)]; exact a6
    · rw [o 92 (by omega) (by omega) (by omega)]; exact b1
    · rw [o 93 (by omega) (by omega) (by omega)]; exact b2
    · rw [o 94 (by omega) (by omega) (by omega)]; exact b3
  · have k36 : wr z.1 65 31 0 65 36 = 0 := by rw [wr_k (by omega)]; exact g1
    have k27 : wr z.1 65 31 0 65 27 = nI L := by rw [wr_k (by omega)]; exact g27
    have k86 : wr z.1 65 31 0 86 = z.1 86 := wr_o (by omega)
    have k87 : wr z.1 65 31 0 87 = z.1 87 := wr_o (by omega)
    rw [← k86, ← k87] at ln
    refine wp_pos (by rw [k36]; decide) ?_
    generalize wr z.1 65 31 0 = g at *
    rw [k27]
    refine wp.bnd (P := fun x => Sam [65, 83, 84, 85] g x.1 ∧ (∀ j, x.1 65 j = if j = 23 then nI L else g 65 j) ∧ ∀ j, j < 12 → x.1 83 j = g 86 j ∧ x.1 84 j = g 87 j ∧ x.1 85 j = -4) ?_ (fun x hx => ?_)
    · refine wp_for 12 (fun i s => s.1 = nI i ∧ Sam [65, 83, 84, 85] g s.2.1 ∧ (∀ j, s.2.1 65 j = if j = 23 then nI L else g 65 j) ∧ ∀ j, j < i → s.2.1 83 j = g 86 j ∧ s.2.1 84 j = g 87 j ∧ s.2.1 85 j = -4) ?_ ?_ (i := 0) (by omega) ⟨rfl, (Sam.refl _ g).wr (by decide), (fun j => by dsimp only; rw [wr_i]), fun j hj => by omega⟩ (by omega)
      · rintro i ⟨v, u, ul⟩ hi1 ⟨rfl, sm, u0, h⟩
        dsimp only at sm u0 h
        unfold B_MD_program_70
        dsimp only
        have ii := nI_in (c := i) (N := 12) (by omega) (by omega)
        refine wp_neg (nI_ge (b := 12) hi1 (by omega)) (wp_neg ii (wp_neg ii (wp_neg ii (wp_neg ii (wp_neg ii ?_)))))
        rw [wp_some, nI_clamp (by omega)]
        refine ⟨nI_1 i, ((sm.wr (by decide)).wr (by decide)).wr (by decide), fun j => ?_, fun j hj => ?_⟩
        · dsimp only; rw [wr_o (by omega), wr_o (by omega), wr_o (by omega)]; exact u0 j
        · dsimp only
          rw [wr_o (a := 85) (b := 83) (by omega), wr_o (a := 84) (b := 83) (by omega), wr_o (a := 85) (b := 84) (by omega), wr_o (a := 83) (b := 87) (by omega), wr_i, wr_i, wr_i]
          by_cases q : j = i
          · subst q
            rw [if_pos rfl, if_pos rfl, if_pos rfl, sm 86 (by decide), sm 87 (by decide)]
            exact ⟨rfl, rfl, rfl⟩
          · rw [if_neg q, if_neg q, if_neg q, wr_o (by omega), wr_o (by omega), wr_o (by omega)]
            exact h j (by omega)
      · rintro ⟨v, u, ul⟩ ⟨rfl, sm, u0, h⟩
        dsimp only at sm u0 h
        unfold B_MD_program_70
        dsimp only
        refine wp_pos (nI_le (a := 12) (b := 12) (Nat.le_refl _) (by omega)) ?_
        rw [wp_some]
        exact ⟨sm, u0, h⟩
    · obtain ⟨x1, x2, x3⟩ := hx
      rw [wp_some]
      dsimp only
      have x23 : x.1 65 23 = nI L := by rw [x2, if_pos rfl]
      have x65 : ∀ j, j ≠ 23 → x.1 65 j = g 65 j := fun j q => by rw [x2, if_neg q]
      have o2 : ∀ a, a ≠ 65 → a ≠ 83 → a ≠ 84 → a ≠ 85 → x.1 a = g a := fun a h1 h2 h3 h4 => x1 a (by simp; omega)
      refine ⟨fun a ha => (o2 a (by omega) (by omega) (by omega) (by omega)).trans (lc a ha), Or.inr ⟨L, tf, kf, e1, x23, ?_⟩⟩
      refine hR.keep ⟨rfl, rfl, rfl, rfl, rfl, rfl, rfl⟩ (fun a ha hb => ?_) (fun j hj => ?_) (fun l hl => ?_) x23 (fun i (hi : i < L) => ?_) (fun i (hi : i < L) => ?_) (fun i (hi : i < L) => ?_) ?_ (fun i hi => absurd hi (Nat.not_lt_zero i)) ?_ ?_ ?_ ?_
      · have : 66 ≤ a := frM_hi ha
        simp only [List.mem_cons, List.not_mem_nil, or_false, not_or] at hb
        rw [o2 a (by omega) (by omega) (by omega) (by omega)]
        exact o a (by omega) (fun q => by subst q; revert ha; decide) (fun q => by subst q; revert ha; decide)
      · simp only [List.mem_cons, List.not_mem_nil, or_false] at hj
        rw [x65 j (by omega)]
        exact k j (by omega) (by omega) (by omega)
      · rw [o2 70 (by omega) (by omega) (by omega) (by omega), o 70 (by omega) (by omega) (by omega)]; exact a1.e l hl
      · rw [(x3 i (by omega)).1]; exact (ln i hi).1
      · rw [(x3 i (by omega)).2.1]; exact (ln i hi).2
      · exact (x3 i (by omega)).2.2
      · rw [x65 31 (by omega)]; exact g31
      · rw [x65 36 (by omega)]; exact k36
      · rw [o2 92 (by omega) (by omega) (by omega) (by omega), o 92 (by omega) (by omega) (by omega)]; exact b1
      · rw [o2 93 (by omega) (by omega) (by omega) (by omega), o 93 (by omega) (by omega) (by omega)]; exact b2
      · rw [o2 94 (by omega) (by omega) (by omega) (by omega), o 94 (by omega) (by omega) (by omega)]; exact b3
theorem S_program {N : Nat} (hN : 70000 ≤ N) : Sim (f_LW_program N) (f_MD_program N) := by
  intro A hi hl hw hc hm
  refine (c_program hN hw hc).mono (fun o ho => ?_)
  obtain ⟨o1, o2⟩ := ho
  refine (m_program hN hw (hm.hiC o1)).mono (fun p hp => ?_)
  obtain ⟨p1, p2⟩ := hp
  obtain ⟨a1, a2, a3, a4, a5, a6, a7, a8, a9, b1, b2, b3, b4, b5, b6, b7, b8, b9, c1, c2, c3, c4⟩ := hw
  rcases o2 with ⟨e, e1, e2, e3, e4, e5⟩ | ⟨L, tf, kf, e1, e2, e3, e4, e5⟩
  · rcases p2 with ⟨f, f1, f2, f3⟩ | ⟨L, tf, kf, f1, f2, f3⟩
    · rw [e1] at f1
      obtain rfl := Sum.inl.inj f1
      refine ⟨e2.trans f2.symm, A.pF e.1, ?_, e5.lo p1, f3⟩
      exact ⟨a1, a2, a3, a4, a5, a6, a7, a8, a9, b1, b2, b3, b4, b5, b6, b7, b8, b9, Nat.zero_le _, fun i hi => absurd hi (Nat.not_lt_zero i), e4, c4⟩
    · rw [e1] at f1
      cases f1
  · rcases p2 with ⟨f, f1, f2, f3⟩ | ⟨L', tf', kf', f1, f2, f3⟩
    · rw [e1] at f1
      cases f1
    · rw [e1] at f1
      obtain ⟨rfl, rfl, rfl⟩ : L = L' ∧ tf = tf' ∧ kf = kf' := by
        have q := Sum.inr.inj f1
        injection q with q1 q2
        injection q2 with q3 q4
        exact ⟨q1, q3, q4⟩
      refine ⟨e2.trans f2.symm, A.pG L tf kf, ?_, e5.lo p1, f3⟩
      exact ⟨a1, a2, a3, a4, a5, a6, a7, a8, a9, b1, b2, b3, b4, e3, (fun k hk => (e4 k hk).1), (fun k hk => (e4 k hk).2.1), (fun k hk => (e4 k hk).2.2), (fun k hk => Or.inl rfl), Nat.zero_le _, (fun i hi => absurd hi (Nat.not_lt_zero i)), Nat.zero_le _, c4⟩
