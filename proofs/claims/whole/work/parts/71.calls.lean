/-! fault, end, seen -/
theorem S_fault {N : Nat} : Sim (f_LW_fault N) (f_MD_fault N) := by
  refine Sim.of (fun A hw => ⟨nI A.fault, A, hw, CC.q (fun hi hl hR => ?_), MM.q (fun hi hl hR => ?_)⟩)
  · unfold f_LW_fault
    rw [hR.tp.f]
  · unfold f_MD_fault
    rw [hR.ft]
theorem S_end {N : Nat} (p : Int32) : Sim (f_LW_end N p) (f_MD_end N p) := by
  refine Sim.of (fun A hw => ?_)
  have t2 := hw.t200
  have hb : ∀ (hi : HI) (hl : HL), RM A hi → f_MD_in N p.toInt64 0 (Int32.toInt64 (hi 65 31)) hi hl = some (b2i (rg p 0 (A.taped + 1)), hi, hl) := fun hi hl hR => by
    refine e_in32 N p _ _ hi hl (x := 0) (y := A.taped + 1) (ltL64 0 (by decide)) ?_
    rw [Int32.toInt_toInt64, hR.tn, nI_toInt (by omega)]; omega
  rcases rgE p 0 (A.taped + 1) with ⟨e, e1⟩ | ⟨e, _⟩
  · refine Sim.bad (ans := -1) hw (fun hi hl hR => ?_) (fun hi hl hR => ?_)
    · unfold f_LW_end
      rw [hR.tp.n]
      simp (disch := omega) only [lit_I, fa_lt, fa_le, nI_toInt, decide_eq_true_eq]
      repeat' split
      all_goals first | rfl | (exfalso; omega)
    · unfold f_MD_end
      rw [hb hi hl hR, e]; rfl
  · obtain ⟨j, _, j1, rfl⟩ := rg_t (by omega) e
    have sb : SB A (A.setN 4 j) := ⟨rfl, rfl, rfl, rfl, rfl, rfl, rfl⟩
    refine ⟨nI A.taped, A.setN 4 j, ?_, fun hi hl hR => ?_, fun hi hl hR => ?_⟩
    · obtain ⟨a1, a2, a3, a4, a5, a6, a7, a8, a9, b1, b2, b3, b4, b5, b6, b7, b8, b9, c1, c2, rest⟩ := hw
      exact ⟨a1, a2, a3, a4, a5, a6, a7, a8, a9, b1, b2, b3, b4, b5, b6, b7, b8, b9, by show j ≤ 200; omega, fun i hi => c2 i (Nat.lt_of_lt_of_le hi (by show j ≤ A.taped; omega)), rest⟩
    · unfold f_LW_end
      refine wp_neg (nI_pos (by omega)) (wp_pos (by rw [hR.tp.n]; exact nI_le (by omega) (by omega)) ?_)
      rw [wp_some]
      refine ⟨hR.tp.n, hR.keep sb (fun a ha hb => wr_o (fun q => hb (by rw [q]; decide))) (fun l hl => ?_) ⟨?_, ?_, fun i hi => ?_⟩ ?_ ?_ (fun k hk => ?_), (HiC.refl hi).wr (by omega)⟩
      · dsimp only; rw [wr_o (by omega)]; exact hR.bd.e l hl
      · simp (disch := first | decide | omega) only [wr_o, wr_k, wr_s]; rfl
      · simp (disch := first | decide | omega) only [wr_o, wr_k, wr_s]; exact hR.tp.f
      · simp (disch := first | decide | omega) only [wr_o, wr_k, wr_s]; exact hR.tp.y i (Nat.lt_of_lt_of_le hi (by show j ≤ A.taped; omega))
      · simp (disch := first | decide | omega) only [wr_o, wr_k, wr_s]; exact hR.sc
      · simp (disch := first | decide | omega) only [wr_o, wr_k, wr_s]; rw [sb_Gs ⟨sb.b0, rfl, rfl⟩ rfl]; exact hR.gs
      · dsimp only; rw [wr_o (by omega), wr_o (by omega)]; exact hR.sh k hk
    · unfold f_MD_end
      rw [hb hi hl hR, e]
      simp only [Option.bind_some, b2i_tt, if_false, wp_some]
      obtain ⟨a1, a2, a3, a4, a5, a6, a7, a8, a9, b1, b2, b3⟩ := id hR
      refine ⟨a7, hR.keep sb (fun a ha hb => wr_o (fun q => by subst q; revert ha; decide)) (fun i hi => ?_) (fun l hl => ?_) ?_ ?_ ?_ ?_ ?_ (fun i hi => ?_) ?_ ?_ ?_ ?_, (LoC.refl hi).wr (by omega)⟩
      · rw [wr_k (fun q => by subst q; revert hi; decide)]
      · rw [wr_o (by omega)]; exact a1.e l hl
      · simp (disch := first | decide | omega) only [wr_o, wr_k, wr_s]; exact a3
      · simp (disch := first | decide | omega) only [wr_o, wr_k, wr_s]; exact a4
      · simp (disch := first | decide | omega) only [wr_o, wr_k, wr_s]; exact a5
      · simp (disch := first | decide | omega) only [wr_o, wr_k, wr_s]; exact a6
      · simp (disch := first | decide | omega) only [wr_o, wr_k, wr_s]; rfl
      · rw [wr_o (by omega)]; exact a8 i (Nat.lt_of_lt_of_le hi (by show j ≤ A.taped; omega))
      · simp (disch := first | decide | omega) only [wr_o, wr_k, wr_s]; exact a9
      · simp (disch := first | decide | omega) only [wr_o, wr_k, wr_s]; exact b1
      · simp (disch := first | decide | omega) only [wr_o, wr_k, wr_s]; exact b2
      · simp (disch := first | decide | omega) only [wr_o, wr_k, wr_s]; exact b3
theorem S_seen {N : Nat} (p q : Int32) : Sim (f_LW_seen N p q) (f_MD_seen N p q) := by
  refine Sim.of (fun A hw => ?_)
  have l12 := hw.l12
  have n16 := hw.n16
  have p2 := pow2_le n16
  rcases rgE p 0 A.lines with ⟨e, _⟩ | ⟨e, _⟩
  · refine Sim.bad (ans := -10) hw (fun hi hl hR => ?_) (fun hi hl hR => ?_)
    · unfold f_LW_seen
      rw [e_isLine hR.sc.n (by omega), e]; rfl
    · unfold f_MD_seen
      rw [m_isLine hR.ln (by omega), e]; rfl
  obtain ⟨k, _, k1, rfl⟩ := rg_t (by omega) e
  have ck : (nI k).toNatClampNeg = k := nI_clamp (by omega)
  by_cases ok : q = -4 ∨ rg q 0 (2 ^ A.n) = true
  · have sb : SB A (A.setI 0 (fun j => if j = k then q else A.sn j)) := ⟨rfl, rfl, rfl, rfl, rfl, rfl, rfl⟩
    refine ⟨A.sn k, A.setI 0 (fun j => if j = k then q else A.sn j), ?_, fun hi hl hR => ?_, fun hi hl hR => ?_⟩
    · obtain ⟨a1, a2, a3, a4, a5, a6, a7, a8, a9, b1, b2, b3, b4, b5, b6, b7, b8, b9, rest⟩ := hw
      refine ⟨a1, a2, a3, a4, a5, a6, a7, a8, a9, b1, b2, b3, b4, b5, b6, b7, b8, fun j hj => ?_, rest⟩
      show (if j = k then q else A.sn j) = -4 ∨ ∃ p, p < 2 ^ A.n ∧ (if j = k then q else A.sn j) = nI p
      split
      · rcases ok with h | h
        · exact Or.inl h
        · obtain ⟨p, _, h1, h2⟩ := rg_t (by omega) h
          exact Or.inr ⟨p, h1, h2⟩
      · exact b9 j hj
    · have go : wp (J_LW_seen_31 N (nI k) q hi hl) (fun o => o.1 = A.sn k ∧ RC (A.setI 0 (fun j => if j = k then q else A.sn j)) o.2.1 ∧ HiC hi o.2.1) := by
        unfold J_LW_seen_31
        rw [ck]
        refine wp_neg (nI_in' (by omega) (by omega)) (wp_neg (nI_in' (by omega) (by omega)) ?_)
        rw [wp_some]
        refine ⟨hR.sc.s k k1, hR.keep sb (fun a ha hb => by
          dsimp only
          rw [wr_o (fun q => hb (by rw [q]; decide)), wr_o (fun q => hb (by rw [q]; decide))]) (fun l hl => ?_) ?_ ⟨?_, ?_, ?_, fun i hi => ?_⟩ ⟨Or.inl ?_, ?_⟩ (fun k hk => ?_), ((HiC.refl hi).wr (by omega)).wr (by omega)⟩
        · dsimp only; rw [wr_o (by omega), wr_o (by omega)]; exact hR.bd.e l hl
        · simp (disch := first | decide | omega) only [wr_o, wr_k, wr_s]; exact hR.tp
        · simp (disch := first | decide | omega) only [wr_o, wr_k, wr_s]; exact hR.sc.n
        · simp (disch := first | decide | omega) only [wr_o, wr_k, wr_s]; exact hR.sc.t
        · simp (disch := first | decide | omega) only [wr_o, wr_k, wr_s]; exact hR.sc.k
        · dsimp only
          rw [wr_o (by omega), wr_i]
          show _ = (if i = k then q else A.sn i)
          split
          · rfl
          · exact hR.sc.s i hi
        · simp (disch := first | decide | omega) only [wr_o, wr_k, wr_s]
        · dsimp only
          rw [wr_k (by omega), wr_o (by omega)]
          rcases hR.gs.w with h | ⟨h, h2⟩
          · exact Or.inl h
          · refine Or.inr ⟨h, ?_⟩
            rw [sb_tel ⟨sb.b0, rfl, rfl⟩]
            unfold GsW at h2 ⊢
            rw [wr_k (by omega), wr_k (by omega), wr_o (by omega)]; exact h2
        · dsimp only; rw [wr_o (by omega), wr_o (by omega), wr_o (by omega), wr_o (by omega)]; exact hR.sh k hk
      unfold f_LW_seen
      rw [e_isLine hR.sc.n (by omega), e]
      simp only [Option.bind_some, b2i_tt, if_false]
      by_cases c : q = -4
      · exact wp_pos c go
      · refine wp_neg c ?_
        rw [e_isPicture hR.bd.n n16, ok.resolve_left c]
        simp only [Option.bind_some, b2i_tt, if_false]
        exact go
    · have go : wp (J_MD_seen_25 N (nI k) q hi hl) (fun o => o.1 = A.sn k ∧ RM (A.setI 0 (fun j => if j = k then q else A.sn j)) o.2.1 ∧ LoC hi o.2.1) := by
        unfold J_MD_seen_25
        rw [ck]
        refine wp_neg (nI_in' (by omega) (by omega)) (wp_neg (nI_in' (by omega) (by omega)) ?_)
        rw [wp_some]
        obtain ⟨a1, a2, a3, a4, a5, a6, a7, a8, a9, b1, b2, b3⟩ := id hR
        refine ⟨a6 k k1, hR.keep sb (fun a ha hb => wr_o (fun q => hb (by rw [q]; decide))) (fun i hi => ?_) (fun l hl => ?_) ?_ ?_ ?_ (fun i hi => ?_) ?_ ?_ ?_ ?_ ?_ ?_, (LoC.refl hi).wr (by omega)⟩
        · dsimp only; rw [wr_o (by omega)]
        · dsimp only; rw [wr_o (by omega)]; exact a1.e l hl
        · simp (disch := first | decide | omega) only [wr_o, wr_k, wr_s]; exact a3
        · simp (disch := first | decide | omega) only [wr_o, wr_k, wr_s]; exact a4
        · simp (disch := first | decide | omega) only [wr_o, wr_k, wr_s]; exact a5
        · dsimp only
          rw [wr_i]
          show _ = (if i = k then q else A.sn i)
          split
          · rfl
          · exact a6 i hi
        · simp (disch := first | decide | omega) only [wr_o, wr_k, wr_s]; exact a7
        · simp (disch := first | decide | omega) only [wr_o, wr_k, wr_s]; exact a8
        · simp (disch := first | decide | omega) only [wr_o, wr_k, wr_s]; exact a9
        · simp (disch := first | decide | omega) only [wr_o, wr_k, wr_s]; exact b1
        · simp (disch := first | decide | omega) only [wr_o, wr_k, wr_s]; exact b2
        · simp (disch := first | decide | omega) only [wr_o, wr_k, wr_s]; exact b3
      unfold f_MD_seen
      rw [m_isLine hR.ln (by omega), e]
      simp only [Option.bind_some, b2i_tt, if_false]
      by_cases c : q = -4
      · exact wp_pos c go
      · refine wp_neg c ?_
        rw [m_isPicture hR.bd.n n16, ok.resolve_left c]
        simp only [Option.bind_some, b2i_tt, if_false]
        exact go
  · have n4 : ¬ q = -4 := fun h => ok (Or.inl h)
    have np : rg q 0 (2 ^ A.n) = false := by
      cases h : rg q 0 (2 ^ A.n) with
      | false => rfl
      | true => exact absurd (Or.inr h) ok
    refine Sim.bad (ans := -10) hw (fun hi hl hR => ?_) (fun hi hl hR => ?_)
    · unfold f_LW_seen
      rw [e_isLine hR.sc.n (by omega), e]
      simp only [Option.bind_some, b2i_tt, if_false]
      rw [if_neg n4, e_isPicture hR.bd.n n16, np]; rfl
    · unfold f_MD_seen
      rw [m_isLine hR.ln (by omega), e]
      simp only [Option.bind_some, b2i_tt, if_false]
      rw [if_neg n4, m_isPicture hR.bd.n n16, np]; rfl
/-! lampOf, hurt, between, lamp -/
theorem S_lampOf {N : Nat} (p q : Int32) : Sim (f_LW_lampOf N p q) (f_MD_lampOf N p q) := by
  refine Sim.of (fun A hw => ?_)
  have n16 := hw.n16
  have hb : ∀ (hi : HI) (hl : HL), f_MD_in N q.toInt64 0 4 hi hl = some (b2i (rg q 0 5), hi, hl) := fun hi hl => e_in32 N q _ _ hi hl (x := 0) (y := 5) (ltL64 0 (by decide)) (ltL64 4 (by decide))
  rcases rgE p 0 A.n with ⟨e, _⟩ | ⟨e, _⟩
  · refine Sim.bad (ans := -1) hw (fun hi hl hR => ?_) (fun hi hl hR => ?_)
    · unfold f_LW_lampOf
      rw [e_isLamp hR.bd.n (by omega), e]; rfl
    · unfold f_MD_lampOf
      rw [m_isLamp hR.bd.n (by omega), e]; rfl
  obtain ⟨l, _, l1, rfl⟩ := rg_t (by omega) e
  have ix : ¬ (nI l < 0 ∨ 16 ≤ l) := nI_in' (by omega) (by omega)
  have cl : (nI l).toNatClampNeg = l := nI_clamp (by omega)
  rcases rgE q 0 5 with ⟨f, f1⟩ | ⟨f, _⟩
  · have z0 : ¬ q = 0 := fun h => f1 (by rw [h]; decide)
    have z1 : ¬ q = 1 := fun h => f1 (by rw [h]; decide)
    have z2 : ¬ q = 2 := fun h => f1 (by rw [h]; decide)
    have z3 : ¬ q = 3 := fun h => f1 (by rw [h]; decide)
    have z4 : ¬ q = 4 := fun h => f1 (by rw [h]; decide)
    refine Sim.bad (ans := -1) hw (fun hi hl hR => ?_) (fun hi hl hR => ?_)
    · unfold f_LW_lampOf
      rw [e_isLamp hR.bd.n (by omega), e]
      simp only [Option.bind_some, b2i_tt, if_false]
      rw [if_neg z0, if_neg z1, if_neg z2, if_neg z3, if_neg z4]
    · unfold f_MD_lampOf
      rw [m_isLamp hR.bd.n (by omega), e]
      simp only [Option.bind_some, b2i_tt, if_false]
      rw [hb, f]; rfl
  obtain ⟨k, _, k1, rfl⟩ := rg_t (by omega) f
  refine Sim.bad (ans := if k = 0 then nI (A.lf l) else if k = 1 then nI (A.lt l) else if k = 2 then nI (A.lv l) else if k = 3 then nI (A.st l) else nI (A.lev l)) hw (fun hi hl hR => ?_) (fun hi hl hR => ?_)
  · have r1 := hR.bd.f l l1
    have r2 := hR.bd.t l l1
    have r3 := hR.bd.v l l1
    have r4 := hR.bd.st l l1
    have r5 := hR.bd.e l l1
    unfold f_LW_lampOf
    rw [e_isLamp hR.bd.n (by omega), e]
    simp only [Option.bind_some, b2i_tt, if_false, if_neg ix, cl, r1, r2, r3, r4, r5]
    rcases (show k = 0 ∨ k = 1 ∨ k = 2 ∨ k = 3 ∨ k = 4 by omega) with rfl | rfl | rfl | rfl | rfl <;> rfl
  · have r1 := hR.bd.f l l1
    have r2 := hR.bd.t l l1
    have r3 := hR.bd.v l l1
    have r4 := hR.bd.st l l1
    have r5 := hR.bd.e l l1
    unfold f_MD_lampOf
    rw [m_isLamp hR.bd.n (by omega), e]
    simp only [Option.bind_some, b2i_tt, if_false]
    rw [hb, f]
    simp only [Option.bind_some, b2i_tt, if_false, if_neg ix, cl, r1, r2, r3, r4, r5]
    rcases (show k = 0 ∨ k = 1 ∨ k = 2 ∨ k = 3 ∨ k = 4 by omega) with rfl | rfl | rfl | rfl | rfl <;> rfl
theorem S_hurt {N : Nat} (hN : 70000 ≤ N) (p q : Int32) : Sim (f_LW_hurt N p q) (f_MD_hurt N p q) := by
  refine Sim.of (fun A hw => ?_)
  have n16 := hw.n16
  have hb : ∀ (hi : HI) (hl : HL), f_MD_in N q.toInt64 0 2 hi hl = some (b2i (rg q 0 3), hi, hl) := fun hi hl => e_in32 N q _ _ hi hl (x := 0) (y := 3) (ltL64 0 (by decide)) (ltL64 2 (by decide))
  rcases rgE p 0 A.n with ⟨e, _⟩ | ⟨e, _⟩
  · refine Sim.bad (ans := -1) hw (fun hi hl hR => ?_) (fun hi hl hR => ?_)
    · unfold f_LW_hurt
      rw [e_isLamp hR.bd.n (by omega), e]; rfl
    · unfold f_MD_hurt
      rw [m_isLamp hR.bd.n (by omega), e]; rfl
  rcases rgE q 0 3 with ⟨f, f1⟩ | ⟨f, _⟩
  · refine Sim.bad (ans := -1) hw (fun hi hl hR => ?_) (fun hi hl hR => ?_)
    · unfold f_LW_hurt
      rw [e_isLamp hR.bd.n (by omega), e]
      simp only [Option.bind_some, b2i_tt, if_false]
      simp (disch := omega) only [lit_I, fa_lt, fa_le, nI_toInt, decide_eq_true_eq]
      repeat' split
      all_goals first | rfl | (exfalso; omega)
    · unfold f_MD_hurt
      rw [m_isLamp hR.bd.n (by omega), e]
      simp only [Option.bind_some, b2i_tt, if_false]
      rw [hb, f]; rfl
  obtain ⟨l, _, l1, rfl⟩ := rg_t (by omega) e
  obtain ⟨v, _, v1, rfl⟩ := rg_t (by omega) f
  have cl : (nI l).toNatClampNeg = l := nI_clamp (by omega)
  refine ⟨nI (A.st l), A.setA 3 (fun j => if j = l then v else A.st j), ?_, fun hi hl hR => ?_, fun hi hl hR => ?_⟩
  · obtain ⟨a1, a2, a3, a4, a5, a6, a7, a8, a9, b1, b2, rest⟩ := hw
    exact ⟨a1, a2, a3, a4, a5, a6, a7, a8, a9, b1, fun j hj => by
      show (if j = l then v else A.st j) ≤ 2
      split
      · omega
      · exact b2 j hj, rest⟩
  · unfold f_LW_hurt
    rw [e_isLamp hR.bd.n (by omega), e]
    simp only [Option.bind_some, b2i_tt, if_false]
    refine wp_neg (nI_pos (by omega)) (wp_pos (nI_le (b := 2) (by omega) (by omega)) (wp_neg (nI_in (by omega) (by omega)) (wp_neg (nI_in (by omega) (by omega)) ?_)))
    rw [cl]
    refine (c_forget hN _ _).bnd (fun x hx => ?_)
    rw [wp_some]
    obtain ⟨c1, c2, c3, c4, c5, c6, c7, c8⟩ := hR.bd
    refine ⟨c7 l l1, hR.forgot [5] ((Sam.refl _ _).wr (by decide)) (by decide) hx ⟨?_, ?_, ?_, ?_, ?_, ?_, fun j hj => ?_, ?_⟩ rfl ?_ ?_ rfl (fun k => rfl), ((HiC.refl hi).wr (by omega)).trans hx.hiC⟩
    · simp (disch := first | decide | omega) only [wr_o, wr_k, wr_s]; exact c1
    · simp (disch := first | decide | omega) only [wr_o, wr_k, wr_s]; exact c2
    · simp (disch := first | decide | omega) only [wr_o, wr_k, wr_s]; exact c3
    · simp (disch := first | decide | omega) only [wr_o, wr_k, wr_s]; exact c4
    · simp (disch := first | decide | omega) only [wr_o, wr_k, wr_s]; exact c5
    · simp (disch := first | decide | omega) only [wr_o, wr_k, wr_s]; exact c6
    · show _ = nI (if j = l then v else A.st j)
      rw [wr_i]
      split
      · rfl
      · exact c7 j hj
    · simp (disch := first | decide | omega) only [wr_o, wr_k, wr_s]; exact c8
    · simp (disch := first | decide | omega) only [wr_o, wr_k, wr_s]; exact hR.sc
    · simp (disch := first | decide | omega) only [wr_o, wr_k, wr_s]
      have s0 : SB0 A (A.setA 3 (fun j => if j = l then v else A.st j)) := ⟨rfl, rfl, rfl, rfl, rfl, rfl⟩
      rw [sb_Gs ⟨s0, rfl, rfl⟩ rfl]; exact hR.gs
  · unfold f_MD_hurt
    rw [m_isLamp hR.bd.n (by omega), e]
    simp only [Option.bind_some, b2i_tt, if_false]
    rw [hb, f]
    simp only [Option.bind_some, b2i_tt, if_false]
    refine wp_neg (nI_in (by omega) (by omega)) (wp_neg (nI_in (by omega) (by omega)) ?_)
    rw [wp_some, cl]
    obtain ⟨⟨c1, c2, c3, c4, c5, c6, c7, c8⟩, a2, a3, a4, a5, a6, a7, a8, a9, b1, b2, b3⟩ := hR
    refine ⟨c7 l l1, ⟨⟨?_, ?_, ?_, ?_, ?_, ?_, fun j hj => ?_, ?_⟩, Or.inl ?_, ?_, ?_, ?_, ?_, ?_, ?_, ?_, ?_, ?_, ?_⟩, ((LoC.refl hi).wr (by omega)).wr (by omega)⟩
    · simp (disch := first | decide | omega) only [wr_o, wr_k, wr_s]; exact c1
    · simp (disch := first | decide | omega) only [wr_o, wr_k, wr_s]; exact c2
    · simp (disch := first | decide | omega) only [wr_o, wr_k, wr_s]; exact c3
    · simp (disch := first | decide | omega) only [wr_o, wr_k, wr_s]; exact c4
    · simp (disch := first | decide | omega) only [wr_o, wr_k, wr_s]; exact c5
    · simp (disch := first | decide | omega) only [wr_o, wr_k, wr_s]; exact c6
    · show _ = nI (if j = l then v else A.st j)
      dsimp only
      rw [wr_o (by omega), wr_i]
      split
      · rfl
      · exact c7 j hj
    · simp (disch := first | decide | omega) only [wr_o, wr_k, wr_s]; exact c8
    · simp (disch := first | decide | omega) only [wr_o, wr_k, wr_s]
    · simp (disch := first | decide | omega) only [wr_o, wr_k, wr_s]; exact a3
    · simp (disch := first | decide | omega) only [wr_o, wr_k, wr_s]; exact a4
    · simp (disch := first | decide | omega) only [wr_o, wr_k, wr_s]; exact a5
    · simp (disch := first | decide | omega) only [wr_o, wr_k, wr_s]; exact a6
    · simp (disch := first | decide | omega) only [wr_o, wr_k, wr_s]; exact a7
    · simp (disch := first | decide | omega) only [wr_o, wr_k, wr_s]; exact a8
    · simp (disch := first | decide | omega) only [wr_o, wr_k, wr_s]; exact a9
    · simp (disch := first | decide | omega) only [wr_o, wr_k, wr_s]; exact b1
    · simp (disch := first | decide | omega) only [wr_o, wr_k, wr_s]; exact b2
    · simp (disch := first | decide | omega) only [wr_o, wr_k, wr_s]; exact b3
noncomputable def fndA (A : St) (a b : Nat) : Int32 := fstA (fun l => l < A.n ∧ A.lf l = a ∧ A.lt l = b)
theorem e_find {N : Nat} (hN : 70000 ≤ N) {A : St} (hw : WF A) {a b : Nat} (ha : a < 2 ^ 31) (hb : b < 2 ^ 31) {hi : HI} {hl : HL} (hR : RC A hi) : f_Board_find N (nI a) (nI b) hi hl = some (fndA A a b, hi, hl) := by
  have n16 := hw.n16
  have w6 := hw.w6
  have key : wp (lpN (fun s => B_Board_find_2 N (nI a) (nI b) s.1 s.2.1 s.2.2) N (0, hi, hl)) (fun z => (z.1 = 0 ∧ z.2.2 = (hi, hl) ∧ ∀ j, j < A.n → ¬ (A.lf j = a ∧ A.lt j = b)) ∨ (z.1 = 1 ∧ z.2.2 = (hi, hl) ∧ ∃ j, j < A.n ∧ z.2.1 = nI j ∧ A.lf j = a ∧ A.lt j = b ∧ ∀ k, k < j → ¬ (A.lf k = a ∧ A.lt k = b))) := by
    refine wp_for A.n (fun i s => s = (nI i, hi, hl) ∧ ∀ j, j < i → ¬ (A.lf j = a ∧ A.lt j = b)) ?_ ?_ (i := 0) (Nat.zero_le _) ⟨rfl, fun j hj => by omega⟩ (by omega)
    · rintro i s hi1 ⟨rfl, h⟩
      unfold B_Board_find_2 J_Board_find_32
      dsimp only
      have lu := hw.lf i hi1
      have lv := hw.lt i hi1
      rw [nI_clamp (by omega)]
      refine wp_neg (by rw [hR.bd.n]; exact nI_ge hi1 (by omega)) (wp_neg (nI_in' (by omega) (by omega)) ?_)
      have ext : ¬ (A.lf i = a ∧ A.lt i = b) → ∀ j, j < i + 1 → ¬ (A.lf j = a ∧ A.lt j = b) := fun q j hj => by
        by_cases e : j = i
        · rw [e]; exact q
        · exact h j (by omega)
      by_cases c1 : A.lf i = a
      · refine wp_pos (by rw [hR.bd.f i hi1, c1]) (wp_neg (nI_in' (by omega) (by omega)) ?_)
        by_cases c2 : A.lt i = b
        · refine wp_pos (by rw [hR.bd.t i hi1, c2]) ?_
          rw [wp_some]
          exact Or.inr ⟨rfl, rfl, i, hi1, rfl, c1, c2, h⟩
        · refine wp_neg (by rw [hR.bd.t i hi1]; exact fun q => c2 ((nI_eq (by omega) (by omega)).mp q)) ?_
          rw [wp_some, nI_1]
          exact ⟨rfl, ext (fun q => c2 q.2)⟩
      · refine wp_neg (by rw [hR.bd.f i hi1]; exact fun q => c1 ((nI_eq (by omega) (by omega)).mp q)) ?_
        rw [wp_some, nI_1]
        exact ⟨rfl, ext (fun q => c1 q.1)⟩
    · rintro s ⟨rfl, h⟩
      unfold B_Board_find_2
      dsimp only
      refine wp_pos (by rw [hR.bd.n]; exact nI_le (Nat.le_refl _) (by omega)) ?_
      rw [wp_some]
      exact Or.inl ⟨rfl, rfl, h⟩
  obtain ⟨z, h1, h2⟩ := key
  unfold f_Board_find fndA
  rw [h1, Option.bind_some]
  rcases h2 with ⟨z0, z1, h⟩ | ⟨z0, z1, j, j1, j2, j3, j4, j5⟩
  · rw [if_pos z0, z1, fstA_none (fun t q => h t q.1 q.2)]
  · rw [if_neg (by omega), z1, j2, fstA_some ⟨j1, j3, j4⟩ (fun k hk q => j5 k hk q.2)]
theorem m_find {N : Nat} (hN : 70000 ≤ N) {A : St} (hw : WF A) {a b : Nat} (ha : a < 2 ^ 31) (hb : b < 2 ^ 31) {hi : HI} {hl : HL} (hR : RM A hi) : f_MD_find N (nI a) (nI b) hi hl = some (fndA A a b, hi, hl) := by
  have n16 := hw.n16
  have w6 := hw.w6
  have key : wp (lpN (fun s => B_MD_find_6 N (nI a) (nI b) s.1 s.2.1 s.2.2.1 s.2.2.2) N (-4, 0, hi, hl)) (fun z => z.2 = (hi, hl) ∧ ((z.1 = -4 ∧ ∀ j, j < A.n → ¬ (A.lf j = a ∧ A.lt j = b)) ∨ ∃ j, j < A.n ∧ z.1 = nI j ∧ A.lf j = a ∧ A.lt j = b)) := by
    refine wp_for A.n (fun i s => s.2 = (nI i, hi, hl) ∧ ((s.1 = -4 ∧ ∀ j, j < i → ¬ (A.lf j = a ∧ A.lt j = b)) ∨ ∃ j, j < A.n ∧ s.1 = nI j ∧ A.lf j = a ∧ A.lt j = b)) ?_ ?_ (i := 0) (Nat.zero_le _) ⟨rfl, Or.inl ⟨rfl, fun j hj => by omega⟩⟩ (by omega)
    · rintro i ⟨v, s⟩ hi1 ⟨hs, h⟩
      dsimp only at hs h
      subst hs
      unfold B_MD_find_6 J_MD_find_42 J_MD_find_43
      dsimp only
      have lu := hw.lf i hi1
      have lv := hw.lt i hi1
      rw [nI_clamp (by omega)]
      refine wp_neg (by rw [hR.bd.n]; exact nI_ge hi1 (by omega)) (wp_neg (nI_in' (by omega) (by omega)) ?_)
      have ext : ¬ (A.lf i = a ∧ A.lt i = b) → ((v = -4 ∧ ∀ j, j < i + 1 → ¬ (A.lf j = a ∧ A.lt j = b)) ∨ ∃ j, j < A.n ∧ v = nI j ∧ A.lf j = a ∧ A.lt j = b) := fun q => by
        rcases h with ⟨h1, h2⟩ | h
        · refine Or.inl ⟨h1, fun j hj => ?_⟩
          by_cases e : j = i
          · rw [e]; exact q
          · exact h2 j (by omega)
        · exact Or.inr h
      by_cases c1 : A.lf i = a
      · refine wp_pos (by rw [hR.bd.f i hi1, c1]) (wp_neg (nI_in' (by omega) (by omega)) ?_)
        by_cases c2 : A.lt i = b
        · refine wp_pos (by rw [hR.bd.t i hi1, c2]) ?_
          rw [wp_some, nI_1]
          exact ⟨rfl, Or.inr ⟨i, hi1, rfl, c1, c2⟩⟩
        · refine wp_neg (by rw [hR.bd.t i hi1]; exact fun q => c2 ((nI_eq (by omega) (by omega)).mp q)) ?_
          rw [wp_some, nI_1]
          exact ⟨rfl, ext (fun q => c2 q.2)⟩
      · refine wp_neg (by rw [hR.bd.f i hi1]; exact fun q => c1 ((nI_eq (by omega) (by omega)).mp q)) ?_
        rw [wp_some, nI_1]
        exact ⟨rfl, ext (fun q => c1 q.1)⟩
    · rintro ⟨v, s⟩ ⟨hs, h⟩
      dsimp only at hs h
      subst hs
      unfold B_MD_find_6
      dsimp only
      refine wp_pos (by rw [hR.bd.n]; exact nI_le (Nat.le_refl _) (by omega)) ?_
      rw [wp_some]
      exact ⟨rfl, h⟩
  obtain ⟨z, h1, z1, h2⟩ := key
  unfold f_MD_find fndA
  rw [h1, Option.bind_some, z1]
  rcases h2 with ⟨z0, h⟩ | ⟨j, j1, j2, j3, j4⟩
  · rw [z0, fstA_none (fun t q => h t q.1 q.2)]
  · rw [j2, fstA_some ⟨j1, j3, j4⟩ (fun k hk q => by
      have := hw.one k j q.1 j1 (by rw [q.2.1, j3]) (by rw [q.2.2, j4])
      omega)]
theorem S_between {N : Nat} (hN : 70000 ≤ N) (p q : Int32) : Sim (f_LW_between N p q) (f_MD_between N p q) := by
  refine Sim.of (fun A hw => ?_)
  have w6 := hw.w6
  by_cases ok : rg p 0 A.w = true ∧ rg q 0 A.w = true ∧ p ≠ q
  · obtain ⟨e, f, ne⟩ := ok
    obtain ⟨a, _, a1, rfl⟩ := rg_t (by omega) e
    obtain ⟨b, _, b1, rfl⟩ := rg_t (by omega) f
    refine Sim.bad (ans := fndA A a b) hw (fun hi hl hR => ?_) (fun hi hl hR => ?_)
    · unfold f_LW_between
      rw [e_isPair hR.bd.w (by omega), e, f, decide_eq_true ne]
      simp only [Bool.and_self, Option.bind_some, b2i_tt, if_false]
      rw [e_find hN hw (by omega) (by omega) hR]; rfl
    · unfold f_MD_between
      rw [m_isWire hR.bd.w (by omega), e]
      simp only [Option.bind_some, b2i_tt, if_false]
      rw [m_isWire hR.bd.w (by omega), f]
      simp only [Option.bind_some, b2i_tt, if_false, if_neg ne]
      rw [m_find hN hw (by omega) (by omega) hR]; rfl
  · refine Sim.bad (ans := -1) hw (fun hi hl hR => ?_) (fun hi hl hR => ?_)
    · unfold f_LW_between
      rw [e_isPair hR.bd.w (by omega)]
      have : (rg p 0 A.w && (rg q 0 A.w && decide (p ≠ q))) = false := by
        cases h1 : rg p 0 A.w <;> cases h2 : rg q 0 A.w <;> simp_all
      rw [this]; rfl
    · unfold f_MD_between J_MD_between_21
      rw [m_isWire hR.bd.w (by omega)]
      cases h1 : rg p 0 A.w with
      | false => rfl
      | true =>
        simp only [Option.bind_some, b2i_tt, if_false]
        rw [m_isWire hR.bd.w (by omega)]
        cases h2 : rg q 0 A.w with
        | false => rfl
        | true =>
          simp only [Option.bind_some, b2i_tt, if_false]
          have : p = q := by
            by_cases c : p = q
            · exact c
            · exact absurd ⟨h1, h2, c⟩ ok
          rw [if_pos this]
