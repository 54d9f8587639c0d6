/-! the whole table; what a turn shows -/
theorem c_fill_tab {N : Nat} (hN : 70000 ≤ N) {A : St} (hw : WF A) {hi : HI} {hl : HL} (hR : RC A hi) : wp (f_TurnTable_fill N hi hl) (fun o => Sam [7, 8, 9, 10, 11, 12, 13, 14, 15, 16] hi o.2.1 ∧ o.2.1 12 0 = 1 ∧ TbOK A (o.2.1 12) (o.2.1 13) (o.2.1 14) (o.2.1 15) (o.2.1 16)) := by
  unfold f_TurnTable_fill
  have w6 := hw.w6
  have w2 := hw.w2
  have p3 := pow3_le w6
  have pw : 2 ^ A.w ≤ 2 ^ 6 := Nat.pow_le_pow_right (by omega) w6
  have pw0 : 0 < 2 ^ A.w := Nat.two_pow_pos _
  refine (c_load hN hw (p := 5) (h := A.st) hR.bd hR.bd.st hw.st2 rfl (Or.inl (by omega))).bnd (fun x hx => ?_)
  obtain ⟨s1, x72, x73, D, L, mt, ld⟩ := hx
  have x10 : x.2.1 1 0 = nI A.w := by rw [s1 1 (by decide)]; exact hR.bd.w
  refine wp_neg (by rw [x10]; exact nI_in (by omega) (by omega)) ?_
  have y10 : wr x.2.1 12 10 (powT.getD (x.2.1 1 0).toNatClampNeg 0) 1 0 = nI A.w := by rw [wr_o (by omega)]; exact x10
  have ep : powT.getD (x.2.1 1 0).toNatClampNeg 0 = nI (3 ^ A.w) := by rw [x10, nI_clamp (by omega), powT_eq _ w6]
  have e1 : ((1 : Int32) <<< (nI A.w &&& 31)) - 1 = nI (2 ^ A.w - 1) := all_lamps (by omega)
  rw [y10, ep, e1]
  generalize hy : wr x.2.1 12 10 (nI (3 ^ A.w)) = y
  have sy : Sam [7, 8, 9, 12] hi y := by rw [← hy]; exact (s1.sub (by decide)).wr (by decide)
  have my : Mat y 8 9 D L := fun u v hu hv => by rw [← hy, wr_o (by omega), wr_o (by omega)]; exact mt u v hu hv
  have y72 : y 7 2 = nI A.w := by rw [← hy, wr_o (by omega)]; exact x72
  have y73 : y 7 3 = nI A.sup := by rw [← hy, wr_o (by omega)]; exact x73
  have y12 : y 12 10 = nI (3 ^ A.w) := by rw [← hy, wr_s]
  refine wp.bnd (P := fun z => Sam [7, 10, 11, 13, 14] y z.1 ∧ ∀ t, t < 3 ^ A.w → TR A z.1 t) ?_ (fun z hz => ?_)
  · refine wp_for (2 ^ A.w) (fun F s => s.1 = nI F ∧ Sam [7, 10, 11, 13, 14] y s.2.1 ∧ s.2.1 7 2 = nI A.w ∧ s.2.1 7 3 = nI A.sup ∧ ∀ t, t < 3 ^ A.w → freeM A.w t < F → TR A s.2.1 t) ?_ ?_ (i := 0) (Nat.zero_le _) ⟨rfl, Sam.refl _ _, y72, y73, fun t _ q => by omega⟩ (by omega)
    · rintro F ⟨q, g, l⟩ hF ⟨rfl, sm, g72, g73, tr⟩
      dsimp only at sm g72 g73 tr
      unfold B_TurnTable_fill_34
      dsimp only
      refine wp_neg (nI_nlt (by omega) (by omega)) ?_
      have gm : Mat g 8 9 D L := fun u v hu hv => by rw [sm 8 (by decide), sm 9 (by decide)]; exact my u v hu hv
      refine (c_leave hN (Stg.zero hw) w6 (by omega) g72 gm ld).bnd (fun u hu => ?_)
      obtain ⟨s2, D', L', m', lv⟩ := hu
      rw [ni_andnot]
      refine (c_fillDriven hN hw hF (by rw [s2 7 (by decide)]; exact g72) (by rw [s2 7 (by decide)]; exact g73) m' lv (fun j hj => by rw [s2 17 (by decide), sm 17 (by decide), sy 17 (by decide)]; exact hR.fg j hj)).bnd (fun v hv => ?_)
      obtain ⟨s3, v72, v73, tv⟩ := hv
      rw [wp_some]
      refine ⟨nI_1 F, Sam.trans sm (Sam.trans s2 s3 [7, 10, 11, 13, 14] (by decide) (by decide)) _ (by decide) (by decide), v72, v73, fun t ht q => tv t ht ?_⟩
      by_cases e : freeM A.w t = F
      · exact Or.inl e
      · right
        have := tr t ht (by omega)
        unfold TR
        rw [s2 13 (by decide), s2 14 (by decide)]; exact this
    · rintro ⟨q, g, l⟩ ⟨rfl, sm, g72, g73, tr⟩
      dsimp only at sm g72 g73 tr
      unfold B_TurnTable_fill_34
      dsimp only
      refine wp_pos (nI_lt (by omega) (by omega)) ?_
      rw [wp_some]
      exact ⟨sm, fun t ht => tr t ht (msk_lt _ _)⟩
  · obtain ⟨sz, tz⟩ := hz
    have z10 : z.1 12 10 = nI (3 ^ A.w) := by rw [sz 12 (by decide)]; exact y12
    refine (c_gather hN hw z10 (fun t ht => (tz t ht).1)).bnd (fun k hk => ?_)
    obtain ⟨sk, k12, K, ks, ts, eK, kd⟩ := hk
    have tk : ∀ t, t < 3 ^ A.w → TR A k.2.1 t := fun t ht => by
      unfold TR
      rw [sk 13 (by decide), sk 14 (by decide)]; exact tz t ht
    refine (c_tally hN hw (by rw [k12 10 (by omega)]; exact z10) tk).bnd (fun r hr => ?_)
    obtain ⟨sr, r12, r3, r4, rm⟩ := hr
    rw [wp_some]
    have sall : Sam [7, 8, 9, 10, 11, 12, 13, 14, 15, 16] hi r.2.1 := Sam.trans (Sam.trans (Sam.trans sy sz [7, 8, 9, 10, 11, 12, 13, 14] (by decide) (by decide)) sk [7, 8, 9, 10, 11, 12, 13, 14, 15, 16] (by decide) (by decide)) sr _ (by decide) (by decide)
    refine ⟨sall.wr (by decide), (by dsimp only; rw [wr_s]), Or.inr ⟨(by dsimp only; rw [wr_s]), ?_, K, ks, ts, ?_⟩⟩
    · dsimp only
      rw [wr_k (by omega), wr_k (by omega)]; exact rm
    · obtain ⟨a1, a2, a3, a4, a5, a6, a7⟩ := kd
      refine ⟨fun t ht => ?_, fun t ht => ?_, ?_, ?_, ?_, ?_, ?_, fun i hi => ?_, fun i hi => ?_, a4, a5, a6, a7⟩
      · dsimp only; rw [wr_o (by omega), sr 13 (by decide)]; exact (tk t ht).1
      · dsimp only; rw [wr_o (by omega), sr 14 (by decide)]; exact (tk t ht).2
      · dsimp only; rw [wr_k (by omega), r12 10 (by omega), k12 10 (by omega)]; exact z10
      · dsimp only; rw [wr_k (by omega)]; exact r3
      · dsimp only; rw [wr_k (by omega)]; exact r4
      · dsimp only; rw [wr_k (by omega), r12 7 (by omega)]; exact eK
      · have : 0 < 3 ^ A.w := Nat.pow_pos (by omega)
        omega
      · dsimp only; rw [wr_o (by omega), sr 15 (by decide)]; exact a2 i hi
      · dsimp only; rw [wr_o (by omega), sr 16 (by decide)]; exact a3 i hi
theorem RC.tab {A : St} {hi h1 : HI} (h : RC A hi) (hs : Sam [7, 8, 9, 10, 11, 12, 13, 14, 15, 16] hi h1) (ht : TbOK A (h1 12) (h1 13) (h1 14) (h1 15) (h1 16)) : RC A h1 := by
  obtain ⟨a1, a2, a3, a4, a5, a6, a7, a8, a9, a10⟩ := h
  have e : ∀ i, i < 8 → h1 (20 + 2 * i) = hi (20 + 2 * i) ∧ h1 (21 + 2 * i) = hi (21 + 2 * i) := by
    intro i hi
    constructor <;> refine hs _ ?_ <;> revert i <;> decide
  have e2 : ∀ i, i < 4 → h1 (57 + 2 * i) = hi (57 + 2 * i) ∧ h1 (58 + 2 * i) = hi (58 + 2 * i) := by
    intro i hi
    constructor <;> refine hs _ ?_ <;> revert i <;> decide
  refine ⟨?_, ht, ?_, ?_, ?_, ?_, ?_, ?_, ?_, ?_⟩
  · rw [hs 1 (by decide), hs 2 (by decide), hs 3 (by decide), hs 4 (by decide), hs 5 (by decide), hs 6 (by decide)]; exact a1
  · rw [hs 17 (by decide)]; exact a3
  · rw [hs 18 (by decide)]; exact a4
  · intro i hi
    rw [(e i hi).1, (e i hi).2]; exact a5 i hi
  · rw [hs 38 (by decide), hs 39 (by decide)]; exact a6
  · rw [hs 43 (by decide), hs 46 (by decide)]; exact a7
  · rw [hs 47 (by decide), hs 48 (by decide), hs 49 (by decide), hs 50 (by decide)]; exact a8
  · rw [hs 51 (by decide), hs 52 (by decide), hs 53 (by decide)]; exact a9
  · intro i hi
    rw [(e2 i hi).1, (e2 i hi).2]; exact a10 i hi
/-- the table stands -/
def Tab (A : St) (hi : HI) : Prop := hi 12 0 = 1 ∧ MostOK A popN (hi 12 5) (hi 12 6) ∧ ∃ K ks ts, TbFull A (hi 12) (hi 13) (hi 14) (hi 15) (hi 16) K ks ts
theorem c_fillTable {N : Nat} (hN : 70000 ≤ N) {A : St} (hw : WF A) {hi : HI} {hl : HL} (hR : RC A hi) : wp (f_LW_fillTable N hi hl) (fun o => RC A o.2.1 ∧ Sam [7, 8, 9, 10, 11, 12, 13, 14, 15, 16] hi o.2.1 ∧ Tab A o.2.1) := by
  unfold f_LW_fillTable
  rcases hR.tb with z | ⟨z1, z2, z3⟩
  · refine wp_pos z ?_
    refine (c_fill_tab hN hw hR).bnd (fun x hx => ?_)
    obtain ⟨h1, h2, h3⟩ := hx
    rw [wp_some]
    refine ⟨hR.tab h1 h3, h1, h2, ?_⟩
    rcases h3 with q | ⟨_, q⟩
    · rw [h2] at q; exact absurd q (by decide)
    · exact q
  · refine wp_neg (by rw [z1]; decide) ?_
    rw [wp_some]
    exact ⟨hR, Sam.refl _ _, z1, z2, z3⟩
theorem c_lampsIn {N : Nat} (hN : 70000 ≤ N) {A : St} (hw : WF A) {hi : HI} {hl : HL} (hR : RC A hi) {t : Nat} (ht : t < 3 ^ A.w) : wp (f_LW_lampsIn N (nI t) hi hl) (fun o => o.1 = nI (Gt A t) ∧ Sam [7, 8, 9, 10, 11] hi o.2.1) := by
  unfold f_LW_lampsIn
  have p3 := pow3_le hw.w6
  rcases hR.tb with z | ⟨z1, z2, K, ks, ts, z3⟩
  · refine wp_pos z ?_
    refine (c_load hN hw (p := 5) (h := A.st) hR.bd hR.bd.st hw.st2 rfl (Or.inl (by omega))).bnd (fun x hx => ?_)
    obtain ⟨s1, x72, x73, D, L, mt, ld⟩ := hx
    refine (c_solve hN hw ht x72 x73 mt ld).bnd (fun y hy => ?_)
    rw [wp_some]
    exact ⟨hy.2.2.2.2, Sam.trans s1 hy.1 _ (by decide) (by decide)⟩
  · refine wp_neg (by rw [z1]; decide) (wp_neg (nI_in (by omega) (by omega)) ?_)
    rw [wp_some, nI_clamp (by omega)]
    exact ⟨z3.g t ht, Sam.refl _ _⟩
theorem c_leastIn {N : Nat} (hN : 70000 ≤ N) {A : St} (hw : WF A) {hi : HI} {hl : HL} (hR : RC A hi) {t : Nat} (ht : t < 3 ^ A.w) : wp (f_LW_leastIn N (nI t) hi hl) (fun o => o.1 = LsI A A.st t ∧ Sam [7, 8, 9, 10, 11] hi o.2.1) := by
  unfold f_LW_leastIn
  have p3 := pow3_le hw.w6
  rcases hR.tb with z | ⟨z1, z2, K, ks, ts, z3⟩
  · refine wp_pos z ?_
    refine (c_load hN hw (p := 5) (h := A.st) hR.bd hR.bd.st hw.st2 rfl (Or.inl (by omega))).bnd (fun x hx => ?_)
    obtain ⟨s1, x72, x73, D, L, mt, ld⟩ := hx
    refine (c_solve hN hw ht x72 x73 mt ld).bnd (fun y hy => ?_)
    rw [wp_some]
    exact ⟨hy.2.2.2.1, Sam.trans s1 hy.1 _ (by decide) (by decide)⟩
  · refine wp_neg (by rw [z1]; decide) (wp_neg (nI_in (by omega) (by omega)) ?_)
    rw [wp_some, nI_clamp (by omega)]
    exact ⟨z3.l t ht, Sam.refl _ _⟩
theorem RC.ways {A : St} {hi h1 : HI} (h : RC A hi) (hs : Sam [7, 8, 9, 10, 11] hi h1) : RC A h1 := h.sam hs (by decide)
theorem RM.gb {A : St} (hw : WF A) {hi : HI} (h : RM A hi) : GB A A.st 69 hi := ⟨h.bd.w, h.bd.s, h.bd.n, h.bd.f, h.bd.t, h.bd.v, h.bd.st, hw.st2, rfl, Or.inl rfl⟩
theorem RM.glows {A : St} {hi h1 : HI} (h : RM A hi) (hs : Sam [65, 71, 72, 73] hi h1) (h65 : ∀ j, j ≠ 12 → h1 65 j = hi 65 j) : RM A h1 := by
  refine h.same (fun a ha => hs a (fun q => ?_)) (fun j hj => h65 j (fun q => ?_))
  · simp only [List.mem_cons, List.not_mem_nil, or_false] at q
    rcases q with rfl | rfl | rfl | rfl <;> revert ha <;> decide
  · subst q; revert hj; decide
/-! glow -/
theorem S_glow {N : Nat} (hN : 70000 ≤ N) (p q : Int32) : Sim (f_LW_glow N p q) (f_MD_glow N p q) := by
  refine Sim.of (fun A hw => ?_)
  have w6 := hw.w6
  have p3 := pow3_le w6
  have hb : ∀ (hi : HI) (hl : HL), f_MD_in N q.toInt64 0 2 hi hl = some (b2i (rg q 0 3), hi, hl) := fun hi hl => e_in32 N q _ _ hi hl (x := 0) (y := 3) (ltL64 0 (by decide)) (ltL64 2 (by decide))
  rcases rgE p 0 (3 ^ A.w) with ⟨e, _⟩ | ⟨e, _⟩
  · refine Sim.bad (ans := -1) hw (fun hi hl hR => ?_) (fun hi hl hR => ?_)
    · unfold f_LW_glow
      rw [e_isTurn hR.bd.w w6, e]; rfl
    · unfold f_MD_glow
      rw [m_isTurn hR.bd.w w6 hN, e]; rfl
  rcases rgE q 0 3 with ⟨f, f1⟩ | ⟨f, _⟩
  · refine Sim.bad (ans := -1) hw (fun hi hl hR => ?_) (fun hi hl hR => ?_)
    · unfold f_LW_glow
      rw [e_isTurn hR.bd.w w6, e]
      simp only [Option.bind_some, b2i_tt, if_false]
      simp (disch := omega) only [lit_I, fa_lt, fa_le, nI_toInt, decide_eq_true_eq]
      repeat' split
      all_goals first | rfl | (exfalso; omega)
    · unfold f_MD_glow
      rw [m_isTurn hR.bd.w w6 hN, e]
      simp only [Option.bind_some, b2i_tt, if_false]
      rw [hb, f]; rfl
  obtain ⟨t, _, t1, rfl⟩ := rg_t (by omega) e
  obtain ⟨k, _, k1, rfl⟩ := rg_t (by decide) f
  have gl := Gt_lt hw t
  refine ⟨if k = 0 then nI (Gt A t) else if k = 1 then LsI A A.st t else nI (popN (Gt A t)), A, hw, fun hi hl hR => ?_, fun hi hl hR => ?_⟩
  · unfold f_LW_glow
    rw [e_isTurn hR.bd.w w6, e]
    simp only [Option.bind_some, b2i_tt, if_false]
    refine wp_neg (nI_pos (by omega)) (wp_pos (nI_le (b := 2) (by omega) (by omega)) ?_)
    by_cases e1 : k = 1
    · refine wp_pos (by rw [e1]; rfl) ?_
      refine (c_leastIn hN hw hR t1).bnd (fun x hx => ?_)
      rw [wp_some, if_neg (by omega), if_pos e1]
      exact ⟨hx.1, hR.ways hx.2, HiC.of hx.2 (by decide)⟩
    · refine wp_neg (fun q => e1 ((nI_eq (b := 1) (by omega) (by omega)).mp q)) ?_
      refine (c_lampsIn hN hw hR t1).bnd (fun x hx => ?_)
      by_cases e0 : k = 0
      · refine wp_pos (by rw [e0]; rfl) ?_
        rw [wp_some, if_pos e0]
        exact ⟨hx.1, hR.ways hx.2, HiC.of hx.2 (by decide)⟩
      · refine wp_neg (fun q => e0 ((nI_eq (b := 0) (by omega) (by omega)).mp q)) ?_
        rw [hx.1, e_bitCount gl, Option.bind_some, wp_some, if_neg e0, if_neg e1]
        exact ⟨rfl, hR.ways hx.2, HiC.of hx.2 (by decide)⟩
  · unfold f_MD_glow
    rw [m_isTurn hR.bd.w w6 hN, e]
    simp only [Option.bind_some, b2i_tt, if_false]
    rw [hb, f]
    simp only [Option.bind_some, b2i_tt, if_false]
    refine (m_glows hN hw t1 (hR.gb hw)).bnd (fun x hx => ?_)
    obtain ⟨h1, h2, h3, h4⟩ := hx
    have rm := hR.glows h2 h3
    have lo : LoC hi x.2.1 := LoC.of h2 (by decide)
    by_cases e0 : k = 0
    · refine wp_pos (by rw [e0]; rfl) ?_
      rw [wp_some, if_pos e0]
      exact ⟨h1, rm, lo⟩
    · refine wp_neg (fun q => e0 ((nI_eq (b := 0) (by omega) (by omega)).mp q)) ?_
      by_cases e2 : k = 2
      · refine wp_pos (by rw [e2]; rfl) ?_
        rw [h1]
        have h1' : x.1 = nI (Gt A t) := h1
        rw [show nI (GM A A.st t) = nI (Gt A t) from rfl, m_bits hN gl, Option.bind_some, wp_some, if_neg e0, if_neg (by omega)]
        exact ⟨rfl, rm, lo⟩
      · refine wp_neg (fun q => e2 ((nI_eq (b := 2) (by omega) (by omega)).mp q)) ?_
        have e1 : k = 1 := by omega
        rw [if_neg e0, if_pos e1]
        unfold LsI
        rcases Lst_cases hw A.st t with ⟨c, _⟩ | ⟨c, _⟩
        · refine wp_pos (by rw [h4, c]; rfl) ?_
          rw [wp_some, if_pos c]
          exact ⟨rfl, rm, lo⟩
        · refine wp_neg (by rw [h4]; exact fun q => by have := (nI_eq (b := 10000) (by omega) (by omega)).mp q; omega) ?_
          rw [wp_some, if_neg (by omega)]
          exact ⟨h4, rm, lo⟩
