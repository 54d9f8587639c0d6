/-! sheet, lay, count -/
theorem gS_4 : ∀ k, k < 4 → gS (57 + 2 * k) ∧ gA (58 + 2 * k) ∧ lenW (58 + 2 * k) = 40
  | 0, _ => ⟨⟨rfl, rfl⟩, rfl, rfl⟩
  | 1, _ => ⟨⟨rfl, rfl⟩, rfl, rfl⟩
  | 2, _ => ⟨⟨rfl, rfl⟩, rfl, rfl⟩
  | 3, _ => ⟨⟨rfl, rfl⟩, rfl, rfl⟩
  | n + 4, h => absurd h (by omega)
theorem S_sheet {N : Nat} (hN : 70000 ≤ N) (p q r : Int32) : Sim (f_LW_sheet N p q r) (f_MD_sheet N p q r) := by
  refine Sim.of (fun A hw => ?_)
  by_cases ok : rg p 0 4 = true ∧ rg q 0 3 = true
  · obtain ⟨e, f⟩ := ok
    by_cases g40 : r ≤ 40
    · by_cases g0 : 0 ≤ r
      · obtain ⟨k, _, k4, rfl⟩ := rg_t (by omega) e
        obtain ⟨a, _, a3, rfl⟩ := rg_t (by omega) f
        have r0 : ¬ r < 0 := by rw [fa_lt]; rw [fa_le] at g0; omega
        obtain ⟨n, n31, rfl⟩ := nI_of r0
        have n40 : n ≤ 40 := (nI_leI (b := 40) n31 (by omega)).mp g40
        have ck : (nI k).toNatClampNeg = k := nI_clamp (by omega)
        obtain ⟨gs, ga, gl⟩ := gS_4 k k4
        refine ⟨1, (((A.setA 8 (fun j => if j = k then 1 else A.has j)).setA 9 (fun j => if j = k then a else A.lane j)).setA 10 (fun j => if j = k then n else A.size j)).setI (k + 1) (fun _ => 0), ?_, fun hi hl hR => ?_, fun hi hl hR => ?_⟩
        · obtain ⟨a1, a2, a3', a4, a5, a6, a7, a8, a9, b1, b2, b3, b4, b5, b6, b7, b8, b9, c1, c2, c3, c4, c5⟩ := hw
          refine ⟨a1, a2, a3', a4, a5, a6, a7, a8, a9, b1, b2, b3, b4, b5, b6, b7, b8, b9, c1, c2, c3, fun j hj => ?_, fun j hj => ?_⟩
          · show (if j = k then a else A.lane j) ≤ 2
            split
            · omega
            · exact c4 j hj
          · show (if j = k then n else A.size j) ≤ 40
            split
            · omega
            · exact c5 j hj
        · unfold f_LW_sheet f_Sheet_renew
          rw [e_isSheet, e]
          simp only [Option.bind_some, b2i_tt, if_false]
          rw [e_isLane, f]
          simp only [Option.bind_some, b2i_tt, if_false]
          rw [ck]
          refine wp_pos g40 (wp_pos g0 (wp_neg (nI_in' (by omega) (by omega)) (wp_pos gs ?_)))
          rw [if_pos gs, wp_bind, wp_bind]
          refine (c_fill hN (57 + 2 * k + 1) 0 (by rw [show 57 + 2 * k + 1 = 58 + 2 * k by omega]; exact ga) (by rw [show 57 + 2 * k + 1 = 58 + 2 * k by omega, gl]; omega) _ _).mono (fun x hx => ?_)
          rw [wp_some, wp_some]
          obtain ⟨x1, x2⟩ := hx
          rw [show 57 + 2 * k + 1 = 58 + 2 * k by omega] at x1 x2
          rw [gl] at x2
          have s : Sam [57 + 2 * k, 58 + 2 * k] hi x.2.1 := Sam.trans (((Sam.refl [57 + 2 * k] hi).wr (by simp)).wr (by simp)) x1 _ (by simp) (by simp)
          have o : ∀ c, c ≠ 57 + 2 * k → c ≠ 58 + 2 * k → x.2.1 c = hi c := fun c h1 h2 => s c (by simp; omega)
          have x57 : x.2.1 (57 + 2 * k) = wr (wr hi (57 + 2 * k) 0 (nI a)) (57 + 2 * k) 1 (nI n) (57 + 2 * k) := x1 _ (by simp)
          refine ⟨rfl, hR.keep ⟨rfl, rfl, rfl, rfl, rfl, rfl, rfl⟩ (fun c hc hb => o c (fun q => hb ?_) (fun q => hb ?_)) (fun l hl => ?_) ?_ ?_ ?_ (fun j hj => ?_), HiC.of s (by simp; omega)⟩
          · rw [q]; simp only [List.mem_cons, List.not_mem_nil, or_false]; omega
          · rw [q]; simp only [List.mem_cons, List.not_mem_nil, or_false]; omega
          · dsimp only; rw [o 6 (by omega) (by omega)]; exact hR.bd.e l hl
          · dsimp only; rw [o 43 (by omega) (by omega), o 46 (by omega) (by omega)]; exact hR.tp
          · dsimp only; rw [o 47 (by omega) (by omega), o 48 (by omega) (by omega), o 49 (by omega) (by omega), o 50 (by omega) (by omega)]; exact hR.sc
          · dsimp only; rw [o 51 (by omega) (by omega), o 52 (by omega) (by omega), o 53 (by omega) (by omega), sb_Gs ⟨⟨rfl, rfl, rfl, rfl, rfl, rfl⟩, rfl, rfl⟩ rfl]; exact hR.gs
          · by_cases c : j = k
            · subst c
              refine ⟨?_, fun _ => ?_, fun _ i hi => ?_⟩
              · show _ = if (if j = j then 1 else A.has j) = 1 then nI (if j = j then n else A.size j) else -4
                rw [if_pos rfl, if_pos rfl, if_pos rfl]
                dsimp only
                rw [x57, wr_s]
              · show _ = nI (if j = j then a else A.lane j)
                rw [if_pos rfl]
                dsimp only
                rw [x57, wr_k (by omega), wr_s]
              · show _ = (if j + 1 = j + 1 then (fun _ => (0 : Int32)) else A.2.2 (j + 1)) i
                rw [if_pos rfl]
                exact x2 i hi
            · have := hR.sh j hj
              dsimp only
              rw [o _ (by omega) (by omega), o _ (by omega) (by omega)]
              obtain ⟨h1, h2, h3⟩ := this
              refine ⟨?_, ?_, ?_⟩
              · show _ = if (if j = k then 1 else A.has j) = 1 then nI (if j = k then n else A.size j) else -4
                rw [if_neg c, if_neg c]; exact h1
              · show (if j = k then 1 else A.has j) = 1 → _ = nI (if j = k then a else A.lane j)
                rw [if_neg c, if_neg c]; exact h2
              · show (if j = k then 1 else A.has j) = 1 → ∀ i, i < 40 → _ = (if j + 1 = k + 1 then (fun _ => (0 : Int32)) else A.2.2 (j + 1)) i
                rw [if_neg c, if_neg (by omega)]; exact h3
        · unfold f_MD_sheet
          rw [m_isSheet, e, f]
          simp only [Bool.and_self, Option.bind_some, b2i_tt, if_false]
          rw [ck]
          refine wp_pos g40 (wp_pos g0 (wp_neg (nI_in' (by omega) (by omega)) (wp_neg (nI_in' (by omega) (by omega)) ?_)))
          refine wp.bnd (P := fun z => Sam [94] (wr (wr hi 92 k (nI a)) 93 k (nI n)) z.1 ∧ (∀ i, i < 40 → z.1 94 (40 * k + i) = 0) ∧ ∀ m, (m < 40 * k ∨ 40 * k + 40 ≤ m) → z.1 94 m = hi 94 m) ?_ (fun z hz => ?_)
          · refine wp_for 40 (fun i s => s.1 = nI i ∧ Sam [94] (wr (wr hi 92 k (nI a)) 93 k (nI n)) s.2.1 ∧ (∀ j, j < i → s.2.1 94 (40 * k + j) = 0) ∧ ∀ m, (m < 40 * k ∨ 40 * k + 40 ≤ m) → s.2.1 94 m = hi 94 m) ?_ ?_ (i := 0) (by omega) ⟨rfl, Sam.refl _ _, (fun j hj => by omega), (fun m _ => by dsimp only; rw [wr_o (by omega), wr_o (by omega)])⟩ (by omega)
            · rintro i ⟨v, g, gl'⟩ hi1 ⟨rfl, sm, h1, h2⟩
              dsimp only at sm h1 h2
              unfold B_MD_sheet_40
              dsimp only
              have e4 : (40 : Int32) * nI k + nI i = nI (40 * k + i) := by rw [lit_I, pk_mul, nI_add]
              rw [e4, nI_clamp (by omega)]
              refine wp_neg (nI_ge (b := 40) hi1 (by omega)) (wp_neg (nI_in' (by omega) (by omega)) ?_)
              rw [wp_some]
              refine ⟨nI_1 i, sm.wr (by decide), fun j hj => ?_, fun m hm => ?_⟩
              · dsimp only
                rw [wr_i]
                split
                · rfl
                · exact h1 j (by omega)
              · dsimp only
                rw [wr_k (by omega)]; exact h2 m hm
            · rintro ⟨v, g, gl'⟩ ⟨rfl, sm, h1, h2⟩
              dsimp only at sm h1 h2
              unfold B_MD_sheet_40
              dsimp only
              refine wp_pos (nI_le (a := 40) (b := 40) (by omega) (by omega)) ?_
              rw [wp_some]
              exact ⟨sm, h1, h2⟩
          · rw [wp_some]
            obtain ⟨z1, z2, z3⟩ := hz
            obtain ⟨a1, a2, a3', a4, a5, a6, a7, a8, a9, b1, b2, b3⟩ := id hR
            have o : ∀ c, c ≠ 92 → c ≠ 93 → c ≠ 94 → z.1 c = hi c := fun c h1 h2 h3 => by rw [z1 c (by simp; omega), wr_o h2, wr_o h1]
            refine ⟨rfl, hR.keep ⟨rfl, rfl, rfl, rfl, rfl, rfl, rfl⟩ (fun c hc hb => o c (fun q => hb (by rw [q]; decide)) (fun q => hb (by rw [q]; decide)) (fun q => hb (by rw [q]; decide))) (fun j _ => ?_) (fun l hl => ?_) ?_ ?_ ?_ ?_ ?_ ?_ ?_ (fun j hj => ?_) (fun j hj => ?_) (fun j hj => ?_), ?_⟩
            · dsimp only; rw [o 65 (by omega) (by omega) (by omega)]
            · dsimp only; rw [o 70 (by omega) (by omega) (by omega)]; exact a1.e l hl
            · dsimp only; rw [o 65 (by omega) (by omega) (by omega)]; exact a3'
            · dsimp only; rw [o 83 (by omega) (by omega) (by omega)]; exact a4
            · dsimp only; rw [o 84 (by omega) (by omega) (by omega)]; exact a5
            · dsimp only; rw [o 85 (by omega) (by omega) (by omega)]; exact a6
            · dsimp only; rw [o 65 (by omega) (by omega) (by omega)]; exact a7
            · dsimp only; rw [o 88 (by omega) (by omega) (by omega)]; exact a8
            · dsimp only; rw [o 65 (by omega) (by omega) (by omega)]; exact a9
            · show _ = if (if j = k then 1 else A.has j) = 1 then nI (if j = k then a else A.lane j) else -4
              dsimp only
              rw [z1 92 (by decide), wr_o (by omega), wr_i]
              by_cases c : j = k
              · rw [if_pos c, if_pos c, if_pos rfl, if_pos c]
              · rw [if_neg c, if_neg c, if_neg c]; exact b1 j hj
            · show (if j = k then 1 else A.has j) = 1 → _ = nI (if j = k then n else A.size j)
              dsimp only
              rw [z1 93 (by decide), wr_i]
              by_cases c : j = k
              · rw [if_pos c, if_pos c, if_pos c]; exact fun _ => rfl
              · rw [if_neg c, if_neg c, if_neg c, wr_o (by omega)]; exact b2 j hj
            · show (if j = k then 1 else A.has j) = 1 → ∀ i, i < 40 → _ = (if j + 1 = k + 1 then (fun _ => (0 : Int32)) else A.2.2 (j + 1)) i
              by_cases c : j = k
              · subst c
                rw [if_pos rfl, if_pos rfl]
                intro _ i hi
                exact z2 i hi
              · rw [if_neg c, if_neg (by omega)]
                intro h i hi
                dsimp only
                rw [z3 _ (by omega)]; exact b3 j hj h i hi
            · exact fun c hc => by dsimp only; rw [o c (by omega) (by omega) (by omega)]
      · refine Sim.bad (ans := -14) hw (fun hi hl hR => ?_) (fun hi hl hR => ?_)
        · unfold f_LW_sheet
          rw [e_isSheet, e]
          simp only [Option.bind_some, b2i_tt, if_false]
          rw [e_isLane, f]
          simp only [Option.bind_some, b2i_tt, if_false]
          rw [if_pos g40, if_neg g0]
        · unfold f_MD_sheet
          rw [m_isSheet, e, f]
          simp only [Bool.and_self, Option.bind_some, b2i_tt, if_false]
          rw [if_pos g40, if_neg g0]
    · refine Sim.bad (ans := -1) hw (fun hi hl hR => ?_) (fun hi hl hR => ?_)
      · unfold f_LW_sheet
        rw [e_isSheet, e]
        simp only [Option.bind_some, b2i_tt, if_false]
        rw [e_isLane, f]
        simp only [Option.bind_some, b2i_tt, if_false]
        rw [if_neg g40]
      · unfold f_MD_sheet
        rw [m_isSheet, e, f]
        simp only [Bool.and_self, Option.bind_some, b2i_tt, if_false]
        rw [if_neg g40]
  · refine Sim.bad (ans := -1) hw (fun hi hl hR => ?_) (fun hi hl hR => ?_)
    · unfold f_LW_sheet
      rw [e_isSheet]
      cases h1 : rg p 0 4 with
      | false => rfl
      | true =>
        simp only [Option.bind_some, b2i_tt, if_false]
        rw [e_isLane]
        cases h2 : rg q 0 3 with
        | false => rfl
        | true => exact absurd ⟨h1, h2⟩ ok
    · unfold f_MD_sheet
      rw [m_isSheet]
      have : (rg p 0 4 && rg q 0 3) = false := by
        cases h1 : rg p 0 4 <;> cases h2 : rg q 0 3 <;> simp_all
      rw [this]; rfl
theorem e_isCell {N k n : Nat} (hk : k < 4) {p : Int32} {hi : HI} {hl : HL} (h : hi (57 + 2 * k) 1 = nI n) (hn : n ≤ 40) : f_Sheet_isCell N (57 + 2 * k) p hi hl = some (b2i (rg p 0 n), hi, hl) := by
  unfold f_Sheet_isCell J_Sheet_isCell_16 b2i rg
  rw [if_pos (gS_4 k hk).1, h]
  simp (disch := omega) only [lit_I, fa_lt, fa_le, nI_toInt, decide_eq_true_eq]
  repeat' split
  all_goals first | rfl | (exfalso; omega)
/-- what a cell of a lane keeps -/
def keepV (lane : Nat) (v : Int32) : Int32 := if lane = 0 then v.toInt8.toInt32 else if lane = 1 then v.toInt16.toInt32 else v
theorem S_lay {N : Nat} (hN : 70000 ≤ N) (p q r : Int32) : Sim (f_LW_lay N p q r) (f_MD_lay N p q r) := by
  refine Sim.of (fun A hw => ?_)
  have i0 : rg 0 0 3 = true := by decide
  rcases rgE p 0 4 with ⟨e, _⟩ | ⟨e, _⟩
  · refine Sim.bad (ans := -1) hw (fun hi hl hR => ?_) (fun hi hl hR => ?_)
    · unfold f_LW_lay
      rw [e_isSheet, e]; rfl
    · unfold f_MD_lay
      rw [m_isSheet, e]; rfl
  obtain ⟨k, _, k4, rfl⟩ := rg_t (by omega) e
  have ck : (nI k).toNatClampNeg = k := nI_clamp (by omega)
  have ix : ¬ (nI k < 0 ∨ 4 ≤ k) := nI_in' (by omega) (by omega)
  have gs := (gS_4 k k4).1
  have la2 := hw.lane k k4
  have sz40 := hw.size k k4
  by_cases has : A.has k = 1
  · have cz : ∀ hi, RC A hi → hi (57 + 2 * k) 1 = nI (A.size k) := fun hi hR => by have := (hR.sh k k4).z; rw [if_pos has] at this; exact this
    have clane : ∀ hi, RC A hi → hi (57 + 2 * k) 0 = nI (A.lane k) := fun hi hR => (hR.sh k k4).l has
    have mla : ∀ hi, RM A hi → hi 92 k = nI (A.lane k) := fun hi hR => by have := hR.la k k4; rw [if_pos has] at this; exact this
    have n4 : ∀ x, x < 2 ^ 31 → ¬ nI x = -4 := fun x hx => by rw [ni_neg4 hx]; exact id
    have hb : ∀ (hi : HI) (hl : HL), RM A hi → f_MD_in N q.toInt64 0 (Int32.toInt64 (hi 93 k - 1)) hi hl = some (b2i (rg q 0 (A.size k)), hi, hl) := fun hi hl hR => by
      rw [hR.sz k k4 has]
      exact e_in32 N q _ _ hi hl (x := 0) (y := A.size k) (ltL64 0 (by decide)) (sub1_64 (by omega))
    rcases rgE q 0 (A.size k) with ⟨f, _⟩ | ⟨f, _⟩
    · refine Sim.bad (ans := -12) hw (fun hi hl hR => ?_) (fun hi hl hR => ?_)
      · unfold f_LW_lay
        rw [e_isSheet, e]
        simp only [Option.bind_some, b2i_tt, if_false, ck, if_neg ix, if_pos gs]
        rw [if_neg (by rw [cz hi hR]; exact n4 _ (by omega)), e_isCell k4 (cz hi hR) sz40, f]; rfl
      · unfold f_MD_lay
        rw [m_isSheet, e, i0]
        simp only [Bool.and_self, Option.bind_some, b2i_tt, if_false, ck, if_neg ix]
        rw [if_neg (by rw [mla hi hR]; exact n4 _ (by omega)), hb hi hl hR, f]; rfl
    obtain ⟨i, _, i1, rfl⟩ := rg_t (by omega) f
    have ci : (nI i).toNatClampNeg = i := nI_clamp (by omega)
    refine ⟨1, A.setI (k + 1) (fun j => if j = i then keepV (A.lane k) r else A.cel k j), ?_, fun hi hl hR => ?_, fun hi hl hR => ?_⟩
    · exact hw
    · have key : ∀ v, v = keepV (A.lane k) r → RC (A.setI (k + 1) (fun j => if j = i then keepV (A.lane k) r else A.cel k j)) (wr hi (57 + 2 * k + 1) i v) ∧ HiC hi (wr hi (57 + 2 * k + 1) i v) := by
        rintro v rfl
        refine ⟨hR.keep ⟨rfl, rfl, rfl, rfl, rfl, rfl, rfl⟩ (fun c hc hb => wr_o (fun q => hb (by rw [q]; simp only [List.mem_cons, List.not_mem_nil, or_false]; omega))) (fun l hl => ?_) ?_ ?_ ?_ (fun j hj => ?_), (HiC.refl hi).wr (by omega)⟩
        · rw [wr_o (by omega)]; exact hR.bd.e l hl
        · rw [wr_o (by omega), wr_o (by omega)]; exact hR.tp
        · rw [wr_o (by omega), wr_o (by omega), wr_o (by omega), wr_o (by omega)]; exact hR.sc
        · rw [wr_o (by omega), wr_o (by omega), wr_o (by omega), sb_Gs ⟨⟨rfl, rfl, rfl, rfl, rfl, rfl⟩, rfl, rfl⟩ rfl]; exact hR.gs
        · obtain ⟨h1, h2, h3⟩ := hR.sh j hj
          rw [wr_o (by omega)]
          refine ⟨h1, h2, fun h m hm => ?_⟩
          show _ = (if j + 1 = k + 1 then (fun j => if j = i then keepV (A.lane k) r else A.cel k j) else A.2.2 (j + 1)) m
          by_cases c : j = k
          · subst c
            rw [if_pos rfl, show 58 + 2 * j = 57 + 2 * j + 1 by omega, wr_i]
            have := h3 h m hm
            rw [show 58 + 2 * j = 57 + 2 * j + 1 by omega] at this
            split
            · rfl
            · exact this
          · rw [if_neg (by omega), wr_o (by omega)]; exact h3 h m hm
      unfold f_LW_lay
      rw [e_isSheet, e]
      simp only [Option.bind_some, b2i_tt, if_false, ck, if_neg ix, if_pos gs]
      refine wp_neg (by rw [cz hi hR]; exact n4 _ (by omega)) ?_
      rw [e_isCell k4 (cz hi hR) sz40, f]
      simp only [Option.bind_some, b2i_tt, if_false]
      unfold f_Sheet_put
      rw [if_pos gs, ci, wp_bind]
      have iy : ¬ (nI i < 0 ∨ 40 ≤ i) := nI_in' (by omega) (by omega)
      by_cases c0 : A.lane k = 0
      · refine wp_pos (by rw [clane hi hR, c0]; rfl) (wp_neg iy ?_)
        rw [wp_some, wp_some]
        exact ⟨rfl, key _ (by unfold keepV; rw [if_pos c0])⟩
      · refine wp_neg (by rw [clane hi hR]; exact fun q => c0 ((nI_eq (b := 0) (by omega) (by omega)).mp q)) ?_
        by_cases c1 : A.lane k = 1
        · refine wp_pos (by rw [clane hi hR, c1]; rfl) (wp_neg iy ?_)
          rw [wp_some, wp_some]
          exact ⟨rfl, key _ (by unfold keepV; rw [if_neg c0, if_pos c1])⟩
        · refine wp_neg (by rw [clane hi hR]; exact fun q => c1 ((nI_eq (b := 1) (by omega) (by omega)).mp q)) (wp_neg iy ?_)
          rw [wp_some, wp_some]
          exact ⟨rfl, key _ (by unfold keepV; rw [if_neg c0, if_neg c1])⟩
    · have e4 : (40 : Int32) * nI k + nI i = nI (40 * k + i) := by rw [lit_I, pk_mul, nI_add]
      have c4 : (nI (40 * k + i)).toNatClampNeg = 40 * k + i := nI_clamp (by omega)
      have iy : ¬ (nI (40 * k + i) < 0 ∨ 160 ≤ 40 * k + i) := nI_in' (by omega) (by omega)
      have key : ∀ v, v = keepV (A.lane k) r → RM (A.setI (k + 1) (fun j => if j = i then keepV (A.lane k) r else A.cel k j)) (wr hi 94 (40 * k + i) v) ∧ LoC hi (wr hi 94 (40 * k + i) v) := by
        rintro v rfl
        obtain ⟨a1, a2, a3', a4, a5, a6, a7, a8, a9, b1, b2, b3⟩ := id hR
        refine ⟨hR.keep ⟨rfl, rfl, rfl, rfl, rfl, rfl, rfl⟩ (fun c hc hb => wr_o (fun q => hb (by rw [q]; decide))) (fun j _ => by rw [wr_o (by omega)]) (fun l hl => by rw [wr_o (by omega)]; exact a1.e l hl) ?_ ?_ ?_ ?_ ?_ ?_ ?_ ?_ ?_ (fun j hj h m hm => ?_), (LoC.refl hi).wr (by omega)⟩
        · simp (disch := first | decide | omega) only [wr_o, wr_k, wr_s]; exact a3'
        · simp (disch := first | decide | omega) only [wr_o, wr_k, wr_s]; exact a4
        · simp (disch := first | decide | omega) only [wr_o, wr_k, wr_s]; exact a5
        · simp (disch := first | decide | omega) only [wr_o, wr_k, wr_s]; exact a6
        · simp (disch := first | decide | omega) only [wr_o, wr_k, wr_s]; exact a7
        · simp (disch := first | decide | omega) only [wr_o, wr_k, wr_s]; exact a8
        · simp (disch := first | decide | omega) only [wr_o, wr_k, wr_s]; exact a9
        · simp (disch := first | decide | omega) only [wr_o, wr_k, wr_s]; exact b1
        · simp (disch := first | decide | omega) only [wr_o, wr_k, wr_s]; exact b2
        · show _ = (if j + 1 = k + 1 then (fun j => if j = i then keepV (A.lane k) r else A.cel k j) else A.2.2 (j + 1)) m
          have h3 := b3 j hj h m hm
          rw [wr_i]
          by_cases c : j = k
          · subst c
            rw [if_pos (show j + 1 = j + 1 from rfl)]
            by_cases d : m = i
            · rw [if_pos (by omega), if_pos d]
            · rw [if_neg (by omega), if_neg d]; exact h3
          · rw [if_neg (by omega), if_neg (by omega)]; exact h3
      unfold f_MD_lay
      rw [m_isSheet, e, i0]
      simp only [Bool.and_self, Option.bind_some, b2i_tt, if_false, ck, if_neg ix]
      refine wp_neg (by rw [mla hi hR]; exact n4 _ (by omega)) ?_
      rw [hb hi hl hR, f]
      simp only [Option.bind_some, b2i_tt, if_false, e4, c4]
      by_cases c0 : A.lane k = 0
      · refine wp_pos (by rw [mla hi hR, c0]; rfl) (wp_neg iy ?_)
        rw [wp_some]
        exact ⟨rfl, key _ (by unfold keepV; rw [if_pos c0])⟩
      · refine wp_neg (by rw [mla hi hR]; exact fun q => c0 ((nI_eq (b := 0) (by omega) (by omega)).mp q)) ?_
        by_cases c1 : A.lane k = 1
        · refine wp_pos (by rw [mla hi hR, c1]; rfl) (wp_neg iy ?_)
          rw [wp_some]
          exact ⟨rfl, key _ (by unfold keepV; rw [if_neg c0, if_pos c1])⟩
        · refine wp_neg (by rw [mla hi hR]; exact fun q => c1 ((nI_eq (b := 1) (by omega) (by omega)).mp q)) (wp_neg iy ?_)
          rw [wp_some]
          exact ⟨rfl, key _ (by unfold keepV; rw [if_neg c0, if_neg c1])⟩
  · refine Sim.bad (ans := -11) hw (fun hi hl hR => ?_) (fun hi hl hR => ?_)
    · unfold f_LW_lay
      rw [e_isSheet, e]
      simp only [Option.bind_some, b2i_tt, if_false, ck, if_neg ix, if_pos gs]
      rw [if_pos (by have := (hR.sh k k4).z; rw [if_neg has] at this; exact this)]
    · unfold f_MD_lay
      rw [m_isSheet, e, i0]
      simp only [Bool.and_self, Option.bind_some, b2i_tt, if_false, ck, if_neg ix]
      rw [if_pos (by have := hR.la k k4; rw [if_neg has] at this; exact this)]
