/-! lamp -/
theorem Fgt.wrB {hi h1 : HI} (h : Fgt hi h1) {a k : Nat} {v : Int32} (ha : a ∉ [12, 38, 20, 22, 24, 26, 28, 30, 32, 34]) : Fgt (wr hi a k v) (wr h1 a k v) := by
  obtain ⟨s, t, u, f⟩ := h
  refine ⟨fun b hb => ?_, ?_, ?_, fun i hi => ?_⟩
  · by_cases e : b = a
    · subst e
      funext j
      rw [wr_i, wr_i, s b hb]
    · rw [wr_o e, wr_o e]; exact s b hb
  · rw [wr_o (fun q => ha (by rw [← q]; decide))]; exact t
  · rw [wr_o (fun q => ha (by rw [← q]; decide))]; exact u
  · rw [wr_o (fun q => ha (by rw [← q]; simp only [List.mem_cons, List.not_mem_nil, or_false]; omega))]; exact f i hi
def adL (A : St) (a b v : Nat) : St := (((((A.setN 2 (A.n + 1)).setA 0 (fun j => if j = A.n then a else A.lf j)).setA 1 (fun j => if j = A.n then b else A.lt j)).setA 2 (fun j => if j = A.n then v else A.lv j)).setA 3 (fun j => if j = A.n then 0 else A.st j)).setA 4 (fun j => if j = A.n then 0 else A.lev j)
theorem fnd_no {A : St} (hw : WF A) {a b : Nat} : fndA A a b = -4 ↔ ∀ l, l < A.n → ¬ (A.lf l = a ∧ A.lt l = b) := by
  have n16 := hw.n16
  constructor
  · intro h l hl q
    unfold fndA fstA at h
    rw [if_pos (cD_t.mpr ⟨l, hl, q⟩)] at h
    have := (lst_spec (p := fun l => l < A.n ∧ A.lf l = a ∧ A.lt l = b) (z := 0) ⟨l, hl, q⟩).1.1
    rw [ni_neg4 (by omega)] at h
    exact h
  · intro h
    exact fstA_none (fun t q => h t q.1 q.2)
theorem S_lamp {N : Nat} (hN : 70000 ≤ N) (p q r : Int32) : Sim (f_LW_lamp N p q r) (f_MD_lamp N p q r) := by
  refine Sim.of (fun A hw => ?_)
  have w6 := hw.w6
  have n16 := hw.n16
  have hb : ∀ (hi : HI) (hl : HL), f_MD_in N r.toInt64 1 9 hi hl = some (b2i (rg r 1 10), hi, hl) := fun hi hl => e_in32 N r _ _ hi hl (x := 1) (y := 10) (ltL64 1 (by decide)) (ltL64 9 (by decide))
  by_cases ok : rg p 0 A.w = true ∧ rg q 0 A.w = true ∧ p ≠ q
  · obtain ⟨e, f, ne⟩ := ok
    have cpre : ∀ (hi : HI) (hl : HL), RC A hi → f_Board_isPair N p q hi hl = some (b2i true, hi, hl) := fun hi hl hR => by
      rw [e_isPair hR.bd.w (by omega), e, f, decide_eq_true ne]; rfl
    rcases rgE r 1 10 with ⟨g, g1⟩ | ⟨g, _⟩
    · refine Sim.bad (ans := -1) hw (fun hi hl hR => ?_) (fun hi hl hR => ?_)
      · unfold f_LW_lamp
        rw [cpre hi hl hR]
        simp only [Option.bind_some, b2i_tt, if_false]
        simp (disch := omega) only [lit_I, fa_lt, fa_le, nI_toInt, decide_eq_true_eq]
        repeat' split
        all_goals first | rfl | (exfalso; omega)
      · unfold f_MD_lamp
        rw [m_isWire hR.bd.w (by omega), e]
        simp only [Option.bind_some, b2i_tt, if_false]
        rw [m_isWire hR.bd.w (by omega), f]
        simp only [Option.bind_some, b2i_tt, if_false, if_neg ne]
        rw [hb, g]; rfl
    obtain ⟨a, _, a1, rfl⟩ := rg_t (by omega) e
    obtain ⟨b, _, b1, rfl⟩ := rg_t (by omega) f
    obtain ⟨v, v1, v2, rfl⟩ := rg_t (by omega) g
    have r1 : ¬ nI v < 1 := nI_nlt (b := 1) v1 (by omega)
    have r9 : nI v ≤ 9 := nI_le (b := 9) (by omega) (by omega)
    by_cases fd : fndA A a b = -4
    · by_cases full : A.n = 16
      · refine Sim.bad (ans := -3) hw (fun hi hl hR => ?_) (fun hi hl hR => ?_)
        · unfold f_LW_lamp
          rw [cpre hi hl hR]
          simp only [Option.bind_some, b2i_tt, if_false, if_neg r1, if_pos r9]
          rw [e_find hN hw (by omega) (by omega) hR, Option.bind_some]
          dsimp only
          rw [if_pos fd, if_neg (by rw [hR.bd.n, full]; exact nI_nlt (a := 16) (b := 16) (by omega) (by omega))]
        · unfold f_MD_lamp
          rw [m_isWire hR.bd.w (by omega), e]
          simp only [Option.bind_some, b2i_tt, if_false]
          rw [m_isWire hR.bd.w (by omega), f]
          simp only [Option.bind_some, b2i_tt, if_false, if_neg ne]
          rw [hb, g]
          simp only [Option.bind_some, b2i_tt, if_false]
          rw [m_find hN hw (by omega) (by omega) hR, Option.bind_some]
          dsimp only
          rw [if_pos fd, if_pos (by rw [hR.bd.n, full]; rfl)]
      · have nf := (fnd_no hw).mp fd
        have cn : (nI A.n).toNatClampNeg = A.n := nI_clamp (by omega)
        have ix : ¬ (nI A.n < 0 ∨ 16 ≤ A.n) := nI_in' (by omega) (by omega)
        have z2 : ∀ j, j < A.n + 1 → j ≠ A.n → j < A.n := fun j h1 h2 => by omega
        refine ⟨nI A.n, adL A a b v, ?_, fun hi hl hR => ?_, fun hi hl hR => ?_⟩
        · obtain ⟨a1', a2, a3, a4, a5, a6, a7, a8, a9, b1', b2, b3, b4, b5, b6, b7, b8, b9, c1, c2, rest⟩ := hw
          refine ⟨a1', a2, a3, a4, by show A.n + 1 ≤ 16; omega, fun j hj => ?_, fun j hj => ?_, fun j hj => ?_, fun j hj => ?_, fun j hj => ?_, fun j hj => ?_, fun j hj => ?_, fun j k hj hk => ?_, b5, b6, b7, b8, fun k hk => ?_, c1, c2, rest⟩
          · show (if j = A.n then a else A.lf j) < A.w
            split
            · exact a1
            · exact a6 j (z2 j hj (by assumption))
          · show (if j = A.n then b else A.lt j) < A.w
            split
            · exact b1
            · exact a7 j (z2 j hj (by assumption))
          · show (if j = A.n then a else A.lf j) ≠ (if j = A.n then b else A.lt j)
            by_cases c : j = A.n
            · rw [if_pos c, if_pos c]; exact fun q => ne (by rw [q])
            · rw [if_neg c, if_neg c]; exact a8 j (z2 j hj c)
          · show 1 ≤ (if j = A.n then v else A.lv j)
            split
            · exact v1
            · exact a9 j (z2 j hj (by assumption))
          · show (if j = A.n then v else A.lv j) ≤ 9
            split
            · omega
            · exact b1' j (z2 j hj (by assumption))
          · show (if j = A.n then 0 else A.st j) ≤ 2
            split
            · omega
            · exact b2 j (z2 j hj (by assumption))
          · show (if j = A.n then 0 else A.lev j) ≤ 15
            split
            · omega
            · exact b3 j (z2 j hj (by assumption))
          · show (if j = A.n then a else A.lf j) = (if k = A.n then a else A.lf k) → (if j = A.n then b else A.lt j) = (if k = A.n then b else A.lt k) → j = k
            by_cases c : j = A.n <;> by_cases d : k = A.n
            · intro _ _; omega
            · rw [if_pos c, if_neg d, if_pos c, if_neg d]
              intro h1 h2
              exact absurd ⟨h1.symm, h2.symm⟩ (nf k (z2 k hk d))
            · rw [if_neg c, if_pos d, if_neg c, if_pos d]
              intro h1 h2
              exact absurd ⟨h1, h2⟩ (nf j (z2 j hj c))
            · rw [if_neg c, if_neg d, if_neg c, if_neg d]
              exact b4 j k (z2 j hj c) (z2 k hk d)
          · rcases b9 k hk with h | ⟨p, h1, h2⟩
            · exact Or.inl h
            · refine Or.inr ⟨p, Nat.lt_of_lt_of_le h1 ?_, h2⟩
              exact Nat.pow_le_pow_right (by omega) (by show A.n ≤ A.n + 1; omega)
        · unfold f_LW_lamp
          rw [cpre hi hl hR]
          simp only [Option.bind_some, b2i_tt, if_false, if_neg r1, if_pos r9]
          rw [e_find hN hw (by omega) (by omega) hR, Option.bind_some]
          dsimp only
          refine wp_pos fd (wp_pos (by rw [hR.bd.n]; exact nI_lt (b := 16) (by omega) (by omega)) ?_)
          refine c_fgtG hN _ _ (fun h1 l1 hx => ?_)
          unfold f_Board_add
          have x12 : h1 1 2 = nI A.n := by rw [hx.s 1 (by decide), wr_o (by omega), wr_o (by omega)]; exact hR.bd.n
          have y12 : (wr (wr (wr (wr (wr h1 2 A.n (nI a)) 3 A.n (nI b)) 4 A.n (nI v)) 5 A.n 0) 6 A.n 0) 1 2 = nI A.n := by
            rw [wr_o (by omega), wr_o (by omega), wr_o (by omega), wr_o (by omega), wr_o (by omega)]; exact x12
          dsimp only
          simp only [x12, cn, if_neg ix, y12, nI_1, Option.bind_some, wp_some]
          have hx2 := (((((hx.wrB (a := 2) (k := A.n) (v := nI a) (by decide)).wrB (a := 3) (k := A.n) (v := nI b) (by decide)).wrB (a := 4) (k := A.n) (v := nI v) (by decide)).wrB (a := 5) (k := A.n) (v := 0) (by decide)).wrB (a := 6) (k := A.n) (v := 0) (by decide)).wrB (a := 1) (k := 2) (v := nI (A.n + 1)) (by decide)
          obtain ⟨c1, c2, c3, c4, c5, c6, c7, c8⟩ := hR.bd
          refine ⟨trivial, hR.forgot [1, 2, 3, 4, 5, 6, 51] ?_ (by decide) hx2 ⟨?_, ?_, ?_, fun j hj => ?_, fun j hj => ?_, fun j hj => ?_, fun j hj => ?_, fun j hj => ?_⟩ rfl ?_ ⟨Or.inl ?_, Or.inl ?_⟩ rfl (fun k => rfl), ?_⟩
          · exact ((((((((Sam.refl _ _).wr (by decide)).wr (by decide)).wr (by decide)).wr (by decide)).wr (by decide)).wr (by decide)).wr (by decide)).wr (by decide)
          · simp (disch := first | decide | omega) only [wr_o, wr_k, wr_s]; exact c1
          · simp (disch := first | decide | omega) only [wr_o, wr_k, wr_s]; exact c2
          · simp (disch := first | decide | omega) only [wr_o, wr_k, wr_s]; rfl
          · simp (disch := omega) only [wr_o]
            rw [wr_i]
            show _ = nI (if j = A.n then a else A.lf j)
            by_cases c : j = A.n
            · rw [if_pos c, if_pos c]
            · rw [if_neg c, if_neg c]; (try simp (disch := omega) only [wr_o]); exact c4 j (z2 j hj c)
          · simp (disch := omega) only [wr_o]
            rw [wr_i]
            show _ = nI (if j = A.n then b else A.lt j)
            by_cases c : j = A.n
            · rw [if_pos c, if_pos c]
            · rw [if_neg c, if_neg c]; (try simp (disch := omega) only [wr_o]); exact c5 j (z2 j hj c)
          · simp (disch := omega) only [wr_o]
            rw [wr_i]
            show _ = nI (if j = A.n then v else A.lv j)
            by_cases c : j = A.n
            · rw [if_pos c, if_pos c]
            · rw [if_neg c, if_neg c]; (try simp (disch := omega) only [wr_o]); exact c6 j (z2 j hj c)
          · simp (disch := omega) only [wr_o]
            rw [wr_i]
            show _ = nI (if j = A.n then 0 else A.st j)
            by_cases c : j = A.n
            · rw [if_pos c, if_pos c]; rfl
            · rw [if_neg c, if_neg c]; (try simp (disch := omega) only [wr_o]); exact c7 j (z2 j hj c)
          · simp (disch := omega) only [wr_o]
            rw [wr_i]
            show _ = nI (if j = A.n then 0 else A.lev j)
            by_cases c : j = A.n
            · rw [if_pos c, if_pos c]; rfl
            · rw [if_neg c, if_neg c]; (try simp (disch := omega) only [wr_o]); exact c8 j (z2 j hj c)
          · simp (disch := first | decide | omega) only [wr_o, wr_k, wr_s]; exact hR.sc
          · simp (disch := first | decide | omega) only [wr_o, wr_k, wr_s]
          · simp (disch := first | decide | omega) only [wr_o, wr_k, wr_s]
          · exact ((((((HiC.trans (((HiC.refl hi).wr (by omega)).wr (by omega)) hx.hiC).wr (by omega)).wr (by omega)).wr (by omega)).wr (by omega)).wr (by omega)).wr (by omega)
        · unfold f_MD_lamp
          rw [m_isWire hR.bd.w (by omega), e]
          simp only [Option.bind_some, b2i_tt, if_false]
          rw [m_isWire hR.bd.w (by omega), f]
          simp only [Option.bind_some, b2i_tt, if_false, if_neg ne]
          rw [hb, g]
          simp only [Option.bind_some, b2i_tt, if_false]
          rw [m_find hN hw (by omega) (by omega) hR, Option.bind_some]
          dsimp only
          obtain ⟨⟨c1, c2, c3, c4, c5, c6, c7, c8⟩, a2, a3, a4, a5, a6, a7, a8, a9, d1, d2, d3⟩ := hR
          refine wp_pos fd (wp_neg (by rw [c3]; exact fun q => full ((nI_eq (b := 16) (by omega) (by omega)).mp q)) ?_)
          have o65 : ∀ (h : HI) (a k : Nat) (v : Int32), a ≠ 65 → wr h a k v 65 = h 65 := fun h a k v ha => wr_o (fun q => ha q.symm)
          simp (disch := omega) only [o65, c3, cn, if_neg ix, nI_1, wp_some]
          have sp : nI (A.n + 1) - 1 = nI A.n := pk_sub (a := A.n + 1) (b := 1) (by omega)
          refine ⟨by rw [wr_k (by omega), wr_s]; exact sp, ⟨⟨?_, ?_, ?_, fun j hj => ?_, fun j hj => ?_, fun j hj => ?_, fun j hj => ?_, fun j hj => ?_⟩, Or.inl ?_, ?_, ?_, ?_, ?_, ?_, ?_, ?_, ?_, ?_, ?_⟩, ((((((LoC.refl hi).wr (by omega)).wr (by omega)).wr (by omega)).wr (by omega)).wr (by omega)).wr (by omega) |>.wr (by omega)⟩
          · simp (disch := first | decide | omega) only [wr_o, wr_k, wr_s]; exact c1
          · simp (disch := first | decide | omega) only [wr_o, wr_k, wr_s]; exact c2
          · simp (disch := first | decide | omega) only [wr_o, wr_k, wr_s]; rfl
          · simp (disch := omega) only [wr_o]
            rw [wr_i]
            show _ = nI (if j = A.n then a else A.lf j)
            by_cases c : j = A.n
            · rw [if_pos c, if_pos c]
            · rw [if_neg c, if_neg c]; (try simp (disch := omega) only [wr_o]); exact c4 j (z2 j hj c)
          · simp (disch := omega) only [wr_o]
            rw [wr_i]
            show _ = nI (if j = A.n then b else A.lt j)
            by_cases c : j = A.n
            · rw [if_pos c, if_pos c]
            · rw [if_neg c, if_neg c]; (try simp (disch := omega) only [wr_o]); exact c5 j (z2 j hj c)
          · simp (disch := omega) only [wr_o]
            rw [wr_i]
            show _ = nI (if j = A.n then v else A.lv j)
            by_cases c : j = A.n
            · rw [if_pos c, if_pos c]
            · rw [if_neg c, if_neg c]; (try simp (disch := omega) only [wr_o]); exact c6 j (z2 j hj c)
          · simp (disch := omega) only [wr_o]
            rw [wr_i]
            show _ = nI (if j = A.n then 0 else A.st j)
            by_cases c : j = A.n
            · rw [if_pos c, if_pos c]; rfl
            · rw [if_neg c, if_neg c]; (try simp (disch := omega) only [wr_o]); exact c7 j (z2 j hj c)
          · simp (disch := omega) only [wr_o]
            rw [wr_i]
            show _ = nI (if j = A.n then 0 else A.lev j)
            by_cases c : j = A.n
            · rw [if_pos c, if_pos c]; rfl
            · rw [if_neg c, if_neg c]; (try simp (disch := omega) only [wr_o]); exact c8 j (z2 j hj c)
          · simp (disch := first | decide | omega) only [wr_o, wr_k, wr_s]
          · simp (disch := first | decide | omega) only [wr_o, wr_k, wr_s]; exact a3
          · simp (disch := first | decide | omega) only [wr_o, wr_k, wr_s]; exact a4
          · simp (disch := first | decide | omega) only [wr_o, wr_k, wr_s]; exact a5
          · simp (disch := first | decide | omega) only [wr_o, wr_k, wr_s]; exact a6
          · simp (disch := first | decide | omega) only [wr_o, wr_k, wr_s]; exact a7
          · simp (disch := first | decide | omega) only [wr_o, wr_k, wr_s]; exact a8
          · simp (disch := first | decide | omega) only [wr_o, wr_k, wr_s]; exact a9
          · simp (disch := first | decide | omega) only [wr_o, wr_k, wr_s]; exact d1
          · simp (disch := first | decide | omega) only [wr_o, wr_k, wr_s]; exact d2
          · simp (disch := first | decide | omega) only [wr_o, wr_k, wr_s]; exact d3
    · refine Sim.bad (ans := -2) hw (fun hi hl hR => ?_) (fun hi hl hR => ?_)
      · unfold f_LW_lamp
        rw [cpre hi hl hR]
        simp only [Option.bind_some, b2i_tt, if_false, if_neg r1, if_pos r9]
        rw [e_find hN hw (by omega) (by omega) hR, Option.bind_some]
        dsimp only
        rw [if_neg fd]
      · unfold f_MD_lamp
        rw [m_isWire hR.bd.w (by omega), e]
        simp only [Option.bind_some, b2i_tt, if_false]
        rw [m_isWire hR.bd.w (by omega), f]
        simp only [Option.bind_some, b2i_tt, if_false, if_neg ne]
        rw [hb, g]
        simp only [Option.bind_some, b2i_tt, if_false]
        rw [m_find hN hw (by omega) (by omega) hR, Option.bind_some]
        dsimp only
        rw [if_neg fd]
  · refine Sim.bad (ans := -1) hw (fun hi hl hR => ?_) (fun hi hl hR => ?_)
    · unfold f_LW_lamp
      rw [e_isPair hR.bd.w (by omega)]
      have : (rg p 0 A.w && (rg q 0 A.w && decide (p ≠ q))) = false := by
        cases h1 : rg p 0 A.w <;> cases h2 : rg q 0 A.w <;> simp_all
      rw [this]; rfl
    · unfold f_MD_lamp
      rw [m_isWire hR.bd.w (by omega)]
      cases h1 : rg p 0 A.w with
      | false => rfl
      | true =>
        simp only [Option.bind_some, b2i_tt, if_false]
        rw [m_isWire hR.bd.w (by omega)]
        cases h2 : rg q 0 A.w with
        | false => rfl
        | true =>
          simp only [Option.bind_some, b2i_tt, if_false]
          have : p = q := by
            by_cases c : p = q
            · exact c
            · exact absurd ⟨h1, h2, c⟩ ok
          rw [if_pos this]
