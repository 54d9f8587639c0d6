/-! levels: the second walk -/
def lvV (A : St) (f : Int32) (k l : Nat) : Nat := (A.cel k (lvC f l)).toNatClampNeg
theorem lvV_eq {A : St} {f : Int32} {k l : Nat} (h : rg (A.cel k (lvC f l)) 0 16 = true) : A.cel k (lvC f l) = nI (lvV A f k l) ∧ lvV A f k l ≤ 15 := by
  obtain ⟨j, _, j2, e⟩ := rg_t (by omega) h
  unfold lvV
  rw [e, nI_clamp (by omega)]
  exact ⟨rfl, by omega⟩
def lvS (A : St) (f : Int32) (k : Nat) : St := A.setA 4 (fun j => if j < A.n then lvV A f k j else A.lev j)
def lvK (A : St) (f : Int32) (k i : Nat) : Nat := fb_ct (fun l => decide (A.lev l ≠ lvV A f k l)) i
theorem c_lv2 {N : Nat} (hN : 70000 ≤ N) {A : St} (hw : WF A) {f : Int32} {k : Nat} (hk : k < 4) (has : A.has k = 1) (g : LvG A f k A.n) {hi : HI} {hl : HL} (hR : RC A hi) : wp (f_Board_takeLevels N (57 + 2 * k) f hi hl) (fun o => o.1 = nI (lvK A f k A.n) ∧ Sam [6] hi o.2.1 ∧ ∀ l, l < A.n → o.2.1 6 l = nI (lvV A f k l)) := by
  have n16 := hw.n16
  have sz40 := hw.size k hk
  have hc := (hR.sh k hk).c has
  unfold f_Board_takeLevels
  refine wp.bnd (P := fun o => o.1 = nI (lvK A f k A.n) ∧ Sam [6] hi o.2.1 ∧ ∀ l, l < A.n → o.2.1 6 l = nI (lvV A f k l)) ?_ (fun z hz => by rw [wp_some]; exact hz)
  refine wp_for A.n (fun i s => s.2.1 = nI i ∧ s.1 = nI (lvK A f k i) ∧ Sam [6] hi s.2.2.1 ∧ ∀ l, l < A.n → s.2.2.1 6 l = nI (if l < i then lvV A f k l else A.lev l)) ?_ ?_ (i := 0) (Nat.zero_le _) ⟨rfl, rfl, Sam.refl _ _, fun l hl => by dsimp only; rw [if_neg (by omega)]; exact hR.bd.e l hl⟩ (by omega)
  · rintro i ⟨c, q, h1, l1⟩ hi1 ⟨rfl, rfl, sm, h⟩
    dsimp only at sm h
    obtain ⟨g1, g2⟩ := g i hi1
    obtain ⟨q1, q2⟩ := lv_nI (by omega) sz40 g1
    obtain ⟨v1, v2⟩ := lvV_eq g2
    have lv := hw.lev i hi1
    unfold B_Board_takeLevels_5 J_Board_takeLevels_49
    dsimp only
    have r1 : h1 1 2 = nI A.n := by rw [sm 1 (by decide)]; exact hR.bd.n
    have r6 : h1 6 i = nI (A.lev i) := by rw [h i hi1, if_neg (by omega)]
    have rc : h1 (57 + 2 * k + 1) (lvC f i) = nI (lvV A f k i) := by rw [show 57 + 2 * k + 1 = 58 + 2 * k by omega, sm _ (by simp only [List.mem_cons, List.not_mem_nil, or_false]; omega), hc _ (by omega)]; exact v1
    rw [q1, nI_clamp (by omega), nI_clamp (by omega)]
    refine wp_neg (by rw [r1]; exact nI_ge hi1 (by omega)) (wp_pos (gS_4 k hk).1 (wp_neg (nI_in' (by omega) (by omega)) (wp_neg (nI_in' (by omega) (by omega)) ?_)))
    by_cases c : A.lev i = lvV A f k i
    · refine wp_pos (by rw [r6, rc, c]) ?_
      rw [wp_some]
      refine ⟨nI_1 i, ?_, sm, fun l hl => ?_⟩
      · show _ = nI (fb_ct _ (i + 1))
        rw [fb_ct_succ, decide_eq_false (fun q => q c)]; rfl
      · dsimp only
        by_cases d : l = i
        · rw [d, if_pos (by omega), r6, c]
        · rw [h l hl]
          by_cases d2 : l < i
          · rw [if_pos d2, if_pos (by omega)]
          · rw [if_neg d2, if_neg (by omega)]
    · refine wp_neg (by rw [r6, rc]; exact fun q => c ((nI_eq (by omega) (by omega)).mp q)) (wp_neg (nI_in' (by omega) (by omega)) ?_)
      rw [wp_some, rc]
      refine ⟨nI_1 i, ?_, sm.wr (by decide), fun l hl => ?_⟩
      · show _ = nI (fb_ct _ (i + 1))
        rw [fb_ct_succ, decide_eq_true c]; exact nI_1 _
      · dsimp only
        rw [wr_i]
        by_cases d : l = i
        · rw [if_pos d, d, if_pos (by omega)]
        · rw [if_neg d, h l hl]
          by_cases d2 : l < i
          · rw [if_pos d2, if_pos (by omega)]
          · rw [if_neg d2, if_neg (by omega)]
  · rintro ⟨c, q, h1, l1⟩ ⟨rfl, rfl, sm, h⟩
    dsimp only at sm h
    unfold B_Board_takeLevels_5
    dsimp only
    have r1 : h1 1 2 = nI A.n := by rw [sm 1 (by decide)]; exact hR.bd.n
    refine wp_pos (by rw [r1]; exact nI_le (Nat.le_refl _) (by omega)) ?_
    rw [wp_some]
    exact ⟨rfl, sm, fun l hl => by dsimp only; rw [h l hl, if_pos hl]⟩
theorem m_lv2 {N : Nat} (hN : 70000 ≤ N) {A : St} (hw : WF A) {f : Int32} {k : Nat} (hk : k < 4) (has : A.has k = 1) (g : LvG A f k A.n) {hi : HI} {hl : HL} (hR : RM A hi) : wp (lpN (fun s => B_MD_levels_124 N (nI k) f s.1 s.2.1 s.2.2.1 s.2.2.2) N (0, 0, hi, hl)) (fun o => o.1 = nI (lvK A f k A.n) ∧ Sam [70] hi o.2.1 ∧ ∀ l, l < A.n → o.2.1 70 l = nI (lvV A f k l)) := by
  have n16 := hw.n16
  have sz40 := hw.size k hk
  have hc := hR.ce k hk has
  refine wp_for A.n (fun i s => s.2.1 = nI i ∧ s.1 = nI (lvK A f k i) ∧ Sam [70] hi s.2.2.1 ∧ ∀ l, l < A.n → s.2.2.1 70 l = nI (if l < i then lvV A f k l else A.lev l)) ?_ ?_ (i := 0) (Nat.zero_le _) ⟨rfl, rfl, Sam.refl _ _, fun l hl => by dsimp only; rw [if_neg (by omega)]; exact hR.bd.e l hl⟩ (by omega)
  · rintro i ⟨c, q, h1, l1⟩ hi1 ⟨rfl, rfl, sm, h⟩
    dsimp only at sm h
    obtain ⟨g1, g2⟩ := g i hi1
    obtain ⟨q1, q2⟩ := lv_nI (by omega) sz40 g1
    obtain ⟨v1, v2⟩ := lvV_eq g2
    have lv := hw.lev i hi1
    unfold B_MD_levels_124 J_MD_levels_168
    dsimp only
    have a3 : (40 : Int32) * nI k + nI (lvC f i) = nI (40 * k + lvC f i) := by rw [lit_I, pk_mul, nI_add]
    have r1 : h1 65 2 = nI A.n := by rw [sm 65 (by decide)]; exact hR.bd.n
    have r6 : h1 70 i = nI (A.lev i) := by rw [h i hi1, if_neg (by omega)]
    have rc : h1 94 (40 * k + lvC f i) = nI (lvV A f k i) := by rw [sm 94 (by decide), hc _ (by omega)]; exact v1
    have fin : ∀ x : Int32, x = nI (lvK A f k (i + 1)) → wp (some (.inl (x, nI i + 1, wr h1 70 i (nI (lvV A f k i)), l1)) : Option ((Int32 × Int32 × HI × HL) ⊕ (Int32 × HI × HL))) (fun z => match z with
        | .inl s => s.2.1 = nI (i + 1) ∧ s.1 = nI (lvK A f k (i + 1)) ∧ Sam [70] hi s.2.2.1 ∧ ∀ l, l < A.n → s.2.2.1 70 l = nI (if l < i + 1 then lvV A f k l else A.lev l)
        | .inr x => x.1 = nI (lvK A f k A.n) ∧ Sam [70] hi x.2.1 ∧ ∀ l, l < A.n → x.2.1 70 l = nI (lvV A f k l)) := by
      intro x hx
      rw [wp_some]
      refine ⟨nI_1 i, hx, sm.wr (by decide), fun l hl => ?_⟩
      dsimp only
      rw [wr_i]
      by_cases d : l = i
      · rw [if_pos d, d, if_pos (by omega)]
      · rw [if_neg d, h l hl]
        by_cases d2 : l < i
        · rw [if_pos d2, if_pos (by omega)]
        · rw [if_neg d2, if_neg (by omega)]
    rw [Int32.add_assoc, q1, a3, nI_clamp (by omega), nI_clamp (by omega)]
    simp only [rc]
    refine wp_neg (by rw [r1]; exact nI_ge hi1 (by omega)) (wp_neg (nI_in' (by omega) (by omega)) (wp_neg (nI_in' (by omega) (by omega)) ?_))
    by_cases c : A.lev i = lvV A f k i
    · refine wp_pos (by rw [r6, c]) (wp_neg (nI_in' (by omega) (by omega)) ?_)
      refine (fin _ ?_).mono (fun z hz => by cases z <;> exact hz)
      show _ = nI (fb_ct _ (i + 1))
      rw [fb_ct_succ, decide_eq_false (fun q => q c)]; exact nI_add _ 0
    · refine wp_neg (by rw [r6]; exact fun q => c ((nI_eq (by omega) (by omega)).mp q)) (wp_neg (nI_in' (by omega) (by omega)) ?_)
      refine (fin _ ?_).mono (fun z hz => by cases z <;> exact hz)
      show _ = nI (fb_ct _ (i + 1))
      rw [fb_ct_succ, decide_eq_true c]; exact nI_1 _
  · rintro ⟨c, q, h1, l1⟩ ⟨rfl, rfl, sm, h⟩
    dsimp only at sm h
    unfold B_MD_levels_124
    dsimp only
    have r1 : h1 65 2 = nI A.n := by rw [sm 65 (by decide)]; exact hR.bd.n
    refine wp_pos (by rw [r1]; exact nI_le (Nat.le_refl _) (by omega)) ?_
    rw [wp_some]
    exact ⟨rfl, sm, fun l hl => by dsimp only; rw [h l hl, if_pos hl]⟩
theorem S_levels {N : Nat} (hN : 70000 ≤ N) (p q f : Int32) : Sim (f_LW_levels N p q f) (f_MD_levels N p q f) := by
  refine Sim.of (fun A hw => ?_)
  have n16 := hw.n16
  rcases rgE p 0 4 with ⟨e, _⟩ | ⟨e, _⟩
  · refine Sim.bad (ans := -1) hw (fun hi hl hR => ?_) (fun hi hl hR => ?_)
    · unfold f_LW_levels
      rw [e_isSheet, e]; rfl
    · unfold f_MD_levels
      rw [m_isSheet, e]; rfl
  rcases rgE q 0 3 with ⟨e2, _⟩ | ⟨e2, _⟩
  · refine Sim.bad (ans := -1) hw (fun hi hl hR => ?_) (fun hi hl hR => ?_)
    · unfold f_LW_levels
      rw [e_isSheet, e]
      simp only [Option.bind_some, b2i_tt, if_false]
      rw [e_isLane, e2]; rfl
    · unfold f_MD_levels
      rw [m_isSheet, e, e2]; rfl
  obtain ⟨k, _, k4, rfl⟩ := rg_t (by omega) e
  obtain ⟨a, _, a3, rfl⟩ := rg_t (by omega) e2
  have ck : (nI k).toNatClampNeg = k := nI_clamp (by omega)
  have ix : ¬ (nI k < 0 ∨ 4 ≤ k) := nI_in' (by omega) (by omega)
  have gs := (gS_4 k k4).1
  have sz40 := hw.size k k4
  have lan := hw.lane k k4
  have n4 : ∀ x : Nat, x < 2 ^ 31 → ¬ nI x = -4 := fun x hx => by rw [ni_neg4 hx]; exact id
  by_cases has : A.has k = 1
  · have cz : ∀ hi, RC A hi → hi (57 + 2 * k) 1 = nI (A.size k) := fun hi hR => by have := (hR.sh k k4).z; rw [if_pos has] at this; exact this
    have cl : ∀ hi, RC A hi → hi (57 + 2 * k) 0 = nI (A.lane k) := fun hi hR => (hR.sh k k4).l has
    have ml : ∀ hi, RM A hi → hi 92 k = nI (A.lane k) := fun hi hR => by have := hR.la k k4; rw [if_pos has] at this; exact this
    by_cases la : A.lane k = a
    · obtain ⟨m, r, hm, g, ee⟩ := lv_ex A f k
      have c1 : ∀ hi hl, RC A hi → lpN (fun s => B_LW_levels_52 N f (57 + 2 * k) s.1 s.2.1 s.2.2) N (0, hi, hl) = some (r, nI m, hi, hl) := fun hi hl hR => by
        obtain ⟨z, h1, rfl⟩ := c_lv1 hN hw k4 has hm g ee hR (hl := hl)
        exact h1
      have m1 : ∀ hi hl, RM A hi → lpN (fun s => B_MD_levels_42 N (nI k) f s.1 s.2.1 s.2.2) N (0, hi, hl) = some (r, nI m, hi, hl) := fun hi hl hR => by
        obtain ⟨z, h1, rfl⟩ := m_lv1 hN hw k4 has hm g ee hR (hl := hl)
        exact h1
      have cgo : ∀ hi hl, RC A hi → f_LW_levels N (nI k) (nI a) f hi hl = if r = 0 then (f_Board_takeLevels N (57 + 2 * k) f hi hl).bind fun z16 => some (z16.1, z16.2.1, z16.2.2) else if r = 1 then some (-12, hi, hl) else some ((-20 : Int32) - nI m, hi, hl) := by
        intro hi hl hR
        unfold f_LW_levels
        rw [e_isSheet, e]
        simp only [Option.bind_some, b2i_tt, if_false]
        rw [e_isLane, e2]
        simp only [Option.bind_some, b2i_tt, if_false]
        rw [ck, if_neg ix, if_pos gs, if_neg (by rw [cz hi hR]; exact n4 _ (by omega)), if_pos (by rw [cl hi hR, la]), c1 hi hl hR]
        simp only [Option.bind_some]
      have mgo : ∀ hi hl, RM A hi → f_MD_levels N (nI k) (nI a) f hi hl = if r = 0 then (lpN (fun s => B_MD_levels_124 N (nI k) f s.1 s.2.1 s.2.2.1 s.2.2.2) N (0, 0, hi, hl)).bind fun x19 => some (x19.1, x19.2.1, x19.2.2) else if r = 1 then some (-12, hi, hl) else some ((-20 : Int32) - nI m, hi, hl) := by
        intro hi hl hR
        unfold f_MD_levels
        rw [m_isSheet, e, e2]
        simp only [Bool.and_self, Option.bind_some, b2i_tt, if_false]
        rw [ck, if_neg ix, if_pos (by rw [ml hi hR, la]), m1 hi hl hR]
        simp only [Option.bind_some]
      rcases ee with ⟨e3, r0⟩ | ⟨e3, e4, r0⟩ | ⟨e3, e4, e5, r0⟩
      · subst e3
        have sb : SB A (lvS A f k) := ⟨rfl, rfl, rfl, rfl, rfl, rfl, rfl⟩
        refine ⟨nI (lvK A f k A.n), lvS A f k, ?_, fun hi hl hR => ?_, fun hi hl hR => ?_⟩
        · obtain ⟨a1, a2, a3, a4, a5, a6, a7, a8, a9, b1, b2, b3, rest⟩ := hw
          exact ⟨a1, a2, a3, a4, a5, a6, a7, a8, a9, b1, b2, fun j hj => by
            show (if j < A.n then lvV A f k j else A.lev j) ≤ 15
            rw [if_pos (show j < A.n from hj)]
            exact (lvV_eq (g j hj).2).2, rest⟩
        · rw [cgo hi hl hR, if_pos r0]
          refine (c_lv2 hN hw k4 has g hR).bnd (fun x hx => ?_)
          obtain ⟨x1, x2, x3⟩ := hx
          rw [wp_some]
          have o : ∀ c, c ≠ 6 → x.2.1 c = hi c := fun c h => x2 c (by simp only [List.mem_cons, List.not_mem_nil, or_false]; exact h)
          refine ⟨x1, hR.keep sb (fun c hc hb => o c (fun q => hb (by rw [q]; decide))) (fun j hj => ?_) ?_ ?_ ?_ (fun j hj => ?_), HiC.of x2 (by decide)⟩
          · show _ = nI (if j < A.n then lvV A f k j else A.lev j)
            rw [if_pos (show j < A.n from hj)]; exact x3 j hj
          · dsimp only; rw [o 43 (by omega), o 46 (by omega)]; exact hR.tp
          · dsimp only; rw [o 47 (by omega), o 48 (by omega), o 49 (by omega), o 50 (by omega)]; exact hR.sc
          · dsimp only; rw [o 51 (by omega), o 52 (by omega), o 53 (by omega), sb_Gs ⟨sb.b0, rfl, rfl⟩ rfl]; exact hR.gs
          · dsimp only; rw [o _ (by omega), o _ (by omega)]; exact hR.sh j hj
        · rw [mgo hi hl hR, if_pos r0]
          refine (m_lv2 hN hw k4 has g hR).bnd (fun x hx => ?_)
          obtain ⟨x1, x2, x3⟩ := hx
          rw [wp_some]
          have o : ∀ c, c ≠ 70 → x.2.1 c = hi c := fun c h => x2 c (by simp only [List.mem_cons, List.not_mem_nil, or_false]; exact h)
          obtain ⟨a1, a2, a3, a4, a5, a6, a7, a8, a9, b1, b2, b3⟩ := id hR
          refine ⟨x1, hR.keep sb (fun c hc hb => o c (fun q => hb (by rw [q]; decide))) (fun j _ => ?_) (fun j hj => ?_) ?_ ?_ ?_ ?_ ?_ ?_ ?_ ?_ ?_ ?_, LoC.of x2 (by decide)⟩
          · dsimp only; rw [o 65 (by omega)]
          · show _ = nI (if j < A.n then lvV A f k j else A.lev j)
            rw [if_pos (show j < A.n from hj)]; exact x3 j hj
          · dsimp only; rw [o 65 (by omega)]; exact a3
          · dsimp only; rw [o 83 (by omega)]; exact a4
          · dsimp only; rw [o 84 (by omega)]; exact a5
          · dsimp only; rw [o 85 (by omega)]; exact a6
          · dsimp only; rw [o 65 (by omega)]; exact a7
          · dsimp only; rw [o 88 (by omega)]; exact a8
          · dsimp only; rw [o 65 (by omega)]; exact a9
          · dsimp only; rw [o 92 (by omega)]; exact b1
          · dsimp only; rw [o 93 (by omega)]; exact b2
          · dsimp only; rw [o 94 (by omega)]; exact b3
      · exact Sim.bad (ans := -12) hw (fun hi hl hR => by rw [cgo hi hl hR, if_neg (by omega), if_pos r0]) (fun hi hl hR => by rw [mgo hi hl hR, if_neg (by omega), if_pos r0])
      · exact Sim.bad (ans := (-20 : Int32) - nI m) hw (fun hi hl hR => by rw [cgo hi hl hR, if_neg (by omega), if_neg (by omega)]) (fun hi hl hR => by rw [mgo hi hl hR, if_neg (by omega), if_neg (by omega)])
    · have nl : ¬ nI (A.lane k) = nI a := fun q => la ((nI_eq (by omega) (by omega)).mp q)
      refine Sim.bad (ans := -13) hw (fun hi hl hR => ?_) (fun hi hl hR => ?_)
      · unfold f_LW_levels
        rw [e_isSheet, e]
        simp only [Option.bind_some, b2i_tt, if_false]
        rw [e_isLane, e2]
        simp only [Option.bind_some, b2i_tt, if_false]
        rw [ck, if_neg ix, if_pos gs, if_neg (by rw [cz hi hR]; exact n4 _ (by omega)), if_neg (by rw [cl hi hR]; exact nl)]
      · unfold f_MD_levels
        rw [m_isSheet, e, e2]
        simp only [Bool.and_self, Option.bind_some, b2i_tt, if_false]
        rw [ck, if_neg ix, if_neg (by rw [ml hi hR]; exact nl), if_neg ix, if_neg (by rw [ml hi hR]; exact n4 _ (by omega))]
  · refine Sim.bad (ans := -11) hw (fun hi hl hR => ?_) (fun hi hl hR => ?_)
    · have z : hi (57 + 2 * k) 1 = -4 := by have := (hR.sh k k4).z; rw [if_neg has] at this; exact this
      unfold f_LW_levels
      rw [e_isSheet, e]
      simp only [Option.bind_some, b2i_tt, if_false]
      rw [e_isLane, e2]
      simp only [Option.bind_some, b2i_tt, if_false]
      rw [ck, if_neg ix, if_pos gs, if_pos z]
    · have z : hi 92 k = -4 := by have := hR.la k k4; rw [if_neg has] at this; exact this
      unfold f_MD_levels
      rw [m_isSheet, e, e2]
      simp only [Bool.and_self, Option.bind_some, b2i_tt, if_false]
      rw [ck, if_neg ix, if_neg (by rw [z]; exact fun q => n4 a (by omega) q.symm), if_neg ix, if_pos z]
