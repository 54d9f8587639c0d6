/-! likely of the class -/
abbrev RkC (h0 : HI) (L : List (Int32 × Int32)) (h : HI) : Prop :=
  (Sam [7, 8, 9, 10, 11, 51, 52, 53, 54] h0 h) ∧
  (∀ j, j ≠ 2 → h 51 j = h0 51 j) ∧
  (Rk L (h 51 2) (h 52) (h 53))
theorem RkC.s {h0 : HI} {L : List (Int32 × Int32)} {h : HI} (h_ : RkC h0 L h) : Sam [7, 8, 9, 10, 11, 51, 52, 53, 54] h0 h := h_.1
theorem RkC.o {h0 : HI} {L : List (Int32 × Int32)} {h : HI} (h_ : RkC h0 L h) : ∀ j, j ≠ 2 → h 51 j = h0 51 j := h_.2.1
theorem RkC.k {h0 : HI} {L : List (Int32 × Int32)} {h : HI} (h_ : RkC h0 L h) : Rk L (h 51 2) (h 52) (h 53) := h_.2.2
theorem c_expl {N : Nat} (hN : 70000 ≤ N) {A : St} (hw : WF A) {f g : Int32} {hi : HI} {hl : HL} (l : Ldd A (gst f g) hi) (sc : ScC A (hi 47) (hi 48) (hi 49) (hi 50)) : wp (lpN (fun s => B_Guesses_tryGuess_13 N f g s.1 s.2.1 s.2.2) N (0, hi, hl)) (fun o => Sam [7, 10, 11] hi o.2.1 ∧ ((o.1 = 0 ∧ Expl A f g) ∨ (o.1 = 1 ∧ ¬ Expl A f g))) := by
  have l12 := hw.l12
  refine wp_for A.lines (fun k s => s.1 = nI k ∧ Sam [7, 10, 11] hi s.2.1 ∧ Ldd A (gst f g) s.2.1 ∧ ∀ j, j < k → A.sn j ≠ -4 → A.sn j = nI (GM A (gst f g) (A.pt j))) ?_ ?_ (i := 0) (Nat.zero_le _) ⟨rfl, Sam.refl _ _, l, fun j hj => by omega⟩ (by omega)
  · rintro k ⟨q, h1, l1⟩ hk ⟨rfl, sm, ld, h⟩
    dsimp only at sm ld h
    unfold B_Guesses_tryGuess_13 J_Guesses_tryGuess_60
    dsimp only
    have r47 : h1 47 0 = nI A.lines := by rw [sm 47 (by decide)]; exact sc.n
    have r48 : h1 48 k = nI (A.pt k) := by rw [sm 48 (by decide)]; exact sc.t k hk
    have r50 : h1 50 k = A.sn k := by rw [sm 50 (by decide)]; exact sc.s k hk
    rw [nI_clamp (by omega), r48]
    refine wp_neg (by rw [r47]; exact nI_ge hk (by omega)) (wp_neg (nI_in' (by omega) (by omega)) ?_)
    by_cases c4 : A.sn k = -4
    · refine wp_pos (by rw [r50]; exact c4) ?_
      rw [wp_some]
      refine ⟨nI_1 k, sm, ld, fun j hj hn => ?_⟩
      by_cases e : j = k
      · exact absurd (e ▸ c4) hn
      · exact h j (by omega) hn
    · refine wp_neg (by rw [r50]; exact c4) (wp_neg (nI_in' (by omega) (by omega)) ?_)
      refine (ld.solve hN hw (hw.pt k hk)).bnd (fun x hx => ?_)
      obtain ⟨x1, x2, x3⟩ := hx
      have x50 : x.2.1 50 k = A.sn k := by rw [x1 50 (by decide)]; exact r50
      refine wp_neg (nI_in' (by omega) (by omega)) ?_
      by_cases c : A.sn k = nI (GM A (gst f g) (A.pt k))
      · refine wp_pos (by rw [x3, x50, c]) ?_
        rw [wp_some]
        refine ⟨nI_1 k, Sam.trans sm x1 _ (by decide) (by decide), x2, fun j hj hn => ?_⟩
        by_cases e : j = k
        · rw [e]; exact c
        · exact h j (by omega) hn
      · refine wp_neg (by rw [x3, x50]; exact fun q => c q.symm) ?_
        rw [wp_some]
        exact ⟨Sam.trans sm x1 _ (by decide) (by decide), Or.inr ⟨rfl, fun q => c (q k hk c4)⟩⟩
  · rintro ⟨q, h1, l1⟩ ⟨rfl, sm, ld, h⟩
    dsimp only at sm ld h
    unfold B_Guesses_tryGuess_13
    dsimp only
    have r47 : h1 47 0 = nI A.lines := by rw [sm 47 (by decide)]; exact sc.n
    refine wp_pos (by rw [r47]; exact nI_le (Nat.le_refl _) (by omega)) ?_
    rw [wp_some]
    exact ⟨sm, Or.inl ⟨rfl, h⟩⟩
theorem c_try {N : Nat} (hN : 70000 ≤ N) {A : St} (hw : WF A) {h0 : HI} (bd : Bd A (h0 1) (h0 2) (h0 3) (h0 4) (h0 5) (h0 6)) (sc : ScC A (h0 47) (h0 48) (h0 49) (h0 50)) : Tr A 1 (f_Guesses_tryGuess N) (RkC h0) := by
  refine ⟨fun L h r => by rw [r.s 1 (by decide)]; exact bd.n, fun f g L h l hf hg hL r => ?_⟩
  unfold f_Guesses_tryGuess
  obtain ⟨rs, ro, rk⟩ := r
  refine (c_suppose hN hw hf hg (by rw [rs 1 (by decide), rs 2 (by decide), rs 3 (by decide), rs 4 (by decide), rs 5 (by decide), rs 6 (by decide)]; exact bd)).bnd (fun x hx => ?_)
  have sx : Sam [7, 8, 9, 10, 11, 51, 52, 53, 54] h0 x.2.1 := Sam.trans rs hx.1 _ (by decide) (by decide)
  refine (c_expl hN hw (f := f) (g := g) hx.2 (by rw [sx 47 (by decide), sx 48 (by decide), sx 49 (by decide), sx 50 (by decide)]; exact sc)).bnd (fun y hy => ?_)
  obtain ⟨y1, y2⟩ := hy
  have sy : Sam [7, 8, 9, 10, 11, 51, 52, 53, 54] h0 y.2.1 := Sam.trans sx y1 _ (by decide) (by decide)
  have q51 : y.2.1 51 = h 51 := by rw [y1 51 (by decide), hx.1 51 (by decide)]
  have q52 : y.2.1 52 = h 52 := by rw [y1 52 (by decide), hx.1 52 (by decide)]
  have q53 : y.2.1 53 = h 53 := by rw [y1 53 (by decide), hx.1 53 (by decide)]
  unfold exS
  rcases y2 with ⟨y2, ex⟩ | ⟨y2, ex⟩
  · rw [if_pos (cD_t.mpr ex)]
    have e2 : y.2.1 51 2 = nI L.length := by rw [q51]; exact rk.1
    have ew : ∀ v, (wr y.2.1 52 L.length v) 51 2 = nI L.length := fun v => by rw [wr_o (by omega)]; exact e2
    refine wp_pos y2 ?_
    rw [e2, nI_clamp (by omega), ew, nI_clamp (by omega)]
    have ne : ¬ (480 : Int32) ≤ nI L.length := nI_ge (b := 480) hL (by omega)
    rw [if_neg ne, if_neg (nI_in' (by omega) (by omega)), if_neg (nI_in' (by omega) (by omega)), wp_some]
    refine ⟨((sy.wr (by decide)).wr (by decide)).wr (by decide), fun j hj => ?_, ?_⟩
    · dsimp only; rw [wr_k hj, wr_o (by omega), wr_o (by omega), q51]; exact ro j hj
    · dsimp only
      have r := rk.snoc (a := f) (b := g) (f1 := (wr (wr (wr y.2.1 52 L.length f) 53 L.length g) 51 2 (nI L.length + 1)) 52) (s1 := (wr (wr (wr y.2.1 52 L.length f) 53 L.length g) 51 2 (nI L.length + 1)) 53) (fun j => by rw [wr_o (by omega), wr_o (by omega), wr_i, q52]) (fun j => by rw [wr_o (by omega), wr_i, wr_o (by omega), q53])
      rw [rk.1] at r
      have e3 : (wr (wr y.2.1 52 L.length f) 53 L.length g) 51 2 = nI L.length := by rw [wr_o (by omega), wr_o (by omega)]; exact e2
      rw [e3, wr_s]; exact r
  · have nx : ¬ cD (Expl A f g) = true := by rw [cD_f.mpr ex]; decide
    rw [if_neg nx]
    refine wp_neg (by rw [y2]; decide) ?_
    rw [wp_some]
    exact ⟨sy, (fun j hj => by dsimp only; rw [q51]; exact ro j hj), by dsimp only; rw [q51, q52, q53]; exact rk⟩
theorem gl0_eq (A : St) : exS A [] (-4) (-4) = gl0 A := by
  have := exS_f (A := A) (L := []) (f := -4) (g := -4)
  exact this
theorem emp_0 {L : List (Int32 × Int32)} (h : L.length < 2 ^ 31) : nI L.length = 0 ↔ L.isEmpty = true := by
  constructor
  · intro q
    have := (nI_eq (b := 0) h (by omega)).mp q
    rw [List.isEmpty_iff]; exact List.eq_nil_of_length_eq_zero this
  · intro q
    rw [List.isEmpty_iff] at q
    rw [q]; rfl
theorem gl_len {A : St} (hw : WF A) : (gl0 A).length ≤ 1 ∧ (gl1 A).length ≤ 32 ∧ (gl2 A).length ≤ 480 := by
  have n16 := hw.n16
  refine ⟨List.length_filter_le _ _, Nat.le_trans (List.length_filter_le _ _) ?_, ?_⟩
  · rw [List.length_map, List.length_range]; omega
  · rw [gl2_eq]; exact Nat.le_trans (List.length_filter_le _ _) (lk_480 _ (by omega))
theorem c_list {N : Nat} (hN : 70000 ≤ N) {A : St} (hw : WF A) {hi : HI} {hl : HL} (hR : RC A hi) : wp (f_Guesses_list N hi hl) (fun o => RC A o.2.1 ∧ HiC hi o.2.1 ∧ GsL A (o.2.1 51) (o.2.1 52) (o.2.1 53)) := by
  unfold f_Guesses_list
  have n16 := hw.n16
  obtain ⟨gl_0, gl_1, gl_2⟩ := gl_len hw
  rcases hR.gs.l with z | ⟨z, z2⟩
  · refine wp_pos z ?_
    have bdy : ∀ (h : HI), Sam [7, 8, 9, 10, 11, 51, 52, 53, 54] hi h → Bd A (h 1) (h 2) (h 3) (h 4) (h 5) (h 6) := fun h s => by
      rw [s 1 (by decide), s 2 (by decide), s 3 (by decide), s 4 (by decide), s 5 (by decide), s 6 (by decide)]; exact hR.bd
    have scy : ∀ (h : HI), Sam [7, 8, 9, 10, 11, 51, 52, 53, 54] hi h → ScC A (h 47) (h 48) (h 49) (h 50) := fun h s => by
      rw [s 47 (by decide), s 48 (by decide), s 49 (by decide), s 50 (by decide)]; exact hR.sc
    -- what is left when all is listed
    have fin : ∀ (h : HI) (L : List (Int32 × Int32)) (d : Int32), Sam [7, 8, 9, 10, 11, 51, 52, 53, 54] hi h → (∀ j, 2 < j → h 51 j = hi 51 j) → h 51 0 = 1 → h 51 1 = d → Rk L (h 51 2) (h 52) (h 53) → L.length ≤ 480 → L = glL A → d = glF A → (RC A h ∧ HiC hi h ∧ GsL A (h 51) (h 52) (h 53)) := by
      intro h L d s so s0 s1 rk lL eL eD
      have g : GsL A (h 51) (h 52) (h 53) := by
        subst eL
        exact ⟨by rw [s1, eD], rk.1, lL, rk.2⟩
      have o : ∀ a, a ≠ 51 → a ≠ 52 → a ≠ 53 → frC a = false → h a = hi a := fun a h1 h2 h3 h4 => s a (fun q => by
        simp only [List.mem_cons, List.not_mem_nil, or_false] at q
        rcases q with rfl | rfl | rfl | rfl | rfl | rfl | rfl | rfl | rfl <;> first | exact absurd rfl h1 | exact absurd rfl h2 | exact absurd rfl h3 | (revert h4; decide))
      refine ⟨hR.keep ⟨rfl, rfl, rfl, rfl, rfl, rfl, rfl⟩ (fun a ha hb => o a (fun q => hb (by rw [q]; decide)) (fun q => hb (by rw [q]; decide)) (fun q => hb (by rw [q]; decide)) ha) (fun l hl => ?_) ?_ (scy _ s) ⟨Or.inr ⟨s0, g⟩, ?_⟩ (fun k hk => ?_), HiC.of s (by decide), g⟩
      · exact (bdy _ s).e l hl
      · rw [o 43 (by omega) (by omega) (by omega) (by decide), o 46 (by omega) (by omega) (by omega) (by decide)]; exact hR.tp
      · rw [so 5 (by omega)]
        rcases hR.gs.w with h | ⟨h, h2⟩
        · exact Or.inl h
        · refine Or.inr ⟨h, ?_⟩
          unfold GsW at h2 ⊢
          rw [so 6 (by omega), so 7 (by omega)]; exact h2
      · have f4 : ∀ k, k < 4 → frC (57 + 2 * k) = false ∧ frC (58 + 2 * k) = false := by decide
        rw [o _ (by omega) (by omega) (by omega) (f4 k hk).1, o _ (by omega) (by omega) (by omega) (f4 k hk).2]; exact hR.sh k hk
    generalize hy : wr (wr (wr hi 51 0 1) 51 2 0) 51 1 0 = y
    have sy : Sam [7, 8, 9, 10, 11, 51, 52, 53, 54] hi y := by rw [← hy]; exact (((Sam.refl _ _).wr (by decide)).wr (by decide)).wr (by decide)
    have y0 : y 51 0 = 1 := by rw [← hy, wr_k (by omega), wr_k (by omega), wr_s]
    have y2 : y 51 2 = 0 := by rw [← hy, wr_k (by omega), wr_s]
    have y1 : y 51 1 = 0 := by rw [← hy, wr_s]
    have yo : ∀ j, 2 < j → y 51 j = hi 51 j := fun j hj => by rw [← hy, wr_k (by omega), wr_k (by omega), wr_k (by omega)]
    have r0 : RkC y [] y := ⟨Sam.refl _ _, fun _ _ => rfl, by rw [y2]; exact Rk.nil _ _⟩
    refine ((c_try hN hw (bdy y sy) (scy y sy)).2 (-4) (-4) [] y hl (FOK.none A) (FOK.none A) (by decide) r0).bnd (fun x hx => ?_)
    rw [gl0_eq] at hx
    have sx : Sam [7, 8, 9, 10, 11, 51, 52, 53, 54] hi x.2.1 := Sam.trans sy hx.s _ (by decide) (by decide)
    have x2 : x.2.1 51 2 = nI (gl0 A).length := hx.k.1
    by_cases c0 : (gl0 A).isEmpty = true
    · refine wp_pos (by rw [x2]; exact (emp_0 (by omega)).mpr c0) ?_
      have n0 : gl0 A = [] := List.isEmpty_iff.mp c0
      rw [n0] at x2
      unfold f_Guesses_listSingle
      generalize hu : wr x.2.1 51 1 1 = u
      have su : Sam [7, 8, 9, 10, 11, 51, 52, 53, 54] hi u := by rw [← hu]; exact sx.wr (by decide)
      have u1 : u 51 1 = 1 := by rw [← hu, wr_s]
      have uo : ∀ j, j ≠ 1 → u 51 j = x.2.1 51 j := fun j hj => by rw [← hu, wr_k hj]
      have ru : RkC u [] u := ⟨Sam.refl _ _, fun _ _ => rfl, by rw [uo 2 (by omega), x2]; exact Rk.nil _ _⟩
      have one := lk_one hN hw (c_try hN hw (bdy u su) (scy u su)) (l := x.2.2) ru
      refine wp.bnd (P := fun o => RkC u (gl1 A) o.2.1) (one.bnd (fun o ho => by rw [wp_some]; exact ho)) (fun v hv => ?_)
      have sv : Sam [7, 8, 9, 10, 11, 51, 52, 53, 54] hi v.2.1 := Sam.trans su hv.s _ (by decide) (by decide)
      have v2 : v.2.1 51 2 = nI (gl1 A).length := hv.k.1
      unfold J_Guesses_list_53
      by_cases c1 : (gl1 A).isEmpty = true
      · refine wp_pos (by rw [v2]; exact (emp_0 (by omega)).mpr c1) ?_
        have n1 : gl1 A = [] := List.isEmpty_iff.mp c1
        rw [n1] at v2
        unfold f_Guesses_listDouble
        generalize hp : wr v.2.1 51 1 2 = p
        have sp : Sam [7, 8, 9, 10, 11, 51, 52, 53, 54] hi p := by rw [← hp]; exact sv.wr (by decide)
        have p1 : p 51 1 = 2 := by rw [← hp, wr_s]
        have po : ∀ j, j ≠ 1 → p 51 j = v.2.1 51 j := fun j hj => by rw [← hp, wr_k hj]
        have rp : RkC p [] p := ⟨Sam.refl _ _, fun _ _ => rfl, by rw [po 2 (by omega), v2]; exact Rk.nil _ _⟩
        have two := lk_two hN hw (c_try hN hw (bdy p sp) (scy p sp)) (l := v.2.2) rp
        refine wp.bnd (P := fun o => RkC p (gl2 A) o.2.1) (two.bnd (fun o ho => by rw [wp_some]; exact ho)) (fun w hw2 => ?_)
        have sw : Sam [7, 8, 9, 10, 11, 51, 52, 53, 54] hi w.2.1 := Sam.trans sp hw2.s _ (by decide) (by decide)
        have w2 : w.2.1 51 2 = nI (gl2 A).length := hw2.k.1
        have w0 : w.2.1 51 0 = 1 := by rw [hw2.o 0 (by omega), po 0 (by omega), hv.o 0 (by omega), uo 0 (by omega), hx.o 0 (by omega), y0]
        have wo : ∀ j, 2 < j → w.2.1 51 j = hi 51 j := fun j hj => by rw [hw2.o j (by omega), po j (by omega), hv.o j (by omega), uo j (by omega), hx.o j (by omega), yo j hj]
        have w1 : w.2.1 51 1 = 2 := by rw [hw2.o 1 (by omega), p1]
        have eL : gl2 A = glL A := by unfold glL; rw [if_pos c0, if_pos c1]
        unfold J_Guesses_list_72
        by_cases c2 : (gl2 A).isEmpty = true
        · refine wp_pos (by rw [w2]; exact (emp_0 (by omega)).mpr c2) ?_
          rw [wp_some]
          refine fin _ (gl2 A) (-4) (sw.wr (by decide)) (fun j hj => ?_) ?_ ?_ ?_ gl_2 eL (by unfold glF; rw [if_pos c0, if_pos c1, if_pos c2])
          · dsimp only; rw [wr_k (by omega)]; exact wo j hj
          · dsimp only; rw [wr_k (by omega)]; exact w0
          · dsimp only; rw [wr_s]
          · dsimp only; rw [wr_k (by omega), wr_o (by omega), wr_o (by omega)]; exact hw2.k
        · refine wp_neg (by rw [w2]; exact fun q => c2 ((emp_0 (by omega)).mp q)) ?_
          rw [wp_some]
          exact fin _ (gl2 A) 2 sw wo w0 w1 hw2.k gl_2 eL (by unfold glF; rw [if_pos c0, if_pos c1, if_neg c2])
      · refine wp_neg (by rw [v2]; exact fun q => c1 ((emp_0 (by omega)).mp q)) ?_
        unfold J_Guesses_list_72
        refine wp_neg (by rw [v2]; exact fun q => c1 ((emp_0 (by omega)).mp q)) ?_
        rw [wp_some]
        exact fin _ (gl1 A) 1 sv (fun j hj => by rw [hv.o j (by omega), uo j (by omega), hx.o j (by omega), yo j hj]) (by rw [hv.o 0 (by omega), uo 0 (by omega), hx.o 0 (by omega), y0]) (by rw [hv.o 1 (by omega), u1]) hv.k (by omega) (by unfold glL; rw [if_pos c0, if_neg c1]) (by unfold glF; rw [if_pos c0, if_neg c1])
    · refine wp_neg (by rw [x2]; exact fun q => c0 ((emp_0 (by omega)).mp q)) ?_
      unfold J_Guesses_list_53 J_Guesses_list_72
      refine wp_neg (by rw [x2]; exact fun q => c0 ((emp_0 (by omega)).mp q)) (wp_neg (by rw [x2]; exact fun q => c0 ((emp_0 (by omega)).mp q)) ?_)
      rw [wp_some]
      exact fin _ (gl0 A) 0 sx (fun j hj => by rw [hx.o j (by omega), yo j hj]) (by rw [hx.o 0 (by omega), y0]) (by rw [hx.o 1 (by omega), y1]) hx.k (by omega) (by unfold glL; rw [if_neg c0]) (by unfold glF; rw [if_neg c0])
  · refine wp_neg (by rw [z]; decide) ?_
    rw [wp_some]
    exact ⟨hR, HiC.refl _, z2⟩
