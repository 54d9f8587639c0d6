/-! tells -/
theorem fst_no {Q : Nat → Prop} {f : Nat} (h : ¬ Q f) : fstA (fun j => j < f + 1 ∧ Q j) = fstA (fun j => j < f ∧ Q j) := by
  have e : (fun j => j < f + 1 ∧ Q j) = (fun j => j < f ∧ Q j) := funext fun j => propext ⟨fun q => ⟨by
    have : j ≠ f := fun e => h (e ▸ q.2)
    omega, q.2⟩, fun q => ⟨by omega, q.2⟩⟩
  rw [e]
theorem fst_yes {Q : Nat → Prop} {f : Nat} (hf : f < 2 ^ 31) (h : Q f) : fstA (fun j => j < f + 1 ∧ Q j) = if fstA (fun j => j < f ∧ Q j) = -4 then nI f else fstA (fun j => j < f ∧ Q j) := by
  by_cases c : ∃ j, j < f ∧ Q j
  · obtain ⟨j, hj, hm⟩ := least_of c
    have e1 : fstA (fun j => j < f ∧ Q j) = nI j := fstA_some hj (fun k hk q => by have := hm k q; omega)
    have e2 : fstA (fun j => j < f + 1 ∧ Q j) = nI j := fstA_some ⟨by omega, hj.2⟩ (fun k hk q => by have := hm k ⟨by omega, q.2⟩; omega)
    rw [e1, e2, if_neg (by rw [ni_neg4 (by omega)]; exact id)]
  · have e1 : fstA (fun j => j < f ∧ Q j) = -4 := fstA_none (fun t q => c ⟨t, q⟩)
    rw [e1, if_pos rfl]
    exact fstA_some ⟨by omega, h⟩ (fun k hk q => c ⟨k, hk, q.2⟩)
/-- ways are loaded for the faults h -/
abbrev Ldd (A : St) (h : Nat → Nat) (hi : HI) : Prop :=
  (hi 7 2 = nI A.w) ∧
  (hi 7 3 = nI A.sup) ∧
  (∃ D L, Mat hi 8 9 D L ∧ Ld (Stg A h) D L)
theorem Ldd.w {A : St} {h : Nat → Nat} {hi : HI} (h_ : Ldd A h hi) : hi 7 2 = nI A.w := h_.1
theorem Ldd.s {A : St} {h : Nat → Nat} {hi : HI} (h_ : Ldd A h hi) : hi 7 3 = nI A.sup := h_.2.1
theorem Ldd.d {A : St} {h : Nat → Nat} {hi : HI} (h_ : Ldd A h hi) : ∃ D L, Mat hi 8 9 D L ∧ Ld (Stg A h) D L := h_.2.2
theorem Ldd.solve {N : Nat} (hN : 70000 ≤ N) {A : St} (hw : WF A) {h : Nat → Nat} {hi : HI} {hl : HL} (l : Ldd A h hi) {t : Nat} (ht : t < 3 ^ A.w) : wp (f_Ways_solve N (nI t) hi hl) (fun o => Sam [7, 10, 11] hi o.2.1 ∧ Ldd A h o.2.1 ∧ o.2.1 7 1 = nI (GM A h t)) := by
  obtain ⟨l1, l2, D, L, mt, ld⟩ := l
  refine (c_solve hN hw ht l1 l2 mt ld).mono (fun o ho => ⟨ho.1, ⟨ho.2.1, ho.2.2.1, D, L, ?_, ld⟩, ho.2.2.2.2⟩)
  intro u v hu hv
  rw [ho.1 8 (by decide), ho.1 9 (by decide)]; exact mt u v hu hv
theorem c_changes {N : Nat} (hN : 70000 ≤ N) {A : St} (hw : WF A) {f : Nat} {hi : HI} {hl : HL} (l : Ldd A (gst (nI f) (-4)) hi) (sc : ScC A (hi 47) (hi 48) (hi 49) (hi 50)) (h55 : ∀ k, k < A.lines → hi 55 k = nI (GM A (gst (-4) (-4)) (A.pt k))) : wp (f_Guesses_changesLine N hi hl) (fun o => Sam [7, 10, 11] hi o.2.1 ∧ ((o.1 = 1 ∧ Tells A f) ∨ (o.1 = 0 ∧ ¬ Tells A f))) := by
  unfold f_Guesses_changesLine
  have l12 := hw.l12
  have g31 : ∀ h t, GM A h t < 2 ^ 31 := fun h t => Nat.lt_of_lt_of_le (GM_lt A h t) (Nat.le_trans (pow2_le hw.n16) (by omega))
  refine wp.bnd (P := fun z => Sam [7, 10, 11] hi z.2.1 ∧ ((z.1 = 1 ∧ Tells A f) ∨ (z.1 = 0 ∧ ¬ Tells A f))) ?_ (fun z hz => ?_)
  · refine wp_for A.lines (fun k s => s.1 = nI k ∧ Sam [7, 10, 11] hi s.2.1 ∧ Ldd A (gst (nI f) (-4)) s.2.1 ∧ ∀ j, j < k → GM A (gst (nI f) (-4)) (A.pt j) = GM A (gst (-4) (-4)) (A.pt j)) ?_ ?_ (i := 0) (Nat.zero_le _) ⟨rfl, Sam.refl _ _, l, fun j hj => by omega⟩ (by omega)
    · rintro k ⟨q, g, gl⟩ hk ⟨rfl, sm, ld, h⟩
      dsimp only at sm ld h
      unfold B_Guesses_changesLine_2
      dsimp only
      have r47 : g 47 0 = nI A.lines := by rw [sm 47 (by decide)]; exact sc.n
      have r48 : g 48 k = nI (A.pt k) := by rw [sm 48 (by decide)]; exact sc.t k hk
      rw [nI_clamp (by omega), r48]
      refine wp_neg (by rw [r47]; exact nI_ge hk (by omega)) (wp_neg (nI_in' (by omega) (by omega)) ?_)
      refine (ld.solve hN hw (hw.pt k hk)).bnd (fun x hx => ?_)
      obtain ⟨x1, x2, x3⟩ := hx
      have s2 : Sam [7, 10, 11] hi x.2.1 := Sam.trans sm x1 _ (by decide) (by decide)
      have e55 : x.2.1 55 k = nI (GM A (gst (-4) (-4)) (A.pt k)) := by rw [s2 55 (by decide)]; exact h55 k hk
      refine wp_neg (nI_in' (by omega) (by omega)) ?_
      by_cases c : GM A (gst (nI f) (-4)) (A.pt k) = GM A (gst (-4) (-4)) (A.pt k)
      · refine wp_pos (by rw [x3, e55, c]) ?_
        rw [wp_some]
        refine ⟨nI_1 k, s2, x2, fun j hj => ?_⟩
        by_cases e : j = k
        · rw [e]; exact c
        · exact h j (by omega)
      · refine wp_neg (by rw [x3, e55]; exact fun q => c ((nI_eq (g31 _ _) (g31 _ _)).mp q)) ?_
        rw [wp_some]
        exact ⟨s2, Or.inl ⟨rfl, k, hk, c⟩⟩
    · rintro ⟨q, g, gl⟩ ⟨rfl, sm, ld, h⟩
      dsimp only at sm ld h
      unfold B_Guesses_changesLine_2
      dsimp only
      have r47 : g 47 0 = nI A.lines := by rw [sm 47 (by decide)]; exact sc.n
      refine wp_pos (by rw [r47]; exact nI_le (Nat.le_refl _) (by omega)) ?_
      rw [wp_some]
      exact ⟨sm, Or.inr ⟨rfl, fun ⟨k, k1, k2⟩ => k2 (h k k1)⟩⟩
  · obtain ⟨z1, z2⟩ := hz
    rcases z2 with ⟨z2, z3⟩ | ⟨z2, z3⟩
    · refine wp_neg (by rw [z2]; decide) ?_
      rw [wp_some]
      exact ⟨z1, Or.inl ⟨rfl, z3⟩⟩
    · refine wp_pos z2 ?_
      rw [wp_some]
      exact ⟨z1, Or.inr ⟨rfl, z3⟩⟩
theorem c_weigh {N : Nat} (hN : 70000 ≤ N) {A : St} (hw : WF A) {hi : HI} {hl : HL} (hR : RC A hi) : wp (f_Guesses_weigh N hi hl) (fun o => RC A o.2.1 ∧ HiC hi o.2.1 ∧ GsW A (o.2.1 51)) := by
  unfold f_Guesses_weigh
  have l12 := hw.l12
  have n16 := hw.n16
  rcases hR.gs.w with z | ⟨z, z2⟩
  · refine wp_pos z ?_
    generalize hy : wr (wr (wr hi 51 5 1) 51 6 0) 51 7 (-4) = y
    have sy : Sam [51] hi y := by rw [← hy]; exact (((Sam.refl _ _).wr (by decide)).wr (by decide)).wr (by decide)
    have y5 : y 51 5 = 1 := by rw [← hy, wr_k (by omega), wr_k (by omega), wr_s]
    have y6 : y 51 6 = 0 := by rw [← hy, wr_k (by omega), wr_s]
    have y7 : y 51 7 = -4 := by rw [← hy, wr_s]
    have yo : ∀ j, j < 5 → y 51 j = hi 51 j := fun j hj => by rw [← hy, wr_k (by omega), wr_k (by omega), wr_k (by omega)]
    have bdy : ∀ (h : HI), Sam [7, 8, 9, 10, 11, 51, 54, 55] hi h → Bd A (h 1) (h 2) (h 3) (h 4) (h 5) (h 6) := fun h s => by
      rw [s 1 (by decide), s 2 (by decide), s 3 (by decide), s 4 (by decide), s 5 (by decide), s 6 (by decide)]; exact hR.bd
    have scy : ∀ (h : HI), Sam [7, 8, 9, 10, 11, 51, 54, 55] hi h → ScC A (h 47) (h 48) (h 49) (h 50) := fun h s => by
      rw [s 47 (by decide), s 48 (by decide), s 49 (by decide), s 50 (by decide)]; exact hR.sc
    refine (c_suppose hN hw (FOK.none A) (FOK.none A) (bdy y (sy.sub (by decide)))).bnd (fun x hx => ?_)
    have sx : Sam [7, 8, 9, 10, 11, 51, 54, 55] hi x.2.1 := Sam.trans sy hx.1 _ (by decide) (by decide)
    have x51 : x.2.1 51 = y 51 := hx.1 51 (by decide)
    refine wp.bnd (P := fun z => Sam [7, 8, 9, 10, 11, 51, 54, 55] hi z.1 ∧ z.1 51 = y 51 ∧ ∀ k, k < A.lines → z.1 55 k = nI (GM A (gst (-4) (-4)) (A.pt k))) ?_ (fun z hz => ?_)
    · refine wp_for A.lines (fun k s => s.1 = nI k ∧ Sam [7, 8, 9, 10, 11, 51, 54, 55] hi s.2.1 ∧ s.2.1 51 = y 51 ∧ Ldd A (gst (-4) (-4)) s.2.1 ∧ ∀ j, j < k → s.2.1 55 j = nI (GM A (gst (-4) (-4)) (A.pt j))) ?_ ?_ (i := 0) (Nat.zero_le _) ⟨rfl, sx, x51, hx.2, fun j hj => by omega⟩ (by omega)
      · rintro k ⟨q, g, gl⟩ hk ⟨rfl, sm, g51, ld, h⟩
        dsimp only at sm g51 ld h
        have sc := scy g sm
        unfold B_Guesses_weigh_37
        dsimp only
        rw [nI_clamp (by omega), sc.t k hk]
        refine wp_neg (by rw [sc.n]; exact nI_ge hk (by omega)) (wp_neg (nI_in' (by omega) (by omega)) ?_)
        refine (ld.solve hN hw (hw.pt k hk)).bnd (fun u hu => ?_)
        obtain ⟨u1, u2, u3⟩ := hu
        refine wp_neg (nI_in' (by omega) (by omega)) ?_
        rw [wp_some, u3]
        refine ⟨nI_1 k, (Sam.trans sm u1 _ (by decide) (by decide)).wr (by decide), ?_, ?_, fun j hj => ?_⟩
        · dsimp only; rw [wr_o (by omega), u1 51 (by decide)]; exact g51
        · obtain ⟨b1, b2, D, L, b3, b4⟩ := u2
          refine ⟨?_, ?_, D, L, fun a b ha hb => ?_, b4⟩
          · dsimp only; rw [wr_o (by omega)]; exact b1
          · dsimp only; rw [wr_o (by omega)]; exact b2
          · dsimp only; rw [wr_o (by omega), wr_o (by omega)]; exact b3 a b ha hb
        · dsimp only
          rw [wr_i]
          by_cases e : j = k
          · rw [if_pos e, e]
          · rw [if_neg e, u1 55 (by decide)]; exact h j (by omega)
      · rintro ⟨q, g, gl⟩ ⟨rfl, sm, g51, ld, h⟩
        dsimp only at sm g51 ld h
        have sc := scy g sm
        unfold B_Guesses_weigh_37
        dsimp only
        refine wp_pos (by rw [sc.n]; exact nI_le (Nat.le_refl _) (by omega)) ?_
        rw [wp_some]
        exact ⟨sm, g51, h⟩
    · obtain ⟨z1, z51, z55⟩ := hz
      have e2 : (2 : Int32) * nI A.n = nI (2 * A.n) := pk_mul 2 A.n
      refine wp.bnd (P := fun z => Sam [7, 8, 9, 10, 11, 51, 54, 55] hi z.1 ∧ (∀ j, j < 6 → z.1 51 j = y 51 j) ∧ GsW A (z.1 51)) ?_ (fun w hw' => ?_)
      · refine wp_for (2 * A.n) (fun f s => s.1 = nI f ∧ Sam [7, 8, 9, 10, 11, 51, 54, 55] hi s.2.1 ∧ (∀ j, j < 6 → s.2.1 51 j = y 51 j) ∧ (∀ k, k < A.lines → s.2.1 55 k = nI (GM A (gst (-4) (-4)) (A.pt k))) ∧ s.2.1 51 6 = nI (fb_ct (fun f => cD (Tells A f)) f) ∧ s.2.1 51 7 = fstA (fun j => j < f ∧ ¬ Tells A j)) ?_ ?_ (i := 0) (Nat.zero_le _) ⟨rfl, z1, (fun j _ => by dsimp only; rw [z51]), z55, (by dsimp only; rw [z51]; exact y6), (by dsimp only; rw [z51, y7]; exact (fstA_none (fun t q => by omega)).symm)⟩ (by omega)
        · rintro f ⟨q, g, gl⟩ hf ⟨rfl, sm, g51, g55, g6, g7⟩
          dsimp only at sm g51 g55 g6 g7
          have bd := bdy g sm
          unfold B_Guesses_weigh_77 J_Guesses_weigh_135
          dsimp only
          refine wp_neg (by rw [bd.n, e2]; exact nI_ge hf (by omega)) ?_
          refine (c_suppose hN hw (FOK.of hf) (FOK.none A) bd).bnd (fun u hu => ?_)
          have su : Sam [7, 8, 9, 10, 11, 51, 54, 55] hi u.2.1 := Sam.trans sm hu.1 _ (by decide) (by decide)
          refine (c_changes hN hw hu.2 (scy _ su) (fun k hk => by rw [hu.1 55 (by decide)]; exact g55 k hk)).bnd (fun v hv => ?_)
          obtain ⟨v1, v2⟩ := hv
          have sv : Sam [7, 8, 9, 10, 11, 51, 54, 55] hi v.2.1 := Sam.trans su v1 _ (by decide) (by decide)
          have v51 : v.2.1 51 = g 51 := by rw [v1 51 (by decide), hu.1 51 (by decide)]
          have v55 : v.2.1 55 = g 55 := by rw [v1 55 (by decide), hu.1 55 (by decide)]
          rcases v2 with ⟨v2, tl⟩ | ⟨v2, tl⟩
          · refine wp_neg (by rw [v2]; decide) ?_
            rw [wp_some]
            refine ⟨nI_1 f, sv.wr (by decide), fun j hj => ?_, fun k hk => ?_, ?_, ?_⟩
            · dsimp only; rw [wr_k (by omega), v51]; exact g51 j hj
            · dsimp only; rw [wr_o (by omega), v55]; exact g55 k hk
            · dsimp only; rw [wr_s, v51, g6, nI_1, fb_ct_succ, cD_t.mpr tl]; rfl
            · dsimp only; rw [wr_k (by omega), v51, g7, fst_no (Q := fun j => ¬ Tells A j) (fun q => q tl)]
          · refine wp_pos v2 ?_
            have c6 : fb_ct (fun f => cD (Tells A f)) (f + 1) = fb_ct (fun f => cD (Tells A f)) f := by rw [fb_ct_succ, cD_f.mpr tl]; rfl
            have fy := fst_yes (Q := fun j => ¬ Tells A j) (f := f) (by omega) tl
            by_cases c : fstA (fun j => j < f ∧ ¬ Tells A j) = -4
            · rw [if_pos c] at fy
              refine wp_pos (by rw [v51, g7]; exact c) ?_
              rw [wp_some]
              refine ⟨nI_1 f, sv.wr (by decide), fun j hj => ?_, fun k hk => ?_, ?_, ?_⟩
              · dsimp only; rw [wr_k (by omega), v51]; exact g51 j hj
              · dsimp only; rw [wr_o (by omega), v55]; exact g55 k hk
              · dsimp only; rw [wr_k (by omega), v51, g6, c6]
              · dsimp only; rw [wr_s, fy]
            · rw [if_neg c] at fy
              refine wp_neg (by rw [v51, g7]; exact c) ?_
              rw [wp_some]
              refine ⟨nI_1 f, sv, fun j hj => ?_, fun k hk => ?_, ?_, ?_⟩
              · dsimp only; rw [v51]; exact g51 j hj
              · dsimp only; rw [v55]; exact g55 k hk
              · dsimp only; rw [v51, g6, c6]
              · dsimp only; rw [v51, g7, fy]
        · rintro ⟨q, g, gl⟩ ⟨rfl, sm, g51, g55, g6, g7⟩
          dsimp only at sm g51 g55 g6 g7
          have bd := bdy g sm
          unfold B_Guesses_weigh_77
          dsimp only
          refine wp_pos (by rw [bd.n, e2]; exact nI_le (Nat.le_refl _) (by omega)) ?_
          rw [wp_some]
          exact ⟨sm, g51, g6, g7⟩
      · obtain ⟨w1, w2, w3⟩ := hw'
        rw [wp_some]
        have o : ∀ a, a ≠ 51 → frC a = false → w.1 a = hi a := fun a h1 h2 => w1 a (fun q => by
          simp only [List.mem_cons, List.not_mem_nil, or_false] at q
          rcases q with rfl | rfl | rfl | rfl | rfl | rfl | rfl | rfl <;> first | exact absurd rfl h1 | (revert h2; decide))
        refine ⟨hR.keep ⟨rfl, rfl, rfl, rfl, rfl, rfl, rfl⟩ (fun a ha hb => o a (fun q => hb (by rw [q]; decide)) ha) (fun l hl => ?_) ?_ (scy _ w1) ⟨?_, Or.inr ⟨?_, w3⟩⟩ (fun k hk => ?_), HiC.of w1 (by decide), w3⟩
        · exact (bdy _ w1).e l hl
        · dsimp only; rw [o 43 (by omega) (by decide), o 46 (by omega) (by decide)]; exact hR.tp
        · dsimp only
          rw [w2 0 (by omega), yo 0 (by omega), o 52 (by omega) (by decide), o 53 (by omega) (by decide)]
          rcases hR.gs.l with h | ⟨h, h2⟩
          · exact Or.inl h
          · refine Or.inr ⟨h, ?_⟩
            unfold GsL at h2 ⊢
            rw [w2 1 (by omega), yo 1 (by omega), w2 2 (by omega), yo 2 (by omega)]; exact h2
        · dsimp only; rw [w2 5 (by omega)]; exact y5
        · have f4 : ∀ k, k < 4 → frC (57 + 2 * k) = false ∧ frC (58 + 2 * k) = false := by decide
          dsimp only
          rw [o _ (by omega) (f4 k hk).1, o _ (by omega) (f4 k hk).2]; exact hR.sh k hk
  · refine wp_neg (by rw [z]; decide) ?_
    rw [wp_some]
    exact ⟨hR, HiC.refl _, z2⟩
