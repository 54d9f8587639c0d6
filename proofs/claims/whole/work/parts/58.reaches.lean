/-! reaching a picture -/
abbrev FI (A : St) (p : Nat) (hi : HI) : Prop :=
  (hi 36 0 = nI p) ∧
  (hi 36 1 = 42) ∧
  (∃ (Wc : Nat) (wv : Nat → Nat) (Wd : Nat), hi 36 2 = nI Wc ∧ Wc ≤ 729 ∧ hi 36 4 = nI Wd ∧ Wd ≤ 16 ∧ (∀ i, i < Wc → hi 37 i = nI (wv i) ∧ IsSet A (wv i) ∧ Sub (wv i) p) ∧ (∀ g, IsSet A g → Sub g p → g ≠ 0 → ∃ i, i < Wc ∧ Sub g (wv i)) ∧ ∀ g, IsSet A g → Sub g p → popN g ≤ Wd)
theorem FI.p {A : St} {p : Nat} {hi : HI} (h_ : FI A p hi) : hi 36 0 = nI p := h_.1
theorem FI.f {A : St} {p : Nat} {hi : HI} (h_ : FI A p hi) : hi 36 1 = 42 := h_.2.1
theorem FI.w {A : St} {p : Nat} {hi : HI} (h_ : FI A p hi) : ∃ (Wc : Nat) (wv : Nat → Nat) (Wd : Nat), hi 36 2 = nI Wc ∧ Wc ≤ 729 ∧ hi 36 4 = nI Wd ∧ Wd ≤ 16 ∧ (∀ i, i < Wc → hi 37 i = nI (wv i) ∧ IsSet A (wv i) ∧ Sub (wv i) p) ∧ (∀ g, IsSet A g → Sub g p → g ≠ 0 → ∃ i, i < Wc ∧ Sub g (wv i)) ∧ ∀ g, IsSet A g → Sub g p → popN g ≤ Wd := h_.2.2
theorem IsSet.l6 {A : St} (hw : WF A) {g : Nat} (h : IsSet A g) : g < 65536 := Nat.lt_of_lt_of_le (h.lt hw) (pow2_le hw.n16)
theorem and_pow {g b : Nat} (hb : b < 31) : (nI g &&& nI (2 ^ b) = 0) ↔ g.testBit b = false := fa_bit hb
theorem c_reaches {N : Nat} (hN : 70000 ≤ N) {A : St} (hw : WF A) {p : Nat} (hp : p < 2 ^ A.n) {hi : HI} (fi : FI A p hi) : ∀ (d : Nat) (k s : Nat) (hl : HL), k < d → k < 16 → Sub s p → FM A p hl → wp (f_FrameFinder_reaches N d (nI s) (nI k) hi hl) (fun o => o.2.1 = hi ∧ FM A p o.2.2 ∧ ((o.1 = 1 ∧ Cov A p k s) ∨ (o.1 = 0 ∧ ¬ Cov A p k s))) := by
  have p6 : p < 65536 := Nat.lt_of_lt_of_le hp (pow2_le hw.n16)
  obtain ⟨Wc, wv, Wd, e2, wc7, e4, wd16, wvs, wvc, wvp⟩ := fi.w
  intro d
  induction d with
  | zero => intro k s hl h; omega
  | succ d ih =>
    intro k s hl hkd hk hs fm
    have s6 : s < 65536 := Nat.lt_of_le_of_lt (sub_le hs) p6
    have od : sdf p s < 65536 := sdf_lt (k := 16) p6
    show wp (g_FrameFinder_reaches N (f_FrameFinder_reaches N d) (nI s) (nI k) hi hl) _
    unfold g_FrameFinder_reaches
    rw [fi.p, ni_andnot]
    by_cases z : sdf p s = 0
    · refine wp_pos (by rw [z]; rfl) ?_
      rw [wp_some]
      have : s = p := Sub.eq hs (sdf_0.mp z)
      exact ⟨rfl, fm, Or.inl ⟨rfl, Cov.up hw (k := 0) this (Nat.zero_le _)⟩⟩
    refine wp_neg (fun q => z ((nI_eq (b := 0) (by omega) (by omega)).mp q)) ?_
    have np : ¬ Sub p s := fun q => z (sdf_0.mpr q)
    obtain ⟨b, b1, b2, b3⟩ := lack_ex np
    have b16 : b < 16 := bit_lt (k := 16) p6 b1
    by_cases k0 : k = 0
    · refine wp_pos (by rw [k0]; exact nI_le (a := 0) (b := 0) (by omega) (by omega)) ?_
      rw [wp_some]
      refine ⟨rfl, fm, Or.inr ⟨rfl, fun h => ?_⟩⟩
      obtain ⟨k', e, _⟩ := Cov.pick b1 b2 h
      omega
    refine wp_neg (nI_nle (by omega) (by omega)) ?_
    rw [e_bitCount od, Option.bind_some]
    dsimp only
    have e4' : nI k * hi 36 4 = nI (k * Wd) := by rw [e4, pk_mul]
    have km : k * Wd ≤ 15 * 16 := Nat.mul_le_mul (by omega) wd16
    have pl : popN (sdf p s) ≤ 16 := fb_ct_le _ _
    by_cases c : k * Wd < popN (sdf p s)
    · refine wp_pos (by rw [e4']; exact nI_lt c (by omega)) ?_
      rw [wp_some]
      refine ⟨rfl, fm, Or.inr ⟨rfl, fun h => ?_⟩⟩
      have := Cov.count wvp h
      omega
    refine wp_neg (by rw [e4']; exact nI_nlt (by omega) (by omega)) ?_
    refine (c_failedWith fi.f s6 hs fm).bnd (fun x hx => ?_)
    obtain ⟨x2, f, f16, x1, hf⟩ := hx
    rw [x2]
    dsimp only
    by_cases c2 : f < k
    · refine wp_pos (by rw [x1]; exact nI_lt c2 (by omega)) ?_
      unfold f_Integer_lowestOneBit
      rw [Option.bind_some]
      dsimp only
      rw [low_bit od (b := b) (by rw [sdf_bit, b1, b2]; rfl) (fun i hi => by
        rw [sdf_bit]
        cases e : p.testBit i with
        | false => rfl
        | true => rw [b3 i hi e]; rfl)]
      refine wp.bnd (P := fun z => z.2.1 = hi ∧ FM A p z.2.2 ∧ ((z.1 = 1 ∧ Cov A p k s) ∨ (z.1 = 0 ∧ ¬ Cov A p k s))) ?_ (fun z hz => ?_)
      · refine wp_for Wc (fun i t => t.1 = nI i ∧ t.2.1 = hi ∧ FM A p t.2.2 ∧ ∀ j, j < i → (wv j).testBit b = true → ¬ Cov A p (k - 1) (s ||| wv j)) ?_ ?_ (i := 0) (Nat.zero_le _) ⟨rfl, rfl, fm, fun j hj => by omega⟩ (by omega)
        · rintro i ⟨q, g, gl⟩ hi1 ⟨rfl, hg, fm1, h⟩
          dsimp only at hg fm1 h
          subst hg
          unfold B_FrameFinder_reaches_52 J_FrameFinder_reaches_95
          dsimp only
          obtain ⟨v1, v2, v3⟩ := wvs i hi1
          have v6 := v2.l6 hw
          have ci : (nI i).toNatClampNeg = i := nI_clamp (by omega)
          simp only [ci, v1]
          refine wp_neg (by rw [e2]; exact nI_ge hi1 (by omega)) (wp_neg (nI_in' (by omega) (by omega)) ?_)
          have ext : ¬ ((wv i).testBit b = true ∧ Cov A p (k - 1) (s ||| wv i)) → ∀ j, j < i + 1 → (wv j).testBit b = true → ¬ Cov A p (k - 1) (s ||| wv j) := by
            intro q j hj hb hc
            by_cases e : j = i
            · subst e; exact q ⟨hb, hc⟩
            · exact h j (by omega) hb hc
          by_cases cb : (wv i).testBit b = false
          · refine wp_pos ((and_pow (by omega)).mpr cb) ?_
            rw [wp_some]
            exact ⟨nI_1 i, rfl, fm1, ext (fun q => by rw [cb] at q; cases q.1)⟩
          · have cb' : (wv i).testBit b = true := by simpa using cb
            refine wp_neg (fun q => cb ((and_pow (by omega)).mp q)) (wp_neg (nI_in' (by omega) (by omega)) ?_)
            have ek : nI k - 1 = nI (k - 1) := pk_sub (a := k) (b := 1) (by omega)
            rw [fa_or, ek]
            refine (ih (k - 1) (s ||| wv i) gl (by omega) (by omega) (hs.or v3) fm1).bnd (fun y hy => ?_)
            obtain ⟨y1, y2, y3⟩ := hy
            rcases y3 with ⟨y3, y4⟩ | ⟨y3, y4⟩
            · refine wp_neg (by rw [y3]; decide) ?_
              rw [wp_some]
              refine ⟨y1, y2, Or.inl ⟨rfl, ?_⟩⟩
              rw [show k = (k - 1) + 1 by omega]
              exact ⟨wv i, v2, Sub.iff.mp v3, y4⟩
            · refine wp_pos y3 ?_
              rw [wp_some]
              exact ⟨nI_1 i, y1, y2, ext (fun q => y4 q.2)⟩
        · rintro ⟨q, g, gl⟩ ⟨rfl, hg, fm1, h⟩
          dsimp only at hg fm1 h
          subst hg
          unfold B_FrameFinder_reaches_52
          dsimp only
          refine wp_pos (by rw [e2]; exact nI_le (Nat.le_refl _) (by omega)) ?_
          rw [wp_some]
          refine ⟨rfl, fm1, Or.inr ⟨rfl, fun hc => ?_⟩⟩
          obtain ⟨k', e, g', g1, g2, g3, g4⟩ := Cov.pick b1 b2 hc
          have g2' := Sub.iff.mpr g2
          obtain ⟨i, i1, i2⟩ := wvc g' g1 g2' (fun q => by rw [q, Nat.zero_testBit] at g3; cases g3)
          refine h i i1 (i2 b g3) ?_
          rw [show k - 1 = k' by omega]
          exact Cov.mono ((Sub.refl s).orm i2) (hs.or (wvs i i1).2.2) g4
      · obtain ⟨z1, z2, z3⟩ := hz
        rcases z3 with ⟨z3, z4⟩ | ⟨z3, z4⟩
        · refine wp_neg (by rw [z3]; decide) ?_
          rw [wp_some]
          exact ⟨z1, z2, Or.inl ⟨rfl, z4⟩⟩
        · refine wp_pos z3 ?_
          refine (c_noteFailed (hi := z.2.1) (by rw [z1]; exact fi.f) s6 hk z4 z2).bnd (fun y hy => ?_)
          rw [wp_some]
          exact ⟨hy.1.trans z1, hy.2, Or.inr ⟨rfl, z4⟩⟩
    · refine wp_neg (by rw [x1]; exact nI_nlt (by omega) (by omega)) ?_
      rw [wp_some]
      refine ⟨rfl, fm, Or.inr ⟨rfl, fun h => ?_⟩⟩
      rcases hf with hf | hf
      · omega
      · exact hf (h.up hw (by omega))
/-! gathering -/
abbrev Wd (A : St) (p n Wc M : Nat) (wv ks : Nat → Nat) : Prop :=
  (Wc ≤ n) ∧
  (∀ i, i < Wc → IsSet A (wv i) ∧ Sub (wv i) p) ∧
  (∀ i j, i < Wc → j < Wc → i ≠ j → ¬ Sub (wv i) (wv j)) ∧
  (∀ i, i < n → Sub (ks i) p → (∃ j, j < Wc ∧ Sub (ks i) (wv j)) ∧ popN (ks i) ≤ M) ∧
  (M ≤ 16)
theorem Wd.le {A : St} {p n Wc M : Nat} {wv ks : Nat → Nat} (h_ : Wd A p n Wc M wv ks) : Wc ≤ n := h_.1
theorem Wd.is {A : St} {p n Wc M : Nat} {wv ks : Nat → Nat} (h_ : Wd A p n Wc M wv ks) : ∀ i, i < Wc → IsSet A (wv i) ∧ Sub (wv i) p := h_.2.1
theorem Wd.an {A : St} {p n Wc M : Nat} {wv ks : Nat → Nat} (h_ : Wd A p n Wc M wv ks) : ∀ i j, i < Wc → j < Wc → i ≠ j → ¬ Sub (wv i) (wv j) := h_.2.2.1
theorem Wd.co {A : St} {p n Wc M : Nat} {wv ks : Nat → Nat} (h_ : Wd A p n Wc M wv ks) : ∀ i, i < n → Sub (ks i) p → (∃ j, j < Wc ∧ Sub (ks i) (wv j)) ∧ popN (ks i) ≤ M := h_.2.2.2.1
theorem Wd.m16 {A : St} {p n Wc M : Nat} {wv ks : Nat → Nat} (h_ : Wd A p n Wc M wv ks) : M ≤ 16 := h_.2.2.2.2
theorem c_keep {N : Nat} (hN : 70000 ≤ N) {A : St} (hw : WF A) {hi : HI} {hl : HL} {p n Wc M v : Nat} {wv ks : Nat → Nat} (hn : n < 729) (e2 : hi 36 2 = nI Wc) (h37 : ∀ i, i < Wc → hi 37 i = nI (wv i)) (wd : Wd A p n Wc M wv ks) (hv : v = ks n) (hv1 : IsSet A v) (hv2 : Sub v p) (hM : popN v ≤ M) : wp (f_FrameFinder_keepIfWide N (nI v) hi hl) (fun o => Sam [36, 37] hi o.2.1 ∧ (∀ j, j ≠ 2 → o.2.1 36 j = hi 36 j) ∧ ∃ (Wc' : Nat) (wv' : Nat → Nat), o.2.1 36 2 = nI Wc' ∧ (∀ i, i < Wc' → o.2.1 37 i = nI (wv' i)) ∧ Wd A p (n + 1) Wc' M wv' ks) := by
  unfold f_FrameFinder_keepIfWide
  have v6 := hv1.l6 hw
  have wl := wd.le
  have w6 : ∀ i, i < Wc → wv i < 65536 := fun i hi => (wd.is i hi).1.l6 hw
  refine wp.bnd (P := fun z => (z.1 = 1 ∧ z.2.2.1 36 = hi 36 ∧ Sam [37] hi z.2.2.1 ∧ (∀ j, j < Wc → z.2.2.1 37 j = nI (wv j)) ∧ ∃ i, i < Wc ∧ Sub v (wv i)) ∨ (z.1 = 0 ∧ Sam [37] hi z.2.2.1 ∧ ∃ (kept : Nat) (φ : Nat → Nat), z.2.1 = nI kept ∧ kept ≤ Wc ∧ (∀ j, j < kept → φ j < Wc ∧ z.2.2.1 37 j = nI (wv (φ j)) ∧ ¬ Sub (wv (φ j)) v) ∧ (∀ j j', j < j' → j' < kept → φ j < φ j') ∧ (∀ m, m < Wc → Sub (wv m) v ∨ ∃ j, j < kept ∧ φ j = m) ∧ ∀ m, m < Wc → ¬ Sub v (wv m))) ?_ (fun z hz => ?_)
  · refine wp_for Wc (fun i s => s.2.1 = nI i ∧ Sam [37] hi s.2.2.1 ∧ (∀ j, i ≤ j → j < Wc → s.2.2.1 37 j = nI (wv j)) ∧ ∃ (kept : Nat) (φ : Nat → Nat), s.1 = nI kept ∧ kept ≤ i ∧ (∀ j, j < kept → φ j < i ∧ s.2.2.1 37 j = nI (wv (φ j)) ∧ ¬ Sub (wv (φ j)) v) ∧ (∀ j j', j < j' → j' < kept → φ j < φ j') ∧ (∀ m, m < i → Sub (wv m) v ∨ ∃ j, j < kept ∧ φ j = m) ∧ (∀ m, m < i → ¬ Sub v (wv m)) ∧ ((∃ m, m < i ∧ Sub (wv m) v) ∨ (kept = i ∧ ∀ j, j < Wc → s.2.2.1 37 j = nI (wv j)))) ?_ ?_ (i := 0) (Nat.zero_le _) ⟨rfl, Sam.refl _ _, fun j _ hj => h37 j hj, 0, fun j => j, rfl, Nat.le_refl _, fun j hj => by omega, fun j j' _ hj => by omega, fun m hm => by omega, fun m hm => by omega, Or.inr ⟨rfl, h37⟩⟩ (by omega)
    · rintro i ⟨kq, q, g, gl⟩ hi1 ⟨rfl, sm, h1, kept, φ, rfl, kl, h2, h3, h4, h5, h6⟩
      dsimp only at sm h1 h2 h6
      have g36 : g 36 2 = nI Wc := by rw [sm 36 (by decide)]; exact e2
      have gi := h1 i (Nat.le_refl _) hi1
      have wi6 := w6 i hi1
      unfold B_FrameFinder_keepIfWide_4 J_FrameFinder_keepIfWide_54
      dsimp only
      have ci : (nI i).toNatClampNeg = i := nI_clamp (by omega)
      simp only [ci, gi, ni_andnot]
      have s1 : sdf v (wv i) < 2 ^ 16 := sdf_lt (k := 16) v6
      have s2 : sdf (wv i) v < 2 ^ 16 := sdf_lt (k := 16) wi6
      refine wp_neg (by rw [g36]; exact nI_ge hi1 (by omega)) (wp_neg (nI_in' (by omega) (by omega)) ?_)
      by_cases c1 : sdf v (wv i) = 0
      · refine wp_pos (by rw [c1]; rfl) ?_
        rw [wp_some]
        have sb := sdf_0.mp c1
        refine Or.inl ⟨rfl, by dsimp only; rw [sm 36 (by decide)], sm, ?_, i, hi1, sb⟩
        rcases h6 with ⟨m, m1, m2⟩ | ⟨_, h6⟩
        · exact absurd (m2.trans sb) (wd.an m i (by omega) hi1 (by omega))
        · exact h6
      · refine wp_neg (fun q => c1 ((nI_eq (b := 0) (by omega) (by omega)).mp q)) (wp_neg (nI_in' (by omega) (by omega)) ?_)
        have nv : ¬ Sub v (wv i) := fun q => c1 (sdf_0.mpr q)
        have h5' : ∀ m, m < i + 1 → ¬ Sub v (wv m) := fun m hm => by
          by_cases e : m = i
          · rw [e]; exact nv
          · exact h5 m (by omega)
        by_cases c2 : sdf (wv i) v = 0
        · refine wp_pos (by rw [c2]; rfl) ?_
          rw [wp_some]
          refine ⟨nI_1 i, sm, fun j hj hj2 => h1 j (by omega) hj2, kept, φ, rfl, by omega, fun j hj => ?_, h3, fun m hm => ?_, h5', Or.inl ⟨i, by omega, sdf_0.mp c2⟩⟩
          · have := h2 j hj
            exact ⟨by omega, this.2⟩
          · by_cases e : m = i
            · rw [e]; exact Or.inl (sdf_0.mp c2)
            · exact h4 m (by omega)
        · refine wp_neg (fun q => c2 ((nI_eq (b := 0) (by omega) (by omega)).mp q)) (wp_neg (nI_in' (by omega) (by omega)) (wp_neg (nI_in (by omega) (by omega)) ?_))
          rw [wp_some, nI_clamp (by omega)]
          have nw : ¬ Sub (wv i) v := fun q => c2 (sdf_0.mpr q)
          refine ⟨nI_1 i, sm.wr (by decide), fun j hj hj2 => ?_, kept + 1, fun j => if j = kept then i else φ j, nI_1 kept, by omega, fun j hj => ?_, fun j j' hjj hj => ?_, fun m hm => ?_, h5', ?_⟩
          · dsimp only
            rw [wr_k (by omega)]; exact h1 j (by omega) hj2
          · dsimp only
            by_cases e : j = kept
            · rw [if_pos e, e, wr_s]; exact ⟨by omega, rfl, nw⟩
            · rw [if_neg e, wr_k e]
              have := h2 j (by omega)
              exact ⟨by omega, this.2⟩
          · dsimp only
            rw [if_neg (by omega)]
            split
            · exact (h2 j (by omega)).1
            · exact h3 j j' hjj (by omega)
          · by_cases e : m = i
            · exact Or.inr ⟨kept, by omega, by dsimp only; rw [if_pos rfl, e]⟩
            · rcases h4 m (by omega) with q | ⟨j, j1, j2⟩
              · exact Or.inl q
              · exact Or.inr ⟨j, by omega, by dsimp only; rw [if_neg (by omega)]; exact j2⟩
          · rcases h6 with ⟨m, m1, m2⟩ | ⟨h6, h7⟩
            · exact Or.inl ⟨m, by omega, m2⟩
            · refine Or.inr ⟨by omega, fun j hj => ?_⟩
              dsimp only
              rw [wr_i, h6]
              split
              · rename_i e; rw [e]
              · exact h7 j hj
    · rintro ⟨kq, q, g, gl⟩ ⟨rfl, sm, h1, kept, φ, rfl, kl, h2, h3, h4, h5, h6⟩
      dsimp only at sm h1 h2 h6
      have g36 : g 36 2 = nI Wc := by rw [sm 36 (by decide)]; exact e2
      unfold B_FrameFinder_keepIfWide_4
      dsimp only
      refine wp_pos (by rw [g36]; exact nI_le (Nat.le_refl _) (by omega)) ?_
      rw [wp_some]
      exact Or.inr ⟨rfl, sm, kept, φ, rfl, kl, h2, h3, h4, h5⟩
  · rcases hz with ⟨z1, z2, z3, z4, i, i1, i2⟩ | ⟨z0, sm, kept, φ, zk, kl, h2, h3, h4, h5⟩
    · refine wp_neg (by rw [z1]; omega) ?_
      rw [wp_some]
      refine ⟨z3.sub (by decide), fun j _ => by dsimp only; rw [z2], Wc, wv, by dsimp only; rw [z2]; exact e2, z4, by omega, wd.is, wd.an, fun j hj hs => ?_, wd.m16⟩
      by_cases e : j = n
      · subst e; rw [← hv]; exact ⟨⟨i, i1, i2⟩, hM⟩
      · exact wd.co j (by omega) hs
    · refine wp_pos z0 ?_
      rw [zk]
      refine wp_neg (nI_in (by omega) (by omega)) ?_
      rw [wp_some, nI_clamp (by omega)]
      refine ⟨((sm.sub (T := [36, 37]) (by decide)).wr (by decide)).wr (by decide), fun j hj => ?_, kept + 1, fun j => if j = kept then v else wv (φ j), ?_, fun j hj => ?_, by omega, fun j hj => ?_, fun j j' hj hj' hne => ?_, fun j hj hs => ?_, wd.m16⟩
      · dsimp only
        rw [wr_k hj, wr_o (by omega), sm 36 (by decide)]
      · dsimp only
        rw [wr_s]; exact nI_1 kept
      · dsimp only
        rw [wr_o (by omega), wr_i]
        by_cases e : j = kept
        · rw [if_pos e, if_pos e]
        · rw [if_neg e, if_neg e]; exact (h2 j (by omega)).2.1
      · dsimp only
        by_cases e : j = kept
        · rw [if_pos e]; exact ⟨hv1, hv2⟩
        · rw [if_neg e]; exact wd.is _ (h2 j (by omega)).1
      · dsimp only
        by_cases e : j = kept
        · rw [if_pos e, if_neg (by omega)]; exact h5 _ (h2 j' (by omega)).1
        · rw [if_neg e]
          by_cases e' : j' = kept
          · rw [if_pos e']; exact (h2 j (by omega)).2.2
          · rw [if_neg e']
            refine wd.an _ _ (h2 j (by omega)).1 (h2 j' (by omega)).1 ?_
            by_cases c : j < j'
            · have := h3 j j' c (by omega); omega
            · have := h3 j' j (by omega) (by omega); omega
      · by_cases e : j = n
        · subst e; rw [← hv]
          exact ⟨⟨kept, by omega, by dsimp only; rw [if_pos rfl]; exact Sub.refl v⟩, hM⟩
        · obtain ⟨⟨m, m1, m2⟩, m3⟩ := wd.co j (by omega) hs
          refine ⟨?_, m3⟩
          rcases h4 m m1 with q | ⟨j', j1, j2⟩
          · exact ⟨kept, by omega, by dsimp only; rw [if_pos rfl]; exact m2.trans q⟩
          · exact ⟨j', by omega, by dsimp only; rw [if_neg (by omega), j2]; exact m2⟩
