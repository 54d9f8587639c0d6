/-! the frame of a picture -/
theorem Wd.up {A : St} {p n Wc M M' : Nat} {wv ks : Nat → Nat} (h : Wd A p n Wc M wv ks) (hm : M ≤ M') (h16 : M' ≤ 16) : Wd A p n Wc M' wv ks := ⟨h.le, h.is, h.an, fun i hi hs => ⟨(h.co i hi hs).1, Nat.le_trans (h.co i hi hs).2 hm⟩, h16⟩
theorem Wd.skip {A : St} {p n Wc M : Nat} {wv ks : Nat → Nat} (h : Wd A p n Wc M wv ks) (hn : ¬ Sub (ks n) p) : Wd A p (n + 1) Wc M wv ks := ⟨by have := h.le; omega, h.is, h.an, fun i hi hs => by
  by_cases e : i = n
  · rw [e] at hs; exact absurd hs hn
  · exact h.co i (by omega) hs, h.m16⟩
theorem c_gatherF {N : Nat} (hN : 70000 ≤ N) {A : St} (hw : WF A) {p : Nat} (hp : p < 2 ^ A.n) {hi : HI} {hl : HL} {K : Nat} {ks : Nat → Nat} (h0 : hi 36 0 = nI p) (h7 : hi 12 7 = nI K) (hK : K < 729) (h15 : ∀ i, i < K → hi 15 i = nI (ks i) ∧ IsSet A (ks i)) : wp (f_FrameFinder_gather N hi hl) (fun o => Sam [36, 37] hi o.2.1 ∧ o.2.1 36 0 = nI p ∧ o.2.1 36 1 = hi 36 1 ∧ (∃ (Wc : Nat) (wv : Nat → Nat) (M : Nat), o.2.1 36 2 = nI Wc ∧ o.2.1 36 4 = nI M ∧ (∀ i, i < Wc → o.2.1 37 i = nI (wv i)) ∧ Wd A p K Wc M wv ks) ∧ ∃ T, o.1 = nI T ∧ Uni A K T ∧ Sub T p ∧ ∀ i, i < K → Sub (ks i) p → Sub (ks i) T) := by
  unfold f_FrameFinder_gather
  have p6 : p < 65536 := Nat.lt_of_lt_of_le hp (pow2_le hw.n16)
  refine wp.bnd (P := fun z => Sam [36, 37] hi z.2.1 ∧ z.2.1 36 0 = nI p ∧ z.2.1 36 1 = hi 36 1 ∧ (∃ (Wc : Nat) (wv : Nat → Nat) (M : Nat), z.2.1 36 2 = nI Wc ∧ z.2.1 36 4 = nI M ∧ (∀ i, i < Wc → z.2.1 37 i = nI (wv i)) ∧ Wd A p K Wc M wv ks) ∧ ∃ T, z.1 = nI T ∧ Uni A K T ∧ Sub T p ∧ ∀ i, i < K → Sub (ks i) p → Sub (ks i) T) ?_ (fun z hz => by rw [wp_some]; exact hz)
  refine wp_for K (fun n s => s.2.1 = nI n ∧ Sam [36, 37] hi s.2.2.1 ∧ s.2.2.1 36 0 = nI p ∧ s.2.2.1 36 1 = hi 36 1 ∧ (∃ (Wc : Nat) (wv : Nat → Nat) (M : Nat), s.2.2.1 36 2 = nI Wc ∧ s.2.2.1 36 4 = nI M ∧ (∀ i, i < Wc → s.2.2.1 37 i = nI (wv i)) ∧ Wd A p n Wc M wv ks) ∧ ∃ T, s.1 = nI T ∧ Uni A n T ∧ Sub T p ∧ ∀ i, i < n → Sub (ks i) p → Sub (ks i) T) ?_ ?_ (i := 0) (Nat.zero_le _) ⟨rfl, ((Sam.refl _ _).wr (by decide)).wr (by decide), (by dsimp only; rw [wr_k (by omega), wr_k (by omega)]; exact h0), (by dsimp only; rw [wr_k (by omega), wr_k (by omega)]), ⟨0, fun _ => 0, 0, (by dsimp only; rw [wr_k (by omega), wr_s]; rfl), (by dsimp only; rw [wr_s]; rfl), fun i hi => by omega, Nat.le_refl _, fun i hi => by omega, fun i j hi => by omega, fun i hi => by omega, by omega⟩, 0, rfl, rfl, (fun i h => by rw [Nat.zero_testBit] at h; cases h), (fun i hi => by omega)⟩ (by omega)
  · rintro n ⟨tq, q, g, gl⟩ hn ⟨rfl, sm, g0, g1, ⟨Wc, wv, M, g2, g4, g37, wd⟩, T, rfl, uT, sT, cT⟩
    dsimp only at sm g0 g1 g2 g4 g37
    have g12 : g 12 7 = nI K := by rw [sm 12 (by decide)]; exact h7
    have g15 : g 15 n = nI (ks n) := by rw [sm 15 (by decide)]; exact (h15 n hn).1
    have hs := (h15 n hn).2
    have k6 := hs.l6 hw
    have cn : (nI n).toNatClampNeg = n := nI_clamp (by omega)
    unfold B_FrameFinder_gather_14 J_FrameFinder_gather_69
    dsimp only
    simp only [cn, g15, g0, ni_andnot]
    refine wp_neg (by rw [g12]; exact nI_ge hn (by omega)) (wp_neg (nI_in' (by omega) (by omega)) ?_)
    have sl : sdf (ks n) p < 2 ^ 16 := sdf_lt (k := 16) k6
    by_cases c : sdf (ks n) p = 0
    · have sb := sdf_0.mp c
      refine wp_pos (by rw [c]; rfl) ?_
      rw [e_bitCount k6, Option.bind_some]
      dsimp only
      have pl : popN (ks n) ≤ 16 := fb_ct_le _ _
      have m16 := wd.m16
      obtain ⟨M', eM, l1, l2, l3⟩ : ∃ M', (if g 36 4 < nI (popN (ks n)) then nI (popN (ks n)) else g 36 4) = nI M' ∧ M ≤ M' ∧ popN (ks n) ≤ M' ∧ M' ≤ 16 := by
        by_cases e : M < popN (ks n)
        · exact ⟨popN (ks n), if_pos (by rw [g4]; exact nI_lt e (by omega)), by omega, by omega, by omega⟩
        · exact ⟨M, (if_neg (by rw [g4]; exact nI_nlt (by omega) (by omega))).trans g4, by omega, by omega, by omega⟩
      rw [eM]
      refine (c_keep hN hw (hi := wr g 36 4 (nI M')) (Nat.lt_trans hn hK) (by rw [wr_k (by omega)]; exact g2) (fun i hi => by rw [wr_o (by omega)]; exact g37 i hi) (wd.up l1 l3) rfl hs sb l2).bnd (fun z hz => ?_)
      obtain ⟨z1, z2, Wc', wv', z3, z4, z5⟩ := hz
      rw [wp_some, fa_or]
      refine ⟨nI_1 n, Sam.trans (sm.wr (by decide)) z1 _ (by decide) (by decide), ?_, ?_, ⟨Wc', wv', M', z3, ?_, z4, z5⟩, T ||| ks n, rfl, ⟨T, ks n, uT, hs, rfl⟩, sT.or sb, fun i hi h => ?_⟩
      · dsimp only; rw [z2 0 (by omega), wr_k (by omega)]; exact g0
      · dsimp only; rw [z2 1 (by omega), wr_k (by omega)]; exact g1
      · dsimp only; rw [z2 4 (by omega), wr_s]
      · by_cases e : i = n
        · rw [e]; exact Sub.r _ _
        · exact (cT i (by omega) h).trans (Sub.l _ _)
    · refine wp_neg (fun q => c ((nI_eq (b := 0) (by omega) (by omega)).mp q)) ?_
      have nb : ¬ Sub (ks n) p := fun q => c (sdf_0.mpr q)
      rw [wp_some]
      refine ⟨nI_1 n, sm, g0, g1, ⟨Wc, wv, M, g2, g4, g37, wd.skip nb⟩, T, rfl, uT.succ hw, sT, fun i hi h => ?_⟩
      by_cases e : i = n
      · rw [e] at h; exact absurd h nb
      · exact cT i (by omega) h
  · rintro ⟨tq, q, g, gl⟩ ⟨rfl, sm, g0, g1, g2, T, rfl, uT, sT, cT⟩
    dsimp only at sm g0 g1 g2
    have g12 : g 12 7 = nI K := by rw [sm 12 (by decide)]; exact h7
    unfold B_FrameFinder_gather_14
    dsimp only
    refine wp_pos (by rw [g12]; exact nI_le (Nat.le_refl _) (by omega)) ?_
    rw [wp_some]
    exact ⟨sm, g0, g1, g2, T, rfl, uT, sT, cT⟩
theorem Uni.sub {A : St} {p T : Nat} (h : ∀ g, IsSet A g → Sub g p → Sub g T) : ∀ {k q : Nat}, Uni A k q → Sub q p → Sub q T := by
  intro k
  induction k with
  | zero =>
    intro q hq _
    have hq' : q = 0 := hq
    subst hq'
    intro i hi; rw [Nat.zero_testBit] at hi; cases hi
  | succ k ih =>
    rintro q ⟨q', g, q1, q2, rfl⟩ hs
    exact (ih q1 ((Sub.l _ _).trans hs)).or (h g q2 ((Sub.r _ _).trans hs))
/-- kinds: the unlike sets and their turns -/
abbrev Kn (A : St) (hi : HI) (K : Nat) (ks ts : Nat → Nat) : Prop :=
  (hi 12 7 = nI K) ∧
  (K < 729) ∧
  (∀ i, i < K → hi 15 i = nI (ks i)) ∧
  (∀ i, i < K → hi 16 i = nI (ts i)) ∧
  (∀ i, i < K → ks i = Gt A (ts i) ∧ ks i ≠ 0 ∧ ts i < 3 ^ A.w) ∧
  (∀ i j, i < j → j < K → ts i < ts j) ∧
  (∀ t, t < 3 ^ A.w → Gt A t ≠ 0 → ∃ i, i < K ∧ ks i = Gt A t ∧ ts i ≤ t)
theorem Kn.k {A : St} {hi : HI} {K : Nat} {ks ts : Nat → Nat} (h_ : Kn A hi K ks ts) : hi 12 7 = nI K := h_.1
theorem Kn.kN {A : St} {hi : HI} {K : Nat} {ks ts : Nat → Nat} (h_ : Kn A hi K ks ts) : K < 729 := h_.2.1
theorem Kn.kd {A : St} {hi : HI} {K : Nat} {ks ts : Nat → Nat} (h_ : Kn A hi K ks ts) : ∀ i, i < K → hi 15 i = nI (ks i) := h_.2.2.1
theorem Kn.kt {A : St} {hi : HI} {K : Nat} {ks ts : Nat → Nat} (h_ : Kn A hi K ks ts) : ∀ i, i < K → hi 16 i = nI (ts i) := h_.2.2.2.1
theorem Kn.ks {A : St} {hi : HI} {K : Nat} {ks ts : Nat → Nat} (h_ : Kn A hi K ks ts) : ∀ i, i < K → ks i = Gt A (ts i) ∧ ks i ≠ 0 ∧ ts i < 3 ^ A.w := h_.2.2.2.2.1
theorem Kn.up {A : St} {hi : HI} {K : Nat} {ks ts : Nat → Nat} (h_ : Kn A hi K ks ts) : ∀ i j, i < j → j < K → ts i < ts j := h_.2.2.2.2.2.1
theorem Kn.all {A : St} {hi : HI} {K : Nat} {ks ts : Nat → Nat} (h_ : Kn A hi K ks ts) : ∀ t, t < 3 ^ A.w → Gt A t ≠ 0 → ∃ i, i < K ∧ ks i = Gt A t ∧ ts i ≤ t := h_.2.2.2.2.2.2
theorem Kn.set {A : St} {hi : HI} {K : Nat} {ks ts : Nat → Nat} (h : Kn A hi K ks ts) {i : Nat} (hi' : i < K) : IsSet A (ks i) := ⟨ts i, (h.ks i hi').2.2, (h.ks i hi').1.symm⟩
theorem Kn.mem {A : St} {hi : HI} {K : Nat} {ks ts : Nat → Nat} (h : Kn A hi K ks ts) {g : Nat} (hg : IsSet A g) (h0 : g ≠ 0) : ∃ i, i < K ∧ ks i = g := by
  obtain ⟨t, t1, rfl⟩ := hg
  obtain ⟨i, i1, i2, _⟩ := h.all t t1 h0
  exact ⟨i, i1, i2⟩
theorem Kn.sam {A : St} {hi h1 : HI} {K : Nat} {ks ts : Nat → Nat} (h : Kn A hi K ks ts) (e12 : h1 12 = hi 12) (e15 : h1 15 = hi 15) (e16 : h1 16 = hi 16) : Kn A h1 K ks ts := by
  obtain ⟨a1, a2, a3, a4, a5⟩ := h
  exact ⟨by rw [e12]; exact a1, a2, by rw [e15]; exact a3, by rw [e16]; exact a4, a5⟩
theorem c_choose {N : Nat} (hN : 70000 ≤ N) {A : St} (hw : WF A) {p s k : Nat} (hp : p < 2 ^ A.n) {hi : HI} {hl : HL} {K : Nat} {ks ts : Nat → Nat} (fi : FI A p hi) (kn : Kn A hi K ks ts) (hs : Sub s p) (hk : k < 16) (hd : Need A p s = k + 1) (fm : FM A p hl) : wp (f_FrameFinder_choose N (nI s) (nI k) hi hl) (fun o => o.2.1 = hi ∧ FM A p o.2.2 ∧ ∃ c, c < K ∧ o.1 = nI c ∧ Good A p s k (ts c) ∧ ∀ t, t < ts c → ¬ Good A p s k t) := by
  unfold f_FrameFinder_choose
  have p6 : p < 65536 := Nat.lt_of_lt_of_le hp (pow2_le hw.n16)
  have od : sdf p s < 65536 := sdf_lt (k := 16) p6
  have np : ¬ Sub p s := fun q => by
    have : s = p := Sub.eq hs q
    have h0 : Cov A p 0 s := this
    have := (Need_iff hw (by omega)).mp h0
    omega
  obtain ⟨b, bl⟩ := lack_ex np
  obtain ⟨b1, b2, b3⟩ := id bl
  have b16 : b < 16 := bit_lt (k := 16) p6 b1
  unfold f_Integer_lowestOneBit
  rw [Option.bind_some, fi.p, ni_andnot]
  dsimp only
  rw [low_bit od (b := b) (by rw [sdf_bit, b1, b2]; rfl) (fun i hi => by
    rw [sdf_bit]
    cases e : p.testBit i with
    | false => rfl
    | true => rw [b3 i hi e]; rfl)]
  have kN := kn.kN
  refine wp.bnd (P := fun z => z.2.2.1 = hi ∧ FM A p z.2.2.2 ∧ z.1 = 1 ∧ ∃ c, c < K ∧ z.2.1 = nI c ∧ ((ks c).testBit b = true ∧ Sub (ks c) p ∧ Cov A p k (s ||| ks c)) ∧ ∀ j, j < c → ¬ ((ks j).testBit b = true ∧ Sub (ks j) p ∧ Cov A p k (s ||| ks j))) ?_ (fun z hz => ?_)
  · refine wp_for K (fun i t => t.1 = nI i ∧ t.2.1 = hi ∧ FM A p t.2.2 ∧ ∀ j, j < i → ¬ ((ks j).testBit b = true ∧ Sub (ks j) p ∧ Cov A p k (s ||| ks j))) ?_ ?_ (i := 0) (Nat.zero_le _) ⟨rfl, rfl, fm, fun j hj => by omega⟩ (by omega)
    · rintro i ⟨q, g, gl⟩ hi1 ⟨rfl, hg, fm1, h⟩
      dsimp only at hg fm1 h
      subst hg
      unfold B_FrameFinder_choose_16 J_FrameFinder_choose_69
      dsimp only
      have hset := kn.set hi1
      have k6 := hset.l6 hw
      have ci : (nI i).toNatClampNeg = i := nI_clamp (by omega)
      have r15 := kn.kd i hi1
      have fp := fi.p
      simp only [ci, r15, fp, ni_andnot, fa_or]
      refine wp_neg (by rw [kn.k]; exact nI_ge hi1 (by omega)) (wp_neg (nI_in' (by omega) (by omega)) ?_)
      have ext : ¬ ((ks i).testBit b = true ∧ Sub (ks i) p ∧ Cov A p k (s ||| ks i)) → ∀ j, j < i + 1 → ¬ ((ks j).testBit b = true ∧ Sub (ks j) p ∧ Cov A p k (s ||| ks j)) := by
        intro q j hj
        by_cases e : j = i
        · rw [e]; exact q
        · exact h j (by omega)
      by_cases cb : (ks i).testBit b = false
      · refine wp_pos ((and_pow (by omega)).mpr cb) ?_
        rw [wp_some]
        exact ⟨nI_1 i, rfl, fm1, ext (fun q => by rw [cb] at q; cases q.1)⟩
      have cb' : (ks i).testBit b = true := by simpa using cb
      refine wp_neg (fun q => cb ((and_pow (by omega)).mp q)) ?_
      have sl : sdf (ks i) p < 2 ^ 16 := sdf_lt (k := 16) k6
      by_cases c : sdf (ks i) p = 0
      · have sb := sdf_0.mp c
        refine wp_pos (by rw [c]; rfl) ?_
        refine (c_reaches hN hw hp fi 20 k (s ||| ks i) gl (by omega) hk (hs.or sb) fm1).bnd (fun y hy => ?_)
        obtain ⟨y1, y2, y3⟩ := hy
        rcases y3 with ⟨y3, y4⟩ | ⟨y3, y4⟩
        · refine wp_neg (by rw [y3]; decide) ?_
          rw [wp_some]
          exact ⟨y1, y2, rfl, i, hi1, rfl, ⟨cb', sb, y4⟩, h⟩
        · refine wp_pos y3 ?_
          rw [wp_some]
          exact ⟨nI_1 i, y1, y2, ext (fun q => y4 q.2.2)⟩
      · refine wp_neg (fun q => c ((nI_eq (b := 0) (by omega) (by omega)).mp q)) ?_
        rw [wp_some]
        exact ⟨nI_1 i, rfl, fm1, ext (fun q => c (sdf_0.mpr q.2.1))⟩
    · rintro ⟨q, g, gl⟩ ⟨rfl, hg, fm1, h⟩
      exfalso
      obtain ⟨g', g1, g2, g3, g4⟩ := (Need_step hw hp hs b1 b2 (k := k) (by omega)).mp (by omega)
      obtain ⟨i, i1, i2⟩ := kn.mem g1 (fun q => by rw [q, Nat.zero_testBit] at g3; cases g3)
      exact h i i1 ⟨by rw [i2]; exact g3, by rw [i2]; exact Sub.iff.mpr g2, by rw [i2]; exact (Need_iff hw (by omega)).mpr g4⟩
  · obtain ⟨z1, z2, z3, c, c1, c2, ⟨c3, c4, c5⟩, c6⟩ := hz
    refine wp_neg (by rw [z3]; omega) ?_
    rw [wp_some]
    refine ⟨z1, z2, c, c1, c2, ?_, fun t ht hg => ?_⟩
    · have e := (kn.ks c c1).1
      refine ⟨⟨b, bl, by rw [← e]; exact c3⟩, by rw [← e]; exact Sub.iff.mp c4, ?_⟩
      rw [← e]
      have l1 := (Need_iff hw (by omega)).mp c5
      refine Nat.le_antisymm l1 ?_
      have l2 := (Need_step hw hp hs b1 b2 (k := Need A p (s ||| ks c)) (by omega)).mpr ⟨ks c, kn.set c1, Sub.iff.mp c4, c3, Nat.le_refl _⟩
      omega
    · obtain ⟨⟨b', bl', h1⟩, h2, h3⟩ := hg
      have eb := bl'.one bl
      subst eb
      have tlt : t < 3 ^ A.w := by have := (kn.ks c c1).2.2; omega
      obtain ⟨j, j1, j2, j3⟩ := kn.all t tlt (fun q => by rw [q, Nat.zero_testBit] at h1; cases h1)
      have jc : j < c := by
        refine Nat.lt_of_not_le (fun q => ?_)
        by_cases e : c = j
        · subst e; omega
        · have := kn.up c j (by omega) j1; omega
      exact c6 j jc ⟨by rw [j2]; exact h1, by rw [j2]; exact Sub.iff.mpr h2, by rw [j2]; exact (Need_iff hw (by omega)).mpr (by omega)⟩
theorem shownBy_cong {A : St} {ts ts' : Nat → Nat} : ∀ {i : Nat}, (∀ j, j < i → ts j = ts' j) → shownBy A ts i = shownBy A ts' i := by
  intro i
  induction i with
  | zero => intro _; rfl
  | succ i ih =>
    intro h
    show shownBy A ts i ||| Gt A (ts i) = shownBy A ts' i ||| Gt A (ts' i)
    rw [ih (fun j hj => h j (by omega)), h i (by omega)]
/-- a frame's first turns -/
def PF (A : St) (p i : Nat) (ts : Nat → Nat) : Prop := ∀ j, j < i → ts j < 3 ^ A.w ∧ Good A p (shownBy A ts j) (Few A p - j - 1) (ts j) ∧ ∀ t, t < ts j → ¬ Good A p (shownBy A ts j) (Few A p - j - 1) t
theorem PF.add {A : St} {p i t : Nat} {ts : Nat → Nat} (h : PF A p i ts) (h1 : t < 3 ^ A.w) (h2 : Good A p (shownBy A ts i) (Few A p - i - 1) t) (h3 : ∀ t', t' < t → ¬ Good A p (shownBy A ts i) (Few A p - i - 1) t') : PF A p (i + 1) (fun j => if j = i then t else ts j) := by
  intro j hj
  have e : shownBy A (fun j => if j = i then t else ts j) j = shownBy A ts j := shownBy_cong (fun k hk => if_neg (by omega))
  rw [e]
  by_cases q : j = i
  · subst q
    dsimp only
    rw [if_pos rfl]; exact ⟨h1, h2, h3⟩
  · dsimp only
    rw [if_neg q]; exact h j (by omega)
