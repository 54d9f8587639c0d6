/-! taking the turns, filling a frame, frameOf -/
theorem FI.sam {A : St} {p : Nat} {hi h1 : HI} (h : FI A p hi) (e36 : h1 36 = hi 36) (e37 : h1 37 = hi 37) : FI A p h1 := by
  obtain ⟨a1, a2, a3⟩ := h
  refine ⟨by rw [e36]; exact a1, by rw [e36]; exact a2, ?_⟩
  rw [e36, e37]; exact a3
theorem PF.sub {A : St} {p : Nat} {ts : Nat → Nat} : ∀ {i : Nat}, PF A p i ts → Sub (shownBy A ts i) p := by
  intro i
  induction i with
  | zero => intro _ j h; exact absurd h (by show ¬ (Nat.testBit 0 j = true); rw [Nat.zero_testBit]; decide)
  | succ i ih =>
    intro h
    exact (ih (fun j hj => h j (by omega))).or (Sub.iff.mpr (h i (by omega)).2.1.2.1)
theorem PF.need {A : St} (hw : WF A) {p : Nat} {ts : Nat → Nat} {i : Nat} (h : PF A p i ts) : Need A p (shownBy A ts i) = Few A p - i := by
  cases i with
  | zero => exact Need_0 hw
  | succ i =>
    have := (h i (by omega)).2.1.2.2
    show Need A p (shownBy A ts i ||| Gt A (ts i)) = _
    rw [this]; omega
abbrev Tk (A : St) (p F i : Nat) (hi h1 : HI) (ts : Nat → Nat) : Prop :=
  (Sam [F + 1] hi h1) ∧
  (PF A p i ts) ∧
  (∀ j, j < i → h1 (F + 1) j = nI (ts j))
theorem Tk.s {A : St} {p F i : Nat} {hi h1 : HI} {ts : Nat → Nat} (h_ : Tk A p F i hi h1 ts) : Sam [F + 1] hi h1 := h_.1
theorem Tk.pf {A : St} {p F i : Nat} {hi h1 : HI} {ts : Nat → Nat} (h_ : Tk A p F i hi h1 ts) : PF A p i ts := h_.2.1
theorem Tk.c {A : St} {p F i : Nat} {hi h1 : HI} {ts : Nat → Nat} (h_ : Tk A p F i hi h1 ts) : ∀ j, j < i → h1 (F + 1) j = nI (ts j) := h_.2.2
theorem c_take {N : Nat} (hN : 70000 ≤ N) {A : St} (hw : WF A) {p f : Nat} (hp : p < 2 ^ A.n) {hi : HI} {hl : HL} {K : Nat} {ks ts : Nat → Nat} (hf : f < 8) (fi : FI A p hi) (kn : Kn A hi K ks ts) (hF : Few A p ≤ 16) (h2 : hi (20 + 2 * f) 2 = nI (Few A p)) (fm : FM A p hl) : wp (f_FrameFinder_take N (20 + 2 * f) hi hl) (fun o => ∃ tf, Tk A p (20 + 2 * f) (Few A p) hi o.2.1 tf) := by
  unfold f_FrameFinder_take
  refine wp.bnd (P := fun z => ∃ tf, Tk A p (20 + 2 * f) (Few A p) hi z.1 tf) ?_ (fun z hz => by rw [wp_some]; exact hz)
  refine wp_for (Few A p) (fun i s => s.2.1 = nI i ∧ FM A p s.2.2.2 ∧ ∃ tf, s.1 = nI (shownBy A tf i) ∧ Tk A p (20 + 2 * f) i hi s.2.2.1 tf) ?_ ?_ (i := 0) (Nat.zero_le _) ⟨rfl, fm, fun _ => 0, rfl, Sam.refl _ _, fun j hj => by omega, fun j hj => by omega⟩ (by omega)
  · rintro i ⟨cq, q, g, gl⟩ hi1 ⟨rfl, fm1, tf, rfl, tk⟩
    dsimp only at fm1 tk
    have sm := tk.s
    have gg : ∀ a, a ≠ 20 + 2 * f + 1 → g a = hi a := fun a ha => sm a (by simp; omega)
    have g2 : g (20 + 2 * f) 2 = nI (Few A p) := by rw [gg _ (by omega)]; exact h2
    have fi1 := fi.sam (gg 36 (by omega)) (gg 37 (by omega))
    have kn1 := kn.sam (gg 12 (by omega)) (gg 15 (by omega)) (gg 16 (by omega))
    have nd := tk.pf.need hw
    unfold B_FrameFinder_take_5 J_FrameFinder_take_62
    dsimp only
    refine wp_pos (gF_8 f hf) (wp_neg (by rw [g2]; exact nI_ge hi1 (by omega)) ?_)
    have el : g (20 + 2 * f) 2 - nI i - 1 = nI (Few A p - i - 1) := by
      rw [g2, pk_sub (by omega)]
      exact pk_sub (b := 1) (by omega)
    rw [el]
    refine (c_choose hN hw hp fi1 kn1 tk.pf.sub (k := Few A p - i - 1) (by omega) (by omega) fm1).bnd (fun y hy => ?_)
    obtain ⟨y1, y2, c, c1, c2, c3, c4⟩ := hy
    have kN := kn.kN
    have cc : (nI c).toNatClampNeg = c := nI_clamp (by omega)
    have ci : (nI i).toNatClampNeg = i := nI_clamp (by omega)
    have r16 := kn1.kt c c1
    have r15 : ∀ v, wr g (20 + 2 * f + 1) i v 15 c = nI (ks c) := fun v => by rw [wr_o (by omega)]; exact kn1.kd c c1
    rw [c2, y1]
    have n4 : ¬ (nI c = -4) := by rw [ni_neg4 (by omega)]; exact id
    simp only [cc, ci, r16, r15, fa_or]
    refine wp_neg n4 (wp_neg (nI_in' (by omega) (by omega)) (wp_neg (nI_in' (by omega) (by omega)) (wp_neg (nI_in' (by omega) (by omega)) ?_)))
    rw [wp_some]
    have kc := kn.ks c c1
    refine ⟨nI_1 i, y2, fun j => if j = i then ts c else tf j, ?_, sm.wr (by simp), tk.pf.add kc.2.2 c3 c4, fun j hj => ?_⟩
    · dsimp only
      show nI (shownBy A tf i ||| ks c) = nI (shownBy A (fun j => if j = i then ts c else tf j) i ||| Gt A (if i = i then ts c else tf i))
      rw [if_pos rfl, ← kc.1, shownBy_cong (ts := fun j => if j = i then ts c else tf j) (ts' := tf) (fun j hj => if_neg (by omega))]
    · dsimp only
      rw [wr_i]
      by_cases e : j = i
      · rw [if_pos e, if_pos e]
      · rw [if_neg e, if_neg e]; exact tk.c j (by omega)
  · rintro ⟨cq, q, g, gl⟩ ⟨rfl, fm1, tf, rfl, tk⟩
    dsimp only at fm1 tk
    have g2 : g (20 + 2 * f) 2 = nI (Few A p) := by rw [tk.s _ (by simp)]; exact h2
    unfold B_FrameFinder_take_5
    dsimp only
    refine wp_pos (gF_8 f hf) (wp_pos (by rw [g2]; exact nI_le (Nat.le_refl _) (by omega)) ?_)
    rw [wp_some]
    exact ⟨tf, tk⟩
/-- the frame f holds picture p -/
abbrev Fp (A : St) (p f : Nat) (hi : HI) : Prop :=
  (hi (20 + 2 * f) 0 = 1) ∧
  (hi (20 + 2 * f) 1 = nI p) ∧
  ((Few A p = 100 ∧ hi (20 + 2 * f) 2 = -4) ∨ (Few A p ≤ 16 ∧ hi (20 + 2 * f) 2 = nI (Few A p) ∧ ∃ ts, IsFrame A p ts ∧ ∀ i, i < Few A p → hi (21 + 2 * f) i = nI (ts i)))
theorem Fp.k {A : St} {p f : Nat} {hi : HI} (h_ : Fp A p f hi) : hi (20 + 2 * f) 0 = 1 := h_.1
theorem Fp.p {A : St} {p f : Nat} {hi : HI} (h_ : Fp A p f hi) : hi (20 + 2 * f) 1 = nI p := h_.2.1
theorem Fp.t {A : St} {p f : Nat} {hi : HI} (h_ : Fp A p f hi) : (Few A p = 100 ∧ hi (20 + 2 * f) 2 = -4) ∨ (Few A p ≤ 16 ∧ hi (20 + 2 * f) 2 = nI (Few A p) ∧ ∃ ts, IsFrame A p ts ∧ ∀ i, i < Few A p → hi (21 + 2 * f) i = nI (ts i)) := h_.2.2
theorem c_fillF {N : Nat} (hN : 70000 ≤ N) {A : St} (hw : WF A) {p f : Nat} (hp : p < 2 ^ A.n) {hi : HI} {hl : HL} {K : Nat} {ks ts : Nat → Nat} (hf : f < 8) (kn : Kn A hi K ks ts) : wp (f_FrameFinder_fill N (20 + 2 * f) (nI p) hi hl) (fun o => Sam [36, 37, 20 + 2 * f, 21 + 2 * f] hi o.2.1 ∧ Fp A p f o.2.1) := by
  unfold f_FrameFinder_fill
  have p6 : p < 65536 := Nat.lt_of_lt_of_le hp (pow2_le hw.n16)
  refine wp_pos (gF_8 f hf) ?_
  generalize hy : wr (wr (wr (wr (wr hi 36 0 (nI p)) 36 1 42) (20 + 2 * f) 1 (nI p)) (20 + 2 * f) 0 1) (20 + 2 * f) 2 (-4) = y
  have sy : Sam [36, 37, 20 + 2 * f, 21 + 2 * f] hi y := by
    rw [← hy]
    exact (((((Sam.refl _ _).wr (by simp)).wr (by simp)).wr (by simp)).wr (by simp)).wr (by simp)
  have y0 : y 36 0 = nI p := by rw [← hy, wr_o (by omega), wr_o (by omega), wr_o (by omega), wr_k (by omega), wr_s]
  have y1 : y 36 1 = 42 := by rw [← hy, wr_o (by omega), wr_o (by omega), wr_o (by omega), wr_s]
  have f0 : y (20 + 2 * f) 0 = 1 := by rw [← hy, wr_k (by omega), wr_s]
  have f1 : y (20 + 2 * f) 1 = nI p := by rw [← hy, wr_k (by omega), wr_k (by omega), wr_s]
  have f2 : y (20 + 2 * f) 2 = -4 := by rw [← hy, wr_s]
  have e12 : ∀ a, a < 20 → y a = hi a := fun a ha => sy a (by simp; omega)
  have kny := kn.sam (e12 12 (by omega)) (e12 15 (by omega)) (e12 16 (by omega))
  refine (c_gatherF hN hw hp y0 kny.k kn.kN (fun i hi => ⟨kny.kd i hi, kny.set hi⟩)).bnd (fun x hx => ?_)
  obtain ⟨sx, x0, x1, ⟨Wc, wv, M, x2, x4, x37, wd⟩, T, xT, uT, sT, cT⟩ := hx
  have T6 : T < 65536 := Nat.lt_of_le_of_lt (sub_le sT) p6
  have cT' : ∀ g, IsSet A g → Sub g p → Sub g T := fun g hg hs => by
    by_cases z : g = 0
    · subst z; intro i hi; rw [Nat.zero_testBit] at hi; cases hi
    · obtain ⟨i, i1, i2⟩ := kn.mem hg z
      rw [← i2]; exact cT i i1 (by rw [i2]; exact hs)
  have xf : ∀ a, a ≠ 36 → a ≠ 37 → x.2.1 a = y a := fun a h1 h2 => sx a (by simp; omega)
  have sxa : Sam [36, 37, 20 + 2 * f, 21 + 2 * f] hi x.2.1 := Sam.trans sy sx _ (fun a ha => ha) (fun a ha => by simp at ha ⊢; omega)
  by_cases c : T = p
  · refine wp_pos (by rw [xT, c]) (wp_pos (by rw [x1]; exact y1) ?_)
    have fi : FI A p x.2.1 := ⟨x0, by rw [x1]; exact y1, Wc, wv, M, x2, by have := wd.le; have := kn.kN; omega, x4, wd.m16, fun i hi => ⟨x37 i hi, wd.is i hi⟩, fun g g1 g2 g3 => by
      obtain ⟨i, i1, i2⟩ := kn.mem g1 g3
      rw [← i2]; exact (wd.co i i1 (by rw [i2]; exact g2)).1, fun g g1 g2 => by
      by_cases z : g = 0
      · rw [z]; exact Nat.zero_le _
      · obtain ⟨i, i1, i2⟩ := kn.mem g1 z
        rw [← i2]; exact (wd.co i i1 (by rw [i2]; exact g2)).2⟩
    have kx := kny.sam (xf 12 (by omega) (by omega)) (xf 15 (by omega) (by omega)) (xf 16 (by omega) (by omega))
    have few : Few A p ≤ A.n := by
      rcases Few_cases hw p with ⟨_, q⟩ | ⟨q, _⟩
      · exact absurd (c ▸ uT) (q K)
      · exact q
    have n16 := hw.n16
    refine (c_fillL hN 0 x.2.1 x.2.2).bnd (fun u hu => ?_)
    obtain ⟨u1, u2, _⟩ := hu
    have fm0 : FM A p u.2.2 := ⟨fun _ => 0, fun j hj => ⟨Nat.two_pow_pos 64, u2 j hj⟩, fun s _ _ => Or.inl (by show 0 / _ % 16 = 0; rw [Nat.zero_div])⟩
    refine wp.bnd (P := fun z => z.1 = nI (Few A p) ∧ z.2.1 = x.2.1 ∧ FM A p z.2.2) ?_ (fun z hz => ?_)
    · refine wp_lp (fun m s => ∃ j, j + m = 16 ∧ s.1 = nI j ∧ s.2.1 = x.2.1 ∧ FM A p s.2.2 ∧ j ≤ Few A p) ?_ 16 _ N ⟨0, by omega, rfl, u1, fm0, Nat.zero_le _⟩ (by omega)
      rintro m ⟨q, g, gl⟩ ⟨j, jm, e1, hg, fm1, jl⟩
      dsimp only at e1 hg fm1
      subst e1
      rw [hg]
      unfold B_FrameFinder_fill_48
      dsimp only
      by_cases j16 : j = 16
      · refine wp_pos (by rw [j16]; exact nI_le (a := 16) (b := 16) (by omega) (by omega)) ?_
        rw [wp_some]
        exact ⟨by dsimp only; rw [show j = Few A p by omega], rfl, fm1⟩
      · refine wp_neg (nI_ge (b := 16) (by omega) (by omega)) ?_
        refine (c_reaches hN hw hp fi 20 j 0 gl (by omega) (by omega) (fun i h => by rw [Nat.zero_testBit] at h; cases h) fm1).bnd (fun v hv => ?_)
        obtain ⟨v1, v2, v3⟩ := hv
        have nf : Cov A p j 0 ↔ Few A p ≤ j := by rw [Need_iff hw (by omega), Need_0 hw]
        rcases v3 with ⟨v3, v4⟩ | ⟨v3, v4⟩
        · refine wp_neg (by rw [v3]; decide) ?_
          rw [wp_some]
          have := nf.mp v4
          exact ⟨by dsimp only; rw [show j = Few A p by omega], v1, v2⟩
        · refine wp_pos v3 ?_
          rw [wp_some]
          exact ⟨m - 1, by omega, j + 1, by omega, nI_1 j, v1, v2, by
            have : ¬ Few A p ≤ j := fun q => v4 (nf.mpr q)
            omega⟩
    · obtain ⟨z1, z2, z3⟩ := hz
      unfold J_FrameFinder_fill_71
      refine wp_pos (gF_8 f hf) ?_
      rw [z1, z2]
      generalize hw' : wr x.2.1 (20 + 2 * f) 2 (nI (Few A p)) = w
      have wo : ∀ a, a ≠ 20 + 2 * f → w a = x.2.1 a := fun a ha => by rw [← hw', wr_o ha]
      refine (c_take hN hw hp hf (fi.sam (wo 36 (by omega)) (wo 37 (by omega))) (kx.sam (wo 12 (by omega)) (wo 15 (by omega)) (wo 16 (by omega))) (by omega) (by rw [← hw', wr_s]) z3).bnd (fun r hr => ?_)
      obtain ⟨tf, tk⟩ := hr
      rw [wp_some]
      have rF : r.2.1 (20 + 2 * f) = w (20 + 2 * f) := tk.s _ (by simp)
      refine ⟨Sam.trans (T := [21 + 2 * f]) (show Sam [36, 37, 20 + 2 * f, 21 + 2 * f] hi w by rw [← hw']; exact sxa.wr (by simp)) (fun a ha => tk.s a (by simp at ha ⊢; omega)) _ (fun a ha => ha) (fun a ha => by simp at ha ⊢; omega), ?_, ?_, Or.inr ⟨by omega, ?_, tf, tk.pf, fun i hi => ?_⟩⟩
      · dsimp only; rw [rF, ← hw', wr_k (by omega), xf _ (by omega) (by omega)]; exact f0
      · dsimp only; rw [rF, ← hw', wr_k (by omega), xf _ (by omega) (by omega)]; exact f1
      · dsimp only; rw [rF, ← hw', wr_s]
      · dsimp only; rw [show 21 + 2 * f = 20 + 2 * f + 1 by omega]; exact tk.c i hi
  · refine wp_neg (by rw [xT]; exact fun q => c ((nI_eq (by omega) (by omega)).mp q)) ?_
    rw [wp_some]
    refine ⟨sxa, ?_, ?_, Or.inl ⟨?_, ?_⟩⟩
    · dsimp only; rw [xf _ (by omega) (by omega)]; exact f0
    · dsimp only; rw [xf _ (by omega) (by omega)]; exact f1
    · rcases Few_cases hw p with ⟨q, _⟩ | ⟨_, q⟩
      · exact q
      · exact absurd (Sub.eq sT (Uni.sub cT' q (Sub.refl p))) c
    · dsimp only; rw [xf _ (by omega) (by omega)]; exact f2
theorem Tab.kn {A : St} {hi : HI} (h : Tab A hi) : ∃ K ks ts, Kn A hi K ks ts := by
  obtain ⟨_, _, K, ks, ts, tf⟩ := h
  exact ⟨K, ks, ts, tf.k, tf.kN, tf.kd, tf.kt, tf.ks, tf.up, tf.all⟩
theorem Fp.fr {A : St} {p f : Nat} {hi : HI} (hp : p < 2 ^ A.n) (h : Fp A p f hi) : FrOK A (hi (20 + 2 * f)) (hi (21 + 2 * f)) := Or.inr ⟨h.k, p, hp, h.p, h.t⟩
/-- RC behind a change of one frame, the next place, and cells that RC doesn't speak of -/
theorem RC.frm {A : St} {hi h1 : HI} {f : Nat} (hf : f < 8) (h : RC A hi) (S : List Nat) (hs : Sam S hi h1) (hS : ∀ a ∈ S, frC a = true ∨ a = 18 ∨ a = 20 + 2 * f ∨ a = 21 + 2 * f) (h18 : ∃ x, x < 8 ∧ h1 18 1 = nI x) (fr : FrOK A (h1 (20 + 2 * f)) (h1 (21 + 2 * f))) : RC A h1 := by
  have e : ∀ a, frC a = false → a ≠ 18 → a ≠ 20 + 2 * f → a ≠ 21 + 2 * f → h1 a = hi a := fun a ha b1 b2 b3 => hs a (fun q => by
    rcases hS a q with z | z | z | z
    · rw [z] at ha; cases ha
    · exact b1 z
    · exact b2 z
    · exact b3 z)
  obtain ⟨a1, a2, a3, a4, a5, a6, a7, a8, a9, a10⟩ := h
  have e2 : ∀ i, i < 4 → h1 (57 + 2 * i) = hi (57 + 2 * i) ∧ h1 (58 + 2 * i) = hi (58 + 2 * i) := by
    intro i hi
    refine ⟨e _ ?_ (by omega) (by omega) (by omega), e _ ?_ (by omega) (by omega) (by omega)⟩
    · revert i; decide
    · revert i; decide
  have fc : ∀ i, i < 8 → frC (20 + 2 * i) = false ∧ frC (21 + 2 * i) = false := by decide
  refine ⟨?_, ?_, ?_, h18, fun i hi => ?_, ?_, ?_, ?_, ?_, ?_⟩
  · rw [e 1 (by decide) (by omega) (by omega) (by omega), e 2 (by decide) (by omega) (by omega) (by omega), e 3 (by decide) (by omega) (by omega) (by omega), e 4 (by decide) (by omega) (by omega) (by omega), e 5 (by decide) (by omega) (by omega) (by omega), e 6 (by decide) (by omega) (by omega) (by omega)]; exact a1
  · rw [e 12 (by decide) (by omega) (by omega) (by omega), e 13 (by decide) (by omega) (by omega) (by omega), e 14 (by decide) (by omega) (by omega) (by omega), e 15 (by decide) (by omega) (by omega) (by omega), e 16 (by decide) (by omega) (by omega) (by omega)]; exact a2
  · rw [e 17 (by decide) (by omega) (by omega) (by omega)]; exact a3
  · by_cases c : i = f
    · rw [c]; exact fr
    · rw [e _ (fc i hi).1 (by omega) (by omega) (by omega), e _ (fc i hi).2 (by omega) (by omega) (by omega)]; exact a5 i hi
  · rw [e 38 (by decide) (by omega) (by omega) (by omega), e 39 (by decide) (by omega) (by omega) (by omega)]; exact a6
  · rw [e 43 (by decide) (by omega) (by omega) (by omega), e 46 (by decide) (by omega) (by omega) (by omega)]; exact a7
  · rw [e 47 (by decide) (by omega) (by omega) (by omega), e 48 (by decide) (by omega) (by omega) (by omega), e 49 (by decide) (by omega) (by omega) (by omega), e 50 (by decide) (by omega) (by omega) (by omega)]; exact a8
  · rw [e 51 (by decide) (by omega) (by omega) (by omega), e 52 (by decide) (by omega) (by omega) (by omega), e 53 (by decide) (by omega) (by omega) (by omega)]; exact a9
  · intro i hi
    rw [(e2 i hi).1, (e2 i hi).2]; exact a10 i hi
theorem c_find_f {N : Nat} (hN : 70000 ≤ N) {A : St} (hw : WF A) {p : Nat} (hp : p < 2 ^ A.n) {hi : HI} {hl : HL} (hR : RC A hi) : wp (f_Frames_find N (nI p) hi hl) (fun o => ∃ f, f < 8 ∧ o.1 = 20 + 2 * f ∧ RC A o.2.1 ∧ HiC hi o.2.1 ∧ (Fp A p f o.2.1 ∨ o.2.1 (20 + 2 * f) 0 = 0) ∧ o.2.1 42 = hi 42) := by
  unfold f_Frames_find
  have p6 : p < 65536 := Nat.lt_of_lt_of_le hp (pow2_le hw.n16)
  refine wp.bnd (P := fun z => z.2.2.1 = hi ∧ (z.1 = 0 ∨ (z.1 = 1 ∧ ∃ f, f < 8 ∧ z.2.1 = nI f ∧ Fp A p f hi))) ?_ (fun z hz => ?_)
  · refine wp_for 8 (fun i s => s.1 = nI i ∧ s.2.1 = hi) ?_ ?_ (i := 0) (by omega) ⟨rfl, rfl⟩ (by omega)
    · rintro i ⟨q, g, gl⟩ hi1 ⟨rfl, hg⟩
      dsimp only at hg
      subst hg
      unfold B_Frames_find_2 J_Frames_find_40
      dsimp only
      rw [nI_clamp (by omega)]
      refine wp_neg (nI_ge (b := 8) hi1 (by omega)) (wp_neg (nI_in' (by omega) (by omega)) (wp_pos (gF_8 i hi1) ?_))
      rcases hR.fr i hi1 with z | ⟨z, p', q1, q2, q3⟩
      · refine wp_pos z ?_
        rw [wp_some]
        exact ⟨nI_1 i, rfl⟩
      · refine wp_neg (by rw [z]; decide) (wp_neg (nI_in' (by omega) (by omega)) ?_)
        have p6' : p' < 65536 := Nat.lt_of_lt_of_le q1 (pow2_le hw.n16)
        by_cases e : p' = p
        · refine wp_pos (by rw [q2, e]) ?_
          rw [wp_some]
          subst e
          exact ⟨rfl, Or.inr ⟨rfl, i, hi1, rfl, z, q2, q3⟩⟩
        · refine wp_neg (by rw [q2]; exact fun q => e ((nI_eq (by omega) (by omega)).mp q)) ?_
          rw [wp_some]
          exact ⟨nI_1 i, rfl⟩
    · rintro ⟨q, g, gl⟩ ⟨rfl, hg⟩
      dsimp only at hg
      subst hg
      unfold B_Frames_find_2
      dsimp only
      refine wp_pos (nI_le (a := 8) (b := 8) (by omega) (by omega)) ?_
      rw [wp_some]
      exact ⟨rfl, Or.inl rfl⟩
  · obtain ⟨z1, z2⟩ := hz
    rw [z1]
    rcases z2 with z2 | ⟨z2, f, f1, f2, f3⟩
    · refine wp_pos z2 ?_
      obtain ⟨x, x8, ex⟩ := hR.nx
      rw [ex, nI_clamp (by omega)]
      refine wp_neg (nI_in' (by omega) (by omega)) (wp_pos (gF_8 x x8) (wp_pos (Nat.blt_eq.mpr (by omega)) ?_))
      rw [wp_some]
      have em : nI x + 1 - (nI x + 1) / 8 * 8 = nI ((x + 1) % 8) := by
        rw [nI_1]; exact pk_rem (d := 8) (by omega) (by omega) (by omega)
      rw [em]
      refine ⟨x, x8, rfl, ?_, (((HiC.refl hi).wr (by omega)).wr (by omega)), Or.inr (by dsimp only; rw [wr_s]), by dsimp only; rw [wr_o (by omega), wr_o (by omega)]⟩
      refine hR.frm x8 [18, 20 + 2 * x] (((Sam.refl _ _).wr (by simp)).wr (by simp)) (fun a ha => ?_) ⟨(x + 1) % 8, Nat.mod_lt _ (by omega), ?_⟩ (Or.inl (by dsimp only; rw [wr_s]))
      · simp at ha; omega
      · dsimp only; rw [wr_o (by omega), wr_s]
    · refine wp_neg (by rw [z2]; omega) ?_
      rw [f2, nI_clamp (by omega)]
      refine wp_neg (nI_in' (by omega) (by omega)) (wp_pos (Nat.blt_eq.mpr (by omega)) ?_)
      rw [wp_some]
      exact ⟨f, f1, rfl, hR, HiC.refl _, Or.inl f3, rfl⟩
theorem c_frameOf2 {N : Nat} (hN : 70000 ≤ N) {A : St} (hw : WF A) {p : Nat} (hp : p < 2 ^ A.n) {hi : HI} {hl : HL} (hR : RC A hi) : wp (f_LW_frameOf N (nI p) hi hl) (fun o => ∃ f, f < 8 ∧ o.1 = 20 + 2 * f ∧ RC A o.2.1 ∧ HiC hi o.2.1 ∧ Fp A p f o.2.1 ∧ o.2.1 42 = hi 42) := by
  unfold f_LW_frameOf
  refine (c_find_f hN hw hp hR).bnd (fun x hx => ?_)
  obtain ⟨f, f8, e1, r1, h1, h2, h42⟩ := hx
  rw [e1]
  refine wp_pos (gF_8 f f8) ?_
  rcases h2 with h2 | h2
  · refine wp_neg (by rw [h2.k]; decide) (wp_pos (Nat.blt_eq.mpr (by omega)) ?_)
    rw [wp_some]
    exact ⟨f, f8, rfl, r1, h1, h2, h42⟩
  · refine wp_pos h2 ?_
    refine (c_fillTable hN hw r1).bnd (fun y hy => ?_)
    obtain ⟨r2, s2, tb⟩ := hy
    obtain ⟨K, ks, ts, kn⟩ := tb.kn
    refine (c_fillF hN hw hp f8 kn).bnd (fun z hz => ?_)
    refine wp_pos (Nat.blt_eq.mpr (by omega)) ?_
    rw [wp_some]
    refine ⟨f, f8, rfl, ?_, h1.trans ((HiC.of s2 (by decide)).trans (HiC.of hz.1 (fun a ha => by simp at ha; omega))), hz.2, ?_⟩
    rotate_left
    · dsimp only; rw [hz.1 42 (by simp; omega), s2 42 (by decide)]; exact h42
    refine r2.frm f8 _ hz.1 (fun a ha => ?_) ?_ (hz.2.fr hp)
    · simp at ha
      rcases ha with rfl | rfl | h | h
      · exact Or.inl (by decide)
      · exact Or.inl (by decide)
      · exact Or.inr (Or.inr (Or.inl h))
      · exact Or.inr (Or.inr (Or.inr h))
    · rw [hz.1 18 (by simp; omega)]; exact r2.nx
theorem c_frameOf {N : Nat} (hN : 70000 ≤ N) {A : St} (hw : WF A) {p : Nat} (hp : p < 2 ^ A.n) {hi : HI} {hl : HL} (hR : RC A hi) : wp (f_LW_frameOf N (nI p) hi hl) (fun o => ∃ f, f < 8 ∧ o.1 = 20 + 2 * f ∧ RC A o.2.1 ∧ HiC hi o.2.1 ∧ Fp A p f o.2.1) := (c_frameOf2 hN hw hp hR).mono (fun o ⟨f, a1, a2, a3, a4, a5, _⟩ => ⟨f, a1, a2, a3, a4, a5⟩)
