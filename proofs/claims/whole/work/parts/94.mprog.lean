/-! the reference's programs -/
abbrev ML (L : Nat) (h h1 : HI) : Prop :=
  (Sam [65, 86, 87] h h1) ∧
  (∀ j, j ≠ 27 → j < 32 ∨ 37 < j → h1 65 j = h 65 j) ∧
  (∀ j, j ≠ L → h1 86 j = h 86 j) ∧
  (∀ j, j ≠ L → h1 87 j = h 87 j)
theorem ML.s {L : Nat} {h h1 : HI} (h_ : ML L h h1) : Sam [65, 86, 87] h h1 := h_.1
theorem ML.k {L : Nat} {h h1 : HI} (h_ : ML L h h1) : ∀ j, j ≠ 27 → j < 32 ∨ 37 < j → h1 65 j = h 65 j := h_.2.1
theorem ML.t {L : Nat} {h h1 : HI} (h_ : ML L h h1) : ∀ j, j ≠ L → h1 86 j = h 86 j := h_.2.2.1
theorem ML.u {L : Nat} {h h1 : HI} (h_ : ML L h h1) : ∀ j, j ≠ L → h1 87 j = h 87 j := h_.2.2.2
theorem MF.ml {h h1 : HI} (x : MF h h1) (L : Nat) : ML L h h1 := ⟨x.s.sub (by decide), fun j _ a => x.k j a, fun j _ => by rw [x.s 86 (by decide)], fun j _ => by rw [x.s 87 (by decide)]⟩
theorem ML.trans {L : Nat} {h h1 h2 : HI} (x : ML L h h1) (y : ML L h1 h2) : ML L h h2 := ⟨x.s.trans y.s _ (fun _ q => q) (fun _ q => q), fun j a b => (y.k j a b).trans (x.k j a b), fun j a => (y.t j a).trans (x.t j a), fun j a => (y.u j a).trans (x.u j a)⟩
theorem MT.ml {A : St} {L : Nat} {h h1 : HI} (mt : MT A h) (x : ML L h h1) : MT A h1 := ⟨(x.k 31 (by omega) (by omega)).trans mt.n, fun i hi => by rw [x.s 88 (by decide)]; exact mt.y i hi⟩
def PL (A : St) (L : Nat) (R : (Nat × Nat) ⊕ (Nat × Nat × Nat)) (h g : HI) : Prop := ML L h g ∧ ((∃ e, R = .inl e ∧ MFS e g) ∨ (∃ t k b2, R = .inr (t, k, b2) ∧ g 86 L = nI t ∧ g 87 L = nI k ∧ g 65 27 = nI (L + 1) ∧ b2 ≤ A.taped ∧ MNx (nxt A b2) g))
theorem PL.of {A : St} {L : Nat} {R : (Nat × Nat) ⊕ (Nat × Nat × Nat)} {h h1 g : HI} (x : ML L h h1) (y : PL A L R h1 g) : PL A L R h g := ⟨x.trans y.1, y.2⟩
abbrev W199 (L : Nat) (v1 v2 : Int32) (h g : HI) : Prop :=
  (ML L h g) ∧
  (∀ j, j ≠ 27 → g 65 j = h 65 j) ∧
  (g 65 27 = nI (L + 1)) ∧
  (g 86 L = v1) ∧
  (g 87 L = v2)
theorem W199.m {L : Nat} {v1 v2 : Int32} {h g : HI} (h_ : W199 L v1 v2 h g) : ML L h g := h_.1
theorem W199.k {L : Nat} {v1 v2 : Int32} {h g : HI} (h_ : W199 L v1 v2 h g) : ∀ j, j ≠ 27 → g 65 j = h 65 j := h_.2.1
theorem W199.l {L : Nat} {v1 v2 : Int32} {h g : HI} (h_ : W199 L v1 v2 h g) : g 65 27 = nI (L + 1) := h_.2.2.1
theorem W199.t {L : Nat} {v1 v2 : Int32} {h g : HI} (h_ : W199 L v1 v2 h g) : g 86 L = v1 := h_.2.2.2.1
theorem W199.u {L : Nat} {v1 v2 : Int32} {h g : HI} (h_ : W199 L v1 v2 h g) : g 87 L = v2 := h_.2.2.2.2
theorem m_w199 {N L : Nat} {v1 v2 : Int32} {h : HI} {hl : HL} (h27 : h 65 27 = nI L) (hL : L < 12) {Q : Unit × HI × HL → Prop} (go : ∀ g, W199 L v1 v2 h g → wp (f_MD_next N g hl) (fun o => Q ((), o.2.1, o.2.2))) : wp (J_MD_readLine_199 N v1 v2 h hl) Q := by
  unfold J_MD_readLine_199
  have k27 : ∀ i u, wr h 86 i u 65 27 = nI L := fun i u => by rw [wr_o (by omega)]; exact h27
  refine wp_neg (by rw [h27]; exact nI_in hL (by omega)) (wp_neg (by rw [k27]; exact nI_in hL (by omega)) ?_)
  have k27b : ∀ i u j w, wr (wr h 86 i u) 87 j w 65 27 = nI L := fun i u j w => by rw [wr_o (by omega)]; exact k27 i u
  rw [k27b, k27, h27, nI_clamp (by omega), nI_1]
  refine (go _ ⟨⟨(((Sam.refl _ h).wr (by decide)).wr (by decide)).wr (by decide), fun j a b => ?_, fun j a => ?_, fun j a => ?_⟩, fun j a => ?_, ?_, ?_, ?_⟩).bnd (fun z hz => by rw [wp_some]; exact hz)
  · rw [wr_k a, wr_o (by omega), wr_o (by omega)]
  · rw [wr_o (by omega), wr_o (by omega), wr_k a]
  · rw [wr_o (by omega), wr_k a, wr_o (by omega)]
  · rw [wr_k a, wr_o (by omega), wr_o (by omega)]
  · rw [wr_s]
  · rw [wr_o (by omega), wr_o (by omega), wr_s]
  · rw [wr_o (by omega), wr_s]
def QF (L : Nat) (e : Nat × Nat) (h : HI) (o : Unit × HI × HL) : Prop := ML L h o.2.1 ∧ MFS e o.2.1
theorem mf_199 {N L : Nat} {v1 v2 : Int32} {e : Nat × Nat} {h : HI} {hl : HL} (f : MFS e h) (h27 : h 65 27 = nI L) (hL : L < 12) : wp (J_MD_readLine_199 N v1 v2 h hl) (QF L e h) := by
  refine m_w199 h27 hL (fun g w => ?_)
  have fg : MFS e g := ⟨(w.k 36 (by omega)).trans f.k, (w.k 37 (by omega)).trans f.p, f.a, f.b⟩
  rw [m_nextf N hl fg, wp_some]
  exact ⟨w.m, fg⟩
theorem m_199 {N : Nat} (hN : 70000 ≤ N) {A : St} (hw : WF A) {L t k b2 : Nat} {h : HI} {hl : HL} (mt : MT A h) (h0 : h 65 36 = 0) (h32 : h 65 32 = nI b2) (hb : b2 ≤ A.taped) (h27 : h 65 27 = nI L) (hL : L < 12) : wp (J_MD_readLine_199 N (nI t) (nI k) h hl) (fun o => PL A L (.inr (t, k, b2)) h o.2.1) := by
  refine m_w199 h27 hL (fun g w => ?_)
  refine (m_next hN hw (mt.ml w.m) ((w.k 36 (by omega)).trans h0) ((w.k 32 (by omega)).trans h32) hb).mono (fun o ho => ?_)
  obtain ⟨o1, o2⟩ := ho
  exact ⟨w.m.trans (o1.ml L), Or.inr ⟨t, k, b2, rfl, by dsimp only; rw [o1.s 86 (by decide)]; exact w.t, by dsimp only; rw [o1.s 87 (by decide)]; exact w.u, (o1.k 27 (by omega)).trans w.l, hb, o2⟩⟩
theorem mf_165 {N L : Nat} {v1 : Int32} {e : Nat × Nat} {h : HI} {hl : HL} (f : MFS e h) (h27 : h 65 27 = nI L) (hL : L < 12) : wp (J_MD_readLine_165 N v1 h hl) (QF L e h) := by
  unfold J_MD_readLine_165
  rw [m_nextf N hl f, Option.bind_some]
  exact wp_neg f.nz (mf_199 f h27 hL)
theorem mf_137 {N L : Nat} {v1 s : Int32} {e : Nat × Nat} {h : HI} {hl : HL} (f : MFS e h) (h27 : h 65 27 = nI L) (hL : L < 12) : wp (J_MD_readLine_137 N v1 s h hl) (QF L e h) := by
  unfold J_MD_readLine_137
  rw [m_wantsf N s 2 hl f, Option.bind_some]
  exact wp_neg f.nz (mf_165 f h27 hL)
theorem mf_119 {N L : Nat} {v1 : Int32} {e : Nat × Nat} {h : HI} {hl : HL} (f : MFS e h) (h27 : h 65 27 = nI L) (hL : L < 12) : wp (J_MD_readLine_119 N v1 h hl) (QF L e h) := by
  unfold J_MD_readLine_119
  rw [m_nextf N hl f, Option.bind_some]
  exact (wp_ite _ _ _ _).mpr ⟨fun _ => mf_137 f h27 hL, fun _ => mf_137 f h27 hL⟩
theorem mf_91 {N L : Nat} (hN : 70000 ≤ N) {v1 : Int32} {e : Nat × Nat} {h : HI} {hl : HL} (f : MFS e h) (h27 : h 65 27 = nI L) (hL : L < 12) : wp (J_MD_readLine_91 N v1 h hl) (QF L e h) := by
  unfold J_MD_readLine_91
  rw [m_nextf N hl f, Option.bind_some]
  dsimp only
  rw [m_wiresf hN f, Option.bind_some]
  exact wp_neg f.nz (mf_119 f h27 hL)
theorem QF.pl {A : St} {L : Nat} {e : Nat × Nat} {R : (Nat × Nat) ⊕ (Nat × Nat × Nat)} {h h1 : HI} {o : Unit × HI × HL} (q : QF L e h1 o) (x : ML L h h1) (hR : R = .inl e) : PL A L R h o.2.1 := ⟨x.trans q.1, Or.inl ⟨e, hR, q.2⟩⟩
theorem m_119 {N : Nat} (hN : 70000 ≤ N) {A : St} (hw : WF A) {L tn b : Nat} {h : HI} {hl : HL} (mt : MT A h) (h0 : h 65 36 = 0) (h32 : h 65 32 = nI b) (hb : b ≤ A.taped) (h27 : h 65 27 = nI L) (hL : L < 12) : wp (J_MD_readLine_119 N (nI tn) h hl) (fun o => PL A L (ticksA A tn b) h o.2.1) := by
  unfold J_MD_readLine_119 ticksA
  have ok := nxt_ok hb
  refine (m_next hN hw mt h0 h32 hb).bnd (fun z hz => ?_)
  obtain ⟨zf, zr⟩ := hz
  have z27 := (zf.k 27 (by omega)).trans h27
  rcases zr with ⟨a1, a2⟩ | ⟨a1, m⟩
  · rw [if_pos a1]
    exact (wp_ite _ _ _ _).mpr ⟨fun _ => (mf_137 a2 z27 hL).mono (fun o ho => ho.pl (zf.ml L) rfl), fun _ => (mf_137 a2 z27 hL).mono (fun o ho => ho.pl (zf.ml L) rfl)⟩
  rw [if_neg a1]
  unfold J_MD_readLine_137
  by_cases n1 : (nxt A b).1 = 1
  case neg =>
    rw [if_pos n1]
    refine wp_neg (fun q => n1 (m.i2.mp q)) ?_
    obtain ⟨q1, q2⟩ := m_fault (c := 2) m.p (by omega) (by omega)
    rw [m_wants0 N 2 z.2.2 m.z, Option.bind_some]
    refine wp_neg q2.nz ?_
    exact (mf_165 q2 ((q1.k 27 (by omega)).trans z27) hL).mono (fun o ho => ho.pl ((zf.trans q1).ml L) rfl)
  rw [if_neg (show ¬ (nxt A b).1 ≠ 1 by omega)]
  refine wp_pos (m.i2.mpr n1) ?_
  rw [m_wants1, Option.bind_some]
  refine wp_pos m.z ?_
  dsimp only
  have v9 := ok.v n1
  have te := ok.e (by omega) (by omega)
  have g35 := m.v n1
  rw [g35, e_in32 N _ 1 60 z.2.1 z.2.2 (x := 1) (y := 61) (by decide) (by decide), rg_nI (by omega), Option.bind_some]
  dsimp only
  by_cases c : (nxt A b).2.2.2 < 1 ∨ 60 < (nxt A b).2.2.2
  · rw [if_pos c, decide_eq_false (by omega), b2i_f]
    obtain ⟨q1, q2⟩ := m_fault (c := 3) m.p (by omega) (by omega)
    rw [m_wants0 N 3 z.2.2 m.z, Option.bind_some]
    exact (mf_165 q2 ((q1.k 27 (by omega)).trans z27) hL).mono (fun o ho => ho.pl ((zf.trans q1).ml L) rfl)
  rw [if_neg c, decide_eq_true (by omega), b2i_t, m_wants1, Option.bind_some]
  dsimp only
  unfold J_MD_readLine_165
  have ok2 := nxt_ok (A := A) te.2
  refine (m_next hN hw (mt.of zf) m.z (m.e (by omega)) te.2).bnd (fun y hy => ?_)
  obtain ⟨yf, yr⟩ := hy
  have y27 := (yf.k 27 (by omega)).trans z27
  have fy := zf.trans yf
  rcases yr with ⟨b1, b2⟩ | ⟨b1, m2⟩
  · rw [if_pos b1]
    exact wp_neg b2.nz ((mf_199 b2 y27 hL).mono (fun o ho => ho.pl (fy.ml L) rfl))
  rw [if_neg b1]
  refine wp_pos m2.z ?_
  unfold J_MD_readLine_195
  by_cases n2 : (nxt A (nxt A b).2.2.1).1 = 2
  · rw [if_neg (show ¬ (nxt A (nxt A b).2.2.1).1 ≠ 2 by omega)]
    refine wp_pos (m2.i3.mpr n2) ?_
    rw [m_wants1, Option.bind_some, g35]
    exact (m_199 hN hw (mt.of fy) m2.z (m2.e (by omega)) (ok2.e (by omega) (by omega)).2 y27 hL).mono (fun o ho => ho.of (fy.ml L))
  · rw [if_pos n2]
    refine wp_neg (fun q => n2 (m2.i3.mp q)) ?_
    obtain ⟨q1, q2⟩ := m_fault (c := 2) m2.p (by omega) (by omega)
    rw [m_wants0 N 2 y.2.2 m2.z, Option.bind_some]
    exact (mf_199 q2 ((q1.k 27 (by omega)).trans y27) hL).mono (fun o ho => ho.pl ((fy.trans q1).ml L) rfl)
/-- the wires behind a name, up to the name that must follow -/
theorem m_wb {N : Nat} (hN : 70000 ≤ N) {A : St} (hw : WF A) {fg nm tn b : Nat} {h : HI} {hl : HL} (mt : MT A h) (w0 : h 65 0 = nI A.w) (h0 : h 65 36 = 0) (h32 : h 65 32 = nI b) (hb : b ≤ A.taped) (f1 : 1 ≤ fg) (f2 : fg ≤ 2) (n1 : 1 ≤ nm) (n4 : nm ≤ 4) (ht : tn < 3 ^ A.w) (K : Int32 → HI → HL → Option (Unit × HI × HL)) {Q : Unit × HI × HL → Prop} (hf : ∀ v e g gl, MF h g → MFS e g → wiresA A fg (nm + 2) tn b = .inl e → wp (K v g gl) Q) (hg : ∀ t b2 g gl, MF h g → g 65 36 = 0 → g 65 32 = nI b2 → b2 ≤ A.taped → t < 3 ^ A.w → wiresA A fg (nm + 2) tn b = .inr (t, b2) → wp (K (nI t) g gl) Q) : wp ((f_MD_next N h hl).bind fun z => (f_MD_readWires N (nI tn) (nI fg) z.2.1 z.2.2).bind fun y => if y.2.1 65 36 = 0 then (f_MD_isName N (nI nm) y.2.1 y.2.2).bind fun u => (f_MD_wants N u.1 2 u.2.1 u.2.2).bind fun w => K y.1 w.2.1 w.2.2 else K y.1 y.2.1 y.2.2) Q := by
  have ok := nxt_ok hb
  refine (m_next hN hw mt h0 h32 hb).bnd (fun z hz => ?_)
  obtain ⟨zf, zr⟩ := hz
  unfold wiresA at hf hg
  rcases zr with ⟨a1, a2⟩ | ⟨a1, m⟩
  · rw [m_wiresf hN a2, Option.bind_some]
    exact wp_neg a2.nz (hf _ _ _ _ zf a2 (by rw [if_pos a1]))
  rw [if_neg a1] at hf hg
  refine (m_wires hN hw (mt.of zf) ((zf.k 0 (by omega)).trans w0) f1 f2 m ok a1 ht).bnd (fun y hy => ?_)
  obtain ⟨yf, yr⟩ := hy
  have fy := zf.trans yf
  rcases yr with ⟨e, e1, e2⟩ | ⟨t, tk2, bb2, e1, e2, m2, ok2, n7, tl⟩
  · refine wp_neg e2.nz (hf _ _ _ _ fy e2 ?_)
    by_cases c : (nxt A b).1 ≠ 1
    · rw [if_pos c] at e1 ⊢
      exact congrArg Sum.inl (Sum.inl.inj e1)
    · rw [if_neg c] at e1 ⊢
      rw [e1, anT_l]
  · by_cases c : (nxt A b).1 ≠ 1
    · rw [if_pos c] at e1
      cases e1
    rw [if_neg c] at e1 hf hg
    rw [e1, anT_r] at hf hg
    refine wp_pos m2.z ?_
    rw [m_isName m2 ok2.k n1 n4, Option.bind_some]
    dsimp only
    by_cases d : tk2.1 = nm + 2
    · rw [decide_eq_true d, b2i_t, m_wants1, Option.bind_some, e2]
      exact hg t _ _ _ fy m2.z (m2.e (by omega)) (ok2.e (by omega) n7).2 tl (by rw [if_pos d])
    · rw [decide_eq_false d, b2i_f, m_wants0 N 2 y.2.2 m2.z, Option.bind_some]
      obtain ⟨q1, q2⟩ := m_fault (c := 2) m2.p (by omega) (by omega)
      exact hf _ _ _ _ (fy.trans q1) q2 (by rw [if_neg d])
theorem lineA_lt {A : St} {L : Nat} {tk : Tokn} {x : Nat × Nat × Nat} (h : lineA A L tk = .inr x) : L < 12 := by
  unfold lineA at h
  split at h
  · cases h
  · split at h
    · cases h
    · omega
theorem m_line {N : Nat} (hN : 70000 ≤ N) {A : St} (hw : WF A) {L bb : Nat} {tk : Tokn} {h : HI} {hl : HL} (mt : MT A h) (w0 : h 65 0 = nI A.w) (m : MTk tk h) (tok : TkOK A bb tk) (n7 : tk.1 ≠ 7) (h27 : h 65 27 = nI L) (hL : L ≤ 12) : wp (f_MD_readLine N h hl) (fun o => PL A L (lineA A L tk) h o.2.1) := by
  have k7 := tok.k
  have f41 : ∀ s e g gl, MF h g → MFS e g → lineA A L tk = .inl e → wp (J_MD_readLine_41 N s g gl) (fun o => PL A L (lineA A L tk) h o.2.1) := fun s e g gl x f hR => by
    unfold J_MD_readLine_41
    rw [m_wantsf N s 5 gl f, Option.bind_some]
    refine wp_neg f.nl ?_
    rw [wp_some]
    exact ⟨x.ml L, Or.inl ⟨e, hR, f⟩⟩
  have go : tk.1 = 3 ∨ tk.1 = 6 → wp (J_MD_readLine_22 N 1 h hl) (fun o => PL A L (lineA A L tk) h o.2.1) := fun k36 => by
    unfold J_MD_readLine_22
    rw [m_wants1, Option.bind_some]
    dsimp only
    by_cases c : 12 ≤ L
    · refine wp_pos (by rw [h27]; exact nI_le (a := 12) c (by omega)) ?_
      unfold J_MD_readLine_41
      rw [m_wants0 N 5 hl m.z, Option.bind_some]
      obtain ⟨q1, q2⟩ := m_fault (c := 5) m.p (by omega) (by omega)
      refine wp_neg q2.nl ?_
      rw [wp_some]
      exact ⟨q1.ml L, Or.inl ⟨_, by unfold lineA; rw [if_neg (by omega), if_pos c], q2⟩⟩
    refine wp_neg (by rw [h27]; exact nI_ge (b := 12) (by omega) (by omega)) ?_
    unfold J_MD_readLine_41 lineA
    rw [if_neg (show ¬ (tk.1 ≠ 3 ∧ tk.1 ≠ 6) by omega), if_neg c, m_wants1, Option.bind_some]
    refine wp_pos (by dsimp only; rw [m.z]; decide) ?_
    dsimp only
    have te := tok.e (by omega) n7
    have h32 := m.e (by omega)
    rw [show f_MD_isName N 1 h hl = some (b2i (decide (tk.1 = 3)), h, hl) from m_isName (c := 1) m k7 (by omega) (by omega), Option.bind_some]
    dsimp only
    by_cases c3 : tk.1 = 3
    case neg =>
      rw [if_neg c3, decide_eq_false c3]
      refine wp_pos rfl ?_
      exact m_119 (tn := 0) hN hw mt m.z h32 te.2 h27 (by omega)
    rw [if_pos c3, decide_eq_true c3]
    refine wp_neg (by decide) ?_
    refine m_wb (fg := 1) (nm := 2) (tn := 0) hN hw mt w0 m.z h32 te.2 (by omega) (by omega) (by omega) (by omega) (Nat.pow_pos (by decide)) (fun v g gl => J_MD_readLine_91 N v g gl) (fun v e g gl x f hR => ?_) (fun t b2 g gl x x0 x32 xb xt hR => ?_)
    · rw [hR, anT_l]
      exact (mf_91 hN f ((x.k 27 (by omega)).trans h27) (by omega)).mono (fun o ho => ho.pl (x.ml L) rfl)
    · rw [hR, anT_r]
      unfold J_MD_readLine_91
      refine m_wb (fg := 2) (nm := 3) (tn := t) hN hw (mt.of x) ((x.k 0 (by omega)).trans w0) x0 x32 xb (by omega) (by omega) (by omega) (by omega) xt (fun v g gl => J_MD_readLine_119 N v g gl) (fun v e g2 gl x2 f hR => ?_) (fun t2 b3 g2 gl x2 x02 x322 xb2 xt2 hR => ?_)
      · rw [hR, anT_l]
        have xx := x.trans x2
        exact (mf_119 f ((xx.k 27 (by omega)).trans h27) (by omega)).mono (fun o ho => ho.pl (xx.ml L) rfl)
      · rw [hR, anT_r]
        have xx := x.trans x2
        exact (m_119 hN hw (mt.of xx) x02 x322 xb2 ((xx.k 27 (by omega)).trans h27) (by omega)).mono (fun o ho => ho.of (xx.ml L))
  unfold f_MD_readLine
  rw [show f_MD_isName N 1 h hl = some (b2i (decide (tk.1 = 3)), h, hl) from m_isName (c := 1) m k7 (by omega) (by omega), Option.bind_some]
  dsimp only
  unfold J_MD_readLine_17
  by_cases c3 : tk.1 = 3
  · rw [decide_eq_true c3]
    exact wp_neg (by decide) (go (Or.inl c3))
  rw [decide_eq_false c3]
  refine wp_pos rfl ?_
  rw [show f_MD_isName N 4 h hl = some (b2i (decide (tk.1 = 6)), h, hl) from m_isName (c := 4) m k7 (by omega) (by omega), Option.bind_some]
  dsimp only
  by_cases c6 : tk.1 = 6
  · rw [decide_eq_true c6]
    exact wp_neg (by decide) (go (Or.inr c6))
  rw [decide_eq_false c6]
  refine wp_pos rfl ?_
  unfold J_MD_readLine_22
  rw [m_wants0 N 2 hl m.z, Option.bind_some]
  obtain ⟨q1, q2⟩ := m_fault (c := 2) m.p (by omega) (by omega)
  have hR : lineA A L tk = .inl (2, tk.2.1) := by unfold lineA; rw [if_pos ⟨c3, c6⟩]
  exact (wp_ite _ _ _ _).mpr ⟨fun _ => f41 _ _ _ _ q1 q2 hR, fun _ => f41 _ _ _ _ q1 q2 hR⟩
def LnM (L : Nat) (tf kf : Nat → Nat) (t k : Nat → Int32) : Prop := ∀ j, j < L → t j = nI (tf j) ∧ k j = nI (kf j)
def FinM (R : (Nat × Nat) ⊕ (Nat × (Nat → Nat) × (Nat → Nat))) (g : HI) : Prop := (∃ e, R = .inl e ∧ MFS e g) ∨ (∃ L tf kf, R = .inr (L, tf, kf) ∧ L ≤ 12 ∧ g 65 36 = 0 ∧ g 65 27 = nI L ∧ LnM L tf kf (g 86) (g 87))
abbrev MB (h g : HI) : Prop :=
  (Sam [65, 86, 87] h g) ∧
  (∀ j, j ≠ 27 → j < 32 ∨ 37 < j → g 65 j = h 65 j)
theorem MB.s {h g : HI} (h_ : MB h g) : Sam [65, 86, 87] h g := h_.1
theorem MB.k {h g : HI} (h_ : MB h g) : ∀ j, j ≠ 27 → j < 32 ∨ 37 < j → g 65 j = h 65 j := h_.2
theorem m_prog {N : Nat} (hN : 70000 ≤ N) {A : St} (hw : WF A) {h : HI} {hl : HL} (mt : MT A h) (w0 : h 65 0 = nI A.w) : wp ((f_MD_next N (wr (wr (wr h 65 36 0) 65 32 0) 65 27 0) hl).bind fun z1 => (lpN (fun s => B_MD_program_19 N s.1 s.2) N (z1.2.1, z1.2.2))) (fun x => MB h x.1 ∧ FinM (progA A) x.1) := by
  generalize hgg : wr (wr (wr h 65 36 0) 65 32 0) 65 27 0 = g0
  have b0 : MB h g0 := by
    rw [← hgg]
    exact ⟨(((Sam.refl _ h).wr (by decide)).wr (by decide)).wr (by decide), fun j a b => by rw [wr_k a, wr_k (by omega), wr_k (by omega)]⟩
  have z36 : g0 65 36 = 0 := by rw [← hgg, wr_k (by omega), wr_k (by omega), wr_s]
  have z32 : g0 65 32 = nI 0 := by rw [← hgg, wr_k (by omega), wr_s]; rfl
  have z27 : g0 65 27 = nI 0 := by rw [← hgg, wr_s]; rfl
  clear hgg
  have mtB : ∀ g, MB h g → MT A g := fun g b => ⟨(b.k 31 (by omega) (by omega)).trans mt.n, fun i hi => by rw [b.s 88 (by decide)]; exact mt.y i hi⟩
  generalize hR : progA A = R
  unfold progA at hR
  refine (m_next hN hw (mtB _ b0) z36 z32 (Nat.zero_le _)).bnd (fun z hz => ?_)
  obtain ⟨zf, zr⟩ := hz
  have inv : ∀ k g L tf kf b, MB h g → L ≤ 12 → k = 13 - L → qA A (14 - L) L tf kf (nxt A b) = R → MNx (nxt A b) g → b ≤ A.taped → g 65 27 = nI L → LnM L tf kf (g 86) (g 87) → MB h g ∧ ((∃ e, R = .inl e ∧ MFS e g) ∨ (∃ L tf kf tk bb, L ≤ 12 ∧ k = 13 - L ∧ qA A (14 - L) L tf kf tk = R ∧ tk.1 ≠ 7 ∧ MTk tk g ∧ TkOK A bb tk ∧ g 65 27 = nI L ∧ LnM L tf kf (g 86) (g 87))) := fun k g L tf kf b mb l12 hk hq mn hb g27 ln => by
    refine ⟨mb, ?_⟩
    rcases mn with ⟨a1, a2⟩ | ⟨a1, m⟩
    · rw [show 14 - L = (13 - L) + 1 by omega, qA_s, if_pos a1] at hq
      exact Or.inl ⟨_, hq.symm, a2⟩
    · exact Or.inr ⟨L, tf, kf, _, b, l12, hk, hq, a1, m, nxt_ok hb, g27, ln⟩
  have mbz : ∀ g g1, MB h g → ML 0 g g1 ∨ MF g g1 → MB h g1 := fun g g1 b x => by
    rcases x with x | x
    · exact ⟨b.s.trans x.s _ (fun _ q => q) (fun _ q => q), fun j p q => (x.k j p q).trans (b.k j p q)⟩
    · exact ⟨b.s.trans (x.s.sub (T := [65, 86, 87]) (by decide)) _ (fun _ q => q) (fun _ q => q), fun j p q => (x.k j q).trans (b.k j p q)⟩
  refine wp_lp (fun k s => MB h s.1 ∧ ((∃ e, R = .inl e ∧ MFS e s.1) ∨ (∃ L tf kf tk bb, L ≤ 12 ∧ k = 13 - L ∧ qA A (14 - L) L tf kf tk = R ∧ tk.1 ≠ 7 ∧ MTk tk s.1 ∧ TkOK A bb tk ∧ s.1 65 27 = nI L ∧ LnM L tf kf (s.1 86) (s.1 87)))) ?_ 13 _ N (inv 13 z.2.1 0 _ _ 0 (mbz _ _ b0 (Or.inr zf)) (by omega) rfl hR zr (Nat.zero_le _) ((zf.k 27 (by omega)).trans z27) (fun j hj => by omega)) (by omega)
  rintro k ⟨g, gl⟩ ⟨mb, (⟨e, e1, e2⟩ | ⟨L, tf, kf, tk, bb, l12, rfl, hq, n7, m, tok, g27, ln⟩)⟩
  · unfold B_MD_program_19
    dsimp only at *
    refine wp_neg e2.nz ?_
    rw [wp_some]
    exact ⟨mb, Or.inl ⟨e, e1, e2⟩⟩
  dsimp only at mb m g27 ln
  unfold B_MD_program_19
  dsimp only
  rw [show 14 - L = (13 - L) + 1 by omega, qA_s, if_neg n7] at hq
  refine wp_pos m.z ?_
  by_cases c0 : tk.1 = 0
  · rw [if_pos c0] at hq
    refine wp_pos (m.i0.mpr c0) ?_
    rw [wp_some]
    exact ⟨mb, Or.inr ⟨L, tf, kf, hq.symm, l12, m.z, g27, ln⟩⟩
  rw [if_neg c0] at hq
  refine wp_neg (fun q => c0 (m.i0.mp q)) ?_
  refine (m_line hN hw (mtB _ mb) ((mb.k 0 (by omega) (by omega)).trans w0) m tok n7 g27 l12).bnd (fun y hy => ?_)
  rw [wp_some]
  obtain ⟨yl, yr⟩ := hy
  have mb2 : MB h y.2.1 := ⟨mb.s.trans yl.s _ (fun _ q => q) (fun _ q => q), fun j p q => (yl.k j p q).trans (mb.k j p q)⟩
  rcases yr with ⟨e, e1, e2⟩ | ⟨t, kk, b2, e1, y86, y87, y27, hb, mn⟩
  · rw [e1, anT_l] at hq
    exact ⟨0, by omega, mb2, Or.inl ⟨e, hq.symm, e2⟩⟩
  · have ll := lineA_lt e1
    rw [e1, anT_r] at hq
    refine ⟨13 - (L + 1), by omega, inv _ _ (L + 1) _ _ b2 mb2 (by omega) rfl (by rw [show 14 - (L + 1) = 13 - L by omega]; exact hq) mn hb y27 (fun j hj => ?_)⟩
    dsimp only
    by_cases q : j = L
    · subst q
      rw [if_pos rfl, if_pos rfl]
      exact ⟨y86, y87⟩
    · rw [if_neg q, if_neg q, yl.t j q, yl.u j q]
      exact ln j (by omega)
