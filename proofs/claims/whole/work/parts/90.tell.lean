/-! the class's programs -/
abbrev CL (L : Nat) (h h1 : HI) : Prop :=
  (Sam [43, 44, 45] h h1) ∧
  (h1 43 0 = h 43 0) ∧
  (h1 43 7 = h 43 7) ∧
  (∀ j, j ≠ L → h1 44 j = h 44 j) ∧
  (∀ j, j ≠ L → h1 45 j = h 45 j)
theorem CL.s {L : Nat} {h h1 : HI} (h_ : CL L h h1) : Sam [43, 44, 45] h h1 := h_.1
theorem CL.z {L : Nat} {h h1 : HI} (h_ : CL L h h1) : h1 43 0 = h 43 0 := h_.2.1
theorem CL.w {L : Nat} {h h1 : HI} (h_ : CL L h h1) : h1 43 7 = h 43 7 := h_.2.2.1
theorem CL.t {L : Nat} {h h1 : HI} (h_ : CL L h h1) : ∀ j, j ≠ L → h1 44 j = h 44 j := h_.2.2.2.1
theorem CL.k {L : Nat} {h h1 : HI} (h_ : CL L h h1) : ∀ j, j ≠ L → h1 45 j = h 45 j := h_.2.2.2.2
theorem CW.cl {h h1 : HI} (x : CW h h1) (L : Nat) : CL L h h1 := ⟨x.s.sub (by decide), x.z, x.w, fun j _ => by rw [x.s 44 (by decide)], fun j _ => by rw [x.s 45 (by decide)]⟩
theorem CL.trans {L : Nat} {h h1 h2 : HI} (x : CL L h h1) (y : CL L h1 h2) : CL L h h2 := ⟨x.s.trans y.s _ (fun _ q => q) (fun _ q => q), y.z.trans x.z, y.w.trans x.w, fun j hj => (y.t j hj).trans (x.t j hj), fun j hj => (y.k j hj).trans (x.k j hj)⟩
theorem CT.cl {A : St} {L : Nat} {h h1 : HI} (ct : CT A h) (x : CL L h h1) : CT A h1 := ⟨x.z.trans ct.n, fun i hi => by rw [x.s 46 (by decide)]; exact ct.y i hi⟩
def LR (A : St) (L : Nat) (R : (Nat × Nat) ⊕ (Nat × Nat × Nat)) (h : HI) (o : Int32 × HI × HL) : Prop := CL L h o.2.1 ∧ ((∃ e, R = .inl e ∧ o.1 = 0 ∧ FltS e o.2.1) ∨ (∃ t k b2, R = .inr (t, k, b2) ∧ o.1 = 1 ∧ o.2.1 43 1 = 0 ∧ o.2.1 43 3 = nI (L + 1) ∧ o.2.1 43 10 = nI b2 ∧ b2 ≤ A.taped ∧ o.2.1 44 L = nI t ∧ o.2.1 45 L = nI k ∧ t < 3 ^ A.w ∧ 1 ≤ k ∧ k ≤ 60))
theorem LR.o {A : St} {L : Nat} {R : (Nat × Nat) ⊕ (Nat × Nat × Nat)} {h : HI} {o : Int32 × HI × HL} (x : LR A L R h o) : o.1 = 0 ∨ o.1 = 1 := by
  rcases x.2 with ⟨_, _, q, _⟩ | ⟨_, _, _, _, q, _⟩
  · exact Or.inl q
  · exact Or.inr q
theorem LR.of {A : St} {L : Nat} {R : (Nat × Nat) ⊕ (Nat × Nat × Nat)} {h h1 : HI} {o : Int32 × HI × HL} (y : CL L h h1) (x : LR A L R h1 o) : LR A L R h o := ⟨y.trans x.1, x.2⟩
theorem c_J34 {N : Nat} {A : St} {L : Nat} {g : HI} {gl : HL} {p : Nat} (g9 : g 43 9 = nI p) : wp (J_Tape_readTicks_34 N g gl) (fun o => LR A L (.inl (3, p)) g o) := by
  unfold J_Tape_readTicks_34 f_Tape_refuse
  rw [Option.bind_some]
  dsimp only
  rw [if_pos (Or.inl rfl), wp_some]
  refine ⟨(((CW.refl g).wr (by omega) (by omega) (by omega) _).wr (by omega) (by omega) (by omega) _).cl L, Or.inl ⟨_, rfl, rfl, ?_, ?_, by dsimp only; omega, by dsimp only; omega⟩⟩
  · dsimp only; rw [wr_k (by omega), wr_s]; rfl
  · dsimp only; rw [wr_s, wr_k (by omega)]; exact g9
theorem c_ticks {N : Nat} (hN : 70000 ≤ N) {A : St} (hw : WF A) {h : HI} {hl : HL} (ct : CT A h) {tn b L : Nat} (h1 : h 43 1 = 0) (h3 : h 43 3 = nI L) (hL : L < 12) (h10 : h 43 10 = nI b) (hb : b ≤ A.taped) (h13 : h 43 13 = nI tn) (ht : tn < 3 ^ A.w) : wp (f_Tape_readTicks N h hl) (fun o => LR A L (ticksA A tn b) h o) := by
  unfold f_Tape_readTicks ticksA
  have t2 := hw.t200
  have ok := nxt_ok hb
  refine (c_next hN hw ct h1 h10 hb).bnd (fun z hz => ?_)
  obtain ⟨zf, zr⟩ := hz
  rcases zr.c with ⟨a1, a2, a3⟩ | ⟨a1, a2, a3⟩
  · rw [if_pos a1]
    refine wp_pos a2 ?_
    rw [wp_some]
    exact ⟨zf.cw.cl L, Or.inl ⟨_, rfl, rfl, a3⟩⟩
  rw [if_neg a1]
  refine wp_neg (by rw [a2]; decide) ?_
  refine (c_is (k := 1) a3 (by omega) ok.k).bnd (fun y hy => ?_)
  rcases hy with ⟨b1, rfl⟩ | ⟨b1, b2, b3, b4⟩
  case inr =>
    rw [if_pos b1]
    refine wp_pos b2 ?_
    rw [wp_some]
    exact ⟨(zf.cw.trans b3).cl L, Or.inl ⟨_, rfl, rfl, b4⟩⟩
  rw [if_neg (show ¬ (nxt A b).1 ≠ 1 by omega)]
  refine wp_neg (show ¬ (1 : Int32) = 0 by decide) ?_
  dsimp only
  have v9 := ok.v b1
  have te := ok.e (by omega) (by omega)
  have g11 := a3.v b1
  have g9 := a3.p
  have g10 := a3.e (by omega)
  have g1 := a3.z
  have g3 := zf.cw.l.trans h3
  have g13 := zf.m.2.trans h13
  have cl := zf.cw.cl L
  have ct1 := ct.cl cl
  generalize z.2.1 = g at *
  generalize (nxt A b).2.2.2 = v at *
  generalize (nxt A b).2.1 = p at *
  generalize (nxt A b).2.2.1 = b2 at *
  by_cases c1 : v < 1
  · rw [if_pos (Or.inl c1)]
    refine wp_pos (by rw [g11]; exact nI_lt (b := 1) c1 (by omega)) ?_
    exact (c_J34 g9).mono (fun o ho => ho.of cl)
  refine wp_neg (by rw [g11]; exact nI_nlt (b := 1) (by omega) (by omega)) ?_
  by_cases c2 : 60 < v
  · rw [if_pos (Or.inr c2)]
    refine wp_neg (by rw [g11]; exact nI_ge (a := 60) c2 (by omega)) ?_
    exact (c_J34 g9).mono (fun o ho => ho.of cl)
  rw [if_neg (show ¬ (v < 1 ∨ 60 < v) by omega)]
  refine wp_pos (by rw [g11]; exact nI_le (b := 60) (by omega) (by omega)) ?_
  have k3 : ∀ i u, wr g 44 i u 43 3 = nI L := fun i u => by rw [wr_o (by omega)]; exact g3
  have k11 : ∀ i u, wr g 44 i u 43 11 = nI v := fun i u => by rw [wr_o (by omega)]; exact g11
  refine wp_neg (by rw [g3]; exact nI_in hL (by omega)) (wp_neg (by rw [k3]; exact nI_in hL (by omega)) ?_)
  rw [k3, k11, g3, g13, nI_clamp (by omega)]
  generalize hgg : wr (wr g 44 L (nI tn)) 45 L (nI v) = gg
  have o : ∀ a, a ≠ 44 → a ≠ 45 → gg a = g a := fun a q1 q2 => by rw [← hgg, wr_o q2, wr_o q1]
  have cl2 : CL L g gg := by
    refine ⟨fun a ha => o a (fun q => ha (by rw [q]; decide)) (fun q => ha (by rw [q]; decide)), by rw [o 43 (by omega) (by omega)], by rw [o 43 (by omega) (by omega)], fun j hj => ?_, fun j hj => ?_⟩
    · rw [← hgg, wr_o (by omega), wr_k hj]
    · rw [← hgg, wr_k hj, wr_o (by omega)]
  have k44 : gg 44 L = nI tn := by rw [← hgg, wr_o (by omega), wr_s]
  have k45 : gg 45 L = nI v := by rw [← hgg, wr_s]
  have ok2 := nxt_ok (A := A) te.2
  refine (c_next hN hw (ct1.cl cl2) (by rw [o 43 (by omega) (by omega)]; exact g1) (by rw [o 43 (by omega) (by omega)]; exact g10) te.2).bnd (fun u hu => ?_)
  obtain ⟨uf, ur⟩ := hu
  rcases ur.c with ⟨e1, e2, e3⟩ | ⟨e1, e2, e3⟩
  · rw [if_pos e1]
    refine wp_pos e2 ?_
    rw [wp_some]
    exact ⟨(cl.trans cl2).trans (uf.cw.cl L), Or.inl ⟨_, rfl, rfl, e3⟩⟩
  rw [if_neg e1]
  refine wp_neg (by rw [e2]; decide) ?_
  refine (c_is (k := 2) e3 (by omega) ok2.k).bnd (fun y hy => ?_)
  rcases hy with ⟨b1', rfl⟩ | ⟨b1', b2', b3, b4⟩
  · rw [if_neg (show ¬ (nxt A b2).1 ≠ 2 by omega)]
    refine wp_neg (show ¬ (1 : Int32) = 0 by decide) ?_
    rw [wp_some]
    have cl3 := (cl.trans cl2).trans (uf.cw.cl L)
    refine ⟨⟨cl3.s.wr (by decide), by dsimp only; rw [wr_k (by omega)]; exact cl3.z, by dsimp only; rw [wr_k (by omega)]; exact cl3.w, (fun j hj => by dsimp only; rw [wr_o (by omega)]; exact cl3.t j hj), (fun j hj => by dsimp only; rw [wr_o (by omega)]; exact cl3.k j hj)⟩, Or.inr ⟨tn, v, _, rfl, rfl, ?_, ?_, ?_, (ok2.e (by omega) (by omega)).2, ?_, ?_, ht, by omega, by omega⟩⟩
    · dsimp only; rw [wr_k (by omega)]; exact e3.z
    · dsimp only; rw [wr_s, uf.cw.l, o 43 (by omega) (by omega), g3, nI_1]
    · dsimp only; rw [wr_k (by omega)]; exact e3.e (by omega)
    · dsimp only; rw [wr_o (by omega), uf.s 44 (by decide)]; exact k44
    · dsimp only; rw [wr_o (by omega), uf.s 45 (by decide)]; exact k45
  · rw [if_pos b1']
    refine wp_pos b2' ?_
    rw [wp_some]
    exact ⟨(cl.trans cl2).trans ((uf.cw.trans b3).cl L), Or.inl ⟨_, rfl, rfl, b4⟩⟩
theorem c_J76 {N : Nat} (hN : 70000 ≤ N) {A : St} (hw : WF A) {h : HI} {hl : HL} (ct : CT A h) {tn b L : Nat} (h1 : h 43 1 = 0) (h3 : h 43 3 = nI L) (hL : L < 12) (h10 : h 43 10 = nI b) (hb : b ≤ A.taped) (h13 : h 43 13 = nI tn) (ht : tn < 3 ^ A.w) : wp (J_Tape_readLine_76 N h hl) (fun o => LR A L (ticksA A tn b) h o) := by
  unfold J_Tape_readLine_76
  refine (c_ticks hN hw ct h1 h3 hL h10 hb h13 ht).bnd (fun z hz => ?_)
  rw [if_pos hz.o, wp_some]
  exact hz
theorem c_line {N : Nat} (hN : 70000 ≤ N) {A : St} (hw : WF A) {h : HI} {hl : HL} (ct : CT A h) {L bb : Nat} {tk : Tokn} (ts : TkS tk h) (tok : TkOK A bb tk) (h3 : h 43 3 = nI L) (hL : L ≤ 12) (h7 : h 43 7 = nI A.w) : wp (f_Tape_readLine N h hl) (fun o => LR A L (lineA A L tk) h o ∧ ((∃ x, lineA A L tk = .inr x) → L < 12)) := by
  have k7 := tok.k
  have bad : ∀ f, 1 ≤ f → f ≤ 5 → lineA A L tk = .inl (f, tk.2.1) → wp ((f_Tape_refuse N (nI f) h hl).bind fun z => if z.1 = 0 ∨ z.1 = 1 then some (z.1, z.2.1, z.2.2) else none) (fun o => LR A L (lineA A L tk) h o ∧ ((∃ x, lineA A L tk = .inr x) → L < 12)) := fun f f1 f5 e => by
    unfold f_Tape_refuse
    rw [Option.bind_some]
    dsimp only
    rw [if_pos (Or.inl rfl), wp_some, e]
    refine ⟨⟨(((CW.refl h).wr (by omega) (by omega) (by omega) _).wr (by omega) (by omega) (by omega) _).cl L, Or.inl ⟨_, rfl, rfl, ?_, ?_, f1, f5⟩⟩, fun ⟨x, q⟩ => by cases q⟩
    · dsimp only; rw [wr_k (by omega), wr_s]
    · dsimp only; rw [wr_s, wr_k (by omega)]; exact ts.p
  have go : tk.1 = 3 ∨ tk.1 = 6 → wp (J_Tape_readLine_23 N h hl) (fun o => LR A L (lineA A L tk) h o ∧ ((∃ x, lineA A L tk = .inr x) → L < 12)) := fun k36 => by
    unfold J_Tape_readLine_23
    by_cases c : 12 ≤ L
    · refine wp_neg (by rw [h3]; exact nI_nlt (b := 12) c (by omega)) ?_
      exact bad 5 (by omega) (by omega) (by unfold lineA; rw [if_neg (by omega), if_pos c])
    refine wp_pos (by rw [h3]; exact nI_lt (b := 12) (by omega) (by omega)) ?_
    generalize hgg : wr (wr h 43 12 0) 43 13 0 = g
    have ka : ∀ j, j ≠ 12 → j ≠ 13 → g 43 j = h 43 j := fun j q1 q2 => by rw [← hgg, wr_k q2, wr_k q1]
    have cw : CW h g := by rw [← hgg]; exact ((CW.refl h).wr (by omega) (by omega) (by omega) _).wr (by omega) (by omega) (by omega) _
    have kb : g 43 12 = nI 0 := by rw [← hgg, wr_k (by omega), wr_s]; rfl
    have kc : g 43 13 = nI 0 := by rw [← hgg, wr_s]; rfl
    have te := tok.e (by omega) (by omega)
    have g10 := (ka 10 (by omega) (by omega)).trans (ts.e (by omega))
    have g1 := (ka 1 (by omega) (by omega)).trans ts.z
    have g8 := (ka 8 (by omega) (by omega)).trans ts.k
    have g3 := cw.l.trans h3
    have g7 := cw.w.trans h7
    have ct1 := ct.cw cw
    refine wp.mono (P := fun o => LR A L (lineA A L tk) h o) ?_ (fun o ho => ⟨ho, fun _ => by omega⟩)
    unfold lineA
    rw [if_neg (show ¬ (tk.1 ≠ 3 ∧ tk.1 ≠ 6) by omega), if_neg c]
    by_cases c3 : tk.1 = 3
    case neg =>
      rw [if_neg c3]
      refine wp_neg (by rw [g8]; exact fun q => c3 ((nI_eq (b := 3) (by omega) (by omega)).mp q)) ?_
      exact (c_J76 hN hw ct1 g1 g3 (by omega) g10 te.2 kc (Nat.pow_pos (by decide))).mono (fun o ho => ho.of (cw.cl L))
    rw [if_pos c3]
    refine wp_pos (by rw [g8, c3]; rfl) ?_
    refine (c_wires hN hw (fg := 1) (fol := 4) ct1 (by omega) (by omega) (by omega) g1 g7 g10 te.2 kb kc MkOK.z).bnd (fun z hz => ?_)
    obtain ⟨z1, z2⟩ := hz
    rcases z2 with ⟨e, y1, y2, y3⟩ | ⟨t, b2, m2, y1, y2, y3, y4, y5, y6, y7, y8⟩
    · refine wp_pos y2 ?_
      rw [wp_some, y1, anT_l]
      exact ⟨(cw.trans z1).cl L, Or.inl ⟨e, rfl, rfl, y3⟩⟩
    rw [y1, anT_r]
    refine wp_neg (by rw [y2]; decide) ?_
    have cw2 := cw.trans z1
    refine (c_wires hN hw (fg := 2) (fol := 5) (ct.cw cw2) (by omega) (by omega) (by omega) y3 (cw2.w.trans h7) y4 y5 y6 y7 y8).bnd (fun u hu => ?_)
    obtain ⟨u1, u2⟩ := hu
    rcases u2 with ⟨e, x1, x2, x3⟩ | ⟨t', b3, m3, x1, x2, x3, x4, x5, x6, x7, x8⟩
    · refine wp_pos x2 ?_
      rw [wp_some, x1, anT_l]
      exact ⟨(cw2.trans u1).cl L, Or.inl ⟨e, rfl, rfl, x3⟩⟩
    rw [x1, anT_r]
    refine wp_neg (by rw [x2]; decide) ?_
    have cw3 := cw2.trans u1
    exact (c_J76 hN hw (ct.cw cw3) x3 (cw3.l.trans h3) (by omega) x4 x5 x7 x8.t).mono (fun o ho => ho.of (cw3.cl L))
  unfold f_Tape_readLine
  by_cases c3 : tk.1 = 3
  · exact wp_pos (by rw [ts.k, c3]; rfl) (go (Or.inl c3))
  refine wp_neg (by rw [ts.k]; exact fun q => c3 ((nI_eq (b := 3) (by omega) (by omega)).mp q)) ?_
  by_cases c6 : tk.1 = 6
  · exact wp_pos (by rw [ts.k, c6]; rfl) (go (Or.inr c6))
  refine wp_neg (by rw [ts.k]; exact fun q => c6 ((nI_eq (b := 6) (by omega) (by omega)).mp q)) ?_
  exact bad 2 (by omega) (by omega) (by unfold lineA; rw [if_pos ⟨c3, c6⟩])
theorem qA_s (A : St) (k L : Nat) (tf kf : Nat → Nat) (tk : Tokn) : qA A (k + 1) L tf kf tk = if tk.1 = 7 then .inl (1, tk.2.1) else if tk.1 = 0 then .inr (L, tf, kf) else anT (lineA A L tk) (fun x => qA A k (L + 1) (fun j => if j = L then x.1 else tf j) (fun j => if j = L then x.2.1 else kf j) (nxt A x.2.2)) := rfl
/-- the lines that were read -/
def LnC (A : St) (L : Nat) (tf kf : Nat → Nat) (t k : Nat → Int32) : Prop := ∀ j, j < L → t j = nI (tf j) ∧ k j = nI (kf j) ∧ tf j < 3 ^ A.w ∧ 1 ≤ kf j ∧ kf j ≤ 60
def FinC (A : St) (R : (Nat × Nat) ⊕ (Nat × (Nat → Nat) × (Nat → Nat))) (g : HI) : Prop := (∃ e, R = .inl e ∧ FltS e g) ∨ (∃ L tf kf, R = .inr (L, tf, kf) ∧ L ≤ 12 ∧ g 43 1 = 0 ∧ g 43 3 = nI L ∧ LnC A L tf kf (g 44) (g 45))
theorem c_tell {N : Nat} (hN : 70000 ≤ N) {A : St} (hw : WF A) {h : HI} {hl : HL} (ct : CT A h) : wp (f_Tape_tell N (nI A.w) h hl) (fun o => Sam [43, 44, 45] h o.2.1 ∧ o.2.1 43 0 = h 43 0 ∧ FinC A (progA A) o.2.1) := by
  unfold f_Tape_tell
  have t2 := hw.t200
  generalize hgg : wr (wr (wr (wr (wr h 43 7 (nI A.w)) 43 1 0) 43 2 0) 43 3 0) 43 10 0 = g0
  have s0 : Sam [43, 44, 45] h g0 := by rw [← hgg]; exact (((((Sam.refl _ h).wr (by decide)).wr (by decide)).wr (by decide)).wr (by decide)).wr (by decide)
  have z0 : g0 43 0 = h 43 0 := by rw [← hgg, wr_k (by omega), wr_k (by omega), wr_k (by omega), wr_k (by omega), wr_k (by omega)]
  have w0 : g0 43 7 = nI A.w := by rw [← hgg, wr_k (by omega), wr_k (by omega), wr_k (by omega), wr_k (by omega), wr_s]
  have f0 : g0 43 1 = 0 := by rw [← hgg, wr_k (by omega), wr_k (by omega), wr_k (by omega), wr_s]
  have l0 : g0 43 3 = nI 0 := by rw [← hgg, wr_k (by omega), wr_s]; rfl
  have b0 : g0 43 10 = nI 0 := by rw [← hgg, wr_s]; rfl
  have ct0 : CT A g0 := ⟨z0.trans ct.n, fun i hi => by rw [s0 46 (by decide)]; exact ct.y i hi⟩
  clear hgg
  refine wp.bnd (P := fun x => Sam [43, 44, 45] h x.1 ∧ x.1 43 0 = h 43 0 ∧ FinC A (progA A) x.1) ?_ (fun x hx => by rw [wp_some]; exact hx)
  generalize hR : progA A = R
  unfold progA at hR
  refine wp_lp (fun k s => ∃ mo i g gl, s = (mo, nI i, g, gl) ∧ i ≤ 13 ∧ k = 13 - i ∧ Sam [43, 44, 45] h g ∧ g 43 0 = h 43 0 ∧ g 43 7 = nI A.w ∧ ((mo = 0 ∧ FinC A R g) ∨ (mo = 1 ∧ ∃ tf kf b, i ≤ 12 ∧ qA A (14 - i) i tf kf (nxt A b) = R ∧ g 43 1 = 0 ∧ g 43 3 = nI i ∧ g 43 10 = nI b ∧ b ≤ A.taped ∧ LnC A i tf kf (g 44) (g 45)))) ?_ 13 _ N ⟨1, 0, _, _, rfl, by omega, rfl, s0, z0, w0, Or.inr ⟨rfl, _, _, 0, by omega, hR, f0, l0, b0, Nat.zero_le _, fun j hj => by omega⟩⟩ (by omega)
  rintro k s ⟨mo, i, g, gl, rfl, i1, rfl, sm, z, w, hm⟩
  unfold B_Tape_tell_29
  dsimp only
  rcases hm with ⟨rfl, fin⟩ | ⟨rfl, tf, kf, b, i2, hr, g1, g3, g10, hb, ln⟩
  · by_cases c : i ≤ 12
    · refine wp_neg (nI_nlt (a := 12) c (by omega)) (wp_pos rfl ?_)
      rw [wp_some]
      exact ⟨sm, z, fin⟩
    · refine wp_pos (nI_lt (a := 12) (by omega) (by omega)) ?_
      rw [wp_some]
      exact ⟨sm, z, fin⟩
  refine wp_neg (nI_nlt (a := 12) i2 (by omega)) (wp_neg (by decide) ?_)
  rw [show 14 - i = (13 - i) + 1 by omega, qA_s] at hr
  have ctg : CT A g := ⟨z.trans ct.n, fun i hi => by rw [sm 46 (by decide)]; exact ct.y i hi⟩
  have ok := nxt_ok hb
  refine (c_next hN hw ctg g1 g10 hb).bnd (fun u hu => ?_)
  obtain ⟨uf, ur⟩ := hu
  have us := uf.s.sub (T := [43, 44, 45]) (by decide)
  have sm2 : Sam [43, 44, 45] h u.2.1 := sm.trans us _ (fun _ q => q) (fun _ q => q)
  have z2 := uf.cw.z.trans z
  have w2 := uf.cw.w.trans w
  have e44 := uf.s 44 (by decide)
  have e45 := uf.s 45 (by decide)
  rcases ur.c with ⟨e1, e2, e3⟩ | ⟨e1, e2, e3⟩
  · rw [if_pos e1] at hr
    refine wp_pos e2 ?_
    unfold J_Tape_tell_64 J_Tape_tell_65
    rw [wp_some]
    exact ⟨13 - (i + 1), by omega, 0, i + 1, _, _, by rw [nI_1], by omega, rfl, sm2, z2, w2, Or.inl ⟨rfl, Or.inl ⟨_, hr.symm, e3⟩⟩⟩
  rw [if_neg e1] at hr
  refine wp_neg (by rw [e2]; decide) ?_
  by_cases c0 : (nxt A b).1 = 0
  · rw [if_pos c0] at hr
    refine wp_pos (by rw [e3.k, c0]; rfl) ?_
    unfold J_Tape_tell_64 J_Tape_tell_65
    rw [wp_some]
    refine ⟨13 - (i + 1), by omega, 0, i + 1, _, _, by rw [nI_1], by omega, rfl, sm2, z2, w2, Or.inl ⟨rfl, Or.inr ⟨i, tf, kf, hr.symm, i2, e3.z, uf.cw.l.trans g3, ?_⟩⟩⟩
    rw [e44, e45]; exact ln
  rw [if_neg c0] at hr
  refine wp_neg (by rw [e3.k]; exact fun q => c0 ((nI_eq (b := 0) (by have := ok.k; omega) (by omega)).mp q)) ?_
  refine (c_line hN hw (ctg.of uf) e3 ok (uf.cw.l.trans g3) i2 w2).bnd (fun v hv => ?_)
  obtain ⟨⟨v1, v2⟩, v3⟩ := hv
  have sm3 : Sam [43, 44, 45] h v.2.1 := sm2.trans v1.s _ (fun _ q => q) (fun _ q => q)
  have z3 := v1.z.trans z2
  have w3 := v1.w.trans w2
  rcases v2 with ⟨e, y1, y2, y3⟩ | ⟨t, kk, b2, y1, y2, y3, y4, y5, y6, y7, y8, y9, x1, x2⟩
  · rw [y1, anT_l] at hr
    refine wp_pos y2 ?_
    unfold J_Tape_tell_64 J_Tape_tell_65
    rw [wp_some]
    exact ⟨13 - (i + 1), by omega, 0, i + 1, _, _, by rw [nI_1], by omega, rfl, sm3, z3, w3, Or.inl ⟨rfl, Or.inl ⟨_, hr.symm, y3⟩⟩⟩
  · have l12 := v3 ⟨_, y1⟩
    rw [y1, anT_r] at hr
    refine wp_neg (by rw [y2]; decide) ?_
    unfold J_Tape_tell_65
    rw [wp_some]
    refine ⟨13 - (i + 1), by omega, 1, i + 1, _, _, by rw [nI_1], by omega, rfl, sm3, z3, w3, Or.inr ⟨rfl, _, _, b2, by omega, by rw [show 14 - (i + 1) = 13 - i by omega]; exact hr, y3, y4, y5, y6, fun j hj => ?_⟩⟩
    dsimp only
    by_cases q : j = i
    · subst q
      rw [if_pos rfl, if_pos rfl]
      exact ⟨y7, y8, y9, x1, x2⟩
    · rw [if_neg q, if_neg q, v1.t j q, v1.k j q, e44, e45]
      exact ln j (by omega)
