/-! the class's lines -/
abbrev TkS (tk : Tokn) (g : HI) : Prop :=
  (g 43 1 = 0) ∧
  (g 43 8 = nI tk.1) ∧
  (g 43 9 = nI tk.2.1) ∧
  (tk.1 ≠ 0 → g 43 10 = nI tk.2.2.1) ∧
  (tk.1 = 1 → g 43 11 = nI tk.2.2.2)
theorem TkS.z {tk : Tokn} {g : HI} (h_ : TkS tk g) : g 43 1 = 0 := h_.1
theorem TkS.k {tk : Tokn} {g : HI} (h_ : TkS tk g) : g 43 8 = nI tk.1 := h_.2.1
theorem TkS.p {tk : Tokn} {g : HI} (h_ : TkS tk g) : g 43 9 = nI tk.2.1 := h_.2.2.1
theorem TkS.e {tk : Tokn} {g : HI} (h_ : TkS tk g) : tk.1 ≠ 0 → g 43 10 = nI tk.2.2.1 := h_.2.2.2.1
theorem TkS.v {tk : Tokn} {g : HI} (h_ : TkS tk g) : tk.1 = 1 → g 43 11 = nI tk.2.2.2 := h_.2.2.2.2
abbrev FltS (e : Nat × Nat) (g : HI) : Prop :=
  (g 43 1 = nI e.1) ∧
  (g 43 2 = nI e.2) ∧
  (1 ≤ e.1) ∧
  (e.1 ≤ 5)
theorem FltS.k {e : Nat × Nat} {g : HI} (h_ : FltS e g) : g 43 1 = nI e.1 := h_.1
theorem FltS.p {e : Nat × Nat} {g : HI} (h_ : FltS e g) : g 43 2 = nI e.2 := h_.2.1
theorem FltS.a {e : Nat × Nat} {g : HI} (h_ : FltS e g) : 1 ≤ e.1 := h_.2.2.1
theorem FltS.b {e : Nat × Nat} {g : HI} (h_ : FltS e g) : e.1 ≤ 5 := h_.2.2.2
theorem NxR.c {tk : Tokn} {o : Int32} {g : HI} (h : NxR tk o g) : (tk.1 = 7 ∧ o = 0 ∧ FltS (1, tk.2.1) g) ∨ (tk.1 ≠ 7 ∧ o = 1 ∧ TkS tk g) := by
  rcases h with ⟨a1, a2, a3, a4⟩ | ⟨a1, a2, a3, a4, a5, a6, a7⟩
  · exact Or.inl ⟨a1, a2, a3, a4, Nat.le_refl _, by dsimp only; omega⟩
  · exact Or.inr ⟨a1, a2, a3, a4, a5, a6, a7⟩
/-- the slots of the tape that a line's wires leave as they are -/
abbrev CW (h h1 : HI) : Prop :=
  (Sam [43] h h1) ∧
  (h1 43 0 = h 43 0) ∧
  (h1 43 3 = h 43 3) ∧
  (h1 43 7 = h 43 7)
theorem CW.s {h h1 : HI} (h_ : CW h h1) : Sam [43] h h1 := h_.1
theorem CW.z {h h1 : HI} (h_ : CW h h1) : h1 43 0 = h 43 0 := h_.2.1
theorem CW.l {h h1 : HI} (h_ : CW h h1) : h1 43 3 = h 43 3 := h_.2.2.1
theorem CW.w {h h1 : HI} (h_ : CW h h1) : h1 43 7 = h 43 7 := h_.2.2.2
theorem NxF.cw {h h1 : HI} (x : NxF h h1) : CW h h1 := ⟨x.s, x.k 0 (by decide) (by decide) (by decide) (by decide) (by decide) (by decide), x.k 3 (by decide) (by decide) (by decide) (by decide) (by decide) (by decide), x.k 7 (by decide) (by decide) (by decide) (by decide) (by decide) (by decide)⟩
theorem CW.refl (h : HI) : CW h h := ⟨Sam.refl _ _, rfl, rfl, rfl⟩
theorem CW.trans {h h1 h2 : HI} (x : CW h h1) (y : CW h1 h2) : CW h h2 := ⟨x.s.trans y.s _ (fun _ q => q) (fun _ q => q), y.z.trans x.z, y.l.trans x.l, y.w.trans x.w⟩
theorem CW.wr {h h1 : HI} (x : CW h h1) {j : Nat} (h0 : j ≠ 0) (h3 : j ≠ 3) (h7 : j ≠ 7) (v : Int32) : CW h (wr h1 43 j v) := ⟨x.s.wr (by decide), by rw [wr_k (Ne.symm h0)]; exact x.z, by rw [wr_k (Ne.symm h3)]; exact x.l, by rw [wr_k (Ne.symm h7)]; exact x.w⟩
theorem CT.cw {A : St} {h h1 : HI} (ct : CT A h) (x : CW h h1) : CT A h1 := ⟨x.z.trans ct.n, fun i hi => by rw [x.s 46 (by decide)]; exact ct.y i hi⟩
/-- the wires that a turn drives, as bits -/
abbrev MkOK (A : St) (tn m : Nat) : Prop :=
  (m < 2 ^ 6) ∧
  (tn < 3 ^ A.w) ∧
  (∀ x, m.testBit x = true ↔ fig tn x ≠ 0)
theorem MkOK.m {A : St} {tn m : Nat} (h_ : MkOK A tn m) : m < 2 ^ 6 := h_.1
theorem MkOK.t {A : St} {tn m : Nat} (h_ : MkOK A tn m) : tn < 3 ^ A.w := h_.2.1
theorem MkOK.b {A : St} {tn m : Nat} (h_ : MkOK A tn m) : ∀ x, m.testBit x = true ↔ fig tn x ≠ 0 := h_.2.2
theorem MkOK.z {A : St} : MkOK A 0 0 := ⟨by decide, Nat.pow_pos (by decide), fun x => by rw [Nat.zero_testBit, fig_z]; simp⟩
theorem MkOK.add {A : St} (hw : WF A) {tn m c x : Nat} (h : MkOK A tn m) (c1 : 1 ≤ c) (c2 : c ≤ 2) (hx : x < A.w) (hf : fig tn x = 0) : MkOK A (tn + c * 3 ^ x) (m ||| 2 ^ x) := by
  have w6 := hw.w6
  refine ⟨Nat.or_lt_two_pow h.m (Nat.pow_lt_pow_right (by decide) (by omega)), fig_bnd c2 x tn A.w hx h.t hf, fun y => ?_⟩
  rw [fig_add c2 x tn y hf, Nat.testBit_or, Bool.or_eq_true, h.b, Nat.testBit_two_pow]
  by_cases d : y = x
  · rw [if_pos d]
    simp [d]
    omega
  · rw [if_neg d]
    simp [show ¬ x = y from fun q => d q.symm]
theorem c_wire1 {N : Nat} {A : St} (hw : WF A) {g : HI} {gl : HL} {fg v p tn m : Nat} (f1 : 1 ≤ fg) (f2 : fg ≤ 2) (g1 : g 43 1 = 0) (g11 : g 43 11 = nI v) (hv : v ≤ 99) (g7 : g 43 7 = nI A.w) (g9 : g 43 9 = nI p) (g12 : g 43 12 = nI m) (g13 : g 43 13 = nI tn) (mk : MkOK A tn m) : wp (f_Tape_takeWire N (nI fg) g gl) (fun o => (A.w ≤ v ∧ o.1 = 0 ∧ CW g o.2.1 ∧ FltS (3, p) o.2.1) ∨ (v < A.w ∧ fig tn v ≠ 0 ∧ o.1 = 0 ∧ CW g o.2.1 ∧ FltS (4, p) o.2.1) ∨ (v < A.w ∧ fig tn v = 0 ∧ o.1 = 1 ∧ o.2.1 = wr (wr g 43 12 (nI (m ||| 2 ^ v))) 43 13 (nI (tn + fg * 3 ^ v)))) := by
  unfold f_Tape_takeWire
  have w6 := hw.w6
  have m6 := mk.m
  by_cases c : A.w ≤ v
  · refine wp_neg (by rw [g11, g7]; exact nI_nlt c (by omega)) ?_
    unfold f_Tape_refuse
    rw [Option.bind_some]
    dsimp only
    rw [if_pos (Or.inl rfl), wp_some]
    refine Or.inl ⟨c, rfl, ((CW.refl g).wr (by omega) (by omega) (by omega) _).wr (by omega) (by omega) (by omega) _, ?_, ?_, by dsimp only; omega, by dsimp only; omega⟩
    · dsimp only; rw [wr_k (by omega), wr_s]; rfl
    · dsimp only; rw [wr_s, wr_k (by omega)]; exact g9
  · refine wp_pos (by rw [g11, g7]; exact nI_lt (by omega) (by omega)) ?_
    by_cases d : fig tn v = 0
    · have bt : m.testBit v = false := by
        cases q : m.testBit v with
        | false => rfl
        | true => exact absurd d ((mk.b v).mp q)
      refine wp_pos (by rw [g11, g12]; exact (ni_bit (by omega) (by omega)).mpr bt) ?_
      have k11 : ∀ u, wr g 43 12 u 43 11 = nI v := fun u => by rw [wr_k (by omega)]; exact g11
      have k13 : ∀ u, wr g 43 12 u 43 13 = nI tn := fun u => by rw [wr_k (by omega)]; exact g13
      refine wp_neg (by rw [k11]; exact nI_in (by omega) (by omega)) ?_
      rw [wp_some]
      refine Or.inr (Or.inr ⟨by omega, d, rfl, ?_⟩)
      dsimp only
      rw [k11, k13, g11, g12, nI_clamp (by omega), powT_eq v (by omega), show ((1 : Int32) <<< (nI v &&& 31)) = nI (2 ^ v) from ni_one (by omega), fa_or, pk_mul, nI_add]
    · have bt : m.testBit v = true := (mk.b v).mpr d
      refine wp_neg (by rw [g11, g12]; exact fun q => by rw [(ni_bit (n := m) (j := v) (by omega) (by omega)).mp q] at bt; cases bt) ?_
      unfold f_Tape_refuse
      rw [Option.bind_some]
      dsimp only
      rw [if_pos (Or.inl rfl), wp_some]
      refine Or.inr (Or.inl ⟨by omega, d, rfl, ((CW.refl g).wr (by omega) (by omega) (by omega) _).wr (by omega) (by omega) (by omega) _, ?_, ?_, by dsimp only; omega, by dsimp only; omega⟩)
      · dsimp only; rw [wr_k (by omega), wr_s]; rfl
      · dsimp only; rw [wr_s, wr_k (by omega)]; exact g9
theorem c_is {N : Nat} {g : HI} {gl : HL} {tk : Tokn} (ts : TkS tk g) {k : Nat} (hk : k < 8) (h7 : tk.1 ≤ 7) : wp (f_Tape_tokenIs N (nI k) g gl) (fun o => (tk.1 = k ∧ o = (1, g, gl)) ∨ (tk.1 ≠ k ∧ o.1 = 0 ∧ CW g o.2.1 ∧ FltS (2, tk.2.1) o.2.1)) := by
  unfold f_Tape_tokenIs
  by_cases c : tk.1 = k
  · refine wp_pos (by rw [ts.k, c]) ?_
    unfold J_Tape_tokenIs_16
    rw [wp_some]
    exact Or.inl ⟨c, rfl⟩
  · refine wp_neg (by rw [ts.k]; exact fun q => c ((nI_eq (by omega) (by omega)).mp q)) ?_
    unfold f_Tape_refuse
    rw [Option.bind_some]
    dsimp only
    rw [if_pos rfl, wp_some]
    refine Or.inr ⟨c, rfl, ((CW.refl g).wr (by omega) (by omega) (by omega) _).wr (by omega) (by omega) (by omega) _, ?_, ?_, by dsimp only; omega, by dsimp only; omega⟩
    · dsimp only; rw [wr_k (by omega), wr_s]; rfl
    · dsimp only; rw [wr_s, wr_k (by omega)]; exact ts.p
theorem NxF.m {h h1 : HI} (x : NxF h h1) : h1 43 12 = h 43 12 ∧ h1 43 13 = h 43 13 := ⟨x.k 12 (by decide) (by decide) (by decide) (by decide) (by decide) (by decide), x.k 13 (by decide) (by decide) (by decide) (by decide) (by decide) (by decide)⟩
theorem wA_s (A : St) (fg k tn : Nat) (tk : Tokn) : wA A fg (k + 1) tn tk = if tk.1 ≠ 1 then .inr (tn, tk) else if A.w ≤ tk.2.2.2 then .inl (3, tk.2.1) else if fig tn tk.2.2.2 ≠ 0 then .inl (4, tk.2.1) else if (nxt A tk.2.2.1).1 = 7 then .inl (1, (nxt A tk.2.2.1).2.1) else wA A fg k (tn + fg * 3 ^ tk.2.2.2) (nxt A tk.2.2.1) := rfl
theorem c_wires {N : Nat} (hN : 70000 ≤ N) {A : St} (hw : WF A) {h : HI} {hl : HL} (ct : CT A h) {fg fol tn m b : Nat} (f1 : 1 ≤ fg) (f2 : fg ≤ 2) (fo : 1 < fol ∧ fol < 7) (h1 : h 43 1 = 0) (h7 : h 43 7 = nI A.w) (h10 : h 43 10 = nI b) (hb : b ≤ A.taped) (h12 : h 43 12 = nI m) (h13 : h 43 13 = nI tn) (mk : MkOK A tn m) : wp (f_Tape_readWires N (nI fg) (nI fol) h hl) (fun o => CW h o.2.1 ∧ ((∃ e, wiresA A fg fol tn b = .inl e ∧ o.1 = 0 ∧ FltS e o.2.1) ∨ (∃ t b2 m2, wiresA A fg fol tn b = .inr (t, b2) ∧ o.1 = 1 ∧ o.2.1 43 1 = 0 ∧ o.2.1 43 10 = nI b2 ∧ b2 ≤ A.taped ∧ o.2.1 43 12 = nI m2 ∧ o.2.1 43 13 = nI t ∧ MkOK A t m2))) := by
  unfold f_Tape_readWires wiresA
  have t2 := hw.t200
  have ok := nxt_ok hb
  refine (c_next hN hw ct h1 h10 hb).bnd (fun z hz => ?_)
  obtain ⟨zf, zr⟩ := hz
  rcases zr.c with ⟨a1, a2, a3⟩ | ⟨a1, a2, a3⟩
  · rw [if_pos a1]
    refine wp_pos a2 ?_
    rw [wp_some]
    exact ⟨zf.cw, Or.inl ⟨_, rfl, rfl, a3⟩⟩
  rw [if_neg a1]
  refine wp_neg (by rw [a2]; decide) ?_
  refine (c_is (k := 1) a3 (by omega) ok.k).bnd (fun y hy => ?_)
  rcases hy with ⟨b1, rfl⟩ | ⟨b1, b2, b3, b4⟩
  case inr =>
    rw [if_pos b1]
    refine wp_pos b2 ?_
    rw [wp_some]
    exact ⟨zf.cw.trans b3, Or.inl ⟨_, rfl, rfl, b4⟩⟩
  rw [if_neg (show ¬ (nxt A b).1 ≠ 1 by omega)]
  refine wp_neg (show ¬ (1 : Int32) = 0 by decide) ?_
  dsimp only
  have zm := zf.m
  generalize hR : wA A fg 201 tn (nxt A b) = R
  refine wp.bnd (P := fun x => CW h x.2.1 ∧ ((x.1 = 1 ∧ ∃ e, R = .inl e ∧ FltS e x.2.1) ∨ (x.1 = 0 ∧ ∃ t tk m2, R = .inr (t, tk) ∧ tk.1 ≤ 7 ∧ (tk.1 ≠ 0 → tk.1 ≠ 7 → tk.2.2.1 ≤ A.taped) ∧ TkS tk x.2.1 ∧ x.2.1 43 12 = nI m2 ∧ x.2.1 43 13 = nI t ∧ MkOK A t m2))) ?_ (fun x hx => ?_)
  · refine wp_lp (fun k s => ∃ i g gl t tk m2 bb, s = (nI i, g, gl) ∧ i ≤ 200 ∧ k = 200 - i ∧ CW h g ∧ wA A fg (201 - i) t tk = R ∧ TkS tk g ∧ TkOK A bb tk ∧ i ≤ bb ∧ g 43 12 = nI m2 ∧ g 43 13 = nI t ∧ MkOK A t m2) ?_ 200 _ N ⟨0, _, _, tn, nxt A b, m, b, rfl, by omega, rfl, zf.cw, hR, a3, ok, Nat.zero_le _, zm.1.trans h12, zm.2.trans h13, mk⟩ (by omega)
    rintro k s ⟨i, g, gl, t, tk, m2, bb, rfl, i1, rfl, cw, hr, ts, tok, ib, g12, g13, mk2⟩
    unfold B_Tape_readWires_19
    dsimp only
    rw [show 201 - i = (200 - i) + 1 by omega, wA_s] at hr
    by_cases c1 : tk.1 = 1
    case neg =>
      rw [if_pos c1] at hr
      have fin : wp (some (Sum.inr (0, g, gl)) : Option ((Int32 × HI × HL) ⊕ (Nat × HI × HL))) (fun z => match z with
        | .inl s => ∃ k1, k1 < 200 - i ∧ ∃ i g gl t tk m2 bb, s = (nI i, g, gl) ∧ i ≤ 200 ∧ k1 = 200 - i ∧ CW h g ∧ wA A fg (201 - i) t tk = R ∧ TkS tk g ∧ TkOK A bb tk ∧ i ≤ bb ∧ g 43 12 = nI m2 ∧ g 43 13 = nI t ∧ MkOK A t m2
        | .inr x => CW h x.2.1 ∧ ((x.1 = 1 ∧ ∃ e, R = .inl e ∧ FltS e x.2.1) ∨ (x.1 = 0 ∧ ∃ t tk m2, R = .inr (t, tk) ∧ tk.1 ≤ 7 ∧ (tk.1 ≠ 0 → tk.1 ≠ 7 → tk.2.2.1 ≤ A.taped) ∧ TkS tk x.2.1 ∧ x.2.1 43 12 = nI m2 ∧ x.2.1 43 13 = nI t ∧ MkOK A t m2))) := by
        rw [wp_some]
        exact ⟨cw, Or.inr ⟨rfl, t, tk, m2, hr.symm, tok.k, fun q1 q2 => (tok.e q1 q2).2, ts, g12, g13, mk2⟩⟩
      by_cases c0 : i = 200
      · exact wp_pos (by rw [c0]; exact nI_le (a := 200) (Nat.le_refl _) (by omega)) (fin.mono (fun z hz => by cases z <;> exact hz))
      · exact wp_neg (nI_ge (b := 200) (by omega) (by omega)) (wp_neg (by rw [ts.k]; exact fun q => c1 ((nI_eq (b := 1) (by have := tok.k; omega) (by omega)).mp q)) (fin.mono (fun z hz => by cases z <;> exact hz)))
    rw [if_neg (by omega)] at hr
    have te := tok.e (by omega) (by omega)
    have tp := tok.p
    have tv := tok.v c1
    refine wp_neg (nI_ge (b := 200) (by omega) (by omega)) (wp_pos (by rw [ts.k, c1]; rfl) ?_)
    refine (c_wire1 hw f1 f2 ts.z (ts.v c1) tv (cw.w.trans h7) ts.p g12 g13 mk2).bnd (fun y hy => ?_)
    rcases hy with ⟨d1, d2, d3, d4⟩ | ⟨d1, d2, d3, d4, d5⟩ | ⟨d1, d2, d3, d4⟩
    · rw [if_pos d1] at hr
      refine wp_pos d2 ?_
      rw [wp_some]
      exact ⟨cw.trans d3, Or.inl ⟨rfl, _, hr.symm, d4⟩⟩
    · rw [if_neg (by omega), if_pos d2] at hr
      refine wp_pos d3 ?_
      rw [wp_some]
      exact ⟨cw.trans d4, Or.inl ⟨rfl, _, hr.symm, d5⟩⟩
    rw [if_neg (by omega), if_neg (by omega)] at hr
    refine wp_neg (by rw [d3]; decide) ?_
    rw [d4]
    generalize hgg : wr (wr g 43 12 (nI (m2 ||| 2 ^ tk.2.2.2))) 43 13 (nI (t + fg * 3 ^ tk.2.2.2)) = gg
    have ka : ∀ j, j ≠ 12 → j ≠ 13 → gg 43 j = g 43 j := fun j q1 q2 => by rw [← hgg, wr_k q2, wr_k q1]
    have cw2 : CW g gg := by rw [← hgg]; exact ((CW.refl g).wr (by omega) (by omega) (by omega) _).wr (by omega) (by omega) (by omega) _
    have kb : gg 43 12 = nI (m2 ||| 2 ^ tk.2.2.2) := by rw [← hgg, wr_k (by omega), wr_s]
    have kc : gg 43 13 = nI (t + fg * 3 ^ tk.2.2.2) := by rw [← hgg, wr_s]
    have ok2 := nxt_ok (A := A) te.2
    refine (c_next hN hw (ct.cw (cw.trans cw2)) ((ka 1 (by omega) (by omega)).trans ts.z) ((ka 10 (by omega) (by omega)).trans (ts.e (by omega))) te.2).bnd (fun u hu => ?_)
    obtain ⟨uf, ur⟩ := hu
    rcases ur.c with ⟨e1, e2, e3⟩ | ⟨e1, e2, e3⟩
    · rw [if_pos e1] at hr
      refine wp_pos e2 ?_
      rw [wp_some]
      exact ⟨(cw.trans cw2).trans uf.cw, Or.inl ⟨rfl, _, hr.symm, e3⟩⟩
    · rw [if_neg e1] at hr
      refine wp_neg (by rw [e2]; decide) ?_
      rw [wp_some]
      refine ⟨200 - (i + 1), by omega, i + 1, _, _, _, _, _, tk.2.2.1, by rw [nI_1], by omega, rfl, (cw.trans cw2).trans uf.cw, by rw [show 201 - (i + 1) = 200 - i by omega]; exact hr, e3, ok2, by omega, uf.m.1.trans kb, uf.m.2.trans kc, mk2.add hw f1 f2 d1 d2⟩
  · obtain ⟨x1, x2⟩ := hx
    rcases x2 with ⟨y1, e, y2, y3⟩ | ⟨y1, t, tk, m2, y2, y3, y4, y5, y6, y7, y8⟩
    · rw [y1, if_neg (by omega), wp_some, y2, anT_l]
      exact ⟨x1, Or.inl ⟨e, rfl, rfl, y3⟩⟩
    · rw [y1, if_pos rfl, y2, anT_r]
      unfold J_Tape_readWires_57
      refine (c_is (k := fol) y5 (by omega) y3).bnd (fun y hy => ?_)
      rcases hy with ⟨b1, rfl⟩ | ⟨b1, b2, b3, b4⟩
      · rw [if_pos (Or.inr rfl), wp_some, if_pos b1]
        exact ⟨x1, Or.inr ⟨t, _, m2, rfl, rfl, y5.z, y5.e (by omega), y4 (by omega) (by omega), y6, y7, y8⟩⟩
      · rw [if_pos (Or.inl b2), wp_some, if_neg b1]
        exact ⟨x1.trans b3, Or.inl ⟨_, rfl, b2, b4⟩⟩
