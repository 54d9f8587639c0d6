/-! the reference's lines -/
theorem m_power {N v : Nat} {h : HI} {hl : HL} (hN : 70000 ≤ N) (hv : v ≤ 6) : f_MD_power N (nI v) h hl = some (nI (3 ^ v), h, hl) := by
  have key : wp (lpN (fun s => B_MD_power_4 N (nI v) s.1 s.2.1 s.2.2.1 s.2.2.2) N (1, 0, h, hl)) (fun x => x = (nI (3 ^ v), h, hl)) := by
    refine wp_for v (fun i s => s = (nI (3 ^ i), nI i, h, hl)) ?_ ?_ (i := 0) (by omega) rfl (by omega)
    · rintro i s hi1 rfl
      unfold B_MD_power_4
      dsimp only
      refine wp_neg (nI_ge hi1 (by omega)) ?_
      rw [wp_some]
      show (nI (3 ^ i) * nI 3, nI i + 1, h, hl) = _
      rw [pk_mul, nI_1, Nat.pow_succ]
    · rintro s rfl
      unfold B_MD_power_4
      dsimp only
      refine wp_pos (nI_le (Nat.le_refl _) (by omega)) ?_
      rw [wp_some]
  obtain ⟨x, h1, rfl⟩ := key
  unfold f_MD_power
  rw [h1]
  rfl
theorem mkd_r (k : Nat) : mkd k ≤ 3 := by
  unfold mkd
  repeat' split
  all_goals omega
theorem mkd_2 (k : Nat) : mkd k = 2 ↔ k = 1 := by
  unfold mkd
  repeat' split
  all_goals omega
theorem mkd_3 (k : Nat) : mkd k = 3 ↔ k = 2 := by
  unfold mkd
  repeat' split
  all_goals omega
theorem mkd_1 (k : Nat) : mkd k = 1 ↔ 3 ≤ k := by
  unfold mkd
  repeat' split
  all_goals omega
theorem mkd_0 (k : Nat) : mkd k = 0 ↔ k = 0 := by
  unfold mkd
  repeat' split
  all_goals omega
theorem MTk.i2 {tk : Tokn} {g : HI} (m : MTk tk g) : g 65 34 = 2 ↔ tk.1 = 1 := by
  rw [m.k]
  exact (nI_eq (b := 2) (by have := mkd_r tk.1; omega) (by omega)).trans (mkd_2 _)
theorem MTk.i3 {tk : Tokn} {g : HI} (m : MTk tk g) : g 65 34 = 3 ↔ tk.1 = 2 := by
  rw [m.k]
  exact (nI_eq (b := 3) (by have := mkd_r tk.1; omega) (by omega)).trans (mkd_3 _)
theorem MTk.i1 {tk : Tokn} {g : HI} (m : MTk tk g) : g 65 34 = 1 ↔ 3 ≤ tk.1 := by
  rw [m.k]
  exact (nI_eq (b := 1) (by have := mkd_r tk.1; omega) (by omega)).trans (mkd_1 _)
theorem MTk.i0 {tk : Tokn} {g : HI} (m : MTk tk g) : g 65 34 = 0 ↔ tk.1 = 0 := by
  rw [m.k]
  exact (nI_eq (b := 0) (by have := mkd_r tk.1; omega) (by omega)).trans (mkd_0 _)
theorem m_isName {N : Nat} {tk : Tokn} {g : HI} {gl : HL} (m : MTk tk g) (k7 : tk.1 ≤ 7) {c : Nat} (c1 : 1 ≤ c) (c4 : c ≤ 4) : f_MD_isName N (nI c) g gl = some (b2i (decide (tk.1 = c + 2)), g, gl) := by
  unfold f_MD_isName J_MD_isName_20
  by_cases d : 3 ≤ tk.1
  · rw [if_pos (m.i1.mpr d)]
    by_cases e : tk.1 = c + 2
    · rw [if_pos (by rw [m.c d]; congr 1; omega), decide_eq_true e]; rfl
    · rw [if_neg (by rw [m.c d]; exact fun q => e (by have := (nI_eq (by omega) (by omega)).mp q; omega)), decide_eq_false e]; rfl
  · rw [if_neg (fun q => d (m.i1.mp q)), decide_eq_false (by omega)]; rfl
theorem mw_91f {N : Nat} {v2 v3 : Int32} {e : Nat × Nat} {g : HI} {gl : HL} (f : MFS e g) : ∃ fl, J_MD_readWires_91 N v2 v3 g gl = some (.inl (v3 + 0, fl, g, gl)) := by
  unfold J_MD_readWires_91 J_MD_readWires_112 J_MD_readWires_131
  rw [if_neg f.nz, m_nextf N gl f, Option.bind_some]
  dsimp only
  split
  · exact ⟨_, rfl⟩
  · exact ⟨_, rfl⟩
theorem mw_63f {N : Nat} {v2 v3 : Int32} {e : Nat × Nat} {g : HI} {gl : HL} (f : MFS e g) : ∃ fl, J_MD_readWires_63 N v2 v3 g gl = some (.inl (v3 + 0, fl, g, gl)) := by
  unfold J_MD_readWires_63
  rw [if_neg f.nz]
  exact mw_91f f
theorem mw_5f {N : Nat} {v2 v3 v4 : Int32} {e : Nat × Nat} {g : HI} {gl : HL} (f : MFS e g) : B_MD_readWires_5 N v2 v3 v4 g gl = some (.inr (v3, g, gl)) := by
  unfold B_MD_readWires_5
  split
  · rfl
  · rw [if_neg f.nz]
theorem m_wiresf {N : Nat} (hN : 70000 ≤ N) {v fg : Int32} {e : Nat × Nat} {g : HI} {gl : HL} (f : MFS e g) : f_MD_readWires N v fg g gl = some (v, g, gl) := by
  have key : wp (lpN (fun s => B_MD_readWires_5 N fg s.1 s.2.1 s.2.2.1 s.2.2.2) N (v, 1, g, gl)) (fun x => x = (v, g, gl)) := by
    refine wp_lp (fun k s => s = (v, 1, g, gl)) ?_ 0 _ N rfl (by omega)
    rintro k s rfl
    dsimp only
    rw [mw_5f f, wp_some]
  obtain ⟨x, h1, rfl⟩ := key
  unfold f_MD_readWires
  rw [h1]
  rfl
theorem m_wires {N : Nat} (hN : 70000 ≤ N) {A : St} (hw : WF A) {h : HI} {hl : HL} (mt : MT A h) {fg tn bb : Nat} {tk : Tokn} (w0 : h 65 0 = nI A.w) (f1 : 1 ≤ fg) (f2 : fg ≤ 2) (m : MTk tk h) (tok : TkOK A bb tk) (n7 : tk.1 ≠ 7) (ht : tn < 3 ^ A.w) : wp (f_MD_readWires N (nI tn) (nI fg) h hl) (fun o => MF h o.2.1 ∧ ((∃ e, (if tk.1 ≠ 1 then (.inl (2, tk.2.1) : (Nat × Nat) ⊕ (Nat × Tokn)) else wA A fg 201 tn tk) = .inl e ∧ MFS e o.2.1) ∨ (∃ t tk2 bb2, (if tk.1 ≠ 1 then (.inl (2, tk.2.1) : (Nat × Nat) ⊕ (Nat × Tokn)) else wA A fg 201 tn tk) = .inr (t, tk2) ∧ o.1 = nI t ∧ MTk tk2 o.2.1 ∧ TkOK A bb2 tk2 ∧ tk2.1 ≠ 7 ∧ t < 3 ^ A.w))) := by
  have t2 := hw.t200
  have w6 := hw.w6
  unfold f_MD_readWires
  by_cases c1 : tk.1 = 1
  case neg =>
    rw [if_pos c1]
    obtain ⟨q1, q2⟩ := m_fault (c := 2) m.p (by omega) (by omega)
    refine wp.bnd (P := fun x => MF h x.2.1 ∧ MFS (2, tk.2.1) x.2.1) ?_ (fun x hx => by rw [wp_some]; exact ⟨hx.1, Or.inl ⟨_, rfl, hx.2⟩⟩)
    refine wp_lp (fun k s => (k = 1 ∧ s = (nI tn, 1, h, hl)) ∨ (k = 0 ∧ MF h s.2.2.1 ∧ MFS (2, tk.2.1) s.2.2.1)) ?_ 1 _ N (Or.inl ⟨rfl, rfl⟩) (by omega)
    rintro k s (⟨rfl, rfl⟩ | ⟨rfl, r1, r2⟩)
    · unfold B_MD_readWires_5 J_MD_readWires_31
      dsimp only
      refine wp_neg (by decide) (wp_pos m.z (wp_neg (fun q => c1 (m.i2.mp q)) ?_))
      rw [m_wants0 N 2 hl m.z, Option.bind_some]
      refine wp_neg q2.nz ?_
      obtain ⟨fl, q3⟩ := mw_63f (N := N) (v2 := nI fg) (v3 := nI tn) (gl := hl) q2
      dsimp only
      rw [show J_MD_readWires_63 N (nI fg) (nI tn) (wr (wr h 65 36 2) 65 37 (h 65 33)) hl = _ from q3, wp_some]
      exact ⟨0, by omega, Or.inr ⟨rfl, q1, q2⟩⟩
    · rw [mw_5f r2, wp_some]
      exact ⟨r1, r2⟩
  rw [if_neg (show ¬ tk.1 ≠ 1 by omega)]
  generalize hR : wA A fg 201 tn tk = R
  refine wp.bnd (P := fun o => MF h o.2.1 ∧ ((∃ e, R = .inl e ∧ MFS e o.2.1) ∨ (∃ t tk2 bb2, R = .inr (t, tk2) ∧ o.1 = nI t ∧ MTk tk2 o.2.1 ∧ TkOK A bb2 tk2 ∧ tk2.1 ≠ 7 ∧ t < 3 ^ A.w))) ?_ (fun x hx => by rw [wp_some]; exact hx)
  refine wp_lp (fun k s => ∃ v3 v4 g gl, s = (v3, v4, g, gl) ∧ MF h g ∧ ((k = 0 ∧ ∃ e, R = .inl e ∧ MFS e g) ∨ (∃ i t tk bb, k = 201 - i ∧ i ≤ 200 ∧ v3 = nI t ∧ v4 = nI (if tk.1 = 1 then 1 else 0) ∧ wA A fg (201 - i) t tk = R ∧ MTk tk g ∧ TkOK A bb tk ∧ i ≤ bb ∧ tk.1 ≠ 7 ∧ t < 3 ^ A.w))) ?_ 201 _ N ⟨_, _, _, _, rfl, MF.refl h, Or.inr ⟨0, tn, tk, bb, rfl, by omega, rfl, by rw [if_pos c1]; rfl, hR, m, tok, Nat.zero_le _, n7, ht⟩⟩ (by omega)
  rintro k s ⟨v3, v4, g, gl, rfl, fr, (⟨rfl, e, e1, e2⟩ | ⟨i, t, tk, bb, rfl, i1, rfl, rfl, hr, m, tok, ib, n7, ht⟩)⟩
  · dsimp only
    rw [mw_5f e2, wp_some]
    exact ⟨fr, Or.inl ⟨e, e1, e2⟩⟩
  rw [show 201 - i = (200 - i) + 1 by omega, wA_s] at hr
  unfold B_MD_readWires_5
  dsimp only
  by_cases c1 : tk.1 = 1
  case neg =>
    rw [if_pos c1] at hr
    refine wp_pos (by rw [if_neg c1]; rfl) ?_
    rw [wp_some]
    exact ⟨fr, Or.inr ⟨t, tk, bb, hr.symm, rfl, m, tok, n7, ht⟩⟩
  rw [if_neg (show ¬ tk.1 ≠ 1 by omega)] at hr
  have te := tok.e (by omega) (by omega)
  have tp := tok.p
  have tv := tok.v c1
  have g0 : g 65 0 = nI A.w := (fr.k 0 (by omega)).trans w0
  have g35 := m.v c1
  have flt : ∀ c, 1 ≤ c → c ≤ 5 → R = .inl (c, tk.2.1) → wp (J_MD_readWires_63 N (nI fg) (nI t) (wr (wr g 65 36 (nI c)) 65 37 (g 65 33)) gl) (fun z => match z with
      | .inl s => ∃ k1, k1 < 201 - i ∧ ∃ v3 v4 g gl, s = (v3, v4, g, gl) ∧ MF h g ∧ ((k1 = 0 ∧ ∃ e, R = .inl e ∧ MFS e g) ∨ (∃ i t tk bb, k1 = 201 - i ∧ i ≤ 200 ∧ v3 = nI t ∧ v4 = nI (if tk.1 = 1 then 1 else 0) ∧ wA A fg (201 - i) t tk = R ∧ MTk tk g ∧ TkOK A bb tk ∧ i ≤ bb ∧ tk.1 ≠ 7 ∧ t < 3 ^ A.w))
      | .inr o => MF h o.2.1 ∧ ((∃ e, R = .inl e ∧ MFS e o.2.1) ∨ (∃ t tk2 bb2, R = .inr (t, tk2) ∧ o.1 = nI t ∧ MTk tk2 o.2.1 ∧ TkOK A bb2 tk2 ∧ tk2.1 ≠ 7 ∧ t < 3 ^ A.w))) := fun c a1 a5 hr => by
    obtain ⟨q1, q2⟩ := m_fault (c := c) m.p a1 a5
    obtain ⟨fl, q3⟩ := mw_63f (N := N) (v2 := nI fg) (v3 := nI t) (gl := gl) q2
    rw [q3, wp_some]
    exact ⟨0, by omega, _, _, _, _, rfl, fr.trans q1, Or.inl ⟨rfl, _, hr, q2⟩⟩
  refine wp_neg (by rw [if_pos c1]; decide) (wp_pos m.z (wp_pos (m.i2.mpr c1) ?_))
  unfold J_MD_readWires_31
  rw [m_wants1, Option.bind_some]
  refine wp_pos m.z ?_
  dsimp only
  unfold J_MD_readWires_59
  by_cases d1 : A.w ≤ tk.2.2.2
  · rw [if_pos d1] at hr
    refine wp_pos (by rw [g0, g35]; exact nI_le d1 (by omega)) ?_
    rw [m_wants0 N 3 gl m.z, Option.bind_some]
    exact (flt 3 (by omega) (by omega) hr.symm).mono (fun z hz => by cases z <;> exact hz)
  rw [if_neg d1] at hr
  refine wp_neg (by rw [g0, g35]; exact nI_ge (by omega) (by omega)) ?_
  rw [m_wants1, Option.bind_some]
  dsimp only
  have p3 := pow3_le w6
  unfold J_MD_readWires_63
  refine wp_pos m.z ?_
  rw [show f_MD_driven N (nI t) (g 65 35) g gl = some (nI (fig t tk.2.2.2), g, gl) from by rw [g35]; exact m_driven hN (by omega) (by omega), Option.bind_some]
  dsimp only
  unfold J_MD_readWires_87
  by_cases d2 : fig t tk.2.2.2 = 0
  case neg =>
    rw [if_pos d2] at hr
    have fl2 : fig t tk.2.2.2 < 3 := Nat.mod_lt _ (by decide)
    refine wp_neg (nI_ne0 (by omega) (by omega)) ?_
    rw [m_wants0 N 4 gl m.z, Option.bind_some]
    have q := flt 4 (by omega) (by omega) hr.symm
    unfold J_MD_readWires_63 at q
    rw [if_neg (m_fault (c := 4) m.p (by omega) (by omega)).2.nz] at q
    exact q.mono (fun z hz => by cases z <;> exact hz)
  rw [if_neg (show ¬ fig t tk.2.2.2 ≠ 0 by omega)] at hr
  refine wp_pos (by rw [d2]; rfl) ?_
  rw [m_wants1, Option.bind_some]
  dsimp only
  unfold J_MD_readWires_91
  refine wp_pos m.z ?_
  rw [show f_MD_power N (g 65 35) g gl = some (nI (3 ^ tk.2.2.2), g, gl) from by rw [g35]; exact m_power hN (by omega), Option.bind_some]
  dsimp only
  unfold J_MD_readWires_112
  have ok2 := nxt_ok (A := A) te.2
  have bn := fig_bnd f2 tk.2.2.2 t A.w (by omega) ht d2
  refine (m_next hN hw (mt.of fr) m.z (m.e (by omega)) te.2).bnd (fun z hz => ?_)
  obtain ⟨zf, zr⟩ := hz
  rw [show nI t + nI fg * nI (3 ^ tk.2.2.2) = nI (t + fg * 3 ^ tk.2.2.2) from by rw [pk_mul, nI_add]]
  unfold J_MD_readWires_131
  rcases zr with ⟨e1, e2⟩ | ⟨e1, e2⟩
  · rw [if_pos e1] at hr
    refine (wp_ite _ _ _ _).mpr ⟨fun _ => ?_, fun _ => ?_⟩
    · rw [wp_some]
      exact ⟨0, by omega, _, _, _, _, rfl, fr.trans zf, Or.inl ⟨rfl, _, hr.symm, e2⟩⟩
    · rw [wp_some]
      exact ⟨0, by omega, _, _, _, _, rfl, fr.trans zf, Or.inl ⟨rfl, _, hr.symm, e2⟩⟩
  rw [if_neg e1] at hr
  by_cases n1 : (nxt A tk.2.2.1).1 = 1
  · refine wp_pos (e2.i2.mpr n1) ?_
    rw [wp_some]
    have := te.1
    have nn : 1 ≤ 200 - i := by
      have := (ok2.e (by omega) e1)
      have := ok2.p
      omega
    exact ⟨200 - i, by omega, _, _, _, _, rfl, fr.trans zf, Or.inr ⟨i + 1, _, _, tk.2.2.1, by omega, by omega, rfl, by rw [if_pos n1]; rfl, by rw [show 201 - (i + 1) = 200 - i by omega]; exact hr, e2, ok2, by omega, e1, bn⟩⟩
  · refine wp_neg (fun q => n1 (e2.i2.mp q)) ?_
    rw [wp_some]
    have := te.1
    have ti : i + 1 ≤ 200 := by omega
    exact ⟨200 - i, by omega, _, _, _, _, rfl, fr.trans zf, Or.inr ⟨i + 1, _, _, tk.2.2.1, by omega, by omega, rfl, by rw [if_neg n1]; rfl, by rw [show 201 - (i + 1) = 200 - i by omega]; exact hr, e2, ok2, by omega, e1, bn⟩⟩
