/-! the reference's next token -/
theorem m_J197 {N k : Nat} (k3 : 3 ≤ k) (k7 : k ≤ 7) {g : HI} {gl : HL} {p e : Nat} (g0 : g 65 36 = 0) (g32 : g 65 32 = nI e) (g33 : g 65 33 = nI p) (g34 : g 65 34 = nI 1) {s : Int32} (hs : s = if k = 7 then -4 else nI (k - 2)) : wp (J_MD_next_197 N s g gl) (fun o => MF g o.2.1 ∧ MNx (k, p, e, 0) o.2.1) := by
  unfold J_MD_next_197 J_MD_next_215
  have f1 : MF g (wr g 65 35 s) := (MF.refl g).wr (by omega) (by omega) _
  have s35 : wr g 65 35 s 65 35 = s := wr_s _ _ _ _
  have s0 : wr g 65 35 s 65 36 = 0 := by rw [wr_k (by omega)]; exact g0
  have s33 : wr g 65 35 s 65 33 = nI p := by rw [wr_k (by omega)]; exact g33
  have s32 : wr g 65 35 s 65 32 = nI e := by rw [wr_k (by omega)]; exact g32
  have s34 : wr g 65 35 s 65 34 = nI 1 := by rw [wr_k (by omega)]; exact g34
  generalize wr g 65 35 s = u at *
  by_cases c : k = 7
  · rw [if_pos c] at hs
    refine wp_pos (by rw [s35]; exact hs) ?_
    rw [m_wants0 N 1 gl s0, Option.bind_some, wp_some]
    obtain ⟨q1, q2⟩ := m_fault (c := 1) s33 (by omega) (by omega)
    exact ⟨f1.trans q1, Or.inl ⟨c, q2⟩⟩
  · rw [if_neg c] at hs
    refine wp_neg (by rw [s35, hs, ni_neg4 (by omega)]; exact fun q => q) ?_
    rw [m_wants1, Option.bind_some, wp_some]
    refine ⟨f1, Or.inr ⟨c, s0, s33, ?_, fun _ => s32, fun q => ?_, fun _ => s35.trans hs⟩⟩
    · dsimp only; rw [s34]
      show nI 1 = nI (mkd k)
      unfold mkd
      rw [if_neg (by omega), if_neg (by omega), if_neg (by omega)]
    · dsimp only at q
      omega
theorem m_next {N : Nat} (hN : 70000 ≤ N) {A : St} (hw : WF A) {h : HI} {hl : HL} (mt : MT A h) (h0 : h 65 36 = 0) {b : Nat} (h32 : h 65 32 = nI b) (hb : b ≤ A.taped) : wp (f_MD_next N h hl) (fun o => MF h o.2.1 ∧ MNx (nxt A b) o.2.1) := by
  unfold f_MD_next nxt
  have t2 := hw.t200
  refine wp_pos (by rw [h0]; decide) ?_
  refine (m_skip hN hw mt h0 h32 hb).bnd (fun x hx => ?_)
  obtain ⟨f1, x0, x32⟩ := hx
  obtain ⟨q1, q2, _⟩ := rnE_sp (A := A) (lo := 32) (hi := 32) hb
  generalize rnE A 32 32 b = p at q1 q2 x32 ⊢
  have g0 : wr x.1 65 33 (x.1 65 32) 65 36 = 0 := by rw [wr_k (by omega)]; exact x0
  have g32 : wr x.1 65 33 (x.1 65 32) 65 32 = nI p := by rw [wr_k (by omega)]; exact x32
  have g33 : wr x.1 65 33 (x.1 65 32) 65 33 = nI p := by rw [wr_s]; exact x32
  have f2 : MF h (wr x.1 65 33 (x.1 65 32)) := f1.wr (by omega) (by omega) _
  generalize wr x.1 65 33 (x.1 65 32) = g at *
  have mt2 := mt.of f2
  rw [m_look hw mt2 g32 (by omega), Option.bind_some]
  dsimp only
  unfold nxtP
  by_cases c : A.taped ≤ p
  · rw [if_pos c]
    have lv : lkV A p = -1 := if_neg (by omega)
    refine wp_neg (by rw [lv]; decide) ?_
    rw [wp_some]
    refine ⟨f2.wr (by omega) (by omega) _, Or.inr ⟨by dsimp only; omega, by dsimp only; rw [wr_k (by omega)]; exact g0, by dsimp only; rw [wr_k (by omega)]; exact g33, by dsimp only; rw [wr_s]; rfl, fun q => absurd rfl q, fun q => absurd q (by dsimp only; omega), fun q => absurd q (by dsimp only; omega)⟩⟩
  rw [if_neg c]
  have b8 := hw.tb p (by omega)
  have lv : lkV A p = nI (A.tape p) := if_pos (by omega)
  refine wp_pos (by rw [lv]; exact nI_pos' (by omega)) ?_
  rw [m_az hw, Option.bind_some]
  dsimp only
  by_cases ca : stpR A 97 122 p
  case neg =>
    rw [cD_t.mpr ca]
    have c2 : 97 ≤ A.tape p ∧ A.tape p ≤ 122 := by unfold stpR at ca; omega
    rw [if_neg (show ¬ A.tape p = 59 by omega), if_neg (show ¬ (48 ≤ A.tape p ∧ A.tape p ≤ 57) by omega), if_pos c2]
    refine wp_neg (by decide) ?_
    have f3 : MF h (wr g 65 34 1) := f2.wr (by omega) (by omega) _
    refine (m_word hN hw (mt.of f3) (p := p) (by rw [wr_k (by omega)]; exact g0) (by rw [wr_k (by omega)]; exact g32) (by rw [wr_k (by omega)]; exact g33) (by rw [wr_s]; rfl) (by omega)).bnd (fun y hy => ?_)
    obtain ⟨y1, y2, y3, y4, y5⟩ := hy
    have f4 := f3.trans y1
    have mt4 := mt.of f4
    obtain ⟨r1, r2⟩ := rn_one (A := A) (lo := 97) (hi := 122) (p := p) (by omega) c2.1 c2.2
    generalize rnE A 97 122 p = E at *
    have fin : ∀ k gl s, 3 ≤ k → k ≤ 7 → nmK A p E = k → s = (if k = 7 then -4 else nI (k - 2)) → wp (J_MD_next_197 N s y.1 gl) (fun o => MF h o.2.1 ∧ MNx (nmK A p E, p, E, 0) o.2.1) := fun k gl s k3 k7 hk hs => by
      rw [hk]
      exact (m_J197 k3 k7 y2 y5 y3 y4 hs).mono (fun o ho => ⟨f4.trans ho.1, ho.2⟩)
    rw [show f_MD_is N 4 104 105 103 104 y.1 y.2 = some (b2i (cD (Wrd A p E [104, 105, 103, 104])), y.1, y.2) from m_is4 (a := 104) (b := 105) (c := 103) (d := 104) hw mt4 y5 y3 (by omega) r2 (by omega) (by omega) (by omega) (by omega), Option.bind_some]
    dsimp only
    by_cases c1 : Wrd A p E [104, 105, 103, 104]
    · rw [cD_t.mpr c1]
      exact wp_neg (by decide) (fin 3 _ _ (by omega) (by omega) (by unfold nmK; rw [if_pos (cD_t.mpr c1)]) rfl)
    rw [cD_f.mpr c1]
    refine wp_pos (by decide) ?_
    rw [show f_MD_is N 3 108 111 119 0 y.1 y.2 = some (b2i (cD (Wrd A p E [108, 111, 119])), y.1, y.2) from m_is3 (a := 108) (b := 111) (c := 119) hw mt4 y5 y3 (by omega) r2 (by omega) (by omega) (by omega), Option.bind_some]
    dsimp only
    by_cases c2 : Wrd A p E [108, 111, 119]
    · rw [cD_t.mpr c2]
      exact wp_neg (by decide) (fin 4 _ _ (by omega) (by omega) (by unfold nmK; rw [cD_f.mpr c1, cD_t.mpr c2]; rfl) rfl)
    rw [cD_f.mpr c2]
    refine wp_pos (by decide) ?_
    rw [show f_MD_is N 3 102 111 114 0 y.1 y.2 = some (b2i (cD (Wrd A p E [102, 111, 114])), y.1, y.2) from m_is3 (a := 102) (b := 111) (c := 114) hw mt4 y5 y3 (by omega) r2 (by omega) (by omega) (by omega), Option.bind_some]
    dsimp only
    by_cases c3 : Wrd A p E [102, 111, 114]
    · rw [cD_t.mpr c3]
      exact wp_neg (by decide) (fin 5 _ _ (by omega) (by omega) (by unfold nmK; rw [cD_f.mpr c1, cD_f.mpr c2, cD_t.mpr c3]; rfl) rfl)
    rw [cD_f.mpr c3]
    refine wp_pos (by decide) ?_
    rw [show f_MD_is N 4 100 97 114 107 y.1 y.2 = some (b2i (cD (Wrd A p E [100, 97, 114, 107])), y.1, y.2) from m_is4 (a := 100) (b := 97) (c := 114) (d := 107) hw mt4 y5 y3 (by omega) r2 (by omega) (by omega) (by omega) (by omega), Option.bind_some]
    dsimp only
    by_cases c4 : Wrd A p E [100, 97, 114, 107]
    · rw [cD_t.mpr c4]
      exact wp_neg (by decide) (fin 6 _ _ (by omega) (by omega) (by unfold nmK; rw [cD_f.mpr c1, cD_f.mpr c2, cD_f.mpr c3, cD_t.mpr c4]; rfl) rfl)
    rw [cD_f.mpr c4]
    exact wp_pos (by decide) (fin 7 _ _ (by omega) (by omega) (by unfold nmK; rw [cD_f.mpr c1, cD_f.mpr c2, cD_f.mpr c3, cD_f.mpr c4]; rfl) rfl)
  rw [cD_f.mpr (fun q => q ca)]
  refine wp_pos rfl ?_
  rw [m_09 hw, Option.bind_some]
  dsimp only
  have ca' : ¬ (97 ≤ A.tape p ∧ A.tape p ≤ 122) := by unfold stpR at ca; omega
  by_cases cd : stpR A 48 57 p
  case neg =>
    rw [cD_t.mpr cd]
    have c2 : 48 ≤ A.tape p ∧ A.tape p ≤ 57 := by unfold stpR at cd; omega
    rw [if_neg (show ¬ A.tape p = 59 by omega), if_pos c2]
    refine wp_neg (by decide) ?_
    have f3 : MF h (wr (wr g 65 34 2) 65 35 0) := (f2.wr (by omega) (by omega) _).wr (by omega) (by omega) _
    refine (m_digs hN hw (mt.of f3) (p := p) (by rw [wr_k (by omega), wr_k (by omega)]; exact g0) (by rw [wr_k (by omega), wr_k (by omega)]; exact g32) (by rw [wr_k (by omega), wr_k (by omega)]; exact g33) (by rw [wr_k (by omega), wr_s]; rfl) (by rw [wr_s]) (by omega)).bnd (fun y hy => ?_)
    obtain ⟨y1, y2, y3, y4, y5, y6⟩ := hy
    have f4 := f3.trans y1
    obtain ⟨r1, r2⟩ := rn_one (A := A) (lo := 48) (hi := 57) (p := p) (by omega) c2.1 c2.2
    generalize rnE A 48 57 p = E at *
    have sb : y.1 65 32 - y.1 65 33 = nI (E - p) := by rw [y5, y3]; exact pk_sub (by omega)
    unfold J_MD_next_342
    by_cases d : E ≤ p + 2
    · rw [if_pos d]
      refine wp_neg (by rw [sb]; exact nI_nlt (a := 2) (by omega) (by omega)) ?_
      rw [m_wants1, Option.bind_some, wp_some]
      exact ⟨f4, Or.inr ⟨by dsimp only; omega, y2, y3, y4, fun _ => y5, fun _ => y6 d, fun q => absurd q (by dsimp only; omega)⟩⟩
    · rw [if_neg d]
      refine wp_pos (by rw [sb]; exact nI_lt (a := 2) (by omega) (by omega)) ?_
      rw [m_wants0 N 1 y.2 y2, Option.bind_some, wp_some]
      obtain ⟨q1, q2⟩ := m_fault (c := 1) y3 (by omega) (by omega)
      exact ⟨f4.trans q1, Or.inl ⟨rfl, q2⟩⟩
  rw [cD_f.mpr (fun q => q cd)]
  refine wp_pos rfl ?_
  have cd' : ¬ (48 ≤ A.tape p ∧ A.tape p ≤ 57) := by unfold stpR at cd; omega
  have f3 : MF h (wr g 65 34 3) := f2.wr (by omega) (by omega) _
  have u0 : wr g 65 34 3 65 36 = 0 := by rw [wr_k (by omega)]; exact g0
  have u33 : wr g 65 34 3 65 33 = nI p := by rw [wr_k (by omega)]; exact g33
  have u32 : wr g 65 34 3 65 32 = nI p := by rw [wr_k (by omega)]; exact g32
  have u34 : wr g 65 34 3 65 34 = nI 3 := by rw [wr_s]; rfl
  generalize wr g 65 34 3 = u at *
  unfold J_MD_next_366
  rw [lv]
  by_cases c59 : A.tape p = 59
  · rw [if_pos c59]
    refine wp_pos (by rw [c59]; rfl) ?_
    rw [m_wants1, Option.bind_some, wp_some]
    refine ⟨f3.wr (by omega) (by omega) _, Or.inr ⟨by dsimp only; omega, by dsimp only; rw [wr_k (by omega)]; exact u0, by dsimp only; rw [wr_k (by omega)]; exact u33, by dsimp only; rw [wr_k (by omega)]; exact u34, fun _ => by dsimp only; rw [wr_s, u32, nI_1], fun q => absurd q (by dsimp only; omega), fun q => absurd q (by dsimp only; omega)⟩⟩
  · rw [if_neg c59, if_neg cd', if_neg ca']
    refine wp_neg (fun q => c59 ((nI_eq (b := 59) (by omega) (by omega)).mp q)) ?_
    rw [m_wants0 N 1 x.2 u0, Option.bind_some, wp_some]
    obtain ⟨r1, r2⟩ := m_fault (c := 1) u33 (by omega) (by omega)
    refine ⟨(f3.trans r1).wr (by omega) (by omega) _, Or.inl ⟨rfl, ?_, ?_, by dsimp only; omega, by dsimp only; omega⟩⟩
    · dsimp only; rw [wr_k (by omega)]; exact r2.k
    · dsimp only; rw [wr_k (by omega)]; exact r2.p
