theorem c_fgtG {N : Nat} (hN : 70000 ≤ N) (hi : HI) (hl : HL) {X : Type} {k : Unit × HI × HL → Option X} {Q : X → Prop} (h : ∀ h1 l1, Fgt (wr (wr hi 51 0 0) 51 5 0) h1 → wp (k ((), h1, l1)) Q) : wp ((f_LW_forgetGlow N hi hl).bind fun z => (f_Guesses_forget N z.2.1 z.2.2).bind k) Q := by
  refine (c_forget hN _ _).bnd (fun x hx => ?_)
  unfold f_Guesses_forget
  rw [Option.bind_some]
  refine h _ _ ?_
  obtain ⟨s, t, u, f⟩ := hx
  refine ⟨fun a ha => ?_, ?_, ?_, fun i hi => ?_⟩
  · by_cases e : a = 51
    · subst e; simp only [wr, va_up, if_true]; rw [s 51 (by decide)]
    · rw [wr_o e, wr_o e, wr_o e, wr_o e]; exact s a ha
  · rw [wr_o (by omega), wr_o (by omega)]; exact t
  · rw [wr_o (by omega), wr_o (by omega)]; exact u
  · rw [wr_o (by omega), wr_o (by omega)]; exact f i hi
theorem b2i_10 : ((1 : Int32) = 0) = False := by decide
theorem b2i_tt : (b2i true = 0) = False := by decide
theorem b2i_ff : (b2i false = 0) = True := by decide
/-! wires, supply -/
theorem S_wires {N : Nat} (hN : 70000 ≤ N) (p : Int32) : Sim (f_LW_wires N p) (f_MD_wires N p) := by
  refine Sim.of (fun A hw => ?_)
  have hb : ∀ (hi : HI) (hl : HL), f_MD_in N p.toInt64 2 6 hi hl = some (b2i (rg p 2 7), hi, hl) := fun hi hl => e_in32 N p _ _ hi hl (x := 2) (y := 7) (ltL64 2 (by decide)) (ltL64 6 (by decide))
  rcases rgE p 2 7 with ⟨e, e1⟩ | ⟨e, e1⟩
  · refine Sim.bad (ans := -1) hw (fun hi hl hR => ?_) (fun hi hl hR => ?_)
    · unfold f_LW_wires
      simp (disch := omega) only [lit_I, fa_lt, fa_le, nI_toInt, decide_eq_true_eq]
      repeat' split
      all_goals first | rfl | (exfalso; omega)
    · unfold f_MD_wires
      rw [hb, e]; rfl
  · obtain ⟨j, j2, j7, rfl⟩ := rg_t (by decide) e
    refine ⟨nI A.w, ((A.setN 0 j).setN 2 0).setN 3 0, ?_, fun hi hl hR => ?_, fun hi hl hR => ?_⟩
    · obtain ⟨_, _, a3, a4, _, _, _, _, _, _, _, _, _, _, _, _, _, _, a7, a8, a9, b1, b2⟩ := hw
      exact ⟨j2, by show j ≤ 6; omega, a3, a4, by show (0 : Nat) ≤ 16; omega, fun l hl => absurd hl (Nat.not_lt_zero l), fun l hl => absurd hl (Nat.not_lt_zero l), fun l hl => absurd hl (Nat.not_lt_zero l), fun l hl => absurd hl (Nat.not_lt_zero l), fun l hl => absurd hl (Nat.not_lt_zero l), fun l hl => absurd hl (Nat.not_lt_zero l), fun l hl => absurd hl (Nat.not_lt_zero l), fun l _ hl => absurd hl (Nat.not_lt_zero l), by show (0 : Nat) ≤ 12; omega, fun l hl => absurd hl (Nat.not_lt_zero l), fun l hl => absurd hl (Nat.not_lt_zero l), fun l hl => absurd hl (Nat.not_lt_zero l), fun l hl => absurd hl (Nat.not_lt_zero l), a7, a8, a9, b1, b2⟩
    · unfold f_LW_wires f_Board_restart
      refine wp_neg (nI_nlt (b := 2) j2 (by omega)) (wp_pos (nI_le (b := 6) (by omega) (by omega)) ?_)
      rw [Option.bind_some]
      refine c_fgtG hN _ _ (fun h1 l1 hx => ?_)
      rw [wp_some]
      refine ⟨hR.bd.w, ?_, ?_⟩
      · refine hR.forgot [1, 47, 51] ?_ (by decide) hx ⟨?_, ?_, ?_, fun l hl => absurd hl (Nat.not_lt_zero l), fun l hl => absurd hl (Nat.not_lt_zero l), fun l hl => absurd hl (Nat.not_lt_zero l), fun l hl => absurd hl (Nat.not_lt_zero l), fun l hl => absurd hl (Nat.not_lt_zero l)⟩ rfl ⟨?_, fun l hl => absurd hl (Nat.not_lt_zero l), fun l hl => absurd hl (Nat.not_lt_zero l), fun l hl => absurd hl (Nat.not_lt_zero l)⟩ ⟨Or.inl ?_, Or.inl ?_⟩ rfl (fun k => rfl)
        · exact (((((Sam.refl _ _).wr (by decide)).wr (by decide)).wr (by decide)).wr (by decide)).wr (by decide)
        · simp (disch := first | decide | omega) only [wr_o, wr_k, wr_s]; rfl
        · simp (disch := first | decide | omega) only [wr_o, wr_k, wr_s]; exact hR.bd.s
        · simp (disch := first | decide | omega) only [wr_o, wr_k, wr_s]; rfl
        · simp (disch := first | decide | omega) only [wr_o, wr_k, wr_s]; rfl
        · simp (disch := first | decide | omega) only [wr_o, wr_k, wr_s]
        · simp (disch := first | decide | omega) only [wr_o, wr_k, wr_s]
      · exact HiC.trans (((((HiC.refl hi).wr (by omega)).wr (by omega)).wr (by omega)).wr (by omega) |>.wr (by omega)) hx.hiC
    · unfold f_MD_wires
      rw [hb, e]
      simp only [Option.bind_some, b2i_tt, if_false, wp_some]
      obtain ⟨a1, a2, a3, a4, a5, a6, a7, a8, a9, b1, b2, b3⟩ := hR
      refine ⟨a1.w, ⟨⟨?_, ?_, ?_, fun l hl => absurd hl (Nat.not_lt_zero l), fun l hl => absurd hl (Nat.not_lt_zero l), fun l hl => absurd hl (Nat.not_lt_zero l), fun l hl => absurd hl (Nat.not_lt_zero l), fun l hl => absurd hl (Nat.not_lt_zero l)⟩, Or.inl ?_, ?_, fun l hl => absurd hl (Nat.not_lt_zero l), fun l hl => absurd hl (Nat.not_lt_zero l), fun l hl => absurd hl (Nat.not_lt_zero l), ?_, ?_, ?_, ?_, ?_, ?_⟩, ?_⟩
      · simp (disch := first | decide | omega) only [wr_o, wr_k, wr_s]; rfl
      · simp (disch := first | decide | omega) only [wr_o, wr_k, wr_s]; exact a1.s
      · simp (disch := first | decide | omega) only [wr_o, wr_k, wr_s]; rfl
      · simp (disch := first | decide | omega) only [wr_o, wr_k, wr_s]
      · simp (disch := first | decide | omega) only [wr_o, wr_k, wr_s]; rfl
      · simp (disch := first | decide | omega) only [wr_o, wr_k, wr_s]; exact a7
      · simp (disch := first | decide | omega) only [wr_o, wr_k, wr_s]; exact a8
      · simp (disch := first | decide | omega) only [wr_o, wr_k, wr_s]; exact a9
      · simp (disch := first | decide | omega) only [wr_o, wr_k, wr_s]; exact b1
      · simp (disch := first | decide | omega) only [wr_o, wr_k, wr_s]; exact b2
      · simp (disch := first | decide | omega) only [wr_o, wr_k, wr_s]; exact b3
      · exact ((((LoC.refl hi).wr (by omega)).wr (by omega)).wr (by omega)).wr (by omega)
theorem S_supply {N : Nat} (hN : 70000 ≤ N) (p : Int32) : Sim (f_LW_supply N p) (f_MD_supply N p) := by
  refine Sim.of (fun A hw => ?_)
  have hb : ∀ (hi : HI) (hl : HL), f_MD_in N p.toInt64 1 30 hi hl = some (b2i (rg p 1 31), hi, hl) := fun hi hl => e_in32 N p _ _ hi hl (x := 1) (y := 31) (ltL64 1 (by decide)) (ltL64 30 (by decide))
  rcases rgE p 1 31 with ⟨e, e1⟩ | ⟨e, e1⟩
  · refine Sim.bad (ans := -1) hw (fun hi hl hR => ?_) (fun hi hl hR => ?_)
    · unfold f_LW_supply
      simp (disch := omega) only [lit_I, fa_lt, fa_le, nI_toInt, decide_eq_true_eq]
      repeat' split
      all_goals first | rfl | (exfalso; omega)
    · unfold f_MD_supply
      rw [hb, e]; rfl
  · obtain ⟨j, j2, j7, rfl⟩ := rg_t (by decide) e
    refine ⟨nI A.sup, A.setN 1 j, ?_, fun hi hl hR => ?_, fun hi hl hR => ?_⟩
    · obtain ⟨a1, a2, _, _, aa⟩ := hw
      exact ⟨a1, a2, j2, by show j ≤ 30; omega, aa⟩
    · unfold f_LW_supply
      refine wp_neg (nI_nlt (b := 1) j2 (by omega)) (wp_pos (nI_le (b := 30) (by omega) (by omega)) ?_)
      refine c_fgtG hN _ _ (fun h1 l1 hx => ?_)
      rw [wp_some]
      refine ⟨hR.bd.s, ?_, ?_⟩
      · obtain ⟨c1, c2, c3, c4, c5, c6, c7, c8⟩ := hR.bd
        refine hR.forgot [1, 47, 51] ?_ (by decide) hx ⟨?_, ?_, ?_, ?_, ?_, ?_, ?_, ?_⟩ rfl ?_ ⟨Or.inl ?_, Or.inl ?_⟩ rfl (fun k => rfl)
        · exact ((((Sam.refl _ _).wr (by decide)).wr (by decide)).wr (by decide))
        · simp (disch := first | decide | omega) only [wr_o, wr_k, wr_s]; exact c1
        · simp (disch := first | decide | omega) only [wr_o, wr_k, wr_s]; rfl
        · simp (disch := first | decide | omega) only [wr_o, wr_k, wr_s]; exact c3
        · simp (disch := first | decide | omega) only [wr_o, wr_k, wr_s]; exact c4
        · simp (disch := first | decide | omega) only [wr_o, wr_k, wr_s]; exact c5
        · simp (disch := first | decide | omega) only [wr_o, wr_k, wr_s]; exact c6
        · simp (disch := first | decide | omega) only [wr_o, wr_k, wr_s]; exact c7
        · simp (disch := first | decide | omega) only [wr_o, wr_k, wr_s]; exact c8
        · simp (disch := first | decide | omega) only [wr_o, wr_k, wr_s]; exact hR.sc
        · simp (disch := first | decide | omega) only [wr_o, wr_k, wr_s]
        · simp (disch := first | decide | omega) only [wr_o, wr_k, wr_s]
      · exact HiC.trans ((((HiC.refl hi).wr (by omega)).wr (by omega)).wr (by omega)) hx.hiC
    · unfold f_MD_supply
      rw [hb, e]
      simp only [Option.bind_some, b2i_tt, if_false, wp_some]
      obtain ⟨⟨c1, c2, c3, c4, c5, c6, c7, c8⟩, a2, a3, a4, a5, a6, a7, a8, a9, b1, b2, b3⟩ := hR
      refine ⟨c2, ⟨⟨?_, ?_, ?_, ?_, ?_, ?_, ?_, ?_⟩, Or.inl ?_, ?_, ?_, ?_, ?_, ?_, ?_, ?_, ?_, ?_, ?_⟩, ?_⟩
      · simp (disch := first | decide | omega) only [wr_o, wr_k, wr_s]; exact c1
      · simp (disch := first | decide | omega) only [wr_o, wr_k, wr_s]; rfl
      · simp (disch := first | decide | omega) only [wr_o, wr_k, wr_s]; exact c3
      · simp (disch := first | decide | omega) only [wr_o, wr_k, wr_s]; exact c4
      · simp (disch := first | decide | omega) only [wr_o, wr_k, wr_s]; exact c5
      · simp (disch := first | decide | omega) only [wr_o, wr_k, wr_s]; exact c6
      · simp (disch := first | decide | omega) only [wr_o, wr_k, wr_s]; exact c7
      · simp (disch := first | decide | omega) only [wr_o, wr_k, wr_s]; exact c8
      · simp (disch := first | decide | omega) only [wr_o, wr_k, wr_s]
      · simp (disch := first | decide | omega) only [wr_o, wr_k, wr_s]; exact a3
      · simp (disch := first | decide | omega) only [wr_o, wr_k, wr_s]; exact a4
      · simp (disch := first | decide | omega) only [wr_o, wr_k, wr_s]; exact a5
      · simp (disch := first | decide | omega) only [wr_o, wr_k, wr_s]; exact a6
      · simp (disch := first | decide | omega) only [wr_o, wr_k, wr_s]; exact a7
      · simp (disch := first | decide | omega) only [wr_o, wr_k, wr_s]; exact a8
      · simp (disch := first | decide | omega) only [wr_o, wr_k, wr_s]; exact a9
      · simp (disch := first | decide | omega) only [wr_o, wr_k, wr_s]; exact b1
      · simp (disch := first | decide | omega) only [wr_o, wr_k, wr_s]; exact b2
      · simp (disch := first | decide | omega) only [wr_o, wr_k, wr_s]; exact b3
      · exact (((LoC.refl hi).wr (by omega)).wr (by omega))
