/-! figures to the base 3 -/
def bN (H x : Nat) : Nat := if H.testBit x = true then 1 else 0
def f3k : Nat → Nat → Nat
  | 0, _ => 0
  | k + 1, H => bN H 0 + 3 * f3k k (H / 2)
theorem bN_le (H x : Nat) : bN H x ≤ 1 := by unfold bN; split <;> omega
theorem bN_half (H x : Nat) : bN (H / 2) x = bN H (x + 1) := by unfold bN; rw [Nat.testBit_div_two]
theorem figT_f3 : ∀ j, j < 64 → figT j = nI (f3k 6 j) := by decide +kernel
theorem fig_0 (t : Nat) : fig t 0 = t % 3 := by unfold fig; rw [Nat.pow_zero, Nat.div_one]
theorem fig_s (t x : Nat) : fig t (x + 1) = fig (t / 3) x := by unfold fig; rw [Nat.pow_succ, Nat.mul_comm, Nat.div_div_eq_div_mul]
def Dsj (H L : Nat) : Prop := ∀ x, ¬ (H.testBit x = true ∧ L.testBit x = true)
theorem Dsj.half {H L : Nat} (h : Dsj H L) : Dsj (H / 2) (L / 2) := fun x => by rw [Nat.testBit_div_two, Nat.testBit_div_two]; exact h (x + 1)
theorem Dsj.le {H L : Nat} (h : Dsj H L) (x : Nat) : bN H x + bN L x ≤ 1 := by
  unfold bN
  by_cases a : H.testBit x = true
  · rw [if_pos a, if_neg (fun b => h x ⟨a, b⟩)]; omega
  · rw [if_neg a]; split <;> omega
theorem f3k_fig : ∀ k H L, Dsj H L → ∀ x, x < k → fig (f3k k H + 2 * f3k k L) x = bN H x + 2 * bN L x := by
  intro k
  induction k with
  | zero => intro H L _ x hx; omega
  | succ k ih =>
    intro H L hd x hx
    have h0 := hd.le 0
    show fig (bN H 0 + 3 * f3k k (H / 2) + 2 * (bN L 0 + 3 * f3k k (L / 2))) x = _
    cases x with
    | zero => rw [fig_0]; omega
    | succ x =>
      rw [fig_s, show (bN H 0 + 3 * f3k k (H / 2) + 2 * (bN L 0 + 3 * f3k k (L / 2))) / 3 = f3k k (H / 2) + 2 * f3k k (L / 2) by omega, ih _ _ hd.half x (by omega), bN_half, bN_half]
theorem f3k_lt : ∀ k w H L, Dsj H L → (∀ x, H.testBit x = true → x < w) → (∀ x, L.testBit x = true → x < w) → f3k k H + 2 * f3k k L < 3 ^ w := by
  intro k
  induction k with
  | zero => intro w H L _ _ _; exact Nat.pow_pos (by omega)
  | succ k ih =>
    intro w H L hd h1 h2
    have h0 := hd.le 0
    show bN H 0 + 3 * f3k k (H / 2) + 2 * (bN L 0 + 3 * f3k k (L / 2)) < _
    cases w with
    | zero =>
      have a := ih 0 (H / 2) (L / 2) hd.half (fun x hx => by rw [Nat.testBit_div_two] at hx; have := h1 _ hx; omega) (fun x hx => by rw [Nat.testBit_div_two] at hx; have := h2 _ hx; omega)
      have b : bN H 0 = 0 := by unfold bN; rw [if_neg (fun q => by have := h1 _ q; omega)]
      have c : bN L 0 = 0 := by unfold bN; rw [if_neg (fun q => by have := h2 _ q; omega)]
      omega
    | succ w =>
      have a := ih w (H / 2) (L / 2) hd.half (fun x hx => by rw [Nat.testBit_div_two] at hx; have := h1 _ hx; omega) (fun x hx => by rw [Nat.testBit_div_two] at hx; have := h2 _ hx; omega)
      rw [Nat.pow_succ]
      omega
theorem f3k_eq : ∀ k H L t, t < 3 ^ k → (∀ x, x < k → (H.testBit x = true ↔ fig t x = 1)) → (∀ x, x < k → (L.testBit x = true ↔ fig t x = 2)) → f3k k H + 2 * f3k k L = t := by
  intro k
  induction k with
  | zero => intro H L t ht _ _; rw [Nat.pow_zero] at ht; show 0 + 2 * 0 = t; omega
  | succ k ih =>
    intro H L t ht h1 h2
    have a := ih (H / 2) (L / 2) (t / 3) (by rw [Nat.pow_succ] at ht; omega) (fun x hx => by rw [Nat.testBit_div_two, h1 (x + 1) (by omega), fig_s]) (fun x hx => by rw [Nat.testBit_div_two, h2 (x + 1) (by omega), fig_s])
    show bN H 0 + 3 * f3k k (H / 2) + 2 * (bN L 0 + 3 * f3k k (L / 2)) = t
    have b : bN H 0 + 2 * bN L 0 = t % 3 := by
      have q1 := h1 0 (by omega)
      have q2 := h2 0 (by omega)
      have q3 := fig_lt t 0
      rw [← fig_0]
      unfold bN
      by_cases e1 : H.testBit 0 = true
      · have := q1.mp e1
        rw [if_pos e1, if_neg (fun q => by have := q2.mp q; omega)]; omega
      · rw [if_neg e1]
        by_cases e2 : L.testBit 0 = true
        · have := q2.mp e2
          rw [if_pos e2]; omega
        · rw [if_neg e2]
          have n1 : fig t 0 ≠ 1 := fun q => e1 (q1.mpr q)
          have n2 : fig t 0 ≠ 2 := fun q => e2 (q2.mpr q)
          omega
    omega
theorem fig_big {t w x : Nat} (ht : t < 3 ^ w) (hx : w ≤ x) : fig t x = 0 := by
  unfold fig
  rw [Nat.div_eq_of_lt (Nat.lt_of_lt_of_le ht (Nat.pow_le_pow_right (by omega) hx))]
/-- the free wires of turn t -/
noncomputable def freeM (w t : Nat) : Nat := msk (fun x => fig t x = 0) w
noncomputable def highM (w t : Nat) : Nat := msk (fun x => fig t x = 1) w
theorem byte_Ls {A : St} (hw : WF A) (h : Nat → Nat) (t : Nat) : (LsI A h t).toInt8.toInt32 = LsI A h t := by
  unfold LsI
  rcases Lst_cases hw h t with ⟨e, _⟩ | ⟨e, _⟩
  · rw [if_pos e]; decide
  · rw [if_neg (by omega)]; exact fa_byte_small (by omega)
theorem sdf_lt {a b k : Nat} (h : a < 2 ^ k) : sdf a b < 2 ^ k := by
  refine Nat.lt_pow_two_of_testBit _ (fun i hi => ?_)
  rw [sdf_bit, Nat.testBit_lt_two_pow (Nat.lt_of_lt_of_le h (Nat.pow_le_pow_right (by omega) hi))]; rfl
theorem sub_le {a b : Nat} (h : ∀ x, a.testBit x = true → b.testBit x = true) : a ≤ b := by
  have : a &&& b = a := Nat.eq_of_testBit_eq (fun x => by
    rw [Nat.testBit_and]
    cases e : a.testBit x with
    | false => rfl
    | true => rw [h x e]; rfl)
  rw [← this]
  exact Nat.and_le_right
/-- a turn's cells are right -/
def TR (A : St) (hi : HI) (t : Nat) : Prop := hi 13 t = nI (Gt A t) ∧ hi 14 t = LsI A A.st t
theorem c_fillDriven {N : Nat} (hN : 70000 ≤ N) {A : St} (hw : WF A) {hi : HI} {hl : HL} {F : Nat} {D L : Nat → Nat → Nat} (hF : F < 2 ^ A.w) (h7 : hi 7 2 = nI A.w) (hS : hi 7 3 = nI A.sup) (mt : Mat hi 10 11 D L) (lv : Lv (Stg A A.st) A.w F A.w D L) (h17 : ∀ j, j < 64 → hi 17 j = figT j) : wp (f_TurnTable_fillDriven N (nI (sdf (2 ^ A.w - 1) F)) hi hl) (fun o => Sam [7, 13, 14] hi o.2.1 ∧ o.2.1 7 2 = nI A.w ∧ o.2.1 7 3 = nI A.sup ∧ ∀ t, t < 3 ^ A.w → (freeM A.w t = F ∨ TR A hi t) → TR A o.2.1 t) := by
  unfold f_TurnTable_fillDriven
  have w6 := hw.w6
  have pw : 2 ^ A.w ≤ 2 ^ 6 := Nat.pow_le_pow_right (by omega) w6
  have pw0 : 0 < 2 ^ A.w := Nat.two_pow_pos _
  have p3 := pow3_le w6
  have hDr : sdf (2 ^ A.w - 1) F < 2 ^ A.w := sdf_lt (by omega)
  generalize hd : sdf (2 ^ A.w - 1) F = dv at *
  have dvb : ∀ x, dv.testBit x = true ↔ x < A.w ∧ F.testBit x = false := fun x => by
    rw [← hd, sdf_bit, all_bit]; simp
  have bd : ∀ {m x : Nat}, m < 2 ^ A.w → m.testBit x = true → x < A.w := fun h q => bit_lt h q
  refine wp.bnd (P := fun z => Sam [7, 13, 14] hi z.1 ∧ z.1 7 2 = nI A.w ∧ z.1 7 3 = nI A.sup ∧ ∀ t, t < 3 ^ A.w → (freeM A.w t = F ∨ TR A hi t) → TR A z.1 t) ?_ (fun z hz => by rw [wp_some]; exact hz)
  refine wp_for (dv + 1) (fun i s => s.1 = nI i ∧ Sam [7, 13, 14] hi s.2.1 ∧ s.2.1 7 2 = nI A.w ∧ s.2.1 7 3 = nI A.sup ∧ ∀ t, t < 3 ^ A.w → ((freeM A.w t = F ∧ highM A.w t < i) ∨ TR A hi t) → TR A s.2.1 t) ?_ ?_ (i := 0) (by omega) ⟨rfl, Sam.refl _ _, h7, hS, fun t _ q => by rcases q with q | q; omega; exact q⟩ (by omega)
  · rintro i ⟨q, g, l⟩ hi1 ⟨rfl, sm, g7, gS, tr⟩
    dsimp only at sm g7 gS tr
    unfold B_TurnTable_fillDriven_2 J_TurnTable_fillDriven_70
    dsimp only
    refine wp_neg (nI_nlt (by omega) (by omega)) ?_
    rw [ni_andnot, ni_andnot]
    have i6 : i < 2 ^ A.w := by omega
    by_cases sub : sdf i dv = 0
    · refine wp_pos (by rw [sub]; rfl) (wp_neg (nI_in (by omega) (by omega)) ?_)
      have lo6 : sdf dv i < 2 ^ A.w := sdf_lt hDr
      refine wp_neg (nI_in (by omega) (by omega)) ?_
      have subb : ∀ x, i.testBit x = true → dv.testBit x = true := fun x hx => by
        cases e : dv.testBit x with
        | true => rfl
        | false =>
          have := sdf_bit i dv x
          rw [sub, hx, e, Nat.zero_testBit] at this
          cases this
      have dsj : Dsj i (sdf dv i) := fun x q => by
        rw [sdf_bit, q.1] at q
        simp at q
      generalize ht : f3k 6 i + 2 * f3k 6 (sdf dv i) = t
      have tlt : t < 3 ^ A.w := by
        rw [← ht]
        exact f3k_lt 6 A.w i _ dsj (fun x hx => bd i6 hx) (fun x hx => bd lo6 hx)
      have fg : ∀ x, x < A.w → fig t x = bN i x + 2 * bN (sdf dv i) x := fun x hx => by
        rw [← ht]; exact f3k_fig 6 i _ dsj x (by omega)
      have lob : ∀ x, (sdf dv i).testBit x = true ↔ dv.testBit x = true ∧ i.testBit x = false := fun x => by rw [sdf_bit]; simp
      have cases3 : ∀ x, x < A.w → (F.testBit x = true ∧ i.testBit x = false ∧ (sdf dv i).testBit x = false ∧ fig t x = 0) ∨ (F.testBit x = false ∧ i.testBit x = true ∧ (sdf dv i).testBit x = false ∧ fig t x = 1) ∨ (F.testBit x = false ∧ i.testBit x = false ∧ (sdf dv i).testBit x = true ∧ fig t x = 2) := by
        intro x hx
        have f := fg x hx
        unfold bN at f
        have a1 := dvb x
        have a2 := lob x
        have a3 := subb x
        cases b1 : F.testBit x <;> cases b2 : i.testBit x <;> cases b3 : (sdf dv i).testBit x <;> cases b4 : dv.testBit x <;> simp_all
      have mk : Msk A.w t F i (sdf dv i) := by
        refine ⟨by omega, by omega, by omega, fun x hx => ?_, fun x hx => ?_, fun x hx => ?_⟩ <;> rcases cases3 x hx with ⟨a, b, c, d⟩ | ⟨a, b, c, d⟩ | ⟨a, b, c, d⟩ <;> simp [a, b, c, d]
      have gm : Mat g 10 11 D L := fun u v hu hv => by rw [sm 10 (by decide), sm 11 (by decide)]; exact mt u v hu hv
      have e17 : ∀ j, j < 64 → g 17 j = nI (f3k 6 j) := fun j hj => by rw [sm 17 (by decide), h17 j hj, figT_f3 j hj]
      refine (c_drive hN w6 (by omega) (by omega) g7 gS hw.s30 gm lv.le).bnd (fun z hz => ?_)
      obtain ⟨d, l, dr, ez⟩ := hz
      have r := way_masks hw mk lv dr
      rw [r.1, r.2] at ez
      have et : g 17 (nI i).toNatClampNeg + 2 * g 17 (nI (sdf dv i)).toNatClampNeg = nI t := by
        rw [nI_clamp (by omega), nI_clamp (by omega), e17 _ (by omega), e17 _ (by omega), ← ht]
        show _ + nI 2 * _ = _
        rw [pk_mul, nI_add]
      rw [et]
      refine wp_neg (nI_in (by omega) (by omega)) (wp_neg (nI_in (by omega) (by omega)) ?_)
      rw [wp_some, nI_clamp (by omega), ez]
      have e1 : wr (wr g 7 0 (LsI A A.st t)) 7 1 (nI (GM A A.st t)) 7 1 = nI (GM A A.st t) := wr_s _ _ _ _
      have e2 : wr (wr (wr g 7 0 (LsI A A.st t)) 7 1 (nI (GM A A.st t))) 13 t (nI (GM A A.st t)) 7 0 = LsI A A.st t := by rw [wr_o (by omega), wr_k (by omega), wr_s]
      rw [e1, e2, byte_Ls hw, byte_Ls hw]
      refine ⟨nI_1 i, (((sm.wr (by decide)).wr (by decide)).wr (by decide)).wr (by decide), ?_, ?_, fun t' ht' q => ?_⟩
      · simp (disch := first | decide | omega) only [wr_o, wr_k, wr_s]; exact g7
      · simp (disch := first | decide | omega) only [wr_o, wr_k, wr_s]; exact gS
      · unfold TR
        dsimp only
        have a13 : wr (wr (wr (wr g 7 0 (LsI A A.st t)) 7 1 (nI (GM A A.st t))) 13 t (nI (GM A A.st t))) 14 t (LsI A A.st t) 13 t' = if t' = t then nI (GM A A.st t) else g 13 t' := by rw [wr_o (by omega), wr_i, wr_o (by omega), wr_o (by omega)]
        have a14 : wr (wr (wr (wr g 7 0 (LsI A A.st t)) 7 1 (nI (GM A A.st t))) 13 t (nI (GM A A.st t))) 14 t (LsI A A.st t) 14 t' = if t' = t then LsI A A.st t else g 14 t' := by rw [wr_i, wr_o (by omega), wr_o (by omega), wr_o (by omega)]
        rw [a13, a14]
        by_cases e : t' = t
        · subst e; rw [if_pos rfl, if_pos rfl]; exact ⟨rfl, rfl⟩
        · rw [if_neg e, if_neg e]
          refine tr t' ht' ?_
          rcases q with ⟨q1, q2⟩ | q
          · refine Or.inl ⟨q1, ?_⟩
            by_cases h : highM A.w t' = i
            · exfalso
              apply e
              rw [← ht]
              refine (f3k_eq 6 i (sdf dv i) t' (Nat.lt_of_lt_of_le ht' (Nat.pow_le_pow_right (by omega) w6)) (fun x hx => ?_) (fun x hx => ?_)).symm
              · rw [← h]
                unfold highM
                rw [msk_bit]
                exact ⟨fun z => z.2, fun z => ⟨by
                  refine Nat.lt_of_not_le (fun c => ?_)
                  rw [fig_big ht' c] at z; omega, z⟩⟩
              · rw [lob, dvb, ← h, ← q1]
                unfold highM freeM
                have m1 := msk_bit (fun x => fig t' x = 0) A.w x
                have m2 := msk_bit (fun x => fig t' x = 1) A.w x
                have f3 := fig_lt t' x
                constructor
                · rintro ⟨⟨z1, z2⟩, z3⟩
                  rw [z2] at m1
                  rw [z3] at m2
                  have n1 : fig t' x ≠ 0 := fun z => absurd (m1.mpr ⟨z1, z⟩) (by decide)
                  have n2 : fig t' x ≠ 1 := fun z => absurd (m2.mpr ⟨z1, z⟩) (by decide)
                  omega
                · intro z
                  have xw : x < A.w := by
                    refine Nat.lt_of_not_le (fun c => ?_)
                    rw [fig_big ht' c] at z; omega
                  refine ⟨⟨xw, ?_⟩, ?_⟩
                  · cases b : (msk (fun x => fig t' x = 0) A.w).testBit x with
                    | false => rfl
                    | true => have := (m1.mp b).2; omega
                  · cases b : (msk (fun x => fig t' x = 1) A.w).testBit x with
                    | false => rfl
                    | true => have := (m2.mp b).2; omega
            · omega
          · exact Or.inr q
    · refine wp_neg (fun q => sub ((nI_eq (b := 0) (by have := sdf_lt (b := dv) i6; omega) (by omega)).mp q)) ?_
      rw [wp_some]
      refine ⟨nI_1 i, sm, g7, gS, fun t' ht' q => tr t' ht' ?_⟩
      rcases q with ⟨q1, q2⟩ | q
      · refine Or.inl ⟨q1, ?_⟩
        by_cases h : highM A.w t' = i
        · exfalso
          apply sub
          refine Nat.eq_of_testBit_eq (fun x => ?_)
          rw [sdf_bit, Nat.zero_testBit]
          cases b : i.testBit x with
          | false => rfl
          | true =>
            rw [← h] at b
            unfold highM at b
            rw [msk_bit] at b
            have : dv.testBit x = true := by
              rw [dvb, ← q1]
              refine ⟨b.1, ?_⟩
              unfold freeM
              cases c : (msk (fun x => fig t' x = 0) A.w).testBit x with
              | false => rfl
              | true =>
                rw [msk_bit] at c
                have := c.2
                have := b.2
                omega
            rw [this]; rfl
        · omega
      · exact Or.inr q
  · rintro ⟨q, g, l⟩ ⟨rfl, sm, g7, gS, tr⟩
    dsimp only at sm g7 gS tr
    unfold B_TurnTable_fillDriven_2
    dsimp only
    refine wp_pos (nI_lt (by omega) (by omega)) ?_
    rw [wp_some]
    refine ⟨sm, g7, gS, fun t ht q => tr t ht ?_⟩
    rcases q with q | q
    · refine Or.inl ⟨q, ?_⟩
      refine Nat.lt_succ_of_le ?_
      have : ∀ x, (highM A.w t).testBit x = true → dv.testBit x = true := fun x hx => by
        unfold highM at hx
        rw [msk_bit] at hx
        rw [dvb, ← q]
        refine ⟨hx.1, ?_⟩
        unfold freeM
        cases c : (msk (fun x => fig t x = 0) A.w).testBit x with
        | false => rfl
        | true =>
          rw [msk_bit] at c
          have := c.2
          have := hx.2
          omega
      exact sub_le this
    · exact Or.inr q
