/-! how many pictures can be shown -/
theorem ct_col (p : Nat → Prop) : fb_sm (col p) 1024 = fb_ct (fun q => cD (p q)) 65536 := by
  have key : ∀ B J, J ≤ 1024 → fb_sm (fun j => fb_ct (fun b => cD (p (1024 * b + j))) (B + 1)) J = fb_sm (fun j => fb_ct (fun b => cD (p (1024 * b + j))) B) J + fb_ct (fun j => cD (p (1024 * B + j))) J := by
    intro B J hJ
    induction J with
    | zero => rfl
    | succ J ih =>
      rw [fb_sm_succ, fb_sm_succ, fb_ct_succ _ J, ih (by omega), fb_ct_succ _ B]; omega
  have all : ∀ B, fb_sm (fun j => fb_ct (fun b => cD (p (1024 * b + j))) B) 1024 = fb_ct (fun q => cD (p q)) (1024 * B) := by
    intro B
    induction B with
    | zero =>
      show fb_sm (fun _ => 0) 1024 = 0
      rw [fb_sm_const]
    | succ B ih => rw [key B 1024 (Nat.le_refl _), ih, show 1024 * (B + 1) = 1024 * B + 1024 by omega, fb_ct_split]
  exact all 64
theorem ct_cut {p : Nat → Prop} {W : Nat} (hW : W ≤ 1024) (h : ∀ q, p q → q % 1024 < W) : fb_sm (col p) W = fb_sm (col p) 1024 := by
  obtain ⟨d, e⟩ : ∃ d, 1024 = W + d := ⟨1024 - W, by omega⟩
  rw [e, fb_sm_split]
  have z : fb_sm (fun k => col p (W + k)) d = fb_sm (fun _ => 0) d := fb_sm_cong (fun k hk => by
    unfold col
    rw [fb_ct_zero]
    intro b hb
    exact cD_f.mpr (fun q => by have := h _ q; omega))
  rw [z, fb_sm_const]; omega
theorem cntFew_succ {A : St} (hw : WF A) (m : Nat) : cntFew A (m + 1) = cntFew A m + fb_ct (fun q => cD (q < 2 ^ A.n ∧ Few A q = m + 1)) 65536 := by
  have p2 := pow2_le hw.n16
  obtain ⟨d, e⟩ : ∃ d, 65536 = 2 ^ A.n + d := ⟨65536 - 2 ^ A.n, by omega⟩
  rw [e, fb_ct_split]
  have z : fb_ct (fun k => cD (2 ^ A.n + k < 2 ^ A.n ∧ Few A (2 ^ A.n + k) = m + 1)) d = 0 := fb_ct_zero.mpr (fun k hk => cD_f.mpr (fun q => by omega))
  rw [z]
  unfold cntFew
  simp only [Nat.add_zero]
  rw [← fb_ct_or (p := fun p => decide (Few A p ≤ m)) (q := fun q => cD (q < 2 ^ A.n ∧ Few A q = m + 1)) (fun k hk q => by
    have h1 := of_decide_eq_true q.1
    have h2 := (cD_t.mp q.2).2
    omega)]
  refine fb_ct_cong (fun k hk => ?_)
  by_cases c : Few A k ≤ m
  · rw [decide_eq_true (show Few A k ≤ m + 1 by omega), decide_eq_true c]; rfl
  · rw [decide_eq_false c, Bool.false_or]
    by_cases d : Few A k = m + 1
    · rw [decide_eq_true (by omega), cD_t.mpr ⟨hk, d⟩]
    · rw [decide_eq_false (by omega), cD_f.mpr (fun q => d q.2)]
theorem Few_down {A : St} (hw : WF A) {q k : Nat} (hk : k < 90) (h : Few A q = k + 1) : ∃ f s, Few A f = k ∧ IsSet A s ∧ q = f ||| s := by
  obtain ⟨f, s, h1, h2, h3⟩ := (Few_iff hw (k := k + 1) (p := q) (by omega)).mpr (by omega)
  have h4 := (Few_iff hw (by omega)).mp h1
  refine ⟨f, s, ?_, h2, h3⟩
  refine Nat.le_antisymm h4 (Nat.le_of_not_lt (fun d => ?_))
  have : Uni A (Few A f + 1) q := ⟨f, s, (Few_iff hw (by omega)).mpr (Nat.le_refl _), h2, h3⟩
  have := (Few_iff hw (by omega)).mp this
  omega
theorem Few_gap {A : St} (hw : WF A) {m : Nat} (hm : m < 20) (h : ∀ q, Few A q ≠ m) : ∀ k, k < 40 → ∀ q, Few A q ≠ m + k := by
  intro k
  induction k with
  | zero => intro _ q; exact h q
  | succ k ih =>
    intro hk q e
    obtain ⟨f, s, f1, _⟩ := Few_down hw (k := m + k) (by omega) (by omega)
    exact ih (by omega) f f1
theorem Few_lt {A : St} (hw : WF A) {q : Nat} (h : Few A q < 100) : q < 2 ^ A.n := Uni.lt hw ((Few_iff hw h).mpr (Nat.le_refl _))
theorem c_order {N : Nat} (hN : 70000 ≤ N) {A : St} (hw : WF A) {hi : HI} {hl : HL} {K : Nat} {ks ts : Nat → Nat} (kn : Kn A hi K ks ts) (h5 : hi 38 5 = 42) : wp (f_Unions_order N hi hl) (fun o => Sam [38, 40] hi o.2.1 ∧ (∀ j, j ≠ 2 → o.2.1 38 j = hi 38 j) ∧ ∃ C ov, Or2 A o.2.1 C ov ∧ ∀ g, IsSet A g → g ≠ 0 → ∃ j, j < C ∧ ov j = g) := by
  unfold f_Unions_order
  have kN := kn.kN
  have k6 : ∀ i, i < K → ks i < 65536 := fun i hi => (kn.set hi).l6 hw
  refine wp.bnd (P := fun z => Sam [38, 40] hi z.1 ∧ (∀ j, j ≠ 2 → z.1 38 j = hi 38 j) ∧ ∃ C ov, Or2 A z.1 C ov ∧ ∀ g, IsSet A g → g ≠ 0 → ∃ j, j < C ∧ ov j = g) ?_ (fun z hz => by rw [wp_some]; exact hz)
  refine wp_for 64 (fun u s => s.1 = nI u ∧ Sam [38, 40] hi s.2.1 ∧ (∀ j, j ≠ 2 → s.2.1 38 j = hi 38 j) ∧ ∃ (C : Nat) (ov : Nat → Nat), C = fb_ct (fun i => decide (ks i / 1024 < u)) K ∧ s.2.1 38 2 = nI C ∧ (∀ j, j < C → s.2.1 40 j = nI (ov j) ∧ IsSet A (ov j)) ∧ ∀ i, i < K → ks i / 1024 < u → ∃ j, j < C ∧ ov j = ks i) ?_ ?_ (i := 0) (by omega) ⟨rfl, (Sam.refl _ _).wr (by decide), (fun j hj => by dsimp only; rw [wr_k hj]), 0, fun _ => 0, (fb_ct_zero.mpr (fun i _ => decide_eq_false (by omega))).symm, (by dsimp only; rw [wr_s]; rfl), (fun j hj => by omega), (fun i _ h => by omega)⟩ (by omega)
  · rintro u ⟨q, g, gl⟩ hu ⟨rfl, sm, s38, C, ov, eC, g2, g40, cov⟩
    dsimp only at sm s38 g2 g40
    unfold B_Unions_order_7
    dsimp only
    refine wp_neg (nI_ge (b := 64) hu (by omega)) ?_
    refine wp.bnd (P := fun z => Sam [38, 40] hi z.1 ∧ (∀ j, j ≠ 2 → z.1 38 j = hi 38 j) ∧ ∃ (C : Nat) (ov : Nat → Nat), C = fb_ct (fun i => decide (ks i / 1024 < u + 1)) K ∧ z.1 38 2 = nI C ∧ (∀ j, j < C → z.1 40 j = nI (ov j) ∧ IsSet A (ov j)) ∧ ∀ i, i < K → ks i / 1024 < u + 1 → ∃ j, j < C ∧ ov j = ks i) ?_ (fun z hz => by rw [wp_some]; exact ⟨nI_1 u, hz⟩)
    refine wp_for K (fun m s => s.1 = nI m ∧ Sam [38, 40] hi s.2.1 ∧ (∀ j, j ≠ 2 → s.2.1 38 j = hi 38 j) ∧ ∃ (C : Nat) (ov : Nat → Nat), C = fb_ct (fun i => decide (ks i / 1024 < u ∨ (ks i / 1024 = u ∧ i < m))) K ∧ s.2.1 38 2 = nI C ∧ (∀ j, j < C → s.2.1 40 j = nI (ov j) ∧ IsSet A (ov j)) ∧ ∀ i, i < K → (ks i / 1024 < u ∨ (ks i / 1024 = u ∧ i < m)) → ∃ j, j < C ∧ ov j = ks i) ?_ ?_ (i := 0) (Nat.zero_le _) ⟨rfl, sm, s38, C, ov, (by rw [eC]; exact fb_ct_cong (fun i _ => decide_eq_decide.mpr (by omega))), g2, g40, (fun i h1 h2 => cov i h1 (by omega))⟩ (by omega)
    · rintro m ⟨q, g, gl⟩ hm ⟨rfl, sm, s38, C, ov, eC, g2, g40, cov⟩
      dsimp only at sm s38 g2 g40
      have r12 : g 12 7 = nI K := by rw [sm 12 (by decide)]; exact kn.k
      have r15 : g 15 m = nI (ks m) := by rw [sm 15 (by decide)]; exact kn.kd m hm
      have km := k6 m hm
      have cm : (nI m).toNatClampNeg = m := nI_clamp (by omega)
      have e10 : nI (ks m) >>> ((10 : Int32) &&& 31) = nI (ks m / 1024) := ni_shr (k := 10) (by omega) (by omega)
      unfold B_Unions_order_15 J_Unions_order_61
      dsimp only
      simp only [cm, r15, e10]
      refine wp_neg (by rw [r12]; exact nI_ge hm (by omega)) (wp_neg (nI_in' (by omega) (by omega)) ?_)
      by_cases c : ks m / 1024 = u
      · have up := fb_ct_upd (fun i => decide (ks i / 1024 < u ∨ (ks i / 1024 = u ∧ i < m))) true (i := m) (n := K) hm
        have e1 : fb_ct (fun k => if k = m then true else decide (ks k / 1024 < u ∨ (ks k / 1024 = u ∧ k < m))) K = fb_ct (fun i => decide (ks i / 1024 < u ∨ (ks i / 1024 = u ∧ i < m + 1))) K := fb_ct_cong (fun k _ => by
          by_cases e : k = m
          · rw [if_pos e, decide_eq_true]; rw [e]; omega
          · rw [if_neg e]; exact decide_eq_decide.mpr (by omega))
        rw [e1, ← eC] at up
        have e2 : decide (ks m / 1024 < u ∨ (ks m / 1024 = u ∧ m < m)) = false := decide_eq_false (by omega)
        simp only [e2] at up
        have up' : fb_ct (fun i => decide (ks i / 1024 < u ∨ (ks i / 1024 = u ∧ i < m + 1))) K = C + 1 := by
          simpa using up
        have cl : C + 1 ≤ K := by rw [← up']; exact fb_ct_le _ _
        have cC : (nI C).toNatClampNeg = C := nI_clamp (by omega)
        refine wp_pos (by rw [c]) (wp_neg (nI_in' (by omega) (by omega)) ?_)
        have q2 : ∀ v, wr g 40 C v 38 2 = nI C := fun v => by rw [wr_o (by omega)]; exact g2
        rw [g2, cC, q2]
        refine wp_neg (nI_in' (by omega) (by omega)) ?_
        rw [wp_some]
        refine ⟨nI_1 m, (sm.wr (by decide)).wr (by decide), fun j hj => ?_, C + 1, fun j => if j = C then ks m else ov j, up'.symm, ?_, fun j hj => ?_, fun i hi h => ?_⟩
        · dsimp only; rw [wr_k hj, wr_o (by omega)]; exact s38 j hj
        · dsimp only; rw [wr_s]; exact nI_1 C
        · dsimp only
          rw [wr_o (by omega), wr_i]
          by_cases e : j = C
          · rw [if_pos e, if_pos e]; exact ⟨rfl, kn.set hm⟩
          · rw [if_neg e, if_neg e]; exact g40 j (by omega)
        · by_cases e : i = m
          · exact ⟨C, by omega, by dsimp only; rw [if_pos rfl, e]⟩
          · obtain ⟨j, j1, j2⟩ := cov i hi (by omega)
            exact ⟨j, by omega, by dsimp only; rw [if_neg (by omega)]; exact j2⟩
      · refine wp_neg (fun q => c ((nI_eq (by omega) (by omega)).mp q)) ?_
        rw [wp_some]
        refine ⟨nI_1 m, sm, s38, C, ov, ?_, g2, g40, fun i hi h => cov i hi ?_⟩
        · rw [eC]
          refine fb_ct_cong (fun i _ => decide_eq_decide.mpr ⟨fun h => by omega, fun h => ?_⟩)
          by_cases e : i = m
          · subst e; omega
          · omega
        · by_cases e : i = m
          · subst e; omega
          · omega
    · rintro ⟨q, g, gl⟩ ⟨rfl, sm, s38, C, ov, eC, g2, g40, cov⟩
      dsimp only at sm s38 g2 g40
      have r12 : g 12 7 = nI K := by rw [sm 12 (by decide)]; exact kn.k
      unfold B_Unions_order_15
      dsimp only
      refine wp_pos (by rw [r12]; exact nI_le (Nat.le_refl _) (by omega)) ?_
      rw [wp_some]
      refine ⟨sm, s38, C, ov, ?_, g2, g40, fun i hi h => cov i hi (by omega)⟩
      rw [eC]
      exact fb_ct_cong (fun i hi => decide_eq_decide.mpr (by omega))
  · rintro ⟨q, g, gl⟩ ⟨rfl, sm, s38, C, ov, eC, g2, g40, cov⟩
    dsimp only at sm s38 g2 g40
    unfold B_Unions_order_7
    dsimp only
    refine wp_pos (nI_le (a := 64) (b := 64) (by omega) (by omega)) ?_
    rw [wp_some]
    refine ⟨sm, s38, C, ov, ⟨g2, ?_, g40, ?_⟩, fun s hs h0 => ?_⟩
    · have : C ≤ K := by rw [eC]; exact fb_ct_le _ _
      omega
    · dsimp only; rw [s38 5 (by omega)]; exact h5
    · obtain ⟨i, i1, i2⟩ := kn.mem hs h0
      have := k6 i i1
      obtain ⟨j, j1, j2⟩ := cov i i1 (by omega)
      exact ⟨j, j1, by rw [j2, i2]⟩
theorem c_reckon {N : Nat} (hN : 70000 ≤ N) {A : St} (hw : WF A) {hi : HI} {hl : HL} {K : Nat} {ks ts : Nat → Nat} (kn : Kn A hi K ks ts) : wp (f_Unions_reckon N (nI A.n) hi hl) (fun o => Sam [38, 39, 40] hi o.2.1 ∧ o.2.1 38 0 = 1 ∧ ∀ k, k ≤ 16 → o.2.1 39 k = nI (cntFew A k)) := by
  unfold f_Unions_reckon
  have n16 := hw.n16
  have p2 := pow2_le n16
  have p20 := Nat.two_pow_pos A.n
  obtain ⟨W, eW, W1, W2⟩ : ∃ W, (1 : Int32) <<< ((if (10 : Int32) < nI A.n then (10 : Int32) else nI A.n) &&& 31) = nI W ∧ W ≤ 1024 ∧ ∀ q, q < 2 ^ A.n → q % 1024 < W := by
    by_cases c : 10 < A.n
    · refine ⟨1024, ?_, by omega, fun q _ => Nat.mod_lt _ (by omega)⟩
      have h : (10 : Int32) < nI A.n := nI_lt (a := 10) c (by omega)
      rw [if_pos h]; decide
    · refine ⟨2 ^ A.n, ?_, ?_, fun q hq => Nat.lt_of_le_of_lt (Nat.mod_le _ _) hq⟩
      · have h : ¬ (10 : Int32) < nI A.n := nI_nlt (b := A.n) (a := 10) (by omega) (by omega)
        rw [if_neg h]; exact ni_one (by omega)
      · exact Nat.le_trans (Nat.pow_le_pow_right (by omega) (show A.n ≤ 10 by omega)) (by decide)
  rw [eW]
  generalize hy : wr (wr hi 38 5 42) 38 4 (nI W) = y
  have sy : Sam [38] hi y := by rw [← hy]; exact ((Sam.refl _ _).wr (by decide)).wr (by decide)
  have y5 : y 38 5 = 42 := by rw [← hy, wr_k (by omega), wr_s]
  have y4 : y 38 4 = nI W := by rw [← hy, wr_s]
  refine (c_order hN hw (kn.sam (sy 12 (by decide)) (sy 15 (by decide)) (sy 16 (by decide))) y5).bnd (fun x hx => ?_)
  obtain ⟨sx, x38, C, ov, od, cov⟩ := hx
  have x4 : x.2.1 38 4 = nI W := by rw [x38 4 (by omega)]; exact y4
  refine wp_pos od.f ?_
  refine (c_fillL hN 0 x.2.1 x.2.2).bnd (fun z hz => ?_)
  obtain ⟨z1, z2, _⟩ := hz
  rw [z1]
  refine wp_pos od.f (wp_neg (by decide) (wp_pos od.f (wp_neg (by decide) (wp_neg (by decide) ?_))))
  have ci0 : Int32.toNatClampNeg 0 = 0 := by decide
  have ci1 : Int32.toNatClampNeg 1024 = 1024 := by decide
  rw [ci0, ci1]
  have e1 : (1 : Int32) <<< (nI A.n &&& 31) = nI (2 ^ A.n) := ni_one (by omega)
  rw [e1]
  have row0 : ∀ off, off + 1024 ≤ 4096 → Row z.2.2 off (fun _ => False) := fun off ho => ⟨fun _ => 0, fun j hj => ⟨Nat.two_pow_pos 64, z2 _ (by omega), fun b hb => by simp⟩⟩
  have one : ∀ off (h : HL), Row h off (fun _ => False) → Row (wrL h 41 (off + 0) (lN 1)) off (fun q => q = 0) := fun off h r => r.wr (by omega) (by decide) (fun b hb => by
    constructor
    · intro q
      have : b < 1 := bit_lt (k := 1) (by decide) q
      omega
    · intro q
      have : b = 0 := by omega
      rw [this]; rfl) (fun b k hb hk hne => ⟨False.elim, fun q => by omega⟩)
  have few0 : ∀ q, (q = 0) ↔ (q < 2 ^ A.n ∧ Few A q ≤ 0) := fun q => ⟨fun h => ⟨by omega, by have := (Few_0 hw).mpr h; omega⟩, fun h => (Few_0 hw).mp (by omega)⟩
  have few0' : ∀ q, (q = 0) ↔ (q < 2 ^ A.n ∧ Few A q = 0) := fun q => ⟨fun h => ⟨by omega, (Few_0 hw).mpr h⟩, fun h => (Few_0 hw).mp h.2⟩
  have cnt0 : cntFew A 0 = 1 := by
    unfold cntFew
    have e : fb_ct (fun p => decide (Few A p ≤ 0)) (2 ^ A.n) = fb_ct (fun p => decide (p = 0)) (2 ^ A.n) := fb_ct_cong (fun p _ => decide_eq_decide.mpr ⟨fun h => (Few_0 hw).mp (by omega), fun h => by have := (Few_0 hw).mpr h; omega⟩)
    rw [e, show 2 ^ A.n = 1 + (2 ^ A.n - 1) by omega, fb_ct_split]
    have : fb_ct (fun k => decide (1 + k = 0)) (2 ^ A.n - 1) = 0 := fb_ct_zero.mpr (fun k _ => decide_eq_false (by omega))
    rw [this]; rfl
  refine wp.bnd (P := fun z => Sam [39] x.2.1 z.1 ∧ ∀ k, k ≤ 16 → z.1 39 k = nI (cntFew A k)) ?_ (fun w hw' => ?_)
  · refine wp_for 17 (fun m s => 1 ≤ m ∧ s.2.1 = nI m ∧ Sam [39] x.2.1 s.2.2.1 ∧ (∀ k, k < m → s.2.2.1 39 k = nI (cntFew A k)) ∧ ((∃ c, s.1 = nI c ∧ c = fb_ct (fun q => cD (q < 2 ^ A.n ∧ Few A q = m - 1)) 65536 ∧ Row s.2.2.2 0 (fun q => q < 2 ^ A.n ∧ Few A q ≤ m - 1) ∧ Row s.2.2.2 1024 (fun q => q < 2 ^ A.n ∧ Few A q = m - 1) ∧ Row s.2.2.2 2048 (fun _ => False)) ∨ (s.1 = 0 ∧ ∀ q, q < 2 ^ A.n → Few A q ≤ m - 1 ∨ Few A q = 100))) ?_ ?_ (i := 1) (by omega) ⟨Nat.le_refl _, rfl, (Sam.refl _ _).wr (by decide), (fun k hk => ?_), Or.inl ⟨1, rfl, ?_, ?_, ?_, ?_⟩⟩ (by omega)
    · rintro m ⟨v, q, g, gl⟩ hm ⟨m1, rfl, sm, h39, alt⟩
      dsimp only at sm h39 alt
      have em : nI m - 1 = nI (m - 1) := pk_sub (b := 1) m1
      have cm : (nI (m - 1)).toNatClampNeg = m - 1 := nI_clamp (by omega)
      have cm' : (nI m).toNatClampNeg = m := nI_clamp (by omega)
      have cl : ∀ k, cntFew A k ≤ 65536 := fun k => Nat.le_trans (fb_ct_le _ _) p2
      have hp := h39 (m - 1) (by omega)
      have suc : cntFew A m = cntFew A (m - 1) + fb_ct (fun q => cD (q < 2 ^ A.n ∧ Few A q = m)) 65536 := by
        have := cntFew_succ hw (m - 1)
        rw [show m - 1 + 1 = m by omega] at this; exact this
      have tail : ∀ (v : Int32) (d : Nat) (g' : HI) (gl' : HL), g' = g → v = nI d → d = fb_ct (fun q => cD (q < 2 ^ A.n ∧ Few A q = m)) 65536 → ((∃ c, v = nI c ∧ c = fb_ct (fun q => cD (q < 2 ^ A.n ∧ Few A q = m)) 65536 ∧ Row gl' 0 (fun q => q < 2 ^ A.n ∧ Few A q ≤ m) ∧ Row gl' 1024 (fun q => q < 2 ^ A.n ∧ Few A q = m) ∧ Row gl' 2048 (fun _ => False)) ∨ (v = 0 ∧ ∀ q, q < 2 ^ A.n → Few A q ≤ m ∨ Few A q = 100)) → wp (J_Unions_reckon_98 N (nI (2 ^ A.n)) (nI m) v g' gl') (fun z => match z with
          | .inl s => 1 ≤ m + 1 ∧ s.2.1 = nI (m + 1) ∧ Sam [39] x.2.1 s.2.2.1 ∧ (∀ k, k < m + 1 → s.2.2.1 39 k = nI (cntFew A k)) ∧ ((∃ c, s.1 = nI c ∧ c = fb_ct (fun q => cD (q < 2 ^ A.n ∧ Few A q = m + 1 - 1)) 65536 ∧ Row s.2.2.2 0 (fun q => q < 2 ^ A.n ∧ Few A q ≤ m + 1 - 1) ∧ Row s.2.2.2 1024 (fun q => q < 2 ^ A.n ∧ Few A q = m + 1 - 1) ∧ Row s.2.2.2 2048 (fun _ => False)) ∨ (s.1 = 0 ∧ ∀ q, q < 2 ^ A.n → Few A q ≤ m + 1 - 1 ∨ Few A q = 100))
          | .inr _ => False) := by
        rintro v d g' gl' rfl rfl hd h
        unfold J_Unions_reckon_98
        rw [em, cm, cm', hp]
        refine wp_neg (nI_in' (by omega) (by omega)) (wp_neg (nI_in' (by omega) (by omega)) ?_)
        rw [wp_some, nI_add, hd, ← suc]
        refine ⟨by omega, nI_1 m, sm.wr (by decide), fun k hk => ?_, ?_⟩
        · dsimp only
          rw [wr_i]
          by_cases e : k = m
          · rw [if_pos e, e]
          · rw [if_neg e]; exact h39 k (by omega)
        · rw [show m + 1 - 1 = m by omega]
          dsimp only
          rw [← hd]; rw [← hd] at h
          exact h
      have none_ : (∀ q, q < 2 ^ A.n → Few A q ≤ m - 1 ∨ Few A q = 100) → wp (J_Unions_reckon_90 N (nI (2 ^ A.n)) (nI m) g gl) (fun z => match z with
          | .inl s => 1 ≤ m + 1 ∧ s.2.1 = nI (m + 1) ∧ Sam [39] x.2.1 s.2.2.1 ∧ (∀ k, k < m + 1 → s.2.2.1 39 k = nI (cntFew A k)) ∧ ((∃ c, s.1 = nI c ∧ c = fb_ct (fun q => cD (q < 2 ^ A.n ∧ Few A q = m + 1 - 1)) 65536 ∧ Row s.2.2.2 0 (fun q => q < 2 ^ A.n ∧ Few A q ≤ m + 1 - 1) ∧ Row s.2.2.2 1024 (fun q => q < 2 ^ A.n ∧ Few A q = m + 1 - 1) ∧ Row s.2.2.2 2048 (fun _ => False)) ∨ (s.1 = 0 ∧ ∀ q, q < 2 ^ A.n → Few A q ≤ m + 1 - 1 ∨ Few A q = 100))
          | .inr _ => False) := by
        intro h
        unfold J_Unions_reckon_90
        refine (tail 0 0 g gl rfl rfl (fb_ct_zero.mpr (fun k _ => cD_f.mpr (fun q => ?_))).symm (Or.inr ⟨rfl, fun q hq => ?_⟩)).mono (fun z hz => by cases z <;> first | exact hz | exact hz.elim)
        · have := h k q.1; omega
        · have := h q hq; omega
      unfold B_Unions_reckon_64
      dsimp only
      refine wp_neg (nI_nlt (b := m) (a := 16) (by omega) (by omega)) ?_
      rcases alt with ⟨c, rfl, ec, r0, r1, r2⟩ | ⟨rfl, alt⟩
      · by_cases c0 : c = 0
        · refine wp_pos (by rw [c0]; rfl) ((none_ (fun q hq => ?_)).mono (fun z hz => by cases z <;> first | exact hz | exact hz.elim))
          have gap : ∀ q, Few A q ≠ m - 1 := fun q e => by
            have ql := Few_lt hw (q := q) (by omega)
            rw [c0] at ec
            have := fb_ct_zero.mp ec.symm q (by omega)
            exact (cD_f.mp this) ⟨ql, e⟩
          by_cases h : Few A q ≤ m - 1
          · exact Or.inl h
          · right
            rcases Few_cases hw q with ⟨e, _⟩ | ⟨e, _⟩
            · exact e
            · exact absurd (show Few A q = m - 1 + (Few A q - (m - 1)) by omega) (Few_gap hw (by omega) gap _ (by omega) q)
        · have cle : c ≤ 65536 := by rw [ec]; exact fb_ct_le _ _
          refine wp_neg (fun q => c0 ((nI_eq (b := 0) (by omega) (by omega)).mp q)) ?_
          rw [em, cm]
          refine wp_neg (nI_in' (by omega) (by omega)) ?_
          have cl1 := cl (m - 1)
          by_cases call : cntFew A (m - 1) = 2 ^ A.n
          · refine wp_pos (by rw [hp, call]) ((none_ (fun q hq => Or.inl ?_)).mono (fun z hz => by cases z <;> first | exact hz | exact hz.elim))
            exact of_decide_eq_true (fb_ct_all.mp call q hq)
          · refine wp_neg (by rw [hp]; exact fun q => call ((nI_eq (by omega) (by omega)).mp q)) ?_
            have odg : Or2 A g C ov := by
              obtain ⟨o1, o2, o3, o4⟩ := od
              exact ⟨by rw [sm 38 (by decide)]; exact o1, o2, by rw [sm 40 (by decide)]; exact o3, by rw [sm 38 (by decide)]; exact o4⟩
            have g4 : g 38 4 = nI W := by rw [sm 38 (by decide)]; exact x4
            have adv : wp (f_Unions_advance N g gl) (fun o => ∃ d, o.1 = nI d ∧ o.2.1 = g ∧ d = fb_ct (fun q => cD (q < 2 ^ A.n ∧ Few A q = m)) 65536 ∧ Row o.2.2 0 (fun q => q < 2 ^ A.n ∧ Few A q ≤ m) ∧ Row o.2.2 1024 (fun q => q < 2 ^ A.n ∧ Few A q = m) ∧ Row o.2.2 2048 (fun _ => False)) := by
              unfold f_Unions_advance
              refine (c_adv1 hN hw odg W1 g4 r1 r2 (fun q hq => ⟨by omega, W2 q hq.1⟩)).bnd (fun u hu => ?_)
              obtain ⟨u1, u2, u3⟩ := hu
              rw [u1]
              have ovl : ∀ i, i < C → ov i < 2 ^ A.n := fun i hi => (od.o i hi).2.lt hw
              have Xl : ∀ q, (∃ f, (f < 2 ^ A.n ∧ Few A f = m - 1) ∧ ∃ i, i < C ∧ q = f ||| ov i) → q < 2 ^ A.n ∧ Few A q ≤ m := by
                rintro q ⟨f, ⟨f1, f2⟩, i, i1, rfl⟩
                refine ⟨Nat.or_lt_two_pow f1 (ovl i i1), ?_⟩
                have : Uni A (m - 1 + 1) (f ||| ov i) := ⟨f, ov i, (Few_iff hw (by omega)).mpr (by omega), (od.o i i1).2, rfl⟩
                have := (Few_iff hw (by omega)).mp this
                omega
              have Xm : ∀ q, Few A q = m → (∃ f, (f < 2 ^ A.n ∧ Few A f = m - 1) ∧ ∃ i, i < C ∧ q = f ||| ov i) := by
                intro q hq
                obtain ⟨f, s, f1, f2, f3⟩ := Few_down hw (k := m - 1) (q := q) (by omega) (by omega)
                have s0 : s ≠ 0 := fun e => by
                  rw [e, Nat.or_zero] at f3
                  rw [← f3] at f1; omega
                obtain ⟨i, i1, i2⟩ := cov s f2 s0
                exact ⟨f, ⟨Few_lt hw (by omega), f1⟩, i, i1, by rw [i2]; exact f3⟩
              have eqv : ∀ q, ((∃ f, (f < 2 ^ A.n ∧ Few A f = m - 1) ∧ ∃ i, i < C ∧ q = f ||| ov i) ∧ ¬ (q < 2 ^ A.n ∧ Few A q ≤ m - 1)) ↔ (q < 2 ^ A.n ∧ Few A q = m) := fun q => ⟨fun ⟨h1, h2⟩ => by
                have := Xl q h1
                exact ⟨this.1, by omega⟩, fun ⟨h1, h2⟩ => ⟨Xm q h2, by omega⟩⟩
              refine (c_adv2 hN W1 g4 odg.f (r0.same (fun j hj => u2 _ (by omega))) (r1.same (fun j hj => u2 _ (by omega))) u3 (fun q hq => W2 q hq.1) (fun q hq => W2 q (Xl q hq).1)).bnd (fun w hw' => ?_)
              obtain ⟨w1, w2, w3, w4, w5⟩ := hw'
              rw [wp_some]
              refine ⟨_, w1, w2, ?_, w3.cong (fun q _ => ?_), w4.cong (fun q _ => eqv q), w5⟩
              · rw [ct_cut W1 (fun q hq => W2 q (Xl q hq.1).1), ct_col]
                exact fb_ct_cong (fun q _ => by rw [propext (eqv q)])
              · constructor
                · rintro (h | h)
                  · exact ⟨h.1, by omega⟩
                  · exact Xl q h
                · intro h
                  by_cases e : Few A q = m
                  · exact Or.inr (Xm q e)
                  · exact Or.inl ⟨h.1, by omega⟩
            refine adv.bnd (fun o ho => ?_)
            obtain ⟨d, o1, o2, o3, o4, o5, o6⟩ := ho
            refine (tail o.1 d o.2.1 o.2.2 o2 o1 o3 (Or.inl ⟨d, o1, o3, o4, o5, o6⟩)).mono (fun z hz => by cases z <;> first | exact hz | exact hz.elim)
      · refine wp_pos rfl ((none_ alt).mono (fun z hz => by cases z <;> first | exact hz | exact hz.elim))
    · rintro ⟨v, q, g, gl⟩ ⟨m1, rfl, sm, h39, alt⟩
      dsimp only at sm h39
      unfold B_Unions_reckon_64
      dsimp only
      refine wp_pos (nI_lt (a := 16) (b := 17) (by omega) (by omega)) ?_
      rw [wp_some]
      exact ⟨sm, fun k hk => h39 k (by omega)⟩
    · dsimp only
      rw [show k = 0 by omega, wr_s, cnt0]; rfl
    · have e : fb_ct (fun q => cD (q < 2 ^ A.n ∧ Few A q = 1 - 1)) 65536 = fb_ct (fun q => decide (q = 0)) 65536 := fb_ct_cong (fun q _ => by
        by_cases h : q = 0
        · rw [decide_eq_true h, cD_t.mpr ((few0' q).mp h)]
        · rw [decide_eq_false h, cD_f.mpr (fun z => h ((few0' q).mpr z))])
      rw [e, show 65536 = 1 + 65535 from rfl, fb_ct_split]
      have : fb_ct (fun k => decide (1 + k = 0)) 65535 = 0 := fb_ct_zero.mpr (fun k _ => decide_eq_false (by omega))
      rw [this]; rfl
    · dsimp only
      exact (Row.oth (one 0 _ (row0 0 (by omega))) (by omega)).cong (fun q _ => few0 q)
    · dsimp only
      exact (one 1024 _ (Row.oth (row0 1024 (by omega)) (by omega))).cong (fun q _ => few0' q)
    · dsimp only
      exact Row.oth (Row.oth (row0 2048 (by omega)) (by omega)) (by omega)
  · rw [wp_some]
    refine ⟨(Sam.trans (Sam.trans sy sx [38, 40] (by decide) (by decide)) hw'.1 [38, 39, 40] (by decide) (by decide)).wr (by decide), ?_, fun k hk => ?_⟩
    · dsimp only; rw [wr_s]
    · dsimp only; rw [wr_o (by omega)]; exact hw'.2 k hk
