/-! shows -/
noncomputable def litA (A : St) (l k : Nat) : Bool := (Gt A (A.pt k)).testBit l
noncomputable def tL (A : St) (l i : Nat) : Nat := fb_sm (fun k => if litA A l k = true then A.pk k else 0) i
noncomputable def pL (A : St) (l i : Nat) : Nat := fb_sm (fun k => shr (Gt A (A.pt k)) l * A.pk k) i
noncomputable def dkA (A : St) (l : Nat) : Nat → Nat × Nat
  | 0 => (0, 0)
  | j + 1 => ((if litA A l (j % A.lines) = true then 0 else (dkA A l j).1 + A.pk (j % A.lines)), (if (dkA A l j).2 < (if litA A l (j % A.lines) = true then 0 else (dkA A l j).1 + A.pk (j % A.lines)) then (if litA A l (j % A.lines) = true then 0 else (dkA A l j).1 + A.pk (j % A.lines)) else (dkA A l j).2))
theorem dk_succ {A : St} {l j k d : Nat} (h : j % A.lines = k) (hd : d = if litA A l k = true then 0 else (dkA A l j).1 + A.pk k) : dkA A l (j + 1) = (d, if (dkA A l j).2 < d then d else (dkA A l j).2) := by
  subst hd; subst h; rfl
theorem dk_le {A : St} (hw : WF A) {l : Nat} (h0 : 0 < A.lines) : ∀ j, (dkA A l j).1 ≤ 60 * j ∧ (dkA A l j).2 ≤ 60 * j := by
  intro j
  induction j with
  | zero => exact ⟨Nat.le_refl _, Nat.le_refl _⟩
  | succ j ih =>
    have pk := hw.pk60 (j % A.lines) (Nat.mod_lt _ h0)
    have h1 : (if litA A l (j % A.lines) = true then 0 else (dkA A l j).1 + A.pk (j % A.lines)) ≤ 60 * (j + 1) := by
      split <;> omega
    refine ⟨h1, ?_⟩
    show (if (dkA A l j).2 < (if litA A l (j % A.lines) = true then 0 else (dkA A l j).1 + A.pk (j % A.lines)) then (if litA A l (j % A.lines) = true then 0 else (dkA A l j).1 + A.pk (j % A.lines)) else (dkA A l j).2) ≤ 60 * (j + 1)
    by_cases c : (dkA A l j).2 < (if litA A l (j % A.lines) = true then 0 else (dkA A l j).1 + A.pk (j % A.lines))
    · rw [if_pos c]; exact h1
    · rw [if_neg c]; omega
theorem tL_0 {A : St} (hw : WF A) {l : Nat} : ∀ {i : Nat}, i ≤ A.lines → (tL A l i = 0 ↔ ∀ k, k < i → litA A l k = false) := by
  intro i hi
  constructor
  · intro h k hk
    have := fb_sm_zero h k hk
    cases c : litA A l k with
    | false => rfl
    | true =>
      rw [c, if_pos rfl] at this
      have := hw.pk1 k (by omega)
      omega
  · intro h
    unfold tL
    have e : fb_sm (fun k => if litA A l k = true then A.pk k else 0) i = fb_sm (fun _ => 0) i := fb_sm_cong (fun k hk => by rw [h k hk]; rfl)
    rw [e, fb_sm_const, Nat.mul_zero]
theorem tL_le {A : St} (hw : WF A) {l i : Nat} (hi : i ≤ A.lines) : tL A l i ≤ 720 := by
  have h := fb_sm_bound (f := fun k => if litA A l k = true then A.pk k else 0) (c := 60) (n := i) (fun k hk => by
    have := hw.pk60 k (by omega)
    split <;> omega)
  have := hw.l12
  unfold tL
  omega
theorem pL_le {A : St} (hw : WF A) {l i : Nat} (hi : i ≤ A.lines) : pL A l i ≤ 518918400 := by
  have h := fb_sm_bound (f := fun k => shr (Gt A (A.pt k)) l * A.pk k) (c := 720720 * 60) (n := i) (fun k hk => Nat.mul_le_mul (shr_le _ _) (hw.pk60 k (by omega)))
  have := hw.l12
  unfold pL
  omega
theorem c_glowsB {N : Nat} (hN : 70000 ≤ N) {A : St} (hw : WF A) {hi : HI} {hl : HL} (hR : RC A hi) {l k : Nat} (hl16 : l < 16) (hk : k < A.lines) : wp (f_LW_glows N (nI l) (nI (A.pt k)) hi hl) (fun o => o.1 = b2i (litA A l k) ∧ Sam [7, 8, 9, 10, 11] hi o.2.1) := by
  unfold f_LW_glows
  have gl := Gt_lt hw (A.pt k)
  refine (c_lampsIn hN hw hR (hw.pt k hk)).bnd (fun x hx => ?_)
  rw [hx.1]
  by_cases c : (Gt A (A.pt k)).testBit l = false
  · refine wp_pos ((ni_bit (by omega) (by omega)).mpr c) ?_
    rw [wp_some]
    unfold litA
    rw [c]
    exact ⟨rfl, hx.2⟩
  · have c' : (Gt A (A.pt k)).testBit l = true := by simpa using c
    refine wp_neg (fun q => c ((ni_bit (by omega) (by omega)).mp q)) ?_
    rw [wp_some]
    unfold litA
    rw [c']
    exact ⟨rfl, hx.2⟩
theorem c_ticksLit {N : Nat} (hN : 70000 ≤ N) {A : St} (hw : WF A) {hi : HI} {hl : HL} (hR : RC A hi) {l : Nat} (hl16 : l < 16) : wp (f_LW_ticksLit N (nI l) hi hl) (fun o => o.1 = nI (tL A l A.lines) ∧ Sam [7, 8, 9, 10, 11] hi o.2.1) := by
  unfold f_LW_ticksLit
  have l12 := hw.l12
  refine wp.bnd (P := fun z => z.1 = nI (tL A l A.lines) ∧ Sam [7, 8, 9, 10, 11] hi z.2.1) ?_ (fun z hz => by rw [wp_some]; exact hz)
  refine wp_for A.lines (fun i s => s.2.1 = nI i ∧ s.1 = nI (tL A l i) ∧ Sam [7, 8, 9, 10, 11] hi s.2.2.1) ?_ ?_ (i := 0) (Nat.zero_le _) ⟨rfl, rfl, Sam.refl _ _⟩ (by omega)
  · rintro i ⟨v, q, g, gl⟩ hi1 ⟨rfl, rfl, sm⟩
    dsimp only at sm
    have rc := hR.ways sm
    unfold B_LW_ticksLit_4 J_LW_ticksLit_44
    dsimp only
    rw [nI_clamp (by omega), rc.sc.t i hi1]
    refine wp_neg (by rw [rc.sc.n]; exact nI_ge hi1 (by omega)) (wp_neg (nI_in' (by omega) (by omega)) ?_)
    refine (c_glowsB hN hw rc hl16 hi1).bnd (fun x hx => ?_)
    have s2 : Sam [7, 8, 9, 10, 11] hi x.2.1 := Sam.trans sm hx.2 _ (by decide) (by decide)
    have e49 : x.2.1 49 i = nI (A.pk i) := (hR.ways s2).sc.k i hi1
    have sc : tL A l (i + 1) = tL A l i + (if litA A l i = true then A.pk i else 0) := by unfold tL; rw [fb_sm_succ]
    cases c : litA A l i with
    | false =>
      refine wp_pos (by rw [hx.1, c]; rfl) ?_
      rw [wp_some]
      refine ⟨nI_1 i, ?_, s2⟩
      dsimp only
      rw [sc, c]; rfl
    | true =>
      refine wp_neg (by rw [hx.1, c]; decide) (wp_neg (nI_in' (by omega) (by omega)) ?_)
      rw [wp_some, e49, nI_add]
      refine ⟨nI_1 i, ?_, s2⟩
      dsimp only
      rw [sc, c]; rfl
  · rintro ⟨v, q, g, gl⟩ ⟨rfl, rfl, sm⟩
    dsimp only at sm
    have rc := hR.ways sm
    unfold B_LW_ticksLit_4
    dsimp only
    refine wp_pos (by rw [rc.sc.n]; exact nI_le (Nat.le_refl _) (by omega)) ?_
    rw [wp_some]
    exact ⟨rfl, sm⟩
theorem c_ticksDark {N : Nat} (hN : 70000 ≤ N) {A : St} (hw : WF A) {hi : HI} {hl : HL} (hR : RC A hi) {l : Nat} (hl16 : l < 16) : wp (f_LW_ticksDark N (nI l) hi hl) (fun o => o.1 = (if tL A l A.lines = 0 then -4 else nI (dkA A l (2 * A.lines)).2) ∧ Sam [7, 8, 9, 10, 11] hi o.2.1) := by
  unfold f_LW_ticksDark
  have l12 := hw.l12
  refine wp.bnd (P := fun z => z.1 = (if tL A l A.lines = 0 then 0 else 1) ∧ z.2.1 = nI (dkA A l (2 * A.lines)).2 ∧ Sam [7, 8, 9, 10, 11] hi z.2.2.1) ?_ (fun z hz => ?_)
  · refine wp_for 2 (fun a s => s.2.2.2.1 = nI a ∧ s.1 = (if a = 0 ∨ tL A l A.lines = 0 then 0 else 1) ∧ s.2.1 = nI (dkA A l (a * A.lines)).1 ∧ s.2.2.1 = nI (dkA A l (a * A.lines)).2 ∧ Sam [7, 8, 9, 10, 11] hi s.2.2.2.2.1) ?_ ?_ (i := 0) (by omega) ⟨rfl, rfl, by rw [Nat.zero_mul]; rfl, by rw [Nat.zero_mul]; rfl, Sam.refl _ _⟩ (by omega)
    · rintro a ⟨v1, v2, v3, q, g, gl⟩ ha ⟨rfl, hv, rfl, rfl, sm⟩
      dsimp only at hv sm
      unfold B_LW_ticksDark_10
      dsimp only
      refine wp_neg (nI_ge (b := 2) ha (by omega)) ?_
      refine wp.bnd (P := fun z => z.1 = (if tL A l A.lines = 0 then 0 else 1) ∧ z.2.1 = nI (dkA A l ((a + 1) * A.lines)).1 ∧ z.2.2.1 = nI (dkA A l ((a + 1) * A.lines)).2 ∧ Sam [7, 8, 9, 10, 11] hi z.2.2.2.1) ?_ (fun z hz => by
        rw [wp_some]
        refine ⟨nI_1 a, ?_, hz.2.1, hz.2.2.1, hz.2.2.2⟩
        dsimp only
        rw [hz.1]
        by_cases c : tL A l A.lines = 0
        · rw [if_pos c, if_pos (Or.inr c)]
        · rw [if_neg c, if_neg (by omega)])
      refine wp_for A.lines (fun k s => s.2.2.2.1 = nI k ∧ s.1 = (if (a = 0 ∨ tL A l A.lines = 0) ∧ tL A l k = 0 then 0 else 1) ∧ s.2.1 = nI (dkA A l (a * A.lines + k)).1 ∧ s.2.2.1 = nI (dkA A l (a * A.lines + k)).2 ∧ Sam [7, 8, 9, 10, 11] hi s.2.2.2.2.1) ?_ ?_ (i := 0) (Nat.zero_le _) ⟨rfl, ?_, rfl, rfl, sm⟩ (by omega)
      · rintro k ⟨w1, w2, w3, q, g', gl'⟩ hk ⟨rfl, hw1, rfl, rfl, sm⟩
        dsimp only at hw1 sm
        have rc := hR.ways sm
        have h0 : 0 < A.lines := by omega
        have db := dk_le hw (l := l) h0 (a * A.lines + k)
        have al : a * A.lines ≤ 1 * 12 := Nat.mul_le_mul (by omega) l12
        have pk := hw.pk60 k hk
        have md : (a * A.lines + k) % A.lines = k := by rw [Nat.add_comm, Nat.add_mul_mod_self_right, Nat.mod_eq_of_lt hk]
        unfold B_LW_ticksDark_19
        dsimp only
        rw [nI_clamp (by omega), rc.sc.t k hk]
        refine wp_neg (by rw [rc.sc.n]; exact nI_ge hk (by omega)) (wp_neg (nI_in' (by omega) (by omega)) ?_)
        refine (c_glowsB hN hw rc hl16 hk).bnd (fun x hx => ?_)
        obtain ⟨x1, x2⟩ := hx
        have s2 : Sam [7, 8, 9, 10, 11] hi x.2.1 := Sam.trans sm x2 _ (by decide) (by decide)
        have e49 : x.2.1 49 k = nI (A.pk k) := (hR.ways s2).sc.k k hk
        have sc : tL A l (k + 1) = tL A l k + (if litA A l k = true then A.pk k else 0) := by unfold tL; rw [fb_sm_succ]
        have pk1 := hw.pk1 k hk
        have nd : ∀ d, d = (if litA A l k = true then 0 else (dkA A l (a * A.lines + k)).1 + A.pk k) → dkA A l (a * A.lines + (k + 1)) = (d, if (dkA A l (a * A.lines + k)).2 < d then d else (dkA A l (a * A.lines + k)).2) := by
          intro d hd
          exact dk_succ md hd
        have fin : ∀ (s0 : Int32) (d : Nat), s0 = (if (a = 0 ∨ tL A l A.lines = 0) ∧ tL A l (k + 1) = 0 then 0 else 1) → d = (if litA A l k = true then 0 else (dkA A l (a * A.lines + k)).1 + A.pk k) → wp (J_LW_ticksDark_84 N (nI l) s0 (nI (dkA A l (a * A.lines + k)).2) (nI a) (nI k) (nI d) x.2.1 x.2.2) (fun z => match z with
            | .inl s => s.2.2.2.1 = nI (k + 1) ∧ s.1 = (if (a = 0 ∨ tL A l A.lines = 0) ∧ tL A l (k + 1) = 0 then 0 else 1) ∧ s.2.1 = nI (dkA A l (a * A.lines + (k + 1))).1 ∧ s.2.2.1 = nI (dkA A l (a * A.lines + (k + 1))).2 ∧ Sam [7, 8, 9, 10, 11] hi s.2.2.2.2.1
            | .inr _ => False) := by
          intro s0 d h1 h2
          unfold J_LW_ticksDark_84
          rw [wp_some]
          have dl : d ≤ 60 * (a * A.lines + k) + 60 := by rw [h2]; split <;> omega
          refine ⟨nI_1 k, h1, ?_, ?_, s2⟩
          · dsimp only; rw [nd d h2]
          · dsimp only
            rw [nd d h2]
            by_cases c : (dkA A l (a * A.lines + k)).2 < d
            · rw [if_pos (nI_lt c (by omega)), if_pos c]
            · rw [if_neg (nI_nlt (by omega) (by omega)), if_neg c]
        cases c : litA A l k with
        | false =>
          have e0 : x.1 = 0 := by rw [x1, c]; rfl
          have t1 : tL A l (k + 1) = tL A l k := by rw [sc, c]; rfl
          have go : ∀ s0 : Int32, s0 = (if (a = 0 ∨ tL A l A.lines = 0) ∧ tL A l (k + 1) = 0 then 0 else 1) → wp (J_LW_ticksDark_62 N (nI l) (nI (dkA A l (a * A.lines + k)).1) (nI (dkA A l (a * A.lines + k)).2) (nI a) (nI k) x.1 s0 x.2.1 x.2.2) (fun z => match z with
              | .inl s => s.2.2.2.1 = nI (k + 1) ∧ s.1 = (if (a = 0 ∨ tL A l A.lines = 0) ∧ tL A l (k + 1) = 0 then 0 else 1) ∧ s.2.1 = nI (dkA A l (a * A.lines + (k + 1))).1 ∧ s.2.2.1 = nI (dkA A l (a * A.lines + (k + 1))).2 ∧ Sam [7, 8, 9, 10, 11] hi s.2.2.2.2.1
              | .inr _ => False) := by
            intro s0 hs
            unfold J_LW_ticksDark_62
            refine wp_pos e0 ?_
            rw [nI_clamp (by omega), e49, nI_add]
            exact wp_neg (nI_in' (by omega) (by omega)) ((fin s0 _ hs (by rw [c, if_neg (by decide)])).mono (fun z hz => by cases z <;> first | exact hz | exact hz.elim))
          by_cases v0 : w1 = 0
          · refine wp_pos v0 (wp_pos e0 ((go 0 ?_).mono (fun z hz => by cases z <;> first | exact hz | exact hz.elim)))
            rw [t1, ← hw1, v0]
          · refine wp_neg v0 ?_
            unfold J_LW_ticksDark_57
            refine (go 1 ?_).mono (fun z hz => by cases z <;> first | exact hz | exact hz.elim)
            rw [t1]
            rw [hw1] at v0
            split
            · rename_i h; rw [if_pos h] at v0; exact absurd rfl v0
            · rfl
        | true =>
          have e1 : ¬ x.1 = 0 := by rw [x1, c]; decide
          have t1 : tL A l (k + 1) ≠ 0 := by rw [sc, c, if_pos rfl]; omega
          have go : wp (J_LW_ticksDark_57 N (nI l) (nI (dkA A l (a * A.lines + k)).1) (nI (dkA A l (a * A.lines + k)).2) (nI a) (nI k) x.1 x.2.1 x.2.2) (fun z => match z with
              | .inl s => s.2.2.2.1 = nI (k + 1) ∧ s.1 = (if (a = 0 ∨ tL A l A.lines = 0) ∧ tL A l (k + 1) = 0 then 0 else 1) ∧ s.2.1 = nI (dkA A l (a * A.lines + (k + 1))).1 ∧ s.2.2.1 = nI (dkA A l (a * A.lines + (k + 1))).2 ∧ Sam [7, 8, 9, 10, 11] hi s.2.2.2.2.1
              | .inr _ => False) := by
            unfold J_LW_ticksDark_57 J_LW_ticksDark_62
            refine wp_neg e1 ((fin 1 0 ?_ (by rw [c, if_pos rfl])).mono (fun z hz => by cases z <;> first | exact hz | exact hz.elim))
            rw [if_neg (fun q => t1 q.2)]
          by_cases v0 : w1 = 0
          · exact wp_pos v0 (wp_neg e1 (go.mono (fun z hz => by cases z <;> first | exact hz | exact hz.elim)))
          · exact wp_neg v0 (go.mono (fun z hz => by cases z <;> first | exact hz | exact hz.elim))
      · rintro ⟨w1, w2, w3, q, g', gl'⟩ ⟨rfl, hw1, rfl, rfl, sm⟩
        dsimp only at hw1 sm
        have rc := hR.ways sm
        unfold B_LW_ticksDark_19
        dsimp only
        refine wp_pos (by rw [rc.sc.n]; exact nI_le (Nat.le_refl _) (by omega)) ?_
        rw [wp_some]
        refine ⟨?_, by rw [Nat.succ_mul], by rw [Nat.succ_mul], sm⟩
        dsimp only
        rw [hw1]
        by_cases c : tL A l A.lines = 0
        · rw [if_pos ⟨Or.inr c, c⟩, if_pos c]
        · rw [if_neg (fun q => c q.2), if_neg c]
      · dsimp only
        rw [hv]
        have t0 : tL A l 0 = 0 := rfl
        by_cases c : a = 0 ∨ tL A l A.lines = 0
        · rw [if_pos c, if_pos ⟨c, t0⟩]
        · rw [if_neg c, if_neg (fun q => c q.1)]
    · rintro ⟨v1, v2, v3, q, g, gl⟩ ⟨rfl, hv, rfl, rfl, sm⟩
      dsimp only at hv sm
      unfold B_LW_ticksDark_10
      dsimp only
      refine wp_pos (nI_le (a := 2) (b := 2) (by omega) (by omega)) ?_
      rw [wp_some]
      refine ⟨?_, rfl, sm⟩
      dsimp only
      rw [hv]
      by_cases c : tL A l A.lines = 0
      · rw [if_pos (Or.inr c), if_pos c]
      · rw [if_neg (by omega), if_neg c]
  · obtain ⟨z1, z2, z3⟩ := hz
    by_cases c : tL A l A.lines = 0
    · rw [if_pos c] at z1
      refine wp_pos z1 ?_
      rw [wp_some, if_pos c]
      exact ⟨rfl, z3⟩
    · rw [if_neg c] at z1
      refine wp_neg (by rw [z1]; decide) ?_
      rw [wp_some, if_neg c]
      exact ⟨z2, z3⟩
theorem c_roundLight {N : Nat} (hN : 70000 ≤ N) {A : St} (hw : WF A) {hi : HI} {hl : HL} (hR : RC A hi) : wp (f_LW_gatherRoundLight N hi hl) (fun o => Sam [7, 8, 9, 10, 11, 42] hi o.2.1 ∧ ∀ l, l < A.n → o.2.1 42 l = nI (pL A l A.lines)) := by
  unfold f_LW_gatherRoundLight
  have l12 := hw.l12
  have n16 := hw.n16
  refine (c_fill hN 42 0 rfl (by decide) _ _).bnd (fun x hx => ?_)
  refine wp.bnd (P := fun z => Sam [7, 8, 9, 10, 11, 42] hi z.1 ∧ ∀ l, l < A.n → z.1 42 l = nI (pL A l A.lines)) ?_ (fun z hz => by rw [wp_some]; exact hz)
  refine wp_for A.lines (fun i s => s.1 = nI i ∧ Sam [7, 8, 9, 10, 11, 42] hi s.2.1 ∧ ∀ l, l < A.n → s.2.1 42 l = nI (pL A l i)) ?_ ?_ (i := 0) (Nat.zero_le _) ⟨rfl, hx.1.sub (by decide), fun l hl => hx.2 l (by show l < 16; omega)⟩ (by omega)
  · rintro i ⟨q, g, gl⟩ hi1 ⟨rfl, sm, h⟩
    dsimp only at sm h
    have rc := hR.sam sm (by decide)
    unfold B_LW_gatherRoundLight_10
    dsimp only
    rw [nI_clamp (by omega), rc.sc.t i hi1, rc.sc.k i hi1]
    refine wp_neg (by rw [rc.sc.n]; exact nI_ge hi1 (by omega)) (wp_neg (nI_in' (by omega) (by omega)) (wp_neg (nI_in' (by omega) (by omega)) ?_))
    refine (c_addLight hN hw rc (hw.pt i hi1) (hw.pk60 i hi1) h).bnd (fun z hz => ?_)
    rw [wp_some]
    refine ⟨nI_1 i, Sam.trans sm hz.1 _ (by decide) (by decide), fun l hl => ?_⟩
    dsimp only
    rw [hz.2 l hl]
    unfold pL
    rw [fb_sm_succ]
  · rintro ⟨q, g, gl⟩ ⟨rfl, sm, h⟩
    dsimp only at sm h
    have rc := hR.sam sm (by decide)
    unfold B_LW_gatherRoundLight_10
    dsimp only
    refine wp_pos (by rw [rc.sc.n]; exact nI_le (Nat.le_refl _) (by omega)) ?_
    rw [wp_some]
    exact ⟨sm, h⟩
theorem m_showsB {N : Nat} (hN : 70000 ≤ N) {A : St} (hw : WF A) {hi : HI} {hl : HL} (hR : RM A hi) {l : Nat} {p2 : Int32} (hl16 : l < 16) : wp (lpN (fun s => B_MD_shows_36 N (nI l) p2 s.1 s.2.1 s.2.2.1 s.2.2.2.1 s.2.2.2.2.1 s.2.2.2.2.2.1 s.2.2.2.2.2.2) N (0, 0, 0, 0, 0, hi, hl)) (fun z => z.1 = nI (tL A l A.lines) ∧ z.2.1 = lN (pL A l A.lines) ∧ z.2.2.1 = nI (dkA A l (2 * A.lines)).2 ∧ RM A z.2.2.2.1 ∧ LoC hi z.2.2.2.1) := by
  have l12 := hw.l12
  have e2 : (2 : Int32) * nI A.lines = nI (2 * A.lines) := pk_mul 2 A.lines
  refine wp_for (2 * A.lines) (fun j s => s.1 = nI (tL A l (if j < A.lines then j else A.lines)) ∧ s.2.1 = lN (pL A l (if j < A.lines then j else A.lines)) ∧ s.2.2.1 = nI (dkA A l j).1 ∧ s.2.2.2.1 = nI (dkA A l j).2 ∧ s.2.2.2.2.1 = nI j ∧ RM A s.2.2.2.2.2.1 ∧ LoC hi s.2.2.2.2.2.1) ?_ ?_ (i := 0) (Nat.zero_le _) ⟨?_, ?_, rfl, rfl, rfl, hR, LoC.refl _⟩ (by omega)
  · rintro j ⟨v1, v2, v3, v4, q, g, gl⟩ hj ⟨rfl, rfl, rfl, rfl, rfl, rm, lo⟩
    dsimp only at rm lo
    have h0 : 0 < A.lines := by omega
    have kl : j % A.lines < A.lines := Nat.mod_lt _ h0
    have em : nI j - nI j / nI A.lines * nI A.lines = nI (j % A.lines) := pk_rem (by omega) h0 (by omega)
    generalize hk : j % A.lines = k at *
    have db := dk_le hw (l := l) h0 j
    have pk := hw.pk60 k kl
    have pk1 := hw.pk1 k kl
    have gt := Gt_lt hw (A.pt k)
    have ck : (nI k).toNatClampNeg = k := nI_clamp (by omega)
    unfold B_MD_shows_36
    dsimp only
    have rl := rm.ln
    have rp := rm.pt k kl
    simp only [rl, em, ck, rp, e2]
    refine wp_neg (nI_ge hj (by omega)) (wp_neg (nI_ne0 h0 (by omega)) (wp_neg (nI_in' (by omega) (by omega)) ?_))
    refine (m_glows hN hw (hw.pt k kl) (rm.gb hw)).bnd (fun x hx => ?_)
    obtain ⟨x1, x2, x3, x4⟩ := hx
    have rx := rm.glows x2 x3
    have lx := lo.trans (LoC.of x2 (by decide))
    have xl := rx.ln
    have xk := rx.pk k kl
    have x1' : x.1 = nI (Gt A (A.pt k)) := x1
    rw [x1']
    simp only [xl, em, ck, xk]
    refine wp_neg (nI_ne0 h0 (by omega)) (wp_neg (nI_in' (by omega) (by omega)) ?_)
    have tail : ∀ (T : Nat) (P : Nat) (d : Nat), T = tL A l (if j + 1 < A.lines then j + 1 else A.lines) → P = pL A l (if j + 1 < A.lines then j + 1 else A.lines) → d = (if litA A l k = true then 0 else (dkA A l j).1 + A.pk k) → wp (J_MD_shows_173 N (nI l) p2 (nI T) (lN P) (nI (dkA A l j).2) (nI j) (nI d) x.2.1 x.2.2) (fun z => match z with
        | .inl s => s.1 = nI (tL A l (if j + 1 < A.lines then j + 1 else A.lines)) ∧ s.2.1 = lN (pL A l (if j + 1 < A.lines then j + 1 else A.lines)) ∧ s.2.2.1 = nI (dkA A l (j + 1)).1 ∧ s.2.2.2.1 = nI (dkA A l (j + 1)).2 ∧ s.2.2.2.2.1 = nI (j + 1) ∧ RM A s.2.2.2.2.2.1 ∧ LoC hi s.2.2.2.2.2.1
        | .inr _ => False) := by
      intro T P d hT hP hd
      unfold J_MD_shows_173 J_MD_shows_189
      have dl : d ≤ 60 * j + 60 := by rw [hd]; split <;> omega
      have nd := dk_succ hk hd
      rw [hT, hP]
      by_cases c : d ≤ (dkA A l j).2
      · refine wp_pos (nI_le c (by omega)) ?_
        rw [wp_some]
        refine ⟨rfl, rfl, ?_, ?_, nI_1 j, rx, lx⟩
        · dsimp only; rw [nd]
        · dsimp only; rw [nd, if_neg (by omega)]
      · refine wp_neg (nI_ge (by omega) (by omega)) ?_
        rw [wp_some]
        refine ⟨rfl, rfl, ?_, ?_, nI_1 j, rx, lx⟩
        · dsimp only; rw [nd]
        · dsimp only; rw [nd, if_pos (by omega)]
    have sT : tL A l (k + 1) = tL A l k + (if litA A l k = true then A.pk k else 0) := by unfold tL; rw [fb_sm_succ]
    have sP : pL A l (k + 1) = pL A l k + shr (Gt A (A.pt k)) l * A.pk k := by unfold pL; rw [fb_sm_succ]
    have z32 : ∀ y : Nat, nI y + 0 = nI y := fun y => nI_add y 0
    have z64 : ∀ y : Nat, lN y + 0 = lN y := fun y => lN_add y 0
    have jk : j < A.lines → k = j := fun h => by rw [← hk]; exact Nat.mod_eq_of_lt h
    cases c : (Gt A (A.pt k)).testBit l with
    | false =>
      have cl : litA A l k = false := c
      have sh0 : shr (Gt A (A.pt k)) l = 0 := by unfold shr; rw [c]; rfl
      refine wp_neg (fun q => by have := (ni_bit1 (by omega) (by omega)).mp q; rw [c] at this; cases this) ?_
      unfold J_MD_shows_98 J_MD_shows_120 J_MD_shows_121 J_MD_shows_155 J_MD_shows_156
      refine wp_pos rfl (wp_pos rfl (wp_pos rfl ?_))
      rw [z32, z64, nI_add]
      refine (tail _ _ _ ?_ ?_ (by rw [cl, if_neg (by decide)])).mono (fun z hz => by cases z <;> first | exact hz | exact hz.elim)
      · by_cases d : j < A.lines
        · have e := jk d
          rw [cl, if_neg (by decide), e] at sT
          rw [if_pos d]
          by_cases d2 : j + 1 < A.lines
          · rw [if_pos d2, sT]; rfl
          · rw [if_neg d2, show A.lines = j + 1 by omega, sT]; rfl
        · rw [if_neg d, if_neg (by omega)]
      · by_cases d : j < A.lines
        · have e := jk d
          rw [sh0, e, Nat.zero_mul] at sP
          rw [if_pos d]
          by_cases d2 : j + 1 < A.lines
          · rw [if_pos d2, sP]; rfl
          · rw [if_neg d2, show A.lines = j + 1 by omega, sP]; rfl
        · rw [if_neg d, if_neg (by omega)]
    | true =>
      have cl : litA A l k = true := c
      have shv : shr (Gt A (A.pt k)) l = 720720 / popN (Gt A (A.pt k)) := by unfold shr; rw [c]; rfl
      refine wp_pos ((ni_bit1 (by omega) (by omega)).mpr c) ?_
      unfold J_MD_shows_98 J_MD_shows_120 J_MD_shows_121 J_MD_shows_155 J_MD_shows_156
      refine wp_neg (by decide) ?_
      by_cases d : j < A.lines
      · have e := jk d
        have pp : popN (Gt A (A.pt k)) ≠ 0 := fun q => by
          rw [(pop_0 gt).mp q, Nat.zero_testBit] at c; cases c
        have pl16 : popN (Gt A (A.pt k)) ≤ 16 := fb_ct_le _ _
        refine wp_neg (by rw [xl]; exact nI_ge d (by omega)) (wp_neg (by decide) (wp_neg (by rw [xl]; exact nI_ge d (by omega)) ?_))
        rw [m_bits hN gt, Option.bind_some]
        dsimp only
        refine wp_neg (nI_ne0 (by omega) (by omega)) (wp_neg (by decide) ?_)
        have e1 : (720720 : Int32) / nI (popN (Gt A (A.pt k))) = nI (720720 / popN (Gt A (A.pt k))) := by
          rw [show (720720 : Int32) = nI 720720 from rfl, pk_div (by omega) (by omega) (by omega)]
        have d31 : 720720 / popN (Gt A (A.pt k)) < 2 ^ 31 := Nat.lt_of_le_of_lt (Nat.div_le_self _ _) (by omega)
        rw [e1, nI_l d31, nI_l (by omega), lN_mul, lN_add, nI_add]
        refine (tail _ _ 0 ?_ ?_ (by rw [cl, if_pos rfl])).mono (fun z hz => by cases z <;> first | exact hz | exact hz.elim)
        · rw [cl, if_pos rfl, e] at sT
          rw [if_pos d, e]
          by_cases d2 : j + 1 < A.lines
          · rw [if_pos d2, sT]
          · rw [if_neg d2, show A.lines = j + 1 by omega, sT]
        · rw [shv, e] at sP
          rw [if_pos d, e]
          by_cases d2 : j + 1 < A.lines
          · rw [if_pos d2, sP]
          · rw [if_neg d2, show A.lines = j + 1 by omega, sP]
      · refine wp_pos (by rw [xl]; exact nI_le (by omega) (by omega)) (wp_neg (by decide) (wp_pos (by rw [xl]; exact nI_le (by omega) (by omega)) (wp_neg (by decide) ?_)))
        rw [z32, z64]
        refine (tail _ _ 0 ?_ ?_ (by rw [cl, if_pos rfl])).mono (fun z hz => by cases z <;> first | exact hz | exact hz.elim)
        · rw [if_neg d, if_neg (by omega)]
        · rw [if_neg d, if_neg (by omega)]
  · rintro ⟨v1, v2, v3, v4, q, g, gl⟩ ⟨rfl, rfl, rfl, rfl, rfl, rm, lo⟩
    dsimp only at rm lo
    unfold B_MD_shows_36
    dsimp only
    refine wp_pos (by rw [rm.ln, e2]; exact nI_le (Nat.le_refl _) (by omega)) ?_
    rw [wp_some]
    have e : (if 2 * A.lines < A.lines then 2 * A.lines else A.lines) = A.lines := if_neg (by omega)
    rw [e]
    exact ⟨rfl, rfl, rfl, rm, lo⟩
  · dsimp only
    have e : (if 0 < A.lines then 0 else A.lines) = 0 := by split <;> omega
    rw [e]; rfl
  · dsimp only
    have e : (if 0 < A.lines then 0 else A.lines) = 0 := by split <;> omega
    rw [e]; rfl
theorem S_shows {N : Nat} (hN : 70000 ≤ N) (p q : Int32) : Sim (f_LW_shows N p q) (f_MD_shows N p q) := by
  refine Sim.of (fun A hw => ?_)
  have n16 := hw.n16
  have hb : ∀ (hi : HI) (hl : HL), f_MD_in N q.toInt64 0 3 hi hl = some (b2i (rg q 0 4), hi, hl) := fun hi hl => e_in32 N q _ _ hi hl (x := 0) (y := 4) (ltL64 0 (by decide)) (ltL64 3 (by decide))
  rcases rgE p 0 A.n with ⟨e, _⟩ | ⟨e, _⟩
  · refine Sim.bad (ans := -1) hw (fun hi hl hR => ?_) (fun hi hl hR => ?_)
    · unfold f_LW_shows
      rw [e_isLamp hR.bd.n (by omega), e]; rfl
    · unfold f_MD_shows
      rw [m_isLamp hR.bd.n (by omega), e]; rfl
  rcases rgE q 0 4 with ⟨f, f1⟩ | ⟨f, _⟩
  · have z0 : ¬ q = 0 := fun h => f1 (by rw [h]; decide)
    have z1 : ¬ q = 1 := fun h => f1 (by rw [h]; decide)
    have z2 : ¬ q = 2 := fun h => f1 (by rw [h]; decide)
    have z3 : ¬ q = 3 := fun h => f1 (by rw [h]; decide)
    refine Sim.bad (ans := -1) hw (fun hi hl hR => ?_) (fun hi hl hR => ?_)
    · unfold f_LW_shows
      rw [e_isLamp hR.bd.n (by omega), e]
      simp only [Option.bind_some, b2i_tt, if_false]
      rw [if_neg z0, if_neg z1, if_neg z2, if_neg z3]
    · unfold f_MD_shows
      rw [m_isLamp hR.bd.n (by omega), e]
      simp only [Option.bind_some, b2i_tt, if_false]
      rw [hb, f]; rfl
  obtain ⟨l, _, l1, rfl⟩ := rg_t (by omega) e
  obtain ⟨w, _, w1, rfl⟩ := rg_t (by omega) f
  have pb := pL_le hw (l := l) (Nat.le_refl A.lines)
  have cl : (nI l).toNatClampNeg = l := nI_clamp (by omega)
  have tb := tL_le hw (l := l) (Nat.le_refl A.lines)
  refine ⟨if w = 0 then nI (tL A l A.lines) else if w = 1 then (if tL A l A.lines = 0 then -4 else nI (dkA A l (2 * A.lines)).2) else frc (pL A l A.lines) (w - 2), A, hw, fun hi hl hR => ?_, fun hi hl hR => ?_⟩
  · unfold f_LW_shows
    rw [e_isLamp hR.bd.n (by omega), e]
    simp only [Option.bind_some, b2i_tt, if_false]
    rcases (show w = 0 ∨ w = 1 ∨ w = 2 ∨ w = 3 by omega) with c | c | c | c
    · refine wp_pos (by rw [c]; rfl) ?_
      refine (c_ticksLit hN hw hR (by omega)).bnd (fun x hx => ?_)
      rw [wp_some, if_pos c]
      exact ⟨hx.1, hR.ways hx.2, HiC.of hx.2 (by decide)⟩
    · refine wp_neg (by rw [c]; decide) (wp_pos (by rw [c]; rfl) ?_)
      refine (c_ticksDark hN hw hR (by omega)).bnd (fun x hx => ?_)
      rw [wp_some, c]
      exact ⟨hx.1, hR.ways hx.2, HiC.of hx.2 (by decide)⟩
    · refine wp_neg (by rw [c]; decide) (wp_neg (by rw [c]; decide) (wp_pos (by rw [c]; rfl) ?_))
      refine (c_roundLight hN hw hR).bnd (fun x hx => ?_)
      refine wp_neg (nI_in (by omega) (by omega)) ?_
      rw [cl, hx.2 l l1, show nI w - 2 = nI (w - 2) from pk_sub (b := 2) (by omega)]
      refine (e_frac hN (by omega) (by omega)).bnd (fun y hy => ?_)
      subst hy
      rw [wp_some, if_neg (by omega), if_neg (by omega)]
      exact ⟨rfl, hR.sam hx.1 (by decide), HiC.of hx.1 (by decide)⟩
    · refine wp_neg (by rw [c]; decide) (wp_neg (by rw [c]; decide) (wp_neg (by rw [c]; decide) (wp_pos (by rw [c]; rfl) ?_)))
      refine (c_roundLight hN hw hR).bnd (fun x hx => ?_)
      refine wp_neg (nI_in (by omega) (by omega)) ?_
      rw [cl, hx.2 l l1, show nI w - 2 = nI (w - 2) from pk_sub (b := 2) (by omega)]
      refine (e_frac hN (by omega) (by omega)).bnd (fun y hy => ?_)
      subst hy
      rw [wp_some, if_neg (by omega), if_neg (by omega)]
      exact ⟨rfl, hR.sam hx.1 (by decide), HiC.of hx.1 (by decide)⟩
  · unfold f_MD_shows
    rw [m_isLamp hR.bd.n (by omega), e]
    simp only [Option.bind_some, b2i_tt, if_false]
    rw [hb, f]
    simp only [Option.bind_some, b2i_tt, if_false]
    refine (m_showsB hN hw hR (by omega)).bnd (fun x hx => ?_)
    obtain ⟨x1, x2, x3, x4, x5⟩ := hx
    by_cases c0 : w = 0
    · refine wp_pos (by rw [c0]; rfl) ?_
      rw [wp_some, if_pos c0]
      exact ⟨x1, x4, x5⟩
    · refine wp_neg (fun q => c0 ((nI_eq (b := 0) (by omega) (by omega)).mp q)) ?_
      by_cases c1 : w = 1
      · refine wp_pos (by rw [c1]; rfl) ?_
        rw [if_neg c0, if_pos c1]
        by_cases t0 : tL A l A.lines = 0
        · refine wp_pos (by rw [x1, t0]; rfl) ?_
          rw [wp_some, if_pos t0]
          exact ⟨rfl, x4, x5⟩
        · refine wp_neg (by rw [x1]; exact fun q => t0 ((nI_eq (b := 0) (by omega) (by omega)).mp q)) ?_
          rw [wp_some, if_neg t0]
          exact ⟨x3, x4, x5⟩
      · refine wp_neg (fun q => c1 ((nI_eq (b := 1) (by omega) (by omega)).mp q)) ?_
        rw [x2, show nI w - 2 = nI (w - 2) from pk_sub (b := 2) (by omega)]
        refine (m_low hN (by omega) (by omega)).bnd (fun y hy => ?_)
        subst hy
        rw [wp_some, if_neg c0, if_neg c1]
        exact ⟨rfl, x4, x5⟩
