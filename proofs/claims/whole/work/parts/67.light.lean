/-! light in parts -/
noncomputable def FT (A : St) (q : Nat) : Nat → Nat := @dite _ (∃ ts, IsFrame A q ts) (Classical.propDecidable _) (fun h => Classical.choose h) (fun _ _ => 0)
theorem FT_eq {A : St} {q : Nat} {ts : Nat → Nat} (h : IsFrame A q ts) : ∀ i, i < Few A q → ts i = FT A q i := by
  have e : IsFrame A q (FT A q) := by
    unfold FT
    rw [dif_pos ⟨ts, h⟩]
    exact Classical.choose_spec (p := fun ts => IsFrame A q ts) ⟨ts, h⟩
  exact fun i hi => IsFrame.one h e i hi
/-- the share of lamp l, when the set g glows -/
def shr (g l : Nat) : Nat := if g.testBit l = true then 720720 / popN g else 0
theorem shr_le (g l : Nat) : shr g l ≤ 720720 := by
  unfold shr
  split
  · exact Nat.div_le_self _ _
  · omega
noncomputable def lt1 (A : St) (l p i : Nat) : Nat := fb_sm (fun i => shr (Gt A (FT A (pln A p) i)) l * 2 ^ p) i
noncomputable def ltP (A : St) (l p : Nat) : Nat := fb_sm (fun p => lt1 A l p (Few A (pln A p))) p
theorem lt1_le {A : St} {l p i : Nat} (hp : p < 4) (hi : i ≤ 16) : lt1 A l p i ≤ 92252160 := by
  have h3 : 2 ^ p ≤ 2 ^ 3 := Nat.pow_le_pow_right (by omega) (by omega)
  have := fb_sm_bound (f := fun i => shr (Gt A (FT A (pln A p) i)) l * 2 ^ p) (c := 720720 * 8) (n := i) (fun k _ => Nat.mul_le_mul (shr_le _ _) h3)
  have h4 : i * (720720 * 8) ≤ 16 * (720720 * 8) := Nat.mul_le_mul_right _ hi
  unfold lt1
  omega
theorem ltP_le {A : St} (hw : WF A) (pl : Plnd A) {l p : Nat} (hp : p ≤ 4) : ltP A l p ≤ p * 92252160 := by
  unfold ltP
  exact fb_sm_bound (fun k hk => lt1_le (by omega) (by
    have := pl k (by omega)
    have := hw.n16
    rcases Few_cases hw (pln A k) with h | h <;> omega))
/-! greatest common divisors -/
abbrev Eu (g a b k : Nat) : Prop :=
  (Nat.gcd b a = g) ∧
  (1 ≤ a) ∧
  (a < 2 ^ 30 ∧ b < 2 ^ 30) ∧
  ((b < a ∧ a * b < 2 ^ k ∧ k ≤ 50) ∨ (k = 51 ∧ a * b < 2 ^ 50))
theorem Eu.g {g a b k : Nat} (h_ : Eu g a b k) : Nat.gcd b a = g := h_.1
theorem Eu.a {g a b k : Nat} (h_ : Eu g a b k) : 1 ≤ a := h_.2.1
theorem Eu.l {g a b k : Nat} (h_ : Eu g a b k) : a < 2 ^ 30 ∧ b < 2 ^ 30 := h_.2.2.1
theorem Eu.k {g a b k : Nat} (h_ : Eu g a b k) : (b < a ∧ a * b < 2 ^ k ∧ k ≤ 50) ∨ (k = 51 ∧ a * b < 2 ^ 50) := h_.2.2.2
theorem Eu.step {g a b k : Nat} (h : Eu g a b k) (hb : b ≠ 0) : ∃ k', k' < k ∧ Eu g b (a % b) k' := by
  obtain ⟨h1, h2, h3, h4⟩ := h
  have ml : a % b < b := Nat.mod_lt _ (by omega)
  have g' : Nat.gcd (a % b) b = g := by rw [← Nat.gcd_rec]; exact h1
  have am : a % b ≤ a := Nat.mod_le _ _
  rcases h4 with ⟨b1, b2, b3⟩ | ⟨rfl, b2⟩
  · have k0 : k ≠ 0 := fun e => by
      rw [e, Nat.pow_zero] at b2
      have : 0 < a * b := Nat.mul_pos (by omega) (by omega)
      omega
    refine ⟨k - 1, by omega, g', by omega, by omega, Or.inl ⟨ml, ?_, by omega⟩⟩
    have half : 2 * (a % b) ≤ a := by
      have d := Nat.div_add_mod a b
      have : 1 ≤ a / b := (Nat.one_le_div_iff (by omega)).mpr (by omega)
      have : b * 1 ≤ b * (a / b) := Nat.mul_le_mul_left b this
      omega
    have p : 2 ^ k = 2 * 2 ^ (k - 1) := by
      rw [show k = (k - 1) + 1 by omega, Nat.pow_succ, Nat.mul_comm]; congr 1
    have m1 : b * (2 * (a % b)) ≤ b * a := Nat.mul_le_mul_left b half
    rw [Nat.mul_comm b a] at m1
    have m2 : b * (2 * (a % b)) = 2 * (b * (a % b)) := by rw [← Nat.mul_assoc, Nat.mul_comm b 2, Nat.mul_assoc]
    omega
  · refine ⟨50, by omega, g', by omega, by omega, Or.inl ⟨ml, ?_, by omega⟩⟩
    have m1 : b * (a % b) ≤ b * a := Nat.mul_le_mul_left b am
    rw [Nat.mul_comm b a] at m1
    omega
theorem Eu.start {x y : Nat} (hx : 1 ≤ x) (h1 : x < 2 ^ 30) (h2 : y < 2 ^ 30) (h3 : x * y < 2 ^ 50) : Eu (Nat.gcd y x) x y 51 := ⟨rfl, hx, ⟨h1, h2⟩, Or.inr ⟨rfl, h3⟩⟩
theorem e_gcd {N : Nat} (hN : 70000 ≤ N) {y : Nat} {hi : HI} {hl : HL} (hy : y < 2 ^ 29) : wp (f_LW_greatestDivisor N 720720 (nI y) hi hl) (fun o => o = (nI (Nat.gcd y 720720), hi, hl)) := by
  unfold f_LW_greatestDivisor
  refine wp.bnd (P := fun z => z = (nI (Nat.gcd y 720720), hi, hl)) ?_ (fun z hz => by subst hz; rw [wp_some])
  have m : 720720 * y < 2 ^ 50 := by omega
  refine wp_lp (fun k s => ∃ a b i, s = (nI a, nI b, nI i, hi, hl) ∧ Eu (Nat.gcd y 720720) a b k ∧ i + k ≤ 60) ?_ 51 _ N ⟨720720, y, 0, rfl, Eu.start (by omega) (by omega) (by omega) m, by omega⟩ (by omega)
  rintro k s ⟨a, b, i, rfl, eu, ik⟩
  unfold B_LW_greatestDivisor_7
  dsimp only
  have la := eu.l
  refine wp_neg (nI_ge (b := 64) (by omega) (by omega)) ?_
  by_cases c : b = 0
  · refine wp_pos (by rw [c]; rfl) ?_
    rw [wp_some]
    dsimp only
    have := eu.g
    rw [c, Nat.gcd_zero_left] at this
    rw [this]
  · have nb : ¬ nI b = 0 := fun q => c ((nI_eq (b := 0) (by omega) (by omega)).mp q)
    refine wp_neg nb (wp_neg nb ?_)
    obtain ⟨k', k1, eu'⟩ := eu.step c
    rw [wp_some]
    refine ⟨k', k1, b, a % b, i + 1, ?_, eu', by omega⟩
    rw [pk_rem (by omega) (by omega) (by omega), nI_1]
/-- a fraction of parts, in lowest terms -/
def frc (x k : Nat) : Int32 := nI ((if k = 0 then x else 720720) / Nat.gcd x 720720)
theorem gcd_pos (x : Nat) : 0 < Nat.gcd x 720720 := Nat.gcd_pos_of_pos_right x (by omega)
theorem gcd_le (x : Nat) : Nat.gcd x 720720 ≤ 720720 := Nat.gcd_le_right x (by omega)
theorem e_frac {N : Nat} (hN : 70000 ≤ N) {x k : Nat} {hi : HI} {hl : HL} (hx : x < 2 ^ 29) (hk : k < 2) : wp (f_LW_fraction N (nI x) (nI k) hi hl) (fun o => o = (frc x k, hi, hl)) := by
  unfold f_LW_fraction
  have g0 := gcd_pos x
  have g1 := gcd_le x
  have go : ∀ w, w < 2 ^ 31 → wp (J_LW_fraction_11 N (nI x) (nI w) hi hl) (fun o => o = (nI (w / Nat.gcd x 720720), hi, hl)) := by
    intro w hw
    unfold J_LW_fraction_11
    refine (e_gcd hN hx).bnd (fun z hz => ?_)
    subst hz
    dsimp only
    refine wp_pos (nI_le (a := 1) (by omega) (by omega)) (wp_neg (nI_ne0 g0 (by omega)) ?_)
    rw [wp_some, pk_div hw g0 (by omega)]
  unfold frc
  by_cases c : k = 0
  · rw [if_pos c]
    exact wp_pos (by rw [c]; rfl) (go x (by omega))
  · rw [if_neg c]
    exact wp_neg (fun q => c ((nI_eq (b := 0) (by omega) (by omega)).mp q)) (go 720720 (by omega))
theorem m_low {N : Nat} (hN : 70000 ≤ N) {x k : Nat} {hi : HI} {hl : HL} (hx : x < 2 ^ 29) (hk : k < 2) : wp (f_MD_lowest N (lN x) (nI k) hi hl) (fun o => o = (frc x k, hi, hl)) := by
  unfold f_MD_lowest f_MD_common
  have g0 := gcd_pos x
  have g1 := gcd_le x
  have key : wp (lpN (fun s => B_MD_common_6 N s.1 s.2.1 s.2.2.1 s.2.2.2) N (lN x, 720720, hi, hl)) (fun z => z = (lN (Nat.gcd x 720720), hi, hl)) := by
    by_cases x0 : x = 0
    · subst x0
      refine wp_lp (fun k s => (k = 1 ∧ s = (lN 0, 720720, hi, hl)) ∨ (k = 0 ∧ s = (720720, lN 0, hi, hl))) ?_ 1 _ N (Or.inl ⟨rfl, rfl⟩) (by omega)
      rintro k s (⟨rfl, rfl⟩ | ⟨rfl, rfl⟩)
      · unfold B_MD_common_6
        dsimp only
        refine wp_neg (by rw [lg_eq]; decide) (wp_neg (by decide) ?_)
        rw [wp_some]
        exact ⟨0, by omega, Or.inr ⟨rfl, by congr 1⟩⟩
      · unfold B_MD_common_6
        dsimp only
        refine wp_pos (by rw [lg_eq]; rfl) ?_
        rw [wp_some]; rfl
    · have m : x * 720720 < 2 ^ 50 := by omega
      refine wp_lp (fun k s => ∃ a b, s = (lN a, lN b, hi, hl) ∧ Eu (Nat.gcd 720720 x) a b k) ?_ 51 _ N ⟨x, 720720, rfl, Eu.start (by omega) (by omega) (by omega) m⟩ (by omega)
      rintro k s ⟨a, b, rfl, eu⟩
      unfold B_MD_common_6
      dsimp only
      have la := eu.l
      by_cases c : b = 0
      · refine wp_pos (by rw [lg_eq, c]; rfl) ?_
        rw [wp_some]
        dsimp only
        have := eu.g
        rw [c, Nat.gcd_zero_left] at this
        rw [this, Nat.gcd_comm]
      · have nb : ¬ lN b = 0 := fun q => c ((lN_0 (by omega)).mp q)
        refine wp_neg (by rw [lg_eq]; exact nb) (wp_neg nb ?_)
        obtain ⟨k', k1, eu'⟩ := eu.step c
        rw [wp_some]
        refine ⟨k', k1, b, a % b, ?_, eu'⟩
        rw [pk_lRem (by omega) (by omega) (by omega)]
  obtain ⟨z, h1, rfl⟩ := key
  rw [h1, Option.bind_some, Option.bind_some]
  dsimp only
  have nz : ¬ lN (Nat.gcd x 720720) = 0 := fun q => by have := (lN_0 (by omega)).mp q; omega
  unfold frc
  by_cases c : k = 0
  · refine wp_pos (by rw [c]; rfl) (wp_neg nz ?_)
    rw [wp_some, if_pos c, pk_lDiv (by omega) g0 (by omega), lN_i]
  · refine wp_neg (fun q => c ((nI_eq (b := 0) (by omega) (by omega)).mp q)) (wp_neg nz ?_)
    rw [wp_some, if_neg c]
    show ((lN 720720 / lN (Nat.gcd x 720720)).toInt32, hi, hl) = _
    rw [pk_lDiv (by omega) g0 (by omega), lN_i]
/-! the class's light -/
theorem c_addLight {N : Nat} (hN : 70000 ≤ N) {A : St} (hw : WF A) {hi : HI} {hl : HL} (hR : RC A hi) {t k : Nat} {v : Nat → Nat} (ht : t < 3 ^ A.w) (hk : k ≤ 60) (h42 : ∀ l, l < A.n → hi 42 l = nI (v l)) : wp (f_LW_addLight N (nI t) (nI k) hi hl) (fun o => Sam [7, 8, 9, 10, 11, 42] hi o.2.1 ∧ ∀ l, l < A.n → o.2.1 42 l = nI (v l + shr (Gt A t) l * k)) := by
  unfold f_LW_addLight
  have n16 := hw.n16
  have gl := Gt_lt hw t
  refine (c_lampsIn hN hw hR ht).bnd (fun x hx => ?_)
  obtain ⟨x1, sx⟩ := hx
  rw [x1, e_bitCount gl, Option.bind_some]
  dsimp only
  have pl : popN (Gt A t) ≤ 16 := fb_ct_le _ _
  by_cases c : popN (Gt A t) = 0
  · refine wp_neg (by rw [c]; decide) ?_
    rw [wp_some]
    refine ⟨sx.sub (by decide), fun l hl => ?_⟩
    have z := (pop_0 gl).mp c
    dsimp only
    rw [sx 42 (by decide), h42 l hl]
    unfold shr
    rw [z, Nat.zero_testBit]; simp
  · refine wp_pos (nI_le (a := 1) (by omega) (by omega)) (wp_neg (nI_ne0 (by omega) (by omega)) ?_)
    have e1 : (720720 : Int32) / nI (popN (Gt A t)) * nI k = nI (720720 / popN (Gt A t) * k) := by
      rw [show (720720 : Int32) = nI 720720 from rfl, pk_div (by omega) (by omega) (by omega), pk_mul]
    rw [e1]
    refine wp.bnd (P := fun z => Sam [42] x.2.1 z.1 ∧ ∀ l, l < A.n → z.1 42 l = nI (v l + shr (Gt A t) l * k)) ?_ (fun z hz => by rw [wp_some]; exact ⟨Sam.trans sx hz.1 _ (by decide) (by decide), hz.2⟩)
    have r1 := hR.ways sx
    refine wp_for A.n (fun i s => s.1 = nI i ∧ Sam [42] x.2.1 s.2.1 ∧ ∀ l, l < A.n → s.2.1 42 l = nI (if l < i then v l + shr (Gt A t) l * k else v l)) ?_ ?_ (i := 0) (Nat.zero_le _) ⟨rfl, Sam.refl _ _, fun l hl => by rw [if_neg (by omega)]; dsimp only; rw [sx 42 (by decide)]; exact h42 l hl⟩ (by omega)
    · rintro i ⟨q, g, gl'⟩ hi1 ⟨rfl, sm, h⟩
      dsimp only at sm h
      unfold B_LW_addLight_32
      dsimp only
      have g1 : g 1 2 = nI A.n := by rw [sm 1 (by decide)]; exact r1.bd.n
      refine wp_neg (by rw [g1]; exact nI_ge hi1 (by omega)) (wp_neg (nI_in (by omega) (by omega)) (wp_neg (nI_in (by omega) (by omega)) ?_))
      rw [wp_some, nI_clamp (by omega)]
      refine ⟨nI_1 i, sm.wr (by decide), fun l hl => ?_⟩
      dsimp only
      rw [wr_i]
      by_cases e : l = i
      · subst e
        rw [if_pos rfl, h l hl, if_neg (by omega), if_pos (by omega)]
        show nI (v l) + ((nI (Gt A t) >>> (nI l &&& nI 31)) &&& nI 1) * nI (720720 / popN (Gt A t) * k) = _
        rw [ni_shr (by omega) (by omega), fa_and, Nat.and_one_is_mod, pk_mul, nI_add]
        congr 2
        unfold shr
        rw [Nat.testBit_eq_decide_div_mod_eq]
        by_cases d : Gt A t / 2 ^ l % 2 = 1
        · rw [d]; simp
        · have : Gt A t / 2 ^ l % 2 = 0 := by omega
          rw [this]; simp
      · rw [if_neg e, h l hl]
        by_cases d : l < i
        · rw [if_pos d, if_pos (by omega)]
        · rw [if_neg d, if_neg (by omega)]
    · rintro ⟨q, g, gl'⟩ ⟨rfl, sm, h⟩
      dsimp only at sm h
      unfold B_LW_addLight_32
      dsimp only
      have g1 : g 1 2 = nI A.n := by rw [sm 1 (by decide)]; exact r1.bd.n
      refine wp_pos (by rw [g1]; exact nI_le (Nat.le_refl _) (by omega)) ?_
      rw [wp_some]
      refine ⟨sm, fun l hl => ?_⟩
      have := h l hl
      rw [if_pos hl] at this; exact this
theorem c_planLight {N : Nat} (hN : 70000 ≤ N) {A : St} (hw : WF A) {hi : HI} {hl : HL} (hR : RC A hi) : wp (f_LW_gatherPlanLight N hi hl) (fun o => ((o.1 = 1 ∧ Plnd A ∧ ∀ l, l < A.n → o.2.1 42 l = nI (ltP A l 4)) ∨ (o.1 = 0 ∧ ¬ Plnd A)) ∧ RC A o.2.1 ∧ HiC hi o.2.1) := by
  unfold f_LW_gatherPlanLight
  have n16 := hw.n16
  refine (c_fill hN 42 0 rfl (by decide) _ _).bnd (fun x hx => ?_)
  have r0 : RC A x.2.1 := hR.sam hx.1 (by decide)
  have h0 : HiC hi x.2.1 := HiC.of hx.1 (by decide)
  refine wp.bnd (P := fun z => ((z.1 = 0 ∧ Plnd A ∧ ∀ l, l < A.n → z.2.1 42 l = nI (ltP A l 4)) ∨ (z.1 = 1 ∧ ¬ Plnd A)) ∧ RC A z.2.1 ∧ HiC hi z.2.1) ?_ (fun z hz => ?_)
  · refine wp_for 4 (fun p s => s.1 = nI p ∧ (∀ q, q < p → Few A (pln A q) ≠ 100) ∧ (∀ l, l < A.n → s.2.1 42 l = nI (ltP A l p)) ∧ RC A s.2.1 ∧ HiC hi s.2.1) ?_ ?_ (i := 0) (by omega) ⟨rfl, (fun q hq => by omega), (fun l hl => hx.2 l (by show l < 16; omega)), r0, h0⟩ (by omega)
    · rintro p ⟨q, g, gl⟩ hp ⟨rfl, hpl, h42, rc, hh⟩
      dsimp only at h42 rc hh
      unfold B_LW_gatherPlanLight_10
      dsimp only
      refine wp_neg (nI_ge (b := 4) hp (by omega)) ?_
      rw [e_plane hN hw hp rc, Option.bind_some]
      dsimp only
      refine (c_frameOf2 hN hw (pln_lt A p) rc).bnd (fun y hy => ?_)
      obtain ⟨f, f8, y1, y2, y3, fp, y42⟩ := hy
      rw [y1]
      refine wp_pos (gF_8 f f8) ?_
      rcases fp.t with ⟨a1, a2⟩ | ⟨a1, a2, ts, a3, a4⟩
      · refine wp_pos a2 ?_
        rw [wp_some]
        exact ⟨Or.inr ⟨rfl, fun q => q p hp a1⟩, y2, hh.trans y3⟩
      · refine wp_neg (by rw [a2, ni_neg4 (by omega)]; exact id) ?_
        have ft := FT_eq a3
        refine wp.bnd (P := fun z => (∀ l, l < A.n → z.1 42 l = nI (ltP A l (p + 1))) ∧ RC A z.1 ∧ HiC hi z.1) ?_ (fun z hz => by
          rw [wp_some]
          refine ⟨nI_1 p, fun q hq => ?_, hz⟩
          by_cases e : q = p
          · rw [e]; omega
          · exact hpl q (by omega))
        refine wp_for (Few A (pln A p)) (fun i s => s.1 = nI i ∧ (∀ l, l < A.n → s.2.1 42 l = nI (ltP A l p + lt1 A l p i)) ∧ Sam [7, 8, 9, 10, 11, 42] y.2.1 s.2.1) ?_ ?_ (i := 0) (Nat.zero_le _) ⟨rfl, (fun l hl => by dsimp only; rw [y42]; exact h42 l hl), Sam.refl _ _⟩ (by omega)
        · rintro i ⟨q, g', gl'⟩ hi1 ⟨rfl, g42, sg⟩
          dsimp only at g42 sg
          have rg := y2.sam sg (by decide)
          unfold B_LW_gatherPlanLight_41
          dsimp only
          have g2 : g' (20 + 2 * f) 2 = nI (Few A (pln A p)) := by rw [sg _ (by simp; omega)]; exact a2
          have g3 : g' (20 + 2 * f + 1) i = nI (ts i) := by rw [sg _ (by simp; omega), show 20 + 2 * f + 1 = 21 + 2 * f by omega]; exact a4 i hi1
          refine wp_pos (gF_8 f f8) (wp_neg (by rw [g2]; exact nI_ge hi1 (by omega)) (wp_neg (nI_in (by omega) (by omega)) ?_))
          have e1 : (1 : Int32) <<< (nI p &&& 31) = nI (2 ^ p) := ni_one (by omega)
          have p8 : 2 ^ p ≤ 2 ^ 3 := Nat.pow_le_pow_right (by omega) (by omega)
          rw [nI_clamp (by omega), g3, e1]
          refine (c_addLight hN hw rg (a3 i hi1).1 (by omega) g42).bnd (fun z hz => ?_)
          rw [wp_some]
          refine ⟨nI_1 i, fun l hl => ?_, Sam.trans sg hz.1 _ (by decide) (by decide)⟩
          dsimp only
          rw [hz.2 l hl]
          congr 1
          unfold lt1
          rw [fb_sm_succ, ft i hi1]; omega
        · rintro ⟨q, g', gl'⟩ ⟨rfl, g42, sg⟩
          dsimp only at g42 sg
          unfold B_LW_gatherPlanLight_41
          dsimp only
          have g2 : g' (20 + 2 * f) 2 = nI (Few A (pln A p)) := by rw [sg _ (by simp; omega)]; exact a2
          refine wp_pos (gF_8 f f8) (wp_pos (by rw [g2]; exact nI_le (Nat.le_refl _) (by omega)) ?_)
          rw [wp_some]
          exact ⟨g42, y2.sam sg (by decide), (hh.trans y3).trans (HiC.of sg (by decide))⟩
    · rintro ⟨q, g, gl⟩ ⟨rfl, hpl, h42, rc, hh⟩
      dsimp only at h42 rc hh
      unfold B_LW_gatherPlanLight_10
      dsimp only
      refine wp_pos (nI_le (a := 4) (b := 4) (by omega) (by omega)) ?_
      rw [wp_some]
      exact ⟨Or.inl ⟨rfl, hpl, h42⟩, rc, hh⟩
  · obtain ⟨z1, z2, z3⟩ := hz
    rcases z1 with ⟨a1, a2, a3⟩ | ⟨a1, a2⟩
    · refine wp_pos a1 ?_
      rw [wp_some]
      exact ⟨Or.inl ⟨rfl, a2, a3⟩, z2, z3⟩
    · refine wp_neg (by rw [a1]; omega) ?_
      rw [wp_some]
      exact ⟨Or.inr ⟨rfl, a2⟩, z2, z3⟩
