/-! the reference's frames -/
noncomputable def fwI (A : St) (p : Nat) : Int32 := if Few A p = 100 then -4 else nI (Few A p)
theorem m_frameOf2 {N : Nat} (hN : 70000 ≤ N) {A : St} (hw : WF A) {p : Nat} (hp : p < 2 ^ A.n) {hi : HI} {hl : HL} (hR : RM A hi) : wp (f_MD_frameOf N (nI p) hi hl) (fun o => o.1 = fwI A p ∧ RM A o.2.1 ∧ LoC hi o.2.1 ∧ MTab A o.2.1 ∧ ∀ a, 78 ≤ a → o.2.1 a = hi a) := by
  unfold f_MD_frameOf
  have p6 : p < 65536 := Nat.lt_of_lt_of_le hp (pow2_le hw.n16)
  have n16 := hw.n16
  refine (m_freshens2 hN hw hR).bnd (fun x hx => ?_)
  obtain ⟨r1, r2, r3, r4⟩ := hx
  have fw := r3.2.fw p hp
  rw [nI_clamp (by omega)]
  refine wp_neg (nI_in' (by omega) (by omega)) ?_
  unfold fwI
  by_cases c : Few A p = 100
  · refine wp_pos (by rw [fw, c]; rfl) ?_
    rw [wp_some, if_pos c]
    exact ⟨rfl, r1, r2, r3, r4⟩
  · have := Few_le hw p
    refine wp_neg (by rw [fw]; exact fun q => c ((nI_eq (b := 100) (by omega) (by omega)).mp q)) (wp_neg (nI_in' (by omega) (by omega)) ?_)
    rw [wp_some, if_neg c]
    exact ⟨fw, r1, r2, r3, r4⟩
theorem m_frameOf {N : Nat} (hN : 70000 ≤ N) {A : St} (hw : WF A) {p : Nat} (hp : p < 2 ^ A.n) {hi : HI} {hl : HL} (hR : RM A hi) : wp (f_MD_frameOf N (nI p) hi hl) (fun o => o.1 = fwI A p ∧ RM A o.2.1 ∧ LoC hi o.2.1 ∧ MTab A o.2.1) := (m_frameOf2 hN hw hp hR).mono (fun _ h => ⟨h.1, h.2.1, h.2.2.1, h.2.2.2.1⟩)
theorem low_form {s : Nat} (h : s ≠ 0) : ∃ b m, s = 2 ^ b * (2 * m + 1) := by
  induction s using Nat.strongRecOn with
  | ind s ih =>
    by_cases e : s % 2 = 0
    · obtain ⟨b, m, h1⟩ := ih (s / 2) (by omega) (by omega)
      refine ⟨b + 1, m, ?_⟩
      rw [Nat.pow_succ, Nat.mul_comm (2 ^ b) 2, Nat.mul_assoc, ← h1]; omega
    · exact ⟨0, s / 2, by rw [Nat.pow_zero]; omega⟩
theorem next_sub {p s : Nat} (hs : Sub s p) (h0 : s ≠ 0) : Sub ((s - 1) &&& p) p ∧ (s - 1) &&& p < s ∧ ∀ q, Sub q p → q < s → q ≤ (s - 1) &&& p := by
  refine ⟨fun i hi => ?_, Nat.lt_of_le_of_lt Nat.and_le_left (by omega), fun q hq hlt => ?_⟩
  · rw [Nat.testBit_and, Bool.and_eq_true] at hi; exact hi.2
  · obtain ⟨b, m, e⟩ := low_form h0
    have pb : 0 < 2 ^ b := Nat.two_pow_pos b
    have e1 : s - 1 = 2 ^ b * (2 * m) + (2 ^ b - 1) := by rw [e, Nat.mul_add]; omega
    have e2 : (s - 1) &&& p = 2 ^ b * (2 * m) + p % 2 ^ b := by
      refine Nat.eq_of_testBit_eq (fun i => ?_)
      rw [Nat.testBit_and, e1, Nat.testBit_two_pow_mul_add _ (by omega), Nat.testBit_two_pow_mul_add _ (Nat.mod_lt _ pb)]
      by_cases c : i < b
      · rw [if_pos c, if_pos c, all_bit, decide_eq_true c, Bool.true_and, Nat.testBit_mod_two_pow, decide_eq_true c, Bool.true_and]
      · rw [if_neg c, if_neg c]
        cases d : (2 * m).testBit (i - b) with
        | false => rfl
        | true =>
          have ib : i ≠ b := fun q => by
            rw [q, Nat.sub_self, Nat.testBit_zero] at d
            simp at d
          have : s.testBit i = true := by
            rw [e, show 2 ^ b * (2 * m + 1) = 2 ^ b * (2 * m + 1) + 0 by omega, Nat.testBit_two_pow_mul_add _ pb, if_neg c]
            obtain ⟨k, hk⟩ : ∃ k, i - b = k + 1 := ⟨i - b - 1, by omega⟩
            rw [hk] at d ⊢
            rw [Nat.testBit_succ] at d ⊢
            rw [show (2 * m + 1) / 2 = 2 * m / 2 by omega]; exact d
          rw [hs i this]; rfl
    rw [e2]
    have q1 : q = 2 ^ b * (q / 2 ^ b) + q % 2 ^ b := (Nat.div_add_mod q (2 ^ b)).symm
    have q2 : q / 2 ^ b ≤ 2 * m := by
      have : q < 2 ^ b * (2 * m + 1) := by rw [← e]; exact hlt
      have := Nat.div_lt_of_lt_mul this
      omega
    have q3 : q % 2 ^ b ≤ p % 2 ^ b := sub_le (fun i hi => by
      rw [Nat.testBit_mod_two_pow, Bool.and_eq_true] at hi ⊢
      exact ⟨hi.1, hq i hi.2⟩)
    have q4 : 2 ^ b * (q / 2 ^ b) ≤ 2 ^ b * (2 * m) := Nat.mul_le_mul_left _ q2
    omega
/-- the row of more is right from shown on -/
def MR (A : St) (p s : Nat) (hi : HI) : Prop := ∀ q, Sub q p → s ≤ q → hi 78 q = nI (Need A p q)
theorem m_lack {N : Nat} (hN : 70000 ≤ N) {p s b : Nat} {x : Int32} {hi : HI} {hl : HL} (hp : p < 65536) (hs : Sub s p) (bl : IsLack p s b) : wp (lpN (fun z => B_MD_findMore_25 N (nI p) (nI s) x z.1 z.2.1 z.2.2) N (0, hi, hl)) (fun o => o = (nI b, hi, hl)) := by
  have b16 : b < 16 := bit_lt (k := 16) hp bl.1
  have s6 : s < 65536 := Nat.lt_of_le_of_lt (sub_le hs) hp
  refine wp_for b (fun i z => z = (nI i, hi, hl)) ?_ ?_ (i := 0) (by omega) rfl (by omega)
  · rintro i z hi1 rfl
    unfold B_MD_findMore_25 J_MD_findMore_44
    dsimp only
    by_cases c : p.testBit i = false
    · refine wp_pos ((ni_bit (by omega) (by omega)).mpr c) ?_
      rw [wp_some, nI_1]
    · have c' : p.testBit i = true := by simpa using c
      refine wp_neg (fun q => c ((ni_bit (by omega) (by omega)).mp q)) (wp_pos ((ni_bit1 (by omega) (by omega)).mpr (bl.2.2 i hi1 c')) ?_)
      rw [wp_some, nI_1]
  · rintro z rfl
    unfold B_MD_findMore_25
    dsimp only
    refine wp_neg (fun q => by have := (ni_bit (by omega) (by omega)).mp q; rw [bl.1] at this; cases this) (wp_neg (fun q => by have := (ni_bit1 (by omega) (by omega)).mp q; rw [bl.2.1] at this; cases this) ?_)
    rw [wp_some]
theorem m_best {N : Nat} (hN : 70000 ≤ N) {A : St} (hw : WF A) {p s0 s b : Nat} (hp : p < 2 ^ A.n) {hi : HI} {hl : HL} (mt : MTab A hi) (hs : Sub s p) (bl : IsLack p s b) (mr : MR A p s0 hi) (hgap : ∀ q, Sub q p → s < q → s0 ≤ q) : wp (lpN (fun z => B_MD_findMore_53 N (nI p) (nI s) (nI b) z.1 z.2.1 z.2.2.1 z.2.2.2) N (100, 0, hi, hl)) (fun o => o = (nI (Need A p s), hi, hl)) := by
  have p6 : p < 65536 := Nat.lt_of_lt_of_le hp (pow2_le hw.n16)
  have b16 : b < 16 := bit_lt (k := 16) p6 bl.1
  obtain ⟨S, sv, eS, s7, s1, s2, s3⟩ := mt.2.sets
  have nle : ∀ q, Sub q p → Need A p q ≤ 100 := fun q hq => by rcases Need_le hw hp q hq with h | h <;> omega
  refine wp_for S (fun k z => ∃ v, z = (nI v, nI k, hi, hl) ∧ v ≤ 100 ∧ (∀ j, j < k → (sv j).testBit b = true → sv j ||| p = p → v ≤ 1 + Need A p (s ||| sv j)) ∧ (v = 100 ∨ ∃ j, j < S ∧ (sv j).testBit b = true ∧ sv j ||| p = p ∧ v = 1 + Need A p (s ||| sv j))) ?_ ?_ (i := 0) (Nat.zero_le _) ⟨100, rfl, Nat.le_refl _, fun j hj => by omega, Or.inl rfl⟩ (by omega)
  · rintro k z hk ⟨v, rfl, v1, v2, v3⟩
    unfold B_MD_findMore_53 J_MD_findMore_121 J_MD_findMore_122
    dsimp only
    obtain ⟨e76, hset⟩ := s1 k hk
    have k6 := hset.l6 hw
    have ck : (nI k).toNatClampNeg = k := nI_clamp (by omega)
    simp only [ck, e76, fa_or]
    refine wp_neg (by rw [eS]; exact nI_ge hk (by omega)) (wp_neg (nI_in' (by omega) (by omega)) ?_)
    have keep : ¬ ((sv k).testBit b = true ∧ sv k ||| p = p) → ∃ v', (nI v, nI k + 1, hi, hl) = (nI v', nI (k + 1), hi, hl) ∧ v' ≤ 100 ∧ (∀ j, j < k + 1 → (sv j).testBit b = true → sv j ||| p = p → v' ≤ 1 + Need A p (s ||| sv j)) ∧ (v' = 100 ∨ ∃ j, j < S ∧ (sv j).testBit b = true ∧ sv j ||| p = p ∧ v' = 1 + Need A p (s ||| sv j)) := fun q => ⟨v, by rw [nI_1], v1, fun j hj a1 a2 => by
      by_cases e : j = k
      · subst e; exact absurd ⟨a1, a2⟩ q
      · exact v2 j (by omega) a1 a2, v3⟩
    by_cases c1 : (sv k).testBit b = true
    · refine wp_pos ((ni_bit1 (by omega) (by omega)).mpr c1) (wp_neg (nI_in' (by omega) (by omega)) ?_)
      have o6 : sv k ||| p < 2 ^ 16 := Nat.or_lt_two_pow k6 p6
      by_cases c2 : sv k ||| p = p
      · refine wp_pos (by rw [c2]) (wp_neg (nI_in' (by omega) (by omega)) ?_)
        have su : Sub (s ||| sv k) p := hs.or (Sub.iff.mpr c2)
        have ul := sub_le su
        have gt : s < s ||| sv k := Nat.lt_of_le_of_ne (sub_le (Sub.l s (sv k))) (fun q => by
          have h1 : (s ||| sv k).testBit b = true := Sub.r s (sv k) b c1
          rw [← q, bl.2.1] at h1; cases h1)
        have e78 := mr _ su (hgap _ su gt)
        have nl := nle _ su
        have cu : (nI (s ||| sv k)).toNatClampNeg = s ||| sv k := nI_clamp (by omega)
        have e1 : (1 : Int32) + nI (Need A p (s ||| sv k)) = nI (1 + Need A p (s ||| sv k)) := nI_add 1 _
        simp only [cu, e78, e1]
        refine wp_neg (nI_in' (by omega) (by omega)) ?_
        by_cases c3 : v ≤ 1 + Need A p (s ||| sv k)
        · refine wp_pos (nI_le c3 (by omega)) ?_
          rw [wp_some]
          refine ⟨v, by rw [nI_1], v1, fun j hj a1 a2 => ?_, v3⟩
          by_cases e : j = k
          · subst e; exact c3
          · exact v2 j (by omega) a1 a2
        · refine wp_neg (nI_ge (by omega) (by omega)) ?_
          rw [wp_some]
          refine ⟨1 + Need A p (s ||| sv k), by rw [nI_1], by omega, fun j hj a1 a2 => ?_, Or.inr ⟨k, hk, c1, c2, rfl⟩⟩
          by_cases e : j = k
          · subst e; exact Nat.le_refl _
          · have := v2 j (by omega) a1 a2; omega
      · refine wp_neg (fun q => c2 ((nI_eq (by omega) (by omega)).mp q)) ?_
        rw [wp_some]
        exact keep (fun q => c2 q.2)
    · refine wp_neg (fun q => c1 ((ni_bit1 (by omega) (by omega)).mp q)) ?_
      rw [wp_some]
      exact keep (fun q => c1 q.1)
  · rintro z ⟨v, rfl, v1, v2, v3⟩
    unfold B_MD_findMore_53
    dsimp only
    refine wp_pos (by rw [eS]; exact nI_le (Nat.le_refl _) (by omega)) ?_
    rw [wp_some]
    have key : v = Need A p s := by
      have nz : Need A p s ≠ 0 := fun q => by
        have h := (Need_iff hw (k := 0) (by omega)).mpr (Nat.le_of_eq q)
        obtain ⟨k', e, _⟩ := Cov.pick bl.1 bl.2.1 h
        omega
      have low : ∀ m, m < 99 → Need A p s ≤ m + 1 → v ≤ m + 1 := fun m hm h => by
        obtain ⟨g, g1, g2, g3, g4⟩ := (Need_step hw hp hs bl.1 bl.2.1 hm).mp h
        obtain ⟨k, k1, k2⟩ := s3 g g1
        have := v2 k k1 (by rw [k2]; exact g3) (by rw [k2]; exact g2)
        rw [k2] at this
        omega
      have nl := nle s hs
      rcases v3 with rfl | ⟨j, j1, j2, j3, rfl⟩
      · by_cases c : Need A p s ≤ 99
        · have := low (Need A p s - 1) (by omega) (by omega); omega
        · omega
      · have nj := Need_le hw hp (s ||| sv j) (hs.or (Sub.iff.mpr j3))
        have h1 := (Need_step hw hp hs bl.1 bl.2.1 (k := Need A p (s ||| sv j)) (by omega)).mpr ⟨sv j, (s1 j j1).2, j3, j2, Nat.le_refl _⟩
        have := low (Need A p s - 1) (by omega) (by omega)
        omega
    rw [key]
theorem m_findMore {N : Nat} (hN : 70000 ≤ N) {A : St} (hw : WF A) {p : Nat} (hp : p < 2 ^ A.n) {hi : HI} {hl : HL} (mt : MTab A hi) : wp (f_MD_findMore N (nI p) hi hl) (fun o => Sam [78] hi o.2.1 ∧ MR A p 0 o.2.1) := by
  unfold f_MD_findMore
  have p6 : p < 65536 := Nat.lt_of_lt_of_le hp (pow2_le hw.n16)
  rw [nI_clamp (by omega)]
  refine wp_neg (nI_in' (by omega) (by omega)) ?_
  have nle : ∀ q, Sub q p → Need A p q ≤ 100 := fun q hq => by rcases Need_le hw hp q hq with h | h <;> omega
  refine wp.bnd (P := fun z => Sam [78] hi z.1 ∧ MR A p 0 z.1) ?_ (fun z hz => by rw [wp_some]; exact hz)
  refine wp_lp (fun m s => s.1 = nI m ∧ Sub m p ∧ Sam [78] hi s.2.1 ∧ MR A p m s.2.1) ?_ p _ N ⟨rfl, Sub.refl p, (Sam.refl _ _).wr (by decide), fun q hq hle => ?_⟩ (by omega)
  · rintro m ⟨q, g, gl⟩ ⟨e1, hm, sm, mr⟩
    dsimp only at e1 sm mr
    subst e1
    have ml := sub_le hm
    unfold B_MD_findMore_9
    dsimp only
    by_cases c : m = 0
    · refine wp_pos (by rw [c]; exact nI_le (a := 0) (b := 0) (by omega) (by omega)) ?_
      rw [wp_some]
      rw [c] at mr
      exact ⟨sm, mr⟩
    · refine wp_neg (nI_nle (by omega) (by omega)) ?_
      have e1 : (nI m - 1) &&& nI p = nI ((m - 1) &&& p) := by
        rw [show nI m - 1 = nI (m - 1) from pk_sub (b := 1) (by omega), fa_and]
      rw [e1]
      obtain ⟨n1, n2, n3⟩ := next_sub hm c
      generalize hs : (m - 1) &&& p = s at *
      have np : ¬ Sub p s := fun q => by have := sub_le q; omega
      obtain ⟨b, bl⟩ := lack_ex np
      have mt1 : MTab A g := by
        unfold MTab
        rw [sm 65 (by decide), sm 74 (by decide), sm 75 (by decide), sm 76 (by decide), sm 77 (by decide)]; exact mt
      refine (m_lack hN p6 n1 bl).bnd (fun x hx => ?_)
      subst hx
      dsimp only
      refine (m_best hN hw hp mt1 n1 bl mr (fun q h1 h2 => Nat.le_of_not_lt (fun h3 => by have := n3 q h1 h3; omega))).bnd (fun y hy => ?_)
      subst hy
      dsimp only
      rw [nI_clamp (by omega)]
      refine wp_neg (nI_in' (by omega) (by omega)) ?_
      rw [wp_some, byte100 (nle s n1), byte100 (nle s n1)]
      refine ⟨s, n2, rfl, n1, sm.wr (by decide), fun q hq hle => ?_⟩
      dsimp only
      rw [wr_i]
      by_cases e : q = s
      · rw [if_pos e, e]
      · rw [if_neg e]
        exact mr q hq (Nat.le_of_not_lt (fun h3 => by have := n3 q hq h3; omega))
  · dsimp only
    have : q = p := Nat.le_antisymm (sub_le hq) hle
    rw [this, wr_s]
    have h0 : Cov A p 0 p := rfl
    have := (Need_iff hw (k := 0) (by omega)).mp h0
    rw [show Need A p p = 0 by omega]; decide
theorem m_lack2 {N : Nat} (hN : 70000 ≤ N) {p s b : Nat} {x y : Int32} {hi : HI} {hl : HL} (hp : p < 65536) (hs : Sub s p) (bl : IsLack p s b) : wp (lpN (fun z => B_MD_findFrame_32 N (nI p) x (nI s) y z.1 z.2.1 z.2.2) N (0, hi, hl)) (fun o => o = (nI b, hi, hl)) := by
  have b16 : b < 16 := bit_lt (k := 16) hp bl.1
  have s6 : s < 65536 := Nat.lt_of_le_of_lt (sub_le hs) hp
  refine wp_for b (fun i z => z = (nI i, hi, hl)) ?_ ?_ (i := 0) (by omega) rfl (by omega)
  · rintro i z hi1 rfl
    unfold B_MD_findFrame_32 J_MD_findFrame_51
    dsimp only
    by_cases c : p.testBit i = false
    · refine wp_pos ((ni_bit (by omega) (by omega)).mpr c) ?_
      rw [wp_some, nI_1]
    · have c' : p.testBit i = true := by simpa using c
      refine wp_neg (fun q => c ((ni_bit (by omega) (by omega)).mp q)) (wp_pos ((ni_bit1 (by omega) (by omega)).mpr (bl.2.2 i hi1 c')) ?_)
      rw [wp_some, nI_1]
  · rintro z rfl
    unfold B_MD_findFrame_32
    dsimp only
    refine wp_neg (fun q => by have := (ni_bit (by omega) (by omega)).mp q; rw [bl.1] at this; cases this) (wp_neg (fun q => by have := (ni_bit1 (by omega) (by omega)).mp q; rw [bl.2.1] at this; cases this) ?_)
    rw [wp_some]
theorem m_goodTurn {N : Nat} (hN : 70000 ≤ N) {A : St} (hw : WF A) {p s b k t : Nat} (hp : p < 2 ^ A.n) {a i : Nat} {hi : HI} {hl : HL} (h74 : ∀ t, t < 3 ^ A.w → hi 74 t = nI (Gt A t)) (mr : MR A p 0 hi) (hs : Sub s p) (bl : IsLack p s b) (hk : k < 16) (ek : nI a - nI i - 1 = nI k) (ht : t < 3 ^ A.w) (hg : Good A p s k t) (hl' : ∀ t', t' < t → ¬ Good A p s k t') : wp (lpN (fun z => B_MD_findFrame_60 N (nI p) (nI a) (nI s) (nI i) (nI b) z.1 z.2.1 z.2.2) N (0, hi, hl)) (fun o => o = (nI t, hi, hl)) := by
  have p6 : p < 65536 := Nat.lt_of_lt_of_le hp (pow2_le hw.n16)
  have b16 : b < 16 := bit_lt (k := 16) p6 bl.1
  have s6 : s < 65536 := Nat.lt_of_le_of_lt (sub_le hs) p6
  have p3 := pow3_le hw.w6
  have nle : ∀ q, Sub q p → Need A p q ≤ 100 := fun q hq => by rcases Need_le hw hp q hq with h | h <;> omega
  refine wp_for t (fun j z => z = (nI j, hi, hl)) ?_ ?_ (i := 0) (by omega) rfl (by omega)
  · rintro j z hj rfl
    unfold B_MD_findFrame_60 J_MD_findFrame_111
    dsimp only
    have gj := Gt_lt hw j
    have cj : (nI j).toNatClampNeg = j := nI_clamp (by omega)
    have e74 := h74 j (by omega)
    simp only [cj, e74, fa_or, ek]
    refine wp_neg (nI_in' (by omega) (by omega)) ?_
    by_cases c1 : (Gt A j).testBit b = false
    · refine wp_pos ((ni_bit (by omega) (by omega)).mpr c1) ?_
      rw [wp_some, nI_1]
    have c1' : (Gt A j).testBit b = true := by simpa using c1
    refine wp_neg (fun q => c1 ((ni_bit (by omega) (by omega)).mp q)) (wp_neg (nI_in' (by omega) (by omega)) ?_)
    have o6 : Gt A j ||| p < 2 ^ 16 := Nat.or_lt_two_pow gj p6
    by_cases c2 : Gt A j ||| p = p
    · refine wp_pos (by rw [c2]) (wp_neg (nI_in' (by omega) (by omega)) ?_)
      have su : Sub (s ||| Gt A j) p := hs.or (Sub.iff.mpr c2)
      have ul := sub_le su
      have cu : (nI (s ||| Gt A j)).toNatClampNeg = s ||| Gt A j := nI_clamp (by omega)
      have nl := nle _ su
      simp only [cu, mr _ su (Nat.zero_le _)]
      refine wp_neg (nI_in' (by omega) (by omega)) (wp_neg (fun q => ?_) ?_)
      · exact hl' j hj ⟨⟨b, bl, c1'⟩, c2, (nI_eq (by omega) (by omega)).mp q⟩
      · rw [wp_some, nI_1]
    · refine wp_neg (fun q => c2 ((nI_eq (by omega) (by omega)).mp q)) ?_
      rw [wp_some, nI_1]
  · rintro z rfl
    obtain ⟨⟨b', bl', g1⟩, g2, g3⟩ := hg
    have eb := bl'.one bl
    subst eb
    unfold B_MD_findFrame_60
    dsimp only
    have gj := Gt_lt hw t
    have cj : (nI t).toNatClampNeg = t := nI_clamp (by omega)
    have e74 := h74 t ht
    have su : Sub (s ||| Gt A t) p := hs.or (Sub.iff.mpr g2)
    have ul := sub_le su
    have cu : (nI (s ||| Gt A t)).toNatClampNeg = s ||| Gt A t := nI_clamp (by omega)
    have e78 := mr _ su (Nat.zero_le _)
    simp only [cj, e74, fa_or, ek, cu, e78]
    refine wp_neg (nI_in' (by omega) (by omega)) (wp_neg (fun q => by have := (ni_bit (by omega) (by omega)).mp q; rw [g1] at this; cases this) (wp_neg (nI_in' (by omega) (by omega)) (wp_pos (by rw [g2]) (wp_neg (nI_in' (by omega) (by omega)) (wp_neg (nI_in' (by omega) (by omega)) (wp_pos (by rw [g3]) ?_))))))
    rw [wp_some]
theorem good_ex {A : St} (hw : WF A) {p s k : Nat} (hp : p < 2 ^ A.n) (hs : Sub s p) (hk : k < 16) (hd : Need A p s = k + 1) : ∃ b t, IsLack p s b ∧ t < 3 ^ A.w ∧ Good A p s k t ∧ ∀ t', t' < t → ¬ Good A p s k t' := by
  have np : ¬ Sub p s := fun q => by
    have : s = p := Sub.eq hs q
    have h0 : Cov A p 0 s := this
    have := (Need_iff hw (by omega)).mp h0
    omega
  obtain ⟨b, bl⟩ := lack_ex np
  obtain ⟨g, ⟨t, t1, rfl⟩, g2, g3, g4⟩ := (Need_step hw hp hs bl.1 bl.2.1 (k := k) (by omega)).mp (by omega)
  have hg : Good A p s k t := by
    refine ⟨⟨b, bl, g3⟩, g2, Nat.le_antisymm g4 ?_⟩
    have := (Need_step hw hp hs bl.1 bl.2.1 (k := Need A p (s ||| Gt A t)) (by omega)).mpr ⟨Gt A t, ⟨t, t1, rfl⟩, g2, g3, Nat.le_refl _⟩
    omega
  obtain ⟨t0, h1, h2⟩ := least_of (p := fun t => Good A p s k t) ⟨t, hg⟩
  exact ⟨b, t0, bl, by have := h2 t hg; omega, h1, fun t' ht' q => by have := h2 t' q; omega⟩
theorem m_findFrame {N : Nat} (hN : 70000 ≤ N) {A : St} (hw : WF A) {p : Nat} (hp : p < 2 ^ A.n) {hi : HI} {hl : HL} (hR : RM A hi) : wp (f_MD_findFrame N (nI p) hi hl) (fun o => o.1 = fwI A p ∧ RM A o.2.1 ∧ LoC hi o.2.1 ∧ MTab A o.2.1 ∧ (∀ a, 80 ≤ a → o.2.1 a = hi a) ∧ (Few A p ≠ 100 → ∃ ts, IsFrame A p ts ∧ ∀ i, i < Few A p → o.2.1 79 i = nI (ts i))) := by
  unfold f_MD_findFrame
  have p6 : p < 65536 := Nat.lt_of_lt_of_le hp (pow2_le hw.n16)
  have n16 := hw.n16
  have p3 := pow3_le hw.w6
  refine (m_frameOf2 hN hw hp hR).bnd (fun x hx => ?_)
  obtain ⟨x1, r1, r2, mt, r8⟩ := hx
  rw [x1]
  have fl := Few_cases hw p
  by_cases c : 1 ≤ Few A p ∧ Few A p ≠ 100
  · have f16 : Few A p ≤ 16 := by rcases fl with q | q <;> omega
    have ef : fwI A p = nI (Few A p) := by unfold fwI; rw [if_neg c.2]
    rw [ef]
    refine wp_pos (nI_le (a := 1) c.1 (by omega)) ?_
    refine (m_findMore hN hw hp mt).bnd (fun y hy => ?_)
    obtain ⟨sy, mr⟩ := hy
    refine wp.bnd (P := fun z => Sam [79] y.2.1 z.1 ∧ ∃ tf, PF A p (Few A p) tf ∧ ∀ j, j < Few A p → z.1 79 j = nI (tf j)) ?_ (fun z hz => ?_)
    · refine wp_for (Few A p) (fun i s => s.2.1 = nI i ∧ Sam [79] y.2.1 s.2.2.1 ∧ ∃ tf, s.1 = nI (shownBy A tf i) ∧ PF A p i tf ∧ ∀ j, j < i → s.2.2.1 79 j = nI (tf j)) ?_ ?_ (i := 0) (Nat.zero_le _) ⟨rfl, Sam.refl _ _, fun _ => 0, rfl, fun j hj => by omega, fun j hj => by omega⟩ (by omega)
      · rintro i ⟨cq, q, g, gl⟩ hi1 ⟨rfl, sm, tf, rfl, pf, cl⟩
        dsimp only at sm cl
        have nd := pf.need hw
        obtain ⟨b, t, bl, t1, t2, t3⟩ := good_ex hw hp pf.sub (k := Few A p - i - 1) (by omega) (by omega)
        unfold B_MD_findFrame_23
        dsimp only
        refine wp_neg (nI_ge hi1 (by omega)) ?_
        refine (m_lack2 hN p6 pf.sub bl).bnd (fun u hu => ?_)
        subst hu
        dsimp only
        have g74 : ∀ t, t < 3 ^ A.w → g 74 t = nI (Gt A t) := fun t ht => by rw [sm 74 (by decide), sy 74 (by decide)]; exact mt.2.g t ht
        have g78 : MR A p 0 g := fun q hq hl => by rw [sm 78 (by decide)]; exact mr q hq hl
        refine (m_goodTurn hN hw hp (a := Few A p) (i := i) g74 g78 pf.sub bl (by omega) (by rw [pk_sub (by omega)]; exact pk_sub (b := 1) (by omega)) t1 t2 t3).bnd (fun v hv => ?_)
        subst hv
        dsimp only
        have ct : (nI t).toNatClampNeg = t := nI_clamp (by omega)
        have ci : (nI i).toNatClampNeg = i := nI_clamp (by omega)
        have e74 : ∀ w, wr g 79 i w 74 t = nI (Gt A t) := fun w => by rw [wr_o (by omega)]; exact g74 t t1
        simp only [ct, ci, e74, fa_or]
        refine wp_neg (nI_in' (by omega) (by omega)) (wp_neg (nI_in' (by omega) (by omega)) ?_)
        rw [wp_some]
        refine ⟨nI_1 i, sm.wr (by decide), fun j => if j = i then t else tf j, ?_, pf.add t1 t2 t3, fun j hj => ?_⟩
        · dsimp only
          show nI (shownBy A tf i ||| Gt A t) = nI (shownBy A (fun j => if j = i then t else tf j) i ||| Gt A (if i = i then t else tf i))
          rw [if_pos rfl, shownBy_cong (ts := fun j => if j = i then t else tf j) (ts' := tf) (fun j hj => if_neg (by omega))]
        · dsimp only
          rw [wr_i]
          by_cases e : j = i
          · rw [if_pos e, if_pos e]
          · rw [if_neg e, if_neg e]; exact cl j (by omega)
      · rintro ⟨cq, q, g, gl⟩ ⟨rfl, sm, tf, rfl, pf, cl⟩
        dsimp only at sm cl
        unfold B_MD_findFrame_23
        dsimp only
        refine wp_pos (nI_le (Nat.le_refl _) (by omega)) ?_
        rw [wp_some]
        exact ⟨sm, tf, pf, cl⟩
    · obtain ⟨sz, tf, pf, cl⟩ := hz
      rw [wp_some]
      have sall : Sam [78, 79] x.2.1 z.1 := Sam.trans sy sz _ (by decide) (by decide)
      refine ⟨rfl, ?_, ?_, ?_, (fun a ha => (sall a (by simp; omega)).trans (r8 a (by omega))), fun _ => ⟨tf, pf, cl⟩⟩
      · refine r1.same (fun a ha => sall a (fun q => ?_)) (fun j _ => by dsimp only; rw [sall 65 (by decide)])
        simp only [List.mem_cons, List.not_mem_nil, or_false] at q
        rcases q with rfl | rfl <;> revert ha <;> decide
      · exact r2.trans (LoC.of sall (by decide))
      · unfold MTab
        dsimp only
        rw [sall 65 (by decide), sall 74 (by decide), sall 75 (by decide), sall 76 (by decide), sall 77 (by decide)]; exact mt
  · refine wp_neg ?_ ?_
    · unfold fwI
      by_cases e : Few A p = 100
      · rw [if_pos e]; decide
      · rw [if_neg e, show Few A p = 0 by omega]; decide
    · rw [wp_some]
      exact ⟨rfl, r1, r2, mt, (fun a ha => r8 a (by omega)), fun h => ⟨fun _ => 0, fun j hj => by omega, fun j hj => by omega⟩⟩
/-! frame, frameTurn -/
theorem IsFrame.one {A : St} {p : Nat} {ts ts' : Nat → Nat} (h : IsFrame A p ts) (h' : IsFrame A p ts') : ∀ i, i < Few A p → ts i = ts' i := by
  intro i
  induction i using Nat.strongRecOn with
  | ind i ih =>
    intro hi
    have e : shownBy A ts i = shownBy A ts' i := shownBy_cong (fun j hj => ih j hj (by omega))
    obtain ⟨_, a2, a3⟩ := h i hi
    obtain ⟨_, b2, b3⟩ := h' i hi
    rw [e] at a2 a3
    by_cases c : ts i < ts' i
    · exact absurd a2 (b3 _ c)
    · by_cases d : ts' i < ts i
      · exact absurd b2 (a3 _ d)
      · omega
theorem Fp.sz {A : St} (hw : WF A) {p f : Nat} {hi : HI} (h : Fp A p f hi) : hi (20 + 2 * f) 2 = fwI A p := by
  unfold fwI
  rcases h.t with ⟨a, b⟩ | ⟨a, b, _⟩
  · rw [if_pos a]; exact b
  · rw [if_neg (by omega)]; exact b
theorem S_frame {N : Nat} (hN : 70000 ≤ N) (q : Int32) : Sim (f_LW_frame N q) (f_MD_frame N q) := by
  refine Sim.of (fun A hw => ?_)
  have n16 := hw.n16
  have p2 := pow2_le n16
  rcases rgE q 0 (2 ^ A.n) with ⟨e, _⟩ | ⟨e, _⟩
  · refine Sim.bad (ans := -1) hw (fun hi hl hR => ?_) (fun hi hl hR => ?_)
    · unfold f_LW_frame
      rw [e_isPicture hR.bd.n n16, e]; rfl
    · unfold f_MD_frame
      rw [m_isPicture hR.bd.n n16, e]; rfl
  obtain ⟨p, _, hp, rfl⟩ := rg_t (by omega) e
  refine ⟨fwI A p, A, hw, fun hi hl hR => ?_, fun hi hl hR => ?_⟩
  · unfold f_LW_frame
    rw [e_isPicture hR.bd.n n16, e]
    simp only [Option.bind_some, b2i_tt, if_false]
    refine (c_frameOf hN hw hp hR).bnd (fun x hx => ?_)
    obtain ⟨f, f8, e1, r1, h1, fp⟩ := hx
    rw [e1]
    refine wp_pos (gF_8 f f8) ?_
    rw [wp_some]
    exact ⟨fp.sz hw, r1, h1⟩
  · unfold f_MD_frame
    rw [m_isPicture hR.bd.n n16, e]
    simp only [Option.bind_some, b2i_tt, if_false]
    refine (m_frameOf hN hw hp hR).bnd (fun x hx => ?_)
    rw [wp_some]
    exact ⟨hx.1, hx.2.1, hx.2.2.1⟩
theorem S_frameTurn {N : Nat} (hN : 70000 ≤ N) (q k : Int32) : Sim (f_LW_frameTurn N q k) (f_MD_frameTurn N q k) := by
  intro A hi hl hw hc hm
  have n16 := hw.n16
  have p2 := pow2_le n16
  unfold f_LW_frameTurn
  rw [e_isPicture hc.bd.n n16]
  rcases rgE q 0 (2 ^ A.n) with ⟨e, _⟩ | ⟨e, _⟩
  · rw [e]
    simp only [Option.bind_some, b2i_ff, if_true, wp_some]
    unfold f_MD_frameTurn
    rw [m_isPicture hm.bd.n n16, e]
    simp only [Option.bind_some, b2i_ff, if_true, wp_some]
    exact ⟨trivial, A, hw, hc, hm⟩
  obtain ⟨p, _, hp, rfl⟩ := rg_t (by omega) e
  rw [e]
  simp only [Option.bind_some, b2i_tt, if_false]
  by_cases kn : 0 ≤ k
  · refine wp_pos kn ?_
    have k0 : ¬ k < 0 := by rw [fa_lt]; rw [fa_le] at kn; omega
    obtain ⟨j, j31, rfl⟩ := nI_of k0
    refine (c_frameOf hN hw hp hc).bnd (fun x hx => ?_)
    obtain ⟨f, f8, e1, r1, h1, fp⟩ := hx
    rw [e1]
    refine wp_pos (gF_8 f f8) ?_
    have hm1 := hm.hiC h1
    have mod : wp (f_MD_frameTurn N (nI p) (nI j) x.2.1 x.2.2) (fun o2 => o2.1 = (if Few A p = 100 ∨ Few A p ≤ j then -4 else x.2.1 (21 + 2 * f) j) ∧ ∃ A1, WF A1 ∧ RC A1 o2.2.1 ∧ RM A1 o2.2.1) := by
      unfold f_MD_frameTurn
      rw [m_isPicture hm1.bd.n n16, e]
      simp only [Option.bind_some, b2i_tt, if_false]
      refine wp_pos kn ?_
      refine (m_findFrame hN hw hp hm1).bnd (fun y hy => ?_)
      obtain ⟨y1, q1, q2, q3, _, q4⟩ := hy
      rw [y1]
      have fin : ∃ A1, WF A1 ∧ RC A1 y.2.1 ∧ RM A1 y.2.1 := ⟨A, hw, r1.lo q2, q1⟩
      rcases fp.t with ⟨a1, a2⟩ | ⟨a1, a2, ts, a3, a4⟩
      · refine wp_pos ?_ ?_
        · unfold fwI; rw [if_pos a1, fa_le, nI_toInt j31]
          have : (-4 : Int32).toInt = -4 := by decide
          rw [this]; omega
        · rw [wp_some, if_pos (Or.inl a1)]; exact ⟨rfl, fin⟩
      · have ef : fwI A p = nI (Few A p) := by unfold fwI; rw [if_neg (by omega)]
        rw [ef]
        by_cases c : Few A p ≤ j
        · refine wp_pos (nI_le c j31) ?_
          rw [wp_some, if_pos (Or.inr c)]; exact ⟨rfl, fin⟩
        · refine wp_neg (nI_ge (by omega) (by omega)) (wp_neg (nI_in (by omega) (by omega)) ?_)
          rw [wp_some, nI_clamp (by omega), if_neg (by omega)]
          obtain ⟨ts', b1, b2⟩ := q4 (by omega)
          refine ⟨?_, fin⟩
          dsimp only
          rw [b2 j (by omega), a4 j (by omega), IsFrame.one b1 a3 j (by omega)]
    have sz := fp.sz hw
    rcases fp.t with ⟨a1, a2⟩ | ⟨a1, a2, _⟩
    · refine wp_pos ?_ ?_
      · rw [a2, fa_le, nI_toInt j31]
        have : (-4 : Int32).toInt = -4 := by decide
        rw [this]; omega
      · rw [wp_some]
        refine mod.mono (fun o ho => ⟨?_, ho.2⟩)
        rw [ho.1, if_pos (Or.inl a1)]
    · by_cases c : Few A p ≤ j
      · refine wp_pos (by rw [a2]; exact nI_le c j31) ?_
        rw [wp_some]
        refine mod.mono (fun o ho => ⟨?_, ho.2⟩)
        rw [ho.1, if_pos (Or.inr c)]
      · refine wp_neg (by rw [a2]; exact nI_ge (by omega) (by omega)) (wp_neg (nI_in (by omega) (by omega)) ?_)
        rw [wp_some, nI_clamp (by omega)]
        refine mod.mono (fun o ho => ⟨?_, ho.2⟩)
        dsimp only
        rw [ho.1, if_neg (by omega), show 20 + 2 * f + 1 = 21 + 2 * f by omega]
  · refine wp_neg kn ?_
    rw [wp_some]
    unfold f_MD_frameTurn
    rw [m_isPicture hm.bd.n n16, e]
    simp only [Option.bind_some, b2i_tt, if_false]
    refine wp_neg kn ?_
    rw [wp_some]
    exact ⟨rfl, A, hw, hc, hm⟩
