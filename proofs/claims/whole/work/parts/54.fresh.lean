/-! the reference's row of the fewest -/
theorem byte100 {n : Nat} (h : n ≤ 100) : (nI n).toInt8.toInt32 = nI n := fa_byte_small (by omega)
theorem m_fresh2 {N : Nat} (hN : 70000 ≤ N) {A : St} (hw : WF A) {hi : HI} {hl : HL} (hn : hi 65 2 = nI A.n) : wp (lpN (fun s => B_MD_freshens_107 N s.1 s.2.1 s.2.2) N (0, hi, hl)) (fun o => Sam [77] hi o.1 ∧ ∀ q, q < 2 ^ A.n → ∃ v, o.1 77 q = nI v ∧ FV A 0 (fun _ => False) q v) := by
  have n16 := hw.n16
  have p2 := pow2_le n16
  refine wp_for (2 ^ A.n) (fun p s => s.1 = nI p ∧ Sam [77] hi s.2.1 ∧ ∀ q, q < p → ∃ v, s.2.1 77 q = nI v ∧ FV A 0 (fun _ => False) q v) ?_ ?_ (i := 0) (Nat.zero_le _) ⟨rfl, Sam.refl _ _, fun q hq => by omega⟩ (by omega)
  · rintro p ⟨q, g, l⟩ hp ⟨rfl, sm, h⟩
    dsimp only at sm h
    unfold B_MD_freshens_107 J_MD_freshens_132
    dsimp only
    have g2 : g 65 2 = nI A.n := by rw [sm 65 (by decide)]; exact hn
    have e1 : (1 : Int32) <<< (nI A.n &&& 31) = nI (2 ^ A.n) := ni_one (by omega)
    refine wp_neg (by rw [g2, e1]; exact nI_ge hp (by omega)) ?_
    have fin : ∀ v : Nat, v ≤ 100 → FV A 0 (fun _ => False) p v → wp (if nI p < 0 ∨ 65536 ≤ (nI p).toNatClampNeg then none else some (.inl (nI p + 1, wr g 77 (nI p).toNatClampNeg (Int32.toInt8 ((Int32.toInt8 (nI v)).toInt32)).toInt32, l))) (fun z : (Int32 × HI × HL) ⊕ (HI × HL) => match z with
        | .inl s => s.1 = nI (p + 1) ∧ Sam [77] hi s.2.1 ∧ ∀ q, q < p + 1 → ∃ v, s.2.1 77 q = nI v ∧ FV A 0 (fun _ => False) q v
        | .inr _ => False) := by
      intro v hv fv
      refine wp_neg (nI_in (by omega) (by omega)) ?_
      rw [wp_some, nI_clamp (by omega), byte100 hv, byte100 hv]
      refine ⟨nI_1 p, sm.wr (by decide), fun q hq => ?_⟩
      dsimp only
      rw [wr_i]
      by_cases e : q = p
      · rw [if_pos e, e]; exact ⟨v, rfl, fv⟩
      · rw [if_neg e]; exact h q (by omega)
    have f0 := Few_0 hw (p := p)
    by_cases z : p = 0
    · refine wp_pos (by rw [z]; rfl) ((fin 0 (by omega) (Or.inl ?_)).mono (fun z hz => by cases z <;> first | exact hz | exact hz.elim))
      have := f0.mpr z
      omega
    · refine wp_neg (fun q => z ((nI_eq (b := 0) (by omega) (by omega)).mp q)) ((fin 100 (by omega) (Or.inr ⟨?_, Or.inr ⟨id, rfl⟩⟩)).mono (fun z hz => by cases z <;> first | exact hz | exact hz.elim))
      exact Nat.pos_of_ne_zero (fun q => z (f0.mp q))
  · rintro ⟨q, g, l⟩ ⟨rfl, sm, h⟩
    dsimp only at sm h
    unfold B_MD_freshens_107
    dsimp only
    have g2 : g 65 2 = nI A.n := by rw [sm 65 (by decide)]; exact hn
    have e1 : (1 : Int32) <<< (nI A.n &&& 31) = nI (2 ^ A.n) := ni_one (by omega)
    refine wp_pos (by rw [g2, e1]; exact nI_le (Nat.le_refl _) (by omega)) ?_
    rw [wp_some]
    exact ⟨sm, h⟩
def Rch (A : St) (m P : Nat) (q : Nat) : Prop := ∃ p s, p < P ∧ Few A p = m ∧ IsSet A s ∧ q = p ||| s
theorem FV.le {A : St} (hw : WF A) {m q v : Nat} {P : Nat → Prop} (hm : m ≤ 16) (h : FV A m P q v) : v ≤ 100 := by
  have := Few_le hw q
  rcases h with ⟨_, h⟩ | ⟨_, ⟨_, h⟩ | ⟨_, h⟩⟩ <;> omega
theorem m_fresh3 {N : Nat} (hN : 70000 ≤ N) {A : St} (hw : WF A) {hi : HI} {hl : HL} {S : Nat} {sv : Nat → Nat} (hS : hi 65 15 = nI S) (hv : Sv A (3 ^ A.w) S sv (hi 76)) {m p : Nat} (hm : m < A.n) (hp : p < 2 ^ A.n) (h77 : ∀ q, q < 2 ^ A.n → ∃ v, hi 77 q = nI v ∧ FV A m (Rch A m p) q v) : wp (lpN (fun s => B_MD_freshens_164 N (nI m) (nI p) s.1 s.2.1 s.2.2) N (0, hi, hl)) (fun o => Sam [77] hi o.1 ∧ ∀ q, q < 2 ^ A.n → ∃ v, o.1 77 q = nI v ∧ FV A m (Rch A m (p + 1)) q v) := by
  have n16 := hw.n16
  have p2 := pow2_le n16
  have w6 := hw.w6
  have p3 := pow3_le w6
  have sle := hv.le
  have svl : ∀ k, k < S → sv k < 2 ^ A.n ∧ IsSet A (sv k) := fun k hk => by
    obtain ⟨_, t, a2, a3⟩ := hv.is k hk
    rw [← a3]; exact ⟨GM_lt A A.st t, t, a2, rfl⟩
  obtain ⟨vp, ep, fp⟩ := h77 p hp
  by_cases fm : Few A p = m
  · have vm : vp = m := by rcases fp with ⟨_, h⟩ | ⟨h, _⟩ <;> omega
    refine wp_for S (fun i s => s.1 = nI i ∧ Sam [77] hi s.2.1 ∧ ∀ q, q < 2 ^ A.n → ∃ v, s.2.1 77 q = nI v ∧ FV A m (fun q => Rch A m p q ∨ ∃ k, k < i ∧ q = p ||| sv k) q v) ?_ ?_ (i := 0) (Nat.zero_le _) ⟨rfl, Sam.refl _ _, fun q hq => ?_⟩ (by omega)
    · rintro i ⟨q, g, l⟩ hiS ⟨rfl, sm, h⟩
      dsimp only at sm h
      unfold B_MD_freshens_164 J_MD_freshens_225
      dsimp only
      have g15 : g 65 15 = nI S := by rw [sm 65 (by decide)]; exact hS
      have g76 : g 76 i = nI (sv i) := by rw [sm 76 (by decide)]; exact (hv.is i hiS).1
      obtain ⟨v1, e1, f1⟩ := h p hp
      have v1m : v1 = m := by rcases f1 with ⟨_, h⟩ | ⟨h, _⟩ <;> omega
      have ul : p ||| sv i < 2 ^ A.n := Nat.or_lt_two_pow hp (svl i hiS).1
      obtain ⟨v2, e2, f2⟩ := h (p ||| sv i) ul
      have v2l := f2.le hw (by omega)
      have ci : (nI i).toNatClampNeg = i := nI_clamp (by omega)
      have cp : (nI p).toNatClampNeg = p := nI_clamp (by omega)
      have cu : (nI (p ||| sv i)).toNatClampNeg = p ||| sv i := nI_clamp (by omega)
      simp only [ci, cp, g76, fa_or, cu, e1, e2]
      refine wp_neg (by rw [g15]; exact nI_ge hiS (by omega)) (wp_neg (nI_in' (by omega) (by omega)) (wp_pos (by rw [v1m]) (wp_neg (nI_in' (by omega) (by omega)) (wp_neg (nI_in' (by omega) (by omega)) ?_))))
      rw [nI_1]
      have fin : ∀ v : Nat, v ≤ 100 → FV A m (fun q => Rch A m p q ∨ ∃ k, k < i + 1 ∧ q = p ||| sv k) (p ||| sv i) v → wp (if nI (p ||| sv i) < 0 ∨ 65536 ≤ p ||| sv i then none else some (.inl (nI i + 1, wr g 77 (p ||| sv i) (Int32.toInt8 (nI v)).toInt32, l))) (fun z : (Int32 × HI × HL) ⊕ (HI × HL) => match z with
          | .inl s => s.1 = nI (i + 1) ∧ Sam [77] hi s.2.1 ∧ ∀ q, q < 2 ^ A.n → ∃ v, s.2.1 77 q = nI v ∧ FV A m (fun q => Rch A m p q ∨ ∃ k, k < i + 1 ∧ q = p ||| sv k) q v
          | .inr _ => False) := by
        intro v hv fv
        refine wp_neg (nI_in' (by omega) (by omega)) ?_
        rw [wp_some, byte100 hv]
        refine ⟨nI_1 i, sm.wr (by decide), fun q hq => ?_⟩
        dsimp only
        rw [wr_i]
        by_cases e : q = p ||| sv i
        · rw [if_pos e, e]; exact ⟨v, rfl, fv⟩
        · rw [if_neg e]
          obtain ⟨v', a1, a2⟩ := h q hq
          refine ⟨v', a1, a2.cong ⟨?_, ?_⟩⟩
          · rintro (z | ⟨k, z1, z2⟩)
            · exact Or.inl z
            · exact Or.inr ⟨k, by omega, z2⟩
          · rintro (z | ⟨k, z1, z2⟩)
            · exact Or.inl z
            · by_cases ek : k = i
              · rw [ek] at z2; exact absurd z2 e
              · exact Or.inr ⟨k, by omega, z2⟩
      by_cases c : v2 ≤ m + 1
      · refine wp_pos (nI_le c (by omega)) (wp_neg (nI_in' (by omega) (by omega)) ((fin v2 v2l ?_).mono (fun z hz => by cases z <;> first | exact hz | exact hz.elim)))
        rcases f2 with ⟨a1, a2⟩ | ⟨a1, ⟨_, a2⟩ | ⟨_, a2⟩⟩
        · exact Or.inl ⟨a1, a2⟩
        · exact Or.inr ⟨a1, Or.inl ⟨Or.inr ⟨i, by omega, rfl⟩, a2⟩⟩
        · omega
      · rw [byte100 (n := m + 1) (by omega)]
        refine wp_neg (nI_ge (by omega) (by omega)) ((fin (m + 1) (by omega) ?_).mono (fun z hz => by cases z <;> first | exact hz | exact hz.elim))
        rcases f2 with ⟨a1, a2⟩ | ⟨a1, a2⟩
        · omega
        · exact Or.inr ⟨a1, Or.inl ⟨Or.inr ⟨i, by omega, rfl⟩, rfl⟩⟩
    · rintro ⟨q, g, l⟩ ⟨rfl, sm, h⟩
      dsimp only at sm h
      unfold B_MD_freshens_164
      dsimp only
      have g15 : g 65 15 = nI S := by rw [sm 65 (by decide)]; exact hS
      refine wp_pos (by rw [g15]; exact nI_le (Nat.le_refl _) (by omega)) ?_
      rw [wp_some]
      refine ⟨sm, fun q hq => ?_⟩
      obtain ⟨v, a1, a2⟩ := h q hq
      refine ⟨v, a1, a2.cong ⟨?_, ?_⟩⟩
      · rintro (⟨p', s, z1, z2⟩ | ⟨k, z1, z2⟩)
        · exact ⟨p', s, by omega, z2⟩
        · exact ⟨p, sv k, by omega, fm, (svl k z1).2, z2⟩
      · rintro ⟨p', s, z1, z2, z3, z4⟩
        by_cases e : p' = p
        · subst e
          obtain ⟨t, t1, t2⟩ := z3
          obtain ⟨k, k1, k2⟩ := hv.all t t1
          exact Or.inr ⟨k, k1, by rw [z4, k2, t2]⟩
        · exact Or.inl ⟨p', s, by omega, z2, z3, z4⟩
    · obtain ⟨v, a1, a2⟩ := h77 q hq
      refine ⟨v, a1, a2.cong ⟨Or.inl, ?_⟩⟩
      rintro (z | ⟨k, z1, _⟩)
      · exact z
      · omega
  · have vm : ¬ vp = m := by
      have := hw.n16
      rcases fp with ⟨h1, h⟩ | ⟨h1, ⟨_, h⟩ | ⟨_, h⟩⟩ <;> omega
    have vl := fp.le hw (by omega)
    have same : ∀ q, q < 2 ^ A.n → ∃ v, hi 77 q = nI v ∧ FV A m (Rch A m (p + 1)) q v := fun q hq => by
      obtain ⟨v, a1, a2⟩ := h77 q hq
      refine ⟨v, a1, a2.cong ⟨?_, ?_⟩⟩
      · rintro ⟨p', s, z1, z2⟩
        exact ⟨p', s, by omega, z2⟩
      · rintro ⟨p', s, z1, z2, z3⟩
        exact ⟨p', s, by
          have : p' ≠ p := fun e => fm (e ▸ z2)
          omega, z2, z3⟩
    refine wp_lp (fun k s => s = (0, hi, hl)) ?_ 0 _ N rfl (by omega)
    rintro k s rfl
    unfold B_MD_freshens_164
    dsimp only
    have s0 : 0 < S := by
      obtain ⟨k, h1, _⟩ := hv.all 0 (Nat.pow_pos (by omega))
      omega
    refine wp_neg (by rw [hS]; exact nI_ge (a := 0) s0 (by omega)) ?_
    rw [nI_clamp (by omega)]
    refine wp_neg (nI_in' (by omega) (by omega)) (wp_neg (by rw [ep]; exact fun q => vm ((nI_eq (by omega) (by omega)).mp q)) ?_)
    rw [wp_some]
    exact ⟨Sam.refl _ _, same⟩
theorem m_fresh4 {N : Nat} (hN : 70000 ≤ N) {A : St} (hw : WF A) {hi : HI} {hl : HL} {S : Nat} {sv : Nat → Nat} (hn : hi 65 2 = nI A.n) (hS : hi 65 15 = nI S) (hv : Sv A (3 ^ A.w) S sv (hi 76)) (h77 : ∀ q, q < 2 ^ A.n → ∃ v, hi 77 q = nI v ∧ FV A 0 (fun _ => False) q v) : wp (lpN (fun s => B_MD_freshens_142 N s.1 s.2.1 s.2.2) N (0, hi, hl)) (fun o => Sam [77] hi o.1 ∧ ∀ q, q < 2 ^ A.n → o.1 77 q = nI (Few A q)) := by
  have n16 := hw.n16
  have p2 := pow2_le n16
  refine wp_for A.n (fun m s => s.1 = nI m ∧ Sam [77] hi s.2.1 ∧ ∀ q, q < 2 ^ A.n → ∃ v, s.2.1 77 q = nI v ∧ FV A m (fun _ => False) q v) ?_ ?_ (i := 0) (Nat.zero_le _) ⟨rfl, Sam.refl _ _, h77⟩ (by omega)
  · rintro m ⟨q, g, l⟩ hm ⟨rfl, sm, h⟩
    dsimp only at sm h
    unfold B_MD_freshens_142
    dsimp only
    have g2 : g 65 2 = nI A.n := by rw [sm 65 (by decide)]; exact hn
    refine wp_neg (by rw [g2]; exact nI_ge hm (by omega)) ?_
    refine wp.bnd (P := fun z => Sam [77] hi z.1 ∧ ∀ q, q < 2 ^ A.n → ∃ v, z.1 77 q = nI v ∧ FV A (m + 1) (fun _ => False) q v) ?_ (fun z hz => by rw [wp_some]; exact ⟨nI_1 m, hz⟩)
    refine wp_for (2 ^ A.n) (fun p s => s.1 = nI p ∧ Sam [77] hi s.2.1 ∧ ∀ q, q < 2 ^ A.n → ∃ v, s.2.1 77 q = nI v ∧ FV A m (Rch A m p) q v) ?_ ?_ (i := 0) (Nat.zero_le _) ⟨rfl, sm, fun q hq => ?_⟩ (by omega)
    · rintro p ⟨q, g, l⟩ hp ⟨rfl, sm, h⟩
      dsimp only at sm h
      unfold B_MD_freshens_152 J_MD_freshens_232
      dsimp only
      have g2 : g 65 2 = nI A.n := by rw [sm 65 (by decide)]; exact hn
      have e1 : (1 : Int32) <<< (nI A.n &&& 31) = nI (2 ^ A.n) := ni_one (by omega)
      refine wp_neg (by rw [g2, e1]; exact nI_ge hp (by omega)) ?_
      refine (m_fresh3 hN hw (by rw [sm 65 (by decide)]; exact hS) (by rw [sm 76 (by decide)]; exact hv) hm hp h).bnd (fun z hz => ?_)
      rw [wp_some]
      exact ⟨nI_1 p, Sam.trans sm hz.1 _ (by decide) (by decide), hz.2⟩
    · rintro ⟨q, g, l⟩ ⟨rfl, sm, h⟩
      dsimp only at sm h
      unfold B_MD_freshens_152
      dsimp only
      have g2 : g 65 2 = nI A.n := by rw [sm 65 (by decide)]; exact hn
      have e1 : (1 : Int32) <<< (nI A.n &&& 31) = nI (2 ^ A.n) := ni_one (by omega)
      refine wp_pos (by rw [g2, e1]; exact nI_le (Nat.le_refl _) (by omega)) ?_
      rw [wp_some]
      refine ⟨sm, fun q hq => ?_⟩
      obtain ⟨v, a1, a2⟩ := h q hq
      exact ⟨v, a1, FV.lev hw (by omega) a2⟩
    · obtain ⟨v, a1, a2⟩ := h q hq
      refine ⟨v, a1, a2.cong ⟨False.elim, ?_⟩⟩
      rintro ⟨p, s, z, _⟩
      omega
  · rintro ⟨q, g, l⟩ ⟨rfl, sm, h⟩
    dsimp only at sm h
    unfold B_MD_freshens_142
    dsimp only
    have g2 : g 65 2 = nI A.n := by rw [sm 65 (by decide)]; exact hn
    refine wp_pos (by rw [g2]; exact nI_le (Nat.le_refl _) (by omega)) ?_
    rw [wp_some]
    refine ⟨sm, fun q hq => ?_⟩
    obtain ⟨v, a1, a2⟩ := h q hq
    dsimp only
    rw [a1]
    rcases a2 with ⟨_, a2⟩ | ⟨a3, ⟨a2, _⟩ | ⟨_, a2⟩⟩
    · rw [a2]
    · exact a2.elim
    · rcases Few_cases hw q with ⟨b, _⟩ | ⟨b, _⟩
      · rw [a2, b]
      · omega
/-- the reference's table stands -/
def MTab (A : St) (hi : HI) : Prop := hi 65 8 = 1 ∧ MFull A (hi 65) (hi 74) (hi 75) (hi 76) (hi 77)
theorem m_freshens2 {N : Nat} (hN : 70000 ≤ N) {A : St} (hw : WF A) {hi : HI} {hl : HL} (hR : RM A hi) : wp (f_MD_freshens N hi hl) (fun o => RM A o.2.1 ∧ LoC hi o.2.1 ∧ MTab A o.2.1 ∧ ∀ a, 78 ≤ a → o.2.1 a = hi a) := by
  unfold f_MD_freshens
  rcases hR.fr with z | ⟨z, z2⟩
  · refine wp_pos z ?_
    have gb := hR.gb hw
    refine (m_fresh1 hN hw gb).bnd (fun x1 h1 => ?_)
    obtain ⟨S, sv, eS, hv⟩ := h1.v
    have n1 : x1.1 65 2 = nI A.n := by rw [h1.s65 2 (by omega) (by omega) (by omega)]; exact gb.n
    refine (m_fresh2 hN hw n1).bnd (fun x2 h2 => ?_)
    refine (m_fresh4 hN hw (S := S) (sv := sv) (by rw [h2.1 65 (by decide)]; exact n1) (by rw [h2.1 65 (by decide)]; exact eS) (by rw [h2.1 76 (by decide)]; exact hv) h2.2).bnd (fun x3 h3 => ?_)
    rw [wp_some]
    have p3 := pow3_le hw.w6
    have s23 : Sam [77] x1.1 x3.1 := Sam.trans h2.1 h3.1 _ (by decide) (by decide)
    have sall : Sam [65, 71, 72, 73, 74, 75, 76, 77] hi x3.1 := Sam.trans h1.s s23 _ (by decide) (by decide)
    have e65 : x3.1 65 = x1.1 65 := s23 65 (by decide)
    have mf : MFull A (x3.1 65) (x3.1 74) (x3.1 75) (x3.1 76) (x3.1 77) := by
      refine ⟨?_, ?_, ⟨S, sv, ?_, by have := hv.le; omega, fun k hk => ?_, hv.ne, ?_⟩, h3.2⟩
      · rw [s23 74 (by decide)]; exact h1.g
      · rw [s23 75 (by decide)]; exact h1.i
      · rw [e65]; exact eS
      · rw [s23 76 (by decide)]
        obtain ⟨a1, t, a2, a3⟩ := hv.is k hk
        exact ⟨a1, t, a2, a3⟩
      · rintro s ⟨t, t1, t2⟩
        obtain ⟨k, k1, k2⟩ := hv.all t t1
        exact ⟨k, k1, by rw [k2, t2]⟩
    have f8 : x3.1 65 8 = 1 := by rw [e65]; exact h1.f
    refine ⟨?_, LoC.of sall (by decide), ⟨f8, mf⟩, fun a ha => sall a (by simp; omega)⟩
    obtain ⟨⟨c1, c2, c3, c4⟩, a2, a3, a4, a5, a6, a7, a8, a9, b1, b2, b3⟩ := hR
    have r : ∀ j, j ≠ 8 → j ≠ 12 → j ≠ 15 → x3.1 65 j = hi 65 j := fun j q1 q2 q3 => by rw [e65]; exact h1.s65 j q1 q2 q3
    refine ⟨⟨?_, ?_, ?_, ?_⟩, Or.inr ⟨f8, mf⟩, ?_, ?_, ?_, ?_, ?_, ?_, ?_, ?_, ?_, ?_⟩
    · dsimp only; rw [r 0 (by omega) (by omega) (by omega)]; exact c1
    · dsimp only; rw [r 1 (by omega) (by omega) (by omega)]; exact c2
    · dsimp only; rw [r 2 (by omega) (by omega) (by omega)]; exact c3
    · dsimp only; rw [sall 66 (by decide), sall 67 (by decide), sall 68 (by decide), sall 69 (by decide), sall 70 (by decide)]; exact c4
    · dsimp only; rw [r 23 (by omega) (by omega) (by omega)]; exact a3
    · dsimp only; rw [sall 83 (by decide)]; exact a4
    · dsimp only; rw [sall 84 (by decide)]; exact a5
    · dsimp only; rw [sall 85 (by decide)]; exact a6
    · dsimp only; rw [r 31 (by omega) (by omega) (by omega)]; exact a7
    · dsimp only; rw [sall 88 (by decide)]; exact a8
    · dsimp only; rw [r 36 (by omega) (by omega) (by omega)]; exact a9
    · dsimp only; rw [sall 92 (by decide)]; exact b1
    · dsimp only; rw [sall 93 (by decide)]; exact b2
    · dsimp only; rw [sall 94 (by decide)]; exact b3
  · refine wp_neg (by rw [z]; decide) ?_
    rw [wp_some]
    exact ⟨hR, LoC.refl _, ⟨z, z2⟩, fun _ _ => rfl⟩
theorem m_freshens {N : Nat} (hN : 70000 ≤ N) {A : St} (hw : WF A) {hi : HI} {hl : HL} (hR : RM A hi) : wp (f_MD_freshens N hi hl) (fun o => RM A o.2.1 ∧ LoC hi o.2.1 ∧ MTab A o.2.1) := (m_freshens2 hN hw hR).mono (fun _ h => ⟨h.1, h.2.1, h.2.2.1⟩)
