/-! leading over a wire, leaving wires free -/
theorem c_offer {N : Nat} {hi : HI} {hl : HL} {D L : Nat → Nat → Nat} {u v c m : Nat} (hu : u < 6) (hv : v < 6) (hm : Mat hi 10 11 D L) (hD : ∀ u v, D u v ≤ 1000) (hc : c ≤ 2000) : wp (f_Ways_offer N (nI (u * 6 + v)) (nI c) (nI m) hi hl) (fun o => Sam [10, 11] hi o.2.1 ∧ Mat o.2.1 10 11 (fun a b => if a = u ∧ b = v then (ofr (D u v) (L u v) c m).1 else D a b) (fun a b => if a = u ∧ b = v then (ofr (D u v) (L u v) c m).2 else L a b)) := by
  unfold f_Ways_offer ofr
  have hk := hD u v
  have key : ∀ (x y : Nat) (h1 : HI), Sam [10, 11] hi h1 → (∀ j, h1 10 j = if j = u * 6 + v then nI x else hi 10 j) → (∀ j, h1 11 j = if j = u * 6 + v then nI y else hi 11 j) → Sam [10, 11] hi h1 ∧ Mat h1 10 11 (fun a b => if a = u ∧ b = v then x else D a b) (fun a b => if a = u ∧ b = v then y else L a b) := by
    intro x y h1 hs e1 e2
    refine ⟨hs, fun a b ha hb => ?_⟩
    rw [e1, e2]
    by_cases e : a = u ∧ b = v
    · have e' : a * 6 + b = u * 6 + v := by omega
      simp only [if_pos e, if_pos e', and_self]
    · have e' : ¬ (a * 6 + b = u * 6 + v) := by omega
      simp only [if_neg e, if_neg e']
      exact hm a b ha hb
  have self : ∀ (z : Nat) (a : Nat), hi a (u * 6 + v) = nI z → ∀ j, hi a j = if j = u * 6 + v then nI z else hi a j := by
    intro z a hz j
    by_cases e : j = u * 6 + v
    · rw [if_pos e, e, hz]
    · rw [if_neg e]
  have h10 := (hm u v hu hv).1
  have h11 := (hm u v hu hv).2
  simp (disch := omega) only [nI_clamp, h10, h11]
  refine wp_neg (nI_in' (by omega) (by omega)) ?_
  by_cases k : D u v ≤ c
  · refine wp_pos (nI_le k (by omega)) (wp_neg (nI_in' (by omega) (by omega)) ?_)
    by_cases k2 : c = D u v
    · refine wp_pos (by rw [k2]) (wp_neg (nI_in' (by omega) (by omega)) (wp_neg (nI_in' (by omega) (by omega)) ?_))
      rw [wp_some, if_neg (by omega), if_pos k2]
      refine key _ _ _ ((Sam.refl _ _).wr (by decide)) (fun j => ?_) (fun j => ?_)
      · dsimp only; rw [wr_o (by omega)]; exact self _ _ h10 j
      · dsimp only; rw [wr_i, fa_or]
    · refine wp_neg (fun q => k2 ((nI_eq (by omega) (by omega)).mp q)) ?_
      rw [wp_some, if_neg (by omega), if_neg k2]
      exact key _ _ _ (Sam.refl _ _) (self _ _ h10) (self _ _ h11)
  · refine wp_neg (nI_ge (by omega) (by omega)) (wp_neg (nI_in' (by omega) (by omega)) (wp_neg (nI_in' (by omega) (by omega)) ?_))
    rw [wp_some, if_pos (by omega)]
    refine key _ _ _ (((Sam.refl _ _).wr (by decide)).wr (by decide)) (fun j => ?_) (fun j => ?_)
    · dsimp only; rw [wr_o (by omega), wr_i]
    · dsimp only; rw [wr_i, wr_o (by omega)]
/-- the entry behind a leading over x -/
def ld2 (O : Nat) (x : Nat) (D L : Nat → Nat → Nat) (u v : Nat) : Nat × Nat := if O.testBit u = true ∧ O.testBit v = true ∧ u ≠ v ∧ D u x < 1000 ∧ D x v < 1000 then ofr (D u v) (L u v) (D u x + D x v) (L u x ||| L x v) else (D u v, L u v)
theorem ld2_no {O x u v : Nat} {D L : Nat → Nat → Nat} (h : O.testBit u = false ∨ O.testBit v = false) : ld2 O x D L u v = (D u v, L u v) := by
  unfold ld2
  rw [if_neg]
  rintro ⟨h1, h2, _⟩
  rw [h1, h2] at h
  rcases h with h | h <;> cases h
theorem ofr_le {d l s k M : Nat} (h : d ≤ M) : (ofr d l s k).1 ≤ M := by
  unfold ofr
  split
  · dsimp only; omega
  · split <;> exact h
theorem ld2_le {O x : Nat} {D L : Nat → Nat → Nat} (h : ∀ u v, D u v ≤ 1000) (u v : Nat) : (ld2 O x D L u v).1 ≤ 1000 := by
  unfold ld2
  split
  · exact ofr_le (h u v)
  · exact h u v
theorem c_leadOver {N : Nat} (hN : 70000 ≤ N) {hi : HI} {hl : HL} {D L : Nat → Nat → Nat} {w x O : Nat} (hw : w ≤ 6) (hx : x < w) (hO : O < 64) (hxO : O.testBit x = false) (h7 : hi 7 2 = nI w) (hm : Mat hi 10 11 D L) (hD : ∀ u v, D u v ≤ 1000) : wp (f_Ways_leadOver N (nI x) (nI O) hi hl) (fun o => Sam [10, 11] hi o.2.1 ∧ Mat o.2.1 10 11 (fun u v => if u < w ∧ v < w then (ld2 O x D L u v).1 else D u v) (fun u v => if u < w ∧ v < w then (ld2 O x D L u v).2 else L u v)) := by
  unfold f_Ways_leadOver
  refine wp.bnd (P := fun z => Sam [10, 11] hi z.1 ∧ Mat z.1 10 11 (fun u v => if u < w ∧ v < w then (ld2 O x D L u v).1 else D u v) (fun u v => if u < w ∧ v < w then (ld2 O x D L u v).2 else L u v)) ?_ (fun z hz => by rw [wp_some]; exact hz)
  refine wp_for w (fun a s => s.1 = nI a ∧ Sam [10, 11] hi s.2.1 ∧ Mat s.2.1 10 11 (fun u v => if u < a ∧ v < w then (ld2 O x D L u v).1 else D u v) (fun u v => if u < a ∧ v < w then (ld2 O x D L u v).2 else L u v)) ?_ ?_ (i := 0) (by omega) ⟨rfl, Sam.refl _ _, ?_⟩ (by omega)
  · rintro a ⟨q, g, l⟩ ha ⟨rfl, sm, mt⟩
    dsimp only at sm mt
    have g7 : g 7 2 = nI w := by rw [sm 7 (by decide)]; exact h7
    unfold B_Ways_leadOver_2 J_Ways_leadOver_138
    dsimp only
    refine wp_neg (by rw [g7]; exact nI_ge ha (by omega)) ?_
    have done : ∀ (h1 : HI), Sam [10, 11] hi h1 → Mat h1 10 11 (fun u v => if u < a ∧ v < w then (ld2 O x D L u v).1 else D u v) (fun u v => if u < a ∧ v < w then (ld2 O x D L u v).2 else L u v) → (∀ v, ld2 O x D L a v = (D a v, L a v)) → Mat h1 10 11 (fun u v => if u < a + 1 ∧ v < w then (ld2 O x D L u v).1 else D u v) (fun u v => if u < a + 1 ∧ v < w then (ld2 O x D L u v).2 else L u v) := by
      intro h1 s1 m1 e u v hu hv
      have k := m1 u v hu hv
      dsimp only at k ⊢
      by_cases q : u = a
      · subst q
        have q1 : ¬ (u < u ∧ v < w) := by omega
        rw [if_neg q1, if_neg q1] at k
        rw [e v, ite_self, ite_self]; exact k
      · have e1 : (u < a + 1 ∧ v < w) = (u < a ∧ v < w) := propext ⟨fun z => ⟨by omega, z.2⟩, fun z => ⟨by omega, z.2⟩⟩
        simp only [e1]; exact k
    by_cases ob : O.testBit a = false
    · refine wp_pos ((ni_bit (by omega) (by omega)).mpr ob) ?_
      rw [wp_some]
      exact ⟨nI_1 a, sm, done g sm mt (fun v => ld2_no (Or.inl ob))⟩
    · have ob' : O.testBit a = true := by simpa using ob
      refine wp_neg (fun q => ob ((ni_bit (by omega) (by omega)).mp q)) ?_
      have e6 : nI a * 6 + nI x = nI (a * 6 + x) := by rw [lit_I, pk_mul, nI_add]
      rw [e6, nI_clamp (by omega)]
      refine wp_neg (nI_in' (by omega) (by omega)) ?_
      have rax := mt a x (by omega) (by omega)
      dsimp only at rax
      rw [if_neg (by omega), if_neg (by omega)] at rax
      have kx := hD a x
      by_cases kf : D a x < 1000
      · refine wp_pos (by rw [rax.1]; exact nI_lt (b := 1000) kf (by omega)) ?_
        refine wp.bnd (P := fun z => Sam [10, 11] hi z.1 ∧ Mat z.1 10 11 (fun u v => if u < a + 1 ∧ v < w then (ld2 O x D L u v).1 else D u v) (fun u v => if u < a + 1 ∧ v < w then (ld2 O x D L u v).2 else L u v)) ?_ (fun z hz => by rw [wp_some]; exact ⟨nI_1 a, hz⟩)
        refine wp_for w (fun b s => s.1 = nI b ∧ Sam [10, 11] hi s.2.1 ∧ Mat s.2.1 10 11 (fun u v => if (u < a ∧ v < w) ∨ (u = a ∧ v < b) then (ld2 O x D L u v).1 else D u v) (fun u v => if (u < a ∧ v < w) ∨ (u = a ∧ v < b) then (ld2 O x D L u v).2 else L u v)) ?_ ?_ (i := 0) (by omega) ⟨rfl, sm, ?_⟩ (by omega)
        · rintro b ⟨q, g, l⟩ hb ⟨rfl, sm, mt⟩
          dsimp only at sm mt
          have g7 : g 7 2 = nI w := by rw [sm 7 (by decide)]; exact h7
          unfold B_Ways_leadOver_45 J_Ways_leadOver_132
          dsimp only
          refine wp_neg (by rw [g7]; exact nI_ge hb (by omega)) ?_
          have done2 : ld2 O x D L a b = (D a b, L a b) → Mat g 10 11 (fun u v => if (u < a ∧ v < w) ∨ (u = a ∧ v < b + 1) then (ld2 O x D L u v).1 else D u v) (fun u v => if (u < a ∧ v < w) ∨ (u = a ∧ v < b + 1) then (ld2 O x D L u v).2 else L u v) := by
            intro e u v hu hv
            have k := mt u v hu hv
            dsimp only at k ⊢
            by_cases q : u = a ∧ v = b
            · obtain ⟨rfl, rfl⟩ := q
              have q1 : ¬ ((u < u ∧ v < w) ∨ (u = u ∧ v < v)) := by omega
              rw [if_neg q1, if_neg q1] at k
              rw [e, ite_self, ite_self]; exact k
            · have e1 : ((u < a ∧ v < w) ∨ (u = a ∧ v < b + 1)) = ((u < a ∧ v < w) ∨ (u = a ∧ v < b)) := propext ⟨fun z => by omega, fun z => by omega⟩
              simp only [e1]; exact k
          by_cases eab : b = a
          · refine wp_pos (by rw [eab]) ?_
            rw [wp_some]
            refine ⟨nI_1 b, sm, done2 ?_⟩
            unfold ld2
            rw [if_neg (fun q => q.2.2.1 eab.symm)]
          refine wp_neg (fun q => eab ((nI_eq (by omega) (by omega)).mp q)) ?_
          by_cases obb : O.testBit b = false
          · refine wp_pos ((ni_bit (by omega) (by omega)).mpr obb) ?_
            rw [wp_some]
            exact ⟨nI_1 b, sm, done2 (ld2_no (Or.inr obb))⟩
          have obb' : O.testBit b = true := by simpa using obb
          have xb : x ≠ b := fun q => by rw [q, obb'] at hxO; cases hxO
          have xa : x ≠ a := fun q => by rw [q, ob'] at hxO; cases hxO
          refine wp_neg (fun q => obb ((ni_bit (by omega) (by omega)).mp q)) ?_
          have e6 : nI x * 6 + nI b = nI (x * 6 + b) := by rw [lit_I, pk_mul, nI_add]
          have e7 : nI a * 6 + nI b = nI (a * 6 + b) := by rw [lit_I, pk_mul, nI_add]
          have rax := mt a x (by omega) (by omega)
          have rxb := mt x b (by omega) (by omega)
          have lax : ld2 O x D L a x = (D a x, L a x) := ld2_no (Or.inr hxO)
          have lxb : ld2 O x D L x b = (D x b, L x b) := ld2_no (Or.inl hxO)
          dsimp only at rax rxb
          rw [lax, ite_self, ite_self] at rax
          rw [lxb, ite_self, ite_self] at rxb
          rw [e6, e7]
          simp (disch := omega) only [nI_clamp, rax.1, rax.2, rxb.1, rxb.2]
          refine wp_neg (nI_in' (by omega) (by omega)) ?_
          have kb := hD x b
          by_cases kf2 : D x b < 1000
          · refine wp_neg (nI_ge (b := 1000) kf2 (by omega)) (wp_neg (nI_in' (by omega) (by omega)) (wp_neg (nI_in' (by omega) (by omega)) (wp_neg (nI_in' (by omega) (by omega)) (wp_neg (nI_in' (by omega) (by omega)) ?_))))
            rw [nI_add, fa_or]
            refine (c_offer (by omega) (by omega) mt (fun u v => by split; exact ld2_le hD u v; exact hD u v) (by omega)).bnd (fun y hy => ?_)
            rw [wp_some]
            refine ⟨nI_1 b, Sam.trans sm hy.1 _ (by decide) (by decide), fun u v hu hv => ?_⟩
            have k := hy.2 u v hu hv
            dsimp only at k ⊢
            by_cases q : u = a ∧ v = b
            · obtain ⟨rfl, rfl⟩ := q
              have q1 : ¬ ((u < u ∧ v < w) ∨ (u = u ∧ v < v)) := by omega
              have q2 : (u < u ∧ v < w) ∨ (u = u ∧ v < v + 1) := by omega
              simp only [Nat.lt_irrefl, false_and, and_false, or_self, and_self, if_true, if_false] at k
              rw [if_pos q2, if_pos q2]
              unfold ld2
              rw [if_pos ⟨ob', obb', fun z => eab z.symm, kf, kf2⟩]
              exact k
            · have e1 : ((u < a ∧ v < w) ∨ (u = a ∧ v < b + 1)) = ((u < a ∧ v < w) ∨ (u = a ∧ v < b)) := propext ⟨fun z => by omega, fun z => by omega⟩
              simp only [if_neg q] at k
              simp only [e1]; exact k
          · refine wp_pos (nI_le (a := 1000) (by omega) (by omega)) ?_
            rw [wp_some]
            refine ⟨nI_1 b, sm, done2 ?_⟩
            unfold ld2
            rw [if_neg (fun q => kf2 q.2.2.2.2)]
        · rintro ⟨q, g, l⟩ ⟨rfl, sm, mt⟩
          dsimp only at sm mt
          have g7 : g 7 2 = nI w := by rw [sm 7 (by decide)]; exact h7
          unfold B_Ways_leadOver_45
          dsimp only
          refine wp_pos (by rw [g7]; exact nI_le (Nat.le_refl _) (by omega)) ?_
          rw [wp_some]
          refine ⟨sm, fun u v hu hv => ?_⟩
          have k := mt u v hu hv
          dsimp only at k ⊢
          have e1 : (u < a + 1 ∧ v < w) = ((u < a ∧ v < w) ∨ (u = a ∧ v < w)) := propext ⟨fun z => by omega, fun z => by omega⟩
          simp only [e1]; exact k
        · intro u v hu hv
          have k := mt u v hu hv
          dsimp only at k ⊢
          have e1 : ((u < a ∧ v < w) ∨ (u = a ∧ v < 0)) = (u < a ∧ v < w) := propext ⟨fun z => by omega, fun z => by omega⟩
          simp only [e1]; exact k
      · refine wp_neg (by rw [rax.1]; exact nI_nlt (b := 1000) (by omega) (by omega)) ?_
        rw [wp_some]
        refine ⟨nI_1 a, sm, done g sm mt (fun v => ?_)⟩
        unfold ld2
        rw [if_neg (fun q => kf q.2.2.2.1)]
  · rintro ⟨q, g, l⟩ ⟨rfl, sm, mt⟩
    dsimp only at sm mt
    have g7 : g 7 2 = nI w := by rw [sm 7 (by decide)]; exact h7
    unfold B_Ways_leadOver_2
    dsimp only
    refine wp_pos (by rw [g7]; exact nI_le (Nat.le_refl _) (by omega)) ?_
    rw [wp_some]
    exact ⟨sm, mt⟩
  · intro u v hu hv
    dsimp only
    have e1 : ¬ (u < 0 ∧ v < w) := by omega
    simp only [if_neg e1]
    exact hm u v hu hv
/-- wires of the mask below k -/
def fLow (f k : Nat) : Nat → Prop := fun x => x < k ∧ f.testBit x = true
abbrev Lv (E : Nat → Nat → Nat → Nat → Prop) (w f k : Nat) (D L : Nat → Nat → Nat) : Prop :=
  (∀ u v, u < w → v < w → ¬ fLow f k u → ¬ fLow f k v → u ≠ v → Op E (fLow f k) u v (D u v) (L u v)) ∧
  (∀ u v, D u v < 1000 → D u v ≤ 9 * 2 ^ k) ∧
  (∀ u v, D u v ≤ 1000)
theorem Lv.op {E : Nat → Nat → Nat → Nat → Prop} {w f k : Nat} {D L : Nat → Nat → Nat} (h_ : Lv E w f k D L) : ∀ u v, u < w → v < w → ¬ fLow f k u → ¬ fLow f k v → u ≠ v → Op E (fLow f k) u v (D u v) (L u v) := h_.1
theorem Lv.bd {E : Nat → Nat → Nat → Nat → Prop} {w f k : Nat} {D L : Nat → Nat → Nat} (h_ : Lv E w f k D L) : ∀ u v, D u v < 1000 → D u v ≤ 9 * 2 ^ k := h_.2.1
theorem Lv.le {E : Nat → Nat → Nat → Nat → Prop} {w f k : Nat} {D L : Nat → Nat → Nat} (h_ : Lv E w f k D L) : ∀ u v, D u v ≤ 1000 := h_.2.2
theorem bit_lt {n k i : Nat} (h : n < 2 ^ k) (hi : n.testBit i = true) : i < k := by
  refine Nat.lt_of_not_le (fun q => ?_)
  rw [Nat.testBit_lt_two_pow (Nat.lt_of_lt_of_le h (Nat.pow_le_pow_right (by omega) q))] at hi
  cases hi
theorem all_bit (w i : Nat) : (2 ^ w - 1).testBit i = decide (i < w) := Nat.testBit_two_pow_sub_one w i
theorem Lv.step {E : Nat → Nat → Nat → Nat → Prop} {w f k : Nat} {D L : Nat → Nat → Nat} (hZ : ∀ u v m, E u v 0 m → m = 0) (hk : k < w) (hw : w ≤ 6) (hf : f.testBit k = true) (h : Lv E w f k D L) {O : Nat} (hO : ∀ x, O.testBit x = true ↔ x < w ∧ ¬ fLow f (k + 1) x) : Lv E w f (k + 1) (fun u v => if u < w ∧ v < w then (ld2 O k D L u v).1 else D u v) (fun u v => if u < w ∧ v < w then (ld2 O k D L u v).2 else L u v) := by
  have p5 : 2 ^ k ≤ 32 := Nat.le_trans (Nat.pow_le_pow_right (by omega) (show k ≤ 5 by omega)) (by decide)
  have ps : 2 ^ (k + 1) = 2 * 2 ^ k := by rw [Nat.pow_succ, Nat.mul_comm]
  refine ⟨fun u v hu hv nu nv huv => ?_, fun u v => ?_, fun u v => ?_⟩
  · have c1 : u < w ∧ v < w := ⟨hu, hv⟩
    simp only [if_pos c1]
    have uk : u ≠ k := fun q => nu ⟨by omega, q ▸ hf⟩
    have vk : v ≠ k := fun q => nv ⟨by omega, q ▸ hf⟩
    have nu' : ¬ fLow f k u := fun q => nu ⟨by have := q.1; omega, q.2⟩
    have nv' : ¬ fLow f k v := fun q => nv ⟨by have := q.1; omega, q.2⟩
    have nk' : ¬ fLow f k k := fun q => absurd q.1 (Nat.lt_irrefl k)
    have o1 := h.op u v hu hv nu' nv' huv
    have o2 := h.op u k hu hk nu' nk' uk
    have o3 := h.op k v hk hv nk' nv' (fun q => vk q.symm)
    have eF : fLow f (k + 1) = fun y => fLow f k y ∨ y = k := funext fun y => propext ⟨fun q => by
      by_cases e : y = k
      · exact Or.inr e
      · exact Or.inl ⟨by have := q.1; omega, q.2⟩, fun q => by
      rcases q with q | q
      · exact ⟨by have := q.1; omega, q.2⟩
      · exact ⟨by omega, q ▸ hf⟩⟩
    rw [eF]
    have ou := (hO u).mpr ⟨hu, nu⟩
    have ov := (hO v).mpr ⟨hv, nv⟩
    have b2 := h.bd u k
    have b3 := h.bd k v
    by_cases c2 : D u k < 1000 ∧ D k v < 1000
    · unfold ld2
      rw [if_pos ⟨ou, ov, huv, c2⟩]
      exact o1.elim hZ o2 o3 c2.1 c2.2 (by omega)
    · unfold ld2
      rw [if_neg (fun q => c2 q.2.2.2)]
      exact o1.pass hZ o2 o3 (by omega)
  · have b0 := h.bd u v
    have b2 := h.bd u k
    have b3 := h.bd k v
    dsimp only
    split
    · unfold ld2
      split
      · rename_i q
        unfold ofr
        split
        · dsimp only; omega
        · split
          · dsimp only; omega
          · dsimp only; omega
      · dsimp only; omega
    · omega
  · dsimp only
    split
    · exact ld2_le h.le u v
    · exact h.le u v
theorem Mat.cpy {hi : HI} {D L : Nat → Nat → Nat} (hm : Mat hi 8 9 D L) : Mat (va_up (va_up hi 10 (va_cpy (hi 8) (hi 10) 0 0 36)) 11 (va_cpy ((va_up hi 10 (va_cpy (hi 8) (hi 10) 0 0 36)) 9) ((va_up hi 10 (va_cpy (hi 8) (hi 10) 0 0 36)) 11) 0 0 36)) 10 11 D L := by
  intro u v hu hv
  rw [up_o (by omega), up_s, up_s, up_o (by omega), pk_cpy_in (by omega) (by omega), pk_cpy_in (by omega) (by omega)]
  rw [Nat.zero_add, Nat.sub_zero]
  exact hm u v hu hv
theorem c_leave {N : Nat} (hN : 70000 ≤ N) {E : Nat → Nat → Nat → Nat → Prop} (hZ : ∀ u v m, E u v 0 m → m = 0) {hi : HI} {hl : HL} {D L : Nat → Nat → Nat} {w f : Nat} (hw : w ≤ 6) (hf : f < 64) (h7 : hi 7 2 = nI w) (hm : Mat hi 8 9 D L) (hL : Ld E D L) : wp (f_Ways_leave N (nI f) hi hl) (fun o => Sam [10, 11] hi o.2.1 ∧ ∃ D' L', Mat o.2.1 10 11 D' L' ∧ Lv E w f w D' L') := by
  unfold f_Ways_leave
  refine wp.bnd (P := fun z => Sam [10, 11] hi z.1 ∧ ∃ D' L', Mat z.1 10 11 D' L' ∧ Lv E w f w D' L') ?_ (fun z hz => by rw [wp_some]; exact hz)
  have e0 : (va_up (va_up hi 10 (va_cpy (hi 8) (hi 10) 0 0 36)) 11 (va_cpy ((va_up hi 10 (va_cpy (hi 8) (hi 10) 0 0 36)) 9) ((va_up hi 10 (va_cpy (hi 8) (hi 10) 0 0 36)) 11) 0 0 36)) 7 2 = nI w := by rw [up_o (by omega), up_o (by omega)]; exact h7
  have e1 : ((1 : Int32) <<< (nI w &&& 31)) - 1 = nI (2 ^ w - 1) := all_lamps (by omega)
  rw [e0, e1]
  refine wp_for w (fun k s => (∃ O, s.1 = nI O ∧ O < 64 ∧ ∀ x, O.testBit x = true ↔ x < w ∧ ¬ fLow f k x) ∧ s.2.1 = nI k ∧ Sam [10, 11] hi s.2.2.1 ∧ ∃ D' L', Mat s.2.2.1 10 11 D' L' ∧ Lv E w f k D' L') ?_ ?_ (i := 0) (by omega) ⟨⟨2 ^ w - 1, rfl, ?_, ?_⟩, rfl, ((Sam.refl _ _).up (by decide)).up (by decide), D, L, hm.cpy, ?_⟩ (by omega)
  · rintro k ⟨o, q, g, l⟩ hk ⟨⟨O, rfl, hO, hOb⟩, rfl, sm, D', L', mt, lv⟩
    dsimp only at sm mt
    have g7 : g 7 2 = nI w := by rw [sm 7 (by decide)]; exact h7
    unfold B_Ways_leave_41 J_Ways_leave_71
    dsimp only
    refine wp_neg (by rw [g7]; exact nI_ge hk (by omega)) ?_
    by_cases fb : f.testBit k = false
    · refine wp_pos ((ni_bit (by omega) (by omega)).mpr fb) ?_
      rw [wp_some]
      have eF : fLow f (k + 1) = fLow f k := funext fun y => propext ⟨fun q => ⟨by
        have h1 := q.1
        have h2 := q.2
        have : y ≠ k := fun e => by rw [e, fb] at h2; cases h2
        omega, q.2⟩, fun q => ⟨by have := q.1; omega, q.2⟩⟩
      refine ⟨⟨O, rfl, hO, by rw [eF]; exact hOb⟩, nI_1 k, sm, D', L', mt, ⟨?_, fun u v q => ?_, lv.le⟩⟩
      · rw [eF]; exact lv.op
      · have := lv.bd u v q
        rw [Nat.pow_succ]; omega
    · have fb' : f.testBit k = true := by simpa using fb
      refine wp_neg (fun q => fb ((ni_bit (by omega) (by omega)).mp q)) ?_
      have e2 : (1 : Int32) <<< (nI k &&& 31) = nI (2 ^ k) := ni_one (by omega)
      rw [e2, ni_andnot]
      have hOb2 : ∀ x, (sdf O (2 ^ k)).testBit x = true ↔ x < w ∧ ¬ fLow f (k + 1) x := by
        intro x
        rw [sdf_bit, Nat.testBit_two_pow, Bool.and_eq_true, hOb]
        simp only [Bool.not_eq_true', decide_eq_false_iff_not, fLow]
        constructor
        · rintro ⟨⟨q1, q2⟩, q3⟩
          exact ⟨q1, fun ⟨z1, z2⟩ => q2 ⟨by omega, z2⟩⟩
        · rintro ⟨q1, q2⟩
          refine ⟨⟨q1, fun ⟨z1, z2⟩ => q2 ⟨by omega, z2⟩⟩, fun q3 => q2 ⟨by omega, q3 ▸ fb'⟩⟩
      have hO2 : sdf O (2 ^ k) < 64 := by
        refine Nat.lt_pow_two_of_testBit (n := 6) _ (fun i hi => ?_)
        cases hb : (sdf O (2 ^ k)).testBit i with
        | false => rfl
        | true => have := ((hOb2 i).mp hb).1; omega
      refine (c_leadOver hN hw hk hO2 ?_ g7 mt lv.le).bnd (fun y hy => ?_)
      · cases hb : (sdf O (2 ^ k)).testBit k with
        | false => rfl
        | true => exact absurd ⟨by omega, fb'⟩ ((hOb2 k).mp hb).2
      · rw [wp_some]
        exact ⟨⟨_, rfl, hO2, hOb2⟩, nI_1 k, Sam.trans sm hy.1 _ (by decide) (by decide), _, _, hy.2, lv.step hZ hk hw fb' hOb2⟩
  · rintro ⟨o, q, g, l⟩ ⟨⟨O, rfl, hO, hOb⟩, rfl, sm, D', L', mt, lv⟩
    dsimp only at sm mt
    have g7 : g 7 2 = nI w := by rw [sm 7 (by decide)]; exact h7
    unfold B_Ways_leave_41
    dsimp only
    refine wp_pos (by rw [g7]; exact nI_le (Nat.le_refl _) (by omega)) ?_
    rw [wp_some]
    exact ⟨sm, D', L', mt, lv⟩
  · have : 2 ^ w ≤ 2 ^ 6 := Nat.pow_le_pow_right (by omega) hw
    have : 0 < 2 ^ w := Nat.two_pow_pos w
    omega
  · intro x
    rw [all_bit, decide_eq_true_iff]
    exact ⟨fun q => ⟨q, fun z => absurd z.1 (Nat.not_lt_zero x)⟩, fun q => q.1⟩
  · have eF : fLow f 0 = fun _ => False := funext fun y => propext ⟨fun q => absurd q.1 (Nat.not_lt_zero y), False.elim⟩
    refine ⟨fun u v _ _ _ _ _ => ?_, fun u v q => ?_, hL.le⟩
    · rw [eF]; exact hL.op u v
    · have := (hL.is u v (by omega)).1
      rw [Nat.pow_zero]; omega
