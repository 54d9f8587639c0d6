/-! joining and advancing -/
theorem Row.wr {hl : HL} {off j v : Nat} {X X' : Nat → Prop} (h : Row hl off X) (hj : j < 1024) (hv : v < 2 ^ 64) (h1 : ∀ b, b < 64 → (v.testBit b = true ↔ X' (1024 * b + j))) (h2 : ∀ b k, b < 64 → k < 1024 → k ≠ j → (X (1024 * b + k) ↔ X' (1024 * b + k))) : Row (wrL hl 41 (off + j) (lN v)) off X' := by
  obtain ⟨w, hw⟩ := h
  refine ⟨fun k => if k = j then v else w k, fun k hk => ?_⟩
  dsimp only
  rw [wrL_i]
  by_cases e : k = j
  · rw [if_pos e, if_pos (by omega), e]; exact ⟨hv, rfl, h1⟩
  · rw [if_neg e, if_neg (by omega)]
    obtain ⟨a1, a2, a3⟩ := hw k hk
    exact ⟨a1, a2, fun b hb => by rw [a3 b hb, h2 b k hb hk e]⟩
theorem Row.oth {hl : HL} {off a : Nat} {v : Int64} {X : Nat → Prop} (h : Row hl off X) (ha : a < off ∨ off + 1024 ≤ a) : Row (wrL hl 41 a v) off X := by
  obtain ⟨w, hw⟩ := h
  refine ⟨w, fun k hk => ?_⟩
  rw [wrL_i, if_neg (by omega)]
  exact hw k hk
theorem Row.cong {hl : HL} {off : Nat} {X X' : Nat → Prop} (h : Row hl off X) (e : ∀ q, q < 65536 → (X q ↔ X' q)) : Row hl off X' := by
  obtain ⟨w, hw⟩ := h
  refine ⟨w, fun k hk => ?_⟩
  obtain ⟨a1, a2, a3⟩ := hw k hk
  exact ⟨a1, a2, fun b hb => by rw [a3 b hb, e _ (by omega)]⟩
theorem Row.same {hl h1 : HL} {off : Nat} {X : Nat → Prop} (h : Row hl off X) (e : ∀ j, j < 1024 → h1 41 (off + j) = hl 41 (off + j)) : Row h1 off X := by
  obtain ⟨w, hw⟩ := h
  exact ⟨w, fun k hk => by rw [e k hk]; exact hw k hk⟩
/-- the ordered kinds -/
abbrev Or2 (A : St) (hi : HI) (C : Nat) (ov : Nat → Nat) : Prop :=
  (hi 38 2 = nI C) ∧
  (C ≤ 729) ∧
  (∀ j, j < C → hi 40 j = nI (ov j) ∧ IsSet A (ov j)) ∧
  (hi 38 5 = 42)
theorem Or2.n {A : St} {hi : HI} {C : Nat} {ov : Nat → Nat} (h_ : Or2 A hi C ov) : hi 38 2 = nI C := h_.1
theorem Or2.c7 {A : St} {hi : HI} {C : Nat} {ov : Nat → Nat} (h_ : Or2 A hi C ov) : C ≤ 729 := h_.2.1
theorem Or2.o {A : St} {hi : HI} {C : Nat} {ov : Nat → Nat} (h_ : Or2 A hi C ov) : ∀ j, j < C → hi 40 j = nI (ov j) ∧ IsSet A (ov j) := h_.2.2.1
theorem Or2.f {A : St} {hi : HI} {C : Nat} {ov : Nat → Nat} (h_ : Or2 A hi C ov) : hi 38 5 = 42 := h_.2.2.2
theorem c_join {N : Nat} (hN : 70000 ≤ N) {A : St} (hw : WF A) {hi : HI} {hl : HL} {C : Nat} {ov : Nat → Nat} (od : Or2 A hi C ov) {l u : Nat} {X : Nat → Prop} (hl1 : l < 1024) (hu : u < 2 ^ 64) (rx : Row hl 2048 X) : wp (f_Unions_join N (nI l) (lN u) hi hl) (fun o => o.2.1 = hi ∧ (∀ a, a < 2048 → o.2.2 41 a = hl 41 a) ∧ Row o.2.2 2048 (fun q => X q ∨ ∃ i, i < C ∧ ∃ b, b < 64 ∧ u.testBit b = true ∧ q = (1024 * b + l) ||| ov i)) := by
  unfold f_Unions_join
  have c7 := od.c7
  refine wp.bnd (P := fun z => z.1 = hi ∧ (∀ a, a < 2048 → z.2 41 a = hl 41 a) ∧ Row z.2 2048 (fun q => X q ∨ ∃ i, i < C ∧ ∃ b, b < 64 ∧ u.testBit b = true ∧ q = (1024 * b + l) ||| ov i)) ?_ (fun z hz => by rw [wp_some]; exact hz)
  refine wp_for C (fun κ s => s.2.2.1 = nI κ ∧ s.2.2.2.1 = hi ∧ (∀ a, a < 2048 → s.2.2.2.2 41 a = hl 41 a) ∧ Row s.2.2.2.2 2048 (fun q => X q ∨ ∃ i, i < κ ∧ ∃ b, b < 64 ∧ u.testBit b = true ∧ q = (1024 * b + l) ||| ov i) ∧ ∃ y rb, s.1 = lN y ∧ s.2.1 = nI rb ∧ rb < 64 ∧ y < 2 ^ 64 ∧ ∀ c, c < 64 → (y.testBit c = true ↔ ∃ b, b < 64 ∧ u.testBit b = true ∧ b ||| rb = c)) ?_ ?_ (i := 0) (Nat.zero_le _) ⟨rfl, rfl, fun _ _ => rfl, rx.cong (fun q _ => ⟨Or.inl, fun h => by rcases h with h | ⟨i, h, _⟩; exact h; omega⟩), u, 0, rfl, rfl, by omega, hu, fun c hc => ⟨fun h => ⟨c, hc, h, Nat.or_zero c⟩, fun ⟨b, _, h2, h3⟩ => by rw [Nat.or_zero] at h3; rw [← h3]; exact h2⟩⟩ (by omega)
  · rintro κ ⟨v, r, q, g, gl⟩ hκ ⟨rfl, hg, g1, g2, y, rb, rfl, rfl, r64, y1, y2⟩
    dsimp only at hg g1 g2
    subst hg
    obtain ⟨e40, hset⟩ := od.o κ hκ
    have o6 := hset.l6 hw
    have ck : (nI κ).toNatClampNeg = κ := nI_clamp (by omega)
    have e10 : nI (ov κ) >>> ((10 : Int32) &&& 31) = nI (ov κ / 1024) := ni_shr (k := 10) (by omega) (by omega)
    have e23 : nI (ov κ) &&& 1023 = nI (ov κ % 1024) := fa_mask (ov κ) 10
    have lo : l ||| ov κ % 1024 < 1024 := Nat.or_lt_two_pow (n := 10) hl1 (Nat.mod_lt _ (by omega))
    have e48 : (2048 : Int32) + nI (l ||| ov κ % 1024) = nI (2048 + (l ||| ov κ % 1024)) := nI_add 2048 _
    have rest : ∀ (y rb : Nat), rb = ov κ / 1024 → y < 2 ^ 64 → (∀ c, c < 64 → (y.testBit c = true ↔ ∃ b, b < 64 ∧ u.testBit b = true ∧ b ||| rb = c)) → wp (J_Unions_join_49 N (nI l) (lN u) (lN y) (nI rb) (nI κ) g gl) (fun z => match z with
        | .inl s => s.2.2.1 = nI (κ + 1) ∧ s.2.2.2.1 = g ∧ (∀ a, a < 2048 → s.2.2.2.2 41 a = hl 41 a) ∧ Row s.2.2.2.2 2048 (fun q => X q ∨ ∃ i, i < κ + 1 ∧ ∃ b, b < 64 ∧ u.testBit b = true ∧ q = (1024 * b + l) ||| ov i) ∧ ∃ y rb, s.1 = lN y ∧ s.2.1 = nI rb ∧ rb < 64 ∧ y < 2 ^ 64 ∧ ∀ c, c < 64 → (y.testBit c = true ↔ ∃ b, b < 64 ∧ u.testBit b = true ∧ b ||| rb = c)
        | .inr _ => False) := by
      rintro y rb rfl y1 y2
      unfold J_Unions_join_49
      have ci : (nI (2048 + (l ||| ov κ % 1024))).toNatClampNeg = 2048 + (l ||| ov κ % 1024) := nI_clamp (by omega)
      simp only [ck, e40, e23, fa_or, e48, ci]
      refine wp_pos od.f (wp_neg (nI_in' (by omega) (by omega)) (wp_neg (nI_in' (by omega) (by omega)) (wp_neg (nI_in' (by omega) (by omega)) ?_)))
      obtain ⟨w, w1⟩ := id g2
      obtain ⟨a1, a2, a3⟩ := w1 _ lo
      rw [wp_some, a2, fb_orL]
      refine ⟨nI_1 κ, rfl, fun a ha => ?_, ?_, y, ov κ / 1024, rfl, rfl, by omega, y1, y2⟩
      · dsimp only
        rw [wrL_i, if_neg (by omega)]; exact g1 a ha
      · refine g2.wr lo (Nat.or_lt_two_pow a1 y1) (fun c hc => ?_) (fun c k hc hk hne => ?_)
        · rw [Nat.testBit_or, Bool.or_eq_true, a3 c hc, y2 c hc]
          constructor
          · rintro ((h | ⟨i, i1, h⟩) | ⟨b, b1, b2, b3⟩)
            · exact Or.inl h
            · exact Or.inr ⟨i, by omega, h⟩
            · exact Or.inr ⟨κ, by omega, b, b1, b2, by rw [or_split hl1, b3]⟩
          · rintro (h | ⟨i, i1, b, b1, b2, b3⟩)
            · exact Or.inl (Or.inl h)
            · by_cases e : i = κ
              · subst e
                rw [or_split hl1] at b3
                exact Or.inr ⟨b, b1, b2, by omega⟩
              · exact Or.inl (Or.inr ⟨i, by omega, b, b1, b2, b3⟩)
        · constructor
          · rintro (h | ⟨i, i1, h⟩)
            · exact Or.inl h
            · exact Or.inr ⟨i, by omega, h⟩
          · rintro (h | ⟨i, i1, b, b1, b2, b3⟩)
            · exact Or.inl h
            · by_cases e : i = κ
              · subst e
                rw [or_split hl1] at b3
                omega
              · exact Or.inr ⟨i, by omega, b, b1, b2, b3⟩
    unfold B_Unions_join_9
    dsimp only
    simp only [ck, e40, e10]
    refine wp_neg (by rw [od.n]; exact nI_ge hκ (by omega)) (wp_neg (nI_in' (by omega) (by omega)) ?_)
    by_cases c : ov κ / 1024 = rb
    · refine wp_pos (by rw [c]) ((rest y rb c.symm y1 y2).mono (fun z hz => by cases z <;> first | exact hz | exact hz.elim))
    · refine wp_neg (fun q => c ((nI_eq (by omega) (by omega)).mp q)) ?_
      refine (c_raise hN hu (by omega)).bnd (fun z hz => ?_)
      obtain ⟨z1, y', z2, z3, z4⟩ := hz
      rw [z1, z2]
      exact (rest y' _ rfl z3 z4).mono (fun z hz => by cases z <;> first | exact hz | exact hz.elim)
  · rintro ⟨v, r, q, g, gl⟩ ⟨rfl, hg, g1, g2, _⟩
    dsimp only at hg g1 g2
    subst hg
    unfold B_Unions_join_9
    dsimp only
    refine wp_pos (by rw [od.n]; exact nI_le (Nat.le_refl _) (by omega)) ?_
    rw [wp_some]
    exact ⟨rfl, g1, g2⟩
theorem c_adv1 {N : Nat} (hN : 70000 ≤ N) {A : St} (hw : WF A) {hi : HI} {hl : HL} {C W : Nat} {ov : Nat → Nat} (od : Or2 A hi C ov) {F : Nat → Prop} (hW : W ≤ 1024) (h4 : hi 38 4 = nI W) (rF : Row hl 1024 F) (rN : Row hl 2048 (fun _ => False)) (hF : ∀ q, F q → q < 65536 ∧ q % 1024 < W) : wp (lpN (fun s => B_Unions_advance_2 N s.1 s.2.1 s.2.2) N (0, hi, hl)) (fun o => o.1 = hi ∧ (∀ a, a < 2048 → o.2 41 a = hl 41 a) ∧ Row o.2 2048 (fun q => ∃ f, F f ∧ ∃ i, i < C ∧ q = f ||| ov i)) := by
  refine wp_for W (fun w s => s.1 = nI w ∧ s.2.1 = hi ∧ (∀ a, a < 2048 → s.2.2 41 a = hl 41 a) ∧ Row s.2.2 2048 (fun q => ∃ f, F f ∧ f % 1024 < w ∧ ∃ i, i < C ∧ q = f ||| ov i)) ?_ ?_ (i := 0) (Nat.zero_le _) ⟨rfl, rfl, fun _ _ => rfl, rN.cong (fun q _ => ⟨False.elim, fun ⟨f, _, h, _⟩ => by omega⟩)⟩ (by omega)
  · rintro w ⟨q, g, gl⟩ hw1 ⟨rfl, hg, g1, g2⟩
    dsimp only at hg g1 g2
    subst hg
    have e24 : (1024 : Int32) + nI w = nI (1024 + w) := nI_add 1024 w
    have cw : (nI (1024 + w)).toNatClampNeg = 1024 + w := nI_clamp (by omega)
    obtain ⟨fw, fw1⟩ := id rF
    obtain ⟨a1, a2, a3⟩ := fw1 w (by omega)
    have gw : gl 41 (1024 + w) = lN (fw w) := by rw [g1 _ (by omega)]; exact a2
    unfold B_Unions_advance_2 J_Unions_advance_40
    dsimp only
    simp only [e24, cw, gw]
    refine wp_neg (by rw [h4]; exact nI_ge hw1 (by omega)) (wp_pos od.f (wp_neg (nI_in' (by omega) (by omega)) ?_))
    by_cases z : fw w = 0
    · refine wp_pos ((lg_eq _ _).mpr (by rw [z]; rfl)) ?_
      rw [wp_some]
      refine ⟨nI_1 w, rfl, g1, g2.cong (fun q hq => ⟨fun ⟨f, f1, f2, f3⟩ => ⟨f, f1, by omega, f3⟩, fun ⟨f, f1, f2, f3⟩ => ⟨f, f1, ?_, f3⟩⟩)⟩
      by_cases e : f % 1024 = w
      · have f6 := (hF f f1).1
        have := (a3 (f / 1024) (by omega)).mpr (by rw [show 1024 * (f / 1024) + w = f by omega]; exact f1)
        rw [z, Nat.zero_testBit] at this; cases this
      · omega
    · refine wp_neg (fun q => z ((lN_0 a1).mp ((lg_eq _ _).mp q))) (wp_pos od.f (wp_neg (nI_in' (by omega) (by omega)) ?_))
      refine (c_join hN hw od (by omega) a1 g2).bnd (fun y hy => ?_)
      obtain ⟨y1, y2, y3⟩ := hy
      rw [wp_some]
      refine ⟨nI_1 w, y1, fun a ha => by dsimp only; rw [y2 a ha]; exact g1 a ha, y3.cong (fun q hq => ⟨?_, ?_⟩)⟩
      · rintro (⟨f, f1, f2, f3⟩ | ⟨i, i1, b, b1, b2, b3⟩)
        · exact ⟨f, f1, by omega, f3⟩
        · exact ⟨1024 * b + w, (a3 b b1).mp b2, by omega, i, i1, b3⟩
      · rintro ⟨f, f1, f2, i, i1, f3⟩
        by_cases e : f % 1024 = w
        · have f6 := (hF f f1).1
          refine Or.inr ⟨i, i1, f / 1024, by omega, (a3 (f / 1024) (by omega)).mpr ?_, ?_⟩
          · rw [show 1024 * (f / 1024) + w = f by omega]; exact f1
          · rw [show 1024 * (f / 1024) + w = f by omega]; exact f3
        · exact Or.inl ⟨f, f1, by omega, i, i1, f3⟩
  · rintro ⟨q, g, gl⟩ ⟨rfl, hg, g1, g2⟩
    dsimp only at hg g1 g2
    subst hg
    unfold B_Unions_advance_2
    dsimp only
    refine wp_pos (by rw [h4]; exact nI_le (Nat.le_refl _) (by omega)) ?_
    rw [wp_some]
    exact ⟨rfl, g1, g2.cong (fun q hq => ⟨fun ⟨f, f1, f2, f3⟩ => ⟨f, f1, f3⟩, fun ⟨f, f1, f3⟩ => ⟨f, f1, (hF f f1).2, f3⟩⟩)⟩
/-- of the pictures with p, those in column j -/
noncomputable def col (p : Nat → Prop) (j : Nat) : Nat := fb_ct (fun b => cD (p (1024 * b + j))) 64
theorem c_adv2 {N : Nat} (hN : 70000 ≤ N) {hi : HI} {hl : HL} {W : Nat} {M F X : Nat → Prop} (hW : W ≤ 1024) (h4 : hi 38 4 = nI W) (h5 : hi 38 5 = 42) (rM : Row hl 0 M) (rF : Row hl 1024 F) (rX : Row hl 2048 X) (hF : ∀ q, F q → q % 1024 < W) (hX : ∀ q, X q → q % 1024 < W) : wp (lpN (fun s => B_Unions_advance_50 N s.1 s.2.1 s.2.2.1 s.2.2.2) N (0, 0, hi, hl)) (fun o => o.1 = nI (fb_sm (col (fun q => X q ∧ ¬ M q)) W) ∧ o.2.1 = hi ∧ Row o.2.2 0 (fun q => M q ∨ X q) ∧ Row o.2.2 1024 (fun q => X q ∧ ¬ M q) ∧ Row o.2.2 2048 (fun _ => False)) := by
  refine wp_for W (fun w s => s.1 = nI (fb_sm (col (fun q => X q ∧ ¬ M q)) w) ∧ s.2.1 = nI w ∧ s.2.2.1 = hi ∧ Row s.2.2.2 0 (fun q => M q ∨ (q % 1024 < w ∧ X q)) ∧ Row s.2.2.2 1024 (fun q => (q % 1024 < w ∧ X q ∧ ¬ M q) ∨ (w ≤ q % 1024 ∧ F q)) ∧ Row s.2.2.2 2048 (fun q => w ≤ q % 1024 ∧ X q)) ?_ ?_ (i := 0) (Nat.zero_le _) ⟨rfl, rfl, rfl, rM.cong (fun q _ => ⟨Or.inl, fun h => by rcases h with h | h; exact h; omega⟩), rF.cong (fun q _ => ⟨fun h => Or.inr ⟨Nat.zero_le _, h⟩, fun h => by rcases h with h | h; omega; exact h.2⟩), rX.cong (fun q _ => ⟨fun h => ⟨Nat.zero_le _, h⟩, fun h => h.2⟩)⟩ (by omega)
  · rintro w ⟨v, q, g, gl⟩ hw1 ⟨rfl, rfl, hg, gM, gF, gX⟩
    dsimp only at hg gM gF gX
    subst hg
    have w1024 : w < 1024 := by omega
    have e20 : (2048 : Int32) + nI w = nI (2048 + w) := nI_add 2048 w
    have e10 : (1024 : Int32) + nI w = nI (1024 + w) := nI_add 1024 w
    have e00 : (0 : Int32) + nI w = nI (0 + w) := nI_add 0 w
    have c2 : (nI (2048 + w)).toNatClampNeg = 2048 + w := nI_clamp (by omega)
    have c1 : (nI (1024 + w)).toNatClampNeg = 1024 + w := nI_clamp (by omega)
    have c0 : (nI (0 + w)).toNatClampNeg = 0 + w := nI_clamp (by omega)
    obtain ⟨xm, xm1⟩ := id gM
    obtain ⟨xx, xx1⟩ := id gX
    obtain ⟨m1, m2, m3⟩ := xm1 w w1024
    obtain ⟨x1, x2, x3⟩ := xx1 w w1024
    have mb : ∀ b, b < 64 → ((xm w).testBit b = true ↔ M (1024 * b + w)) := fun b hb => by
      rw [m3 b hb]
      exact ⟨fun h => by rcases h with h | h; exact h; omega, Or.inl⟩
    have xb : ∀ b, b < 64 → ((xx w).testBit b = true ↔ X (1024 * b + w)) := fun b hb => by
      rw [x3 b hb]
      exact ⟨fun h => h.2, fun h => ⟨by omega, h⟩⟩
    have fl : sdf (xx w) (xm w) < 2 ^ 64 := sdf_lt x1
    have fb : ∀ b, b < 64 → ((sdf (xx w) (xm w)).testBit b = true ↔ X (1024 * b + w) ∧ ¬ M (1024 * b + w)) := fun b hb => by
      rw [sdf_bit, Bool.and_eq_true, xb b hb, ← mb b hb]; simp
    unfold B_Unions_advance_50
    dsimp only
    simp only [e20, e10, e00, c2, c1, c0, m2, x2, lN_andnot]
    refine wp_neg (by rw [h4]; exact nI_ge hw1 (by omega)) (wp_pos h5 (wp_neg (nI_in' (by omega) (by omega)) (wp_pos h5 (wp_neg (nI_in' (by omega) (by omega)) (wp_pos h5 (wp_neg (nI_in' (by omega) (by omega)) (wp_neg (nI_in' (by omega) (by omega)) (wp_pos h5 (wp_neg (nI_in' (by omega) (by omega)) (wp_pos h5 (wp_neg (nI_in' (by omega) (by omega)) ?_)))))))))))
    rw [e_bitCountL fl, Option.bind_some, wp_some, fb_orL, nI_add]
    refine ⟨?_, nI_1 w, rfl, ?_, ?_, ?_⟩
    · dsimp only
      rw [fb_sm_succ]
      congr 2
      unfold PC col
      refine fb_ct_cong (fun b hb => ?_)
      have := fb b hb
      cases e : (sdf (xx w) (xm w)).testBit b with
      | true => exact (cD_t.mpr (this.mp e)).symm
      | false =>
        rw [e] at this
        exact (cD_f.mpr (fun q => absurd (this.mpr q) (by decide))).symm
    · dsimp only
      refine Row.oth (Row.oth (gM.wr w1024 (Nat.or_lt_two_pow m1 fl) (fun b hb => ?_) (fun b k hb hk hne => ?_)) (by omega)) (by omega)
      · rw [Nat.testBit_or, Bool.or_eq_true, mb b hb, fb b hb]
        constructor
        · rintro (h | h)
          · exact Or.inl h
          · exact Or.inr ⟨by omega, h.1⟩
        · rintro (h | h)
          · exact Or.inl h
          · by_cases c : M (1024 * b + w)
            · exact Or.inl c
            · exact Or.inr ⟨h.2, c⟩
      · constructor
        · rintro (h | h)
          · exact Or.inl h
          · exact Or.inr ⟨by omega, h.2⟩
        · rintro (h | h)
          · exact Or.inl h
          · exact Or.inr ⟨by omega, h.2⟩
    · dsimp only
      refine Row.oth (Row.wr (Row.oth gF (by omega)) w1024 fl (fun b hb => ?_) (fun b k hb hk hne => ?_)) (by omega)
      · rw [fb b hb]
        constructor
        · intro h; exact Or.inl ⟨by omega, h⟩
        · rintro (h | h)
          · exact h.2
          · omega
      · constructor
        · rintro (h | h)
          · exact Or.inl ⟨by omega, h.2⟩
          · exact Or.inr ⟨by omega, h.2⟩
        · rintro (h | h)
          · exact Or.inl ⟨by omega, h.2⟩
          · exact Or.inr ⟨by omega, h.2⟩
    · dsimp only
      refine Row.wr (v := 0) (Row.oth (Row.oth gX (by omega)) (by omega)) w1024 (Nat.two_pow_pos 64) (fun b hb => ?_) (fun b k hb hk hne => ?_)
      · rw [Nat.zero_testBit]
        exact ⟨(fun h => by cases h), (fun h => by omega)⟩
      · constructor
        · rintro h; exact ⟨by omega, h.2⟩
        · rintro h; exact ⟨by omega, h.2⟩
  · rintro ⟨v, q, g, gl⟩ ⟨rfl, rfl, hg, gM, gF, gX⟩
    dsimp only at hg gM gF gX
    subst hg
    unfold B_Unions_advance_50
    dsimp only
    refine wp_pos (by rw [h4]; exact nI_le (Nat.le_refl _) (by omega)) ?_
    rw [wp_some]
    refine ⟨rfl, rfl, gM.cong (fun q _ => ⟨fun h => by rcases h with h | h; exact Or.inl h; exact Or.inr h.2, fun h => by rcases h with h | h; exact Or.inl h; exact Or.inr ⟨hX q h, h⟩⟩), gF.cong (fun q _ => ⟨fun h => ?_, fun h => Or.inl ⟨hX q h.1, h⟩⟩), gX.cong (fun q _ => ⟨fun h => ?_, False.elim⟩)⟩
    · rcases h with h | h
      · exact h.2
      · have := hF q h.2; omega
    · have := hX q h.2; omega
