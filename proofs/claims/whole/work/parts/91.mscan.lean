/-! the reference's scanner -/
abbrev MT (A : St) (h : HI) : Prop :=
  (h 65 31 = nI A.taped) ∧
  (∀ i, i < A.taped → h 88 i = nI (A.tape i))
theorem MT.n {A : St} {h : HI} (h_ : MT A h) : h 65 31 = nI A.taped := h_.1
theorem MT.y {A : St} {h : HI} (h_ : MT A h) : ∀ i, i < A.taped → h 88 i = nI (A.tape i) := h_.2
abbrev MF (h h1 : HI) : Prop :=
  (Sam [65] h h1) ∧
  (∀ j, j < 32 ∨ 37 < j → h1 65 j = h 65 j)
theorem MF.s {h h1 : HI} (h_ : MF h h1) : Sam [65] h h1 := h_.1
theorem MF.k {h h1 : HI} (h_ : MF h h1) : ∀ j, j < 32 ∨ 37 < j → h1 65 j = h 65 j := h_.2
theorem MF.refl (h : HI) : MF h h := ⟨Sam.refl _ _, fun _ _ => rfl⟩
theorem MF.trans {h h1 h2 : HI} (x : MF h h1) (y : MF h1 h2) : MF h h2 := ⟨x.s.trans y.s _ (fun _ q => q) (fun _ q => q), fun j a => (y.k j a).trans (x.k j a)⟩
theorem MF.wr {h h1 : HI} (x : MF h h1) {j : Nat} (a1 : 32 ≤ j) (a2 : j ≤ 37) (v : Int32) : MF h (wr h1 65 j v) := ⟨x.s.wr (by decide), fun i a => by rw [wr_k (by omega)]; exact x.k i a⟩
theorem MT.of {A : St} {h h1 : HI} (mt : MT A h) (x : MF h h1) : MT A h1 := ⟨(x.k 31 (by omega)).trans mt.n, fun i hi => by rw [x.s 88 (by decide)]; exact mt.y i hi⟩
abbrev MFS (e : Nat × Nat) (g : HI) : Prop :=
  (g 65 36 = nI e.1) ∧
  (g 65 37 = nI e.2) ∧
  (1 ≤ e.1) ∧
  (e.1 ≤ 5)
theorem MFS.k {e : Nat × Nat} {g : HI} (h_ : MFS e g) : g 65 36 = nI e.1 := h_.1
theorem MFS.p {e : Nat × Nat} {g : HI} (h_ : MFS e g) : g 65 37 = nI e.2 := h_.2.1
theorem MFS.a {e : Nat × Nat} {g : HI} (h_ : MFS e g) : 1 ≤ e.1 := h_.2.2.1
theorem MFS.b {e : Nat × Nat} {g : HI} (h_ : MFS e g) : e.1 ≤ 5 := h_.2.2.2
def mkd (k : Nat) : Nat := if k = 0 then 0 else if k = 1 then 2 else if k = 2 then 3 else 1
abbrev MTk (tk : Tokn) (g : HI) : Prop :=
  (g 65 36 = 0) ∧
  (g 65 33 = nI tk.2.1) ∧
  (g 65 34 = nI (mkd tk.1)) ∧
  (tk.1 ≠ 0 → g 65 32 = nI tk.2.2.1) ∧
  (tk.1 = 1 → g 65 35 = nI tk.2.2.2) ∧
  (3 ≤ tk.1 → g 65 35 = nI (tk.1 - 2))
theorem MTk.z {tk : Tokn} {g : HI} (h_ : MTk tk g) : g 65 36 = 0 := h_.1
theorem MTk.p {tk : Tokn} {g : HI} (h_ : MTk tk g) : g 65 33 = nI tk.2.1 := h_.2.1
theorem MTk.k {tk : Tokn} {g : HI} (h_ : MTk tk g) : g 65 34 = nI (mkd tk.1) := h_.2.2.1
theorem MTk.e {tk : Tokn} {g : HI} (h_ : MTk tk g) : tk.1 ≠ 0 → g 65 32 = nI tk.2.2.1 := h_.2.2.2.1
theorem MTk.v {tk : Tokn} {g : HI} (h_ : MTk tk g) : tk.1 = 1 → g 65 35 = nI tk.2.2.2 := h_.2.2.2.2.1
theorem MTk.c {tk : Tokn} {g : HI} (h_ : MTk tk g) : 3 ≤ tk.1 → g 65 35 = nI (tk.1 - 2) := h_.2.2.2.2.2
def MNx (tk : Tokn) (g : HI) : Prop := (tk.1 = 7 ∧ MFS (1, tk.2.1) g) ∨ (tk.1 ≠ 7 ∧ MTk tk g)
noncomputable def lkV (A : St) (b : Nat) : Int32 := if b < A.taped then nI (A.tape b) else -1
theorem m_look {N : Nat} {A : St} (hw : WF A) {h : HI} {hl : HL} (mt : MT A h) {b : Nat} {x : Int32} (hx : x = nI b) (hb : b < 2 ^ 31) : f_MD_look N x h hl = some (lkV A b, h, hl) := by
  subst hx
  unfold f_MD_look lkV
  have t2 := hw.t200
  by_cases c : b < A.taped
  · rw [if_neg (by rw [mt.n]; exact nI_ge c (by omega)), if_neg (nI_in (by omega) (by omega)), nI_clamp (by omega), mt.y b c, if_pos c]
  · rw [if_pos (by rw [mt.n]; exact nI_le (by omega) (by omega)), if_neg c]
theorem lkV_eq {A : St} (hw : WF A) {b c : Nat} (hc : c < 2 ^ 31) : (lkV A b = nI c) ↔ (b < A.taped ∧ A.tape b = c) := by
  unfold lkV
  by_cases d : b < A.taped
  · have := hw.tb b d
    rw [if_pos d, nI_eq (by omega) hc]
    exact ⟨fun q => ⟨d, q⟩, fun q => q.2⟩
  · rw [if_neg d]
    constructor
    · intro q
      have := congrArg Int32.toInt q
      rw [nI_toInt hc] at this
      have e : (-1 : Int32).toInt = -1 := by decide
      omega
    · intro q; exact absurd q.1 d
theorem lkV_rg {A : St} (hw : WF A) {b lo hi : Nat} (hlo : lo < 2 ^ 31) : rg (lkV A b) lo (hi + 1) = cD (¬ stpR A lo hi b) := by
  unfold lkV
  by_cases d : b < A.taped
  · have := hw.tb b d
    rw [if_pos d, rg_nI (by omega)]
    by_cases c : stpR A lo hi b
    · rw [cD_f.mpr (fun q => q c)]
      unfold stpR at c
      exact decide_eq_false (by omega)
    · rw [cD_t.mpr c]
      unfold stpR at c
      exact decide_eq_true (by omega)
  · rw [if_neg d, cD_f.mpr (fun q => q (Or.inl (by omega)))]
    unfold rg
    have e : (-1 : Int32).toInt = -1 := by decide
    exact decide_eq_false (by omega)
theorem m_az {N : Nat} {A : St} (hw : WF A) {h : HI} {hl : HL} {b : Nat} : f_MD_in N (lkV A b).toInt64 97 122 h hl = some (b2i (cD (¬ stpR A 97 122 b)), h, hl) := by
  rw [e_in32 N _ 97 122 h hl (x := 97) (y := 123) (by decide) (by decide), lkV_rg hw (hi := 122) (by omega)]
theorem m_09 {N : Nat} {A : St} (hw : WF A) {h : HI} {hl : HL} {b : Nat} : f_MD_in N (lkV A b).toInt64 48 57 h hl = some (b2i (cD (¬ stpR A 48 57 b)), h, hl) := by
  rw [e_in32 N _ 48 57 h hl (x := 48) (y := 58) (by decide) (by decide), lkV_rg hw (hi := 57) (by omega)]
theorem m_wants1 (N : Nat) (c : Int32) (h : HI) (hl : HL) : f_MD_wants N 1 c h hl = some ((), h, hl) := by
  unfold f_MD_wants
  rw [if_neg (by decide)]
theorem m_wants0 (N : Nat) (c : Int32) {h : HI} (hl : HL) (h0 : h 65 36 = 0) : f_MD_wants N 0 c h hl = some ((), wr (wr h 65 36 c) 65 37 (h 65 33), hl) := by
  unfold f_MD_wants
  rw [if_pos rfl, if_pos h0, wr_k (by omega)]
theorem MFS.nz {e : Nat × Nat} {g : HI} (f : MFS e g) : ¬ g 65 36 = 0 := by
  rw [f.k]
  exact nI_ne0 f.a (by have := f.b; omega)
theorem MFS.nl {e : Nat × Nat} {g : HI} (f : MFS e g) : ¬ g 65 36 ≤ 0 := by
  rw [f.k]
  exact nI_nle f.a (by have := f.b; omega)
theorem m_wantsf (N : Nat) (s c : Int32) {e : Nat × Nat} {h : HI} (hl : HL) (f : MFS e h) : f_MD_wants N s c h hl = some ((), h, hl) := by
  unfold f_MD_wants
  split
  · rw [if_neg f.nz]
  · rfl
theorem m_nextf (N : Nat) {e : Nat × Nat} {h : HI} (hl : HL) (f : MFS e h) : f_MD_next N h hl = some ((), h, hl) := by
  unfold f_MD_next
  rw [if_neg f.nl]
theorem m_fault {g : HI} {c p : Nat} (hp : g 65 33 = nI p) (c1 : 1 ≤ c) (c5 : c ≤ 5) : MF g (wr (wr g 65 36 (nI c)) 65 37 (g 65 33)) ∧ MFS (c, p) (wr (wr g 65 36 (nI c)) 65 37 (g 65 33)) := by
  refine ⟨((MF.refl g).wr (by omega) (by omega) _).wr (by omega) (by omega) _, ?_, ?_, c1, c5⟩
  · dsimp only; rw [wr_k (by omega), wr_s]
  · dsimp only; rw [wr_s]; exact hp
theorem m_skip {N : Nat} (hN : 70000 ≤ N) {A : St} (hw : WF A) {h : HI} {hl : HL} (mt : MT A h) (h0 : h 65 36 = 0) {b : Nat} (h32 : h 65 32 = nI b) (hb : b ≤ A.taped) : wp (lpN (fun s => B_MD_next_8 N s.1 s.2) N (h, hl)) (fun x => MF h x.1 ∧ x.1 65 36 = 0 ∧ x.1 65 32 = nI (rnE A 32 32 b)) := by
  have t2 := hw.t200
  refine wp_lp (fun k s => ∃ e, MF h s.1 ∧ s.1 65 36 = 0 ∧ s.1 65 32 = nI e ∧ b ≤ e ∧ e ≤ A.taped ∧ k = A.taped - e ∧ ∀ i, b ≤ i → i < e → ¬ stpR A 32 32 i) ?_ (A.taped - b) _ N ⟨b, MF.refl h, h0, h32, Nat.le_refl _, hb, rfl, fun i _ _ => by omega⟩ (by omega)
  rintro k ⟨g, gl⟩ ⟨e, f1, f2, f3, e1, e2, rfl, e4⟩
  dsimp only at f1 f2 f3
  unfold B_MD_next_8
  dsimp only
  rw [m_look hw (mt.of f1) f3 (by omega), Option.bind_some]
  dsimp only
  by_cases c : e < A.taped ∧ A.tape e = 32
  · refine wp_pos ((lkV_eq (c := 32) hw (by omega)).mpr c) ?_
    rw [wp_some]
    refine ⟨A.taped - (e + 1), by omega, e + 1, f1.wr (by omega) (by omega) _, by dsimp only; rw [wr_k (by omega)]; exact f2, by dsimp only; rw [wr_s, f3, nI_1], by omega, by omega, rfl, fun i i1 i2 => ?_⟩
    by_cases q : i = e
    · subst q
      unfold stpR
      omega
    · exact e4 i i1 (by omega)
  · refine wp_neg (fun q => c ((lkV_eq (c := 32) hw (by omega)).mp q)) ?_
    rw [wp_some]
    refine ⟨f1, f2, ?_⟩
    dsimp only
    rw [rnE_eq e1 (by unfold stpR; omega) e4]
    exact f3
theorem m_word {N : Nat} (hN : 70000 ≤ N) {A : St} (hw : WF A) {h : HI} {hl : HL} (mt : MT A h) (h0 : h 65 36 = 0) {p : Nat} (h32 : h 65 32 = nI p) (h33 : h 65 33 = nI p) (h34 : h 65 34 = nI 1) (hp : p ≤ A.taped) : wp (lpN (fun s => B_MD_next_82 N s.1 s.2) N (h, hl)) (fun x => MF h x.1 ∧ x.1 65 36 = 0 ∧ x.1 65 33 = nI p ∧ x.1 65 34 = nI 1 ∧ x.1 65 32 = nI (rnE A 97 122 p)) := by
  have t2 := hw.t200
  refine wp_lp (fun k s => ∃ e, MF h s.1 ∧ s.1 65 36 = 0 ∧ s.1 65 33 = nI p ∧ s.1 65 34 = nI 1 ∧ s.1 65 32 = nI e ∧ p ≤ e ∧ e ≤ A.taped ∧ k = A.taped - e ∧ ∀ i, p ≤ i → i < e → ¬ stpR A 97 122 i) ?_ (A.taped - p) _ N ⟨p, MF.refl h, h0, h33, h34, h32, Nat.le_refl _, hp, rfl, fun i _ _ => by omega⟩ (by omega)
  rintro k ⟨g, gl⟩ ⟨e, f1, f2, f4, f5, f3, e1, e2, rfl, e4⟩
  dsimp only at f1 f2 f3 f4 f5
  unfold B_MD_next_82
  dsimp only
  rw [m_look hw (mt.of f1) f3 (by omega), Option.bind_some]
  dsimp only
  rw [m_az hw, Option.bind_some]
  dsimp only
  by_cases c : stpR A 97 122 e
  · rw [cD_f.mpr (fun q => q c)]
    refine wp_pos rfl ?_
    rw [wp_some]
    refine ⟨f1, f2, f4, f5, ?_⟩
    dsimp only
    rw [rnE_eq e1 c e4]
    exact f3
  · rw [cD_t.mpr c]
    refine wp_neg (by decide) ?_
    rw [wp_some]
    have : e < A.taped := by unfold stpR at c; omega
    refine ⟨A.taped - (e + 1), by omega, e + 1, f1.wr (by omega) (by omega) _, by dsimp only; rw [wr_k (by omega)]; exact f2, by dsimp only; rw [wr_k (by omega)]; exact f4, by dsimp only; rw [wr_k (by omega)]; exact f5, by dsimp only; rw [wr_s, f3, nI_1], by omega, by omega, rfl, fun i i1 i2 => ?_⟩
    by_cases q : i = e
    · subst q; exact c
    · exact e4 i i1 (by omega)
theorem m_digs {N : Nat} (hN : 70000 ≤ N) {A : St} (hw : WF A) {h : HI} {hl : HL} (mt : MT A h) (h0 : h 65 36 = 0) {p : Nat} (h32 : h 65 32 = nI p) (h33 : h 65 33 = nI p) (h34 : h 65 34 = nI 2) (h35 : h 65 35 = 0) (hp : p ≤ A.taped) : wp (lpN (fun s => B_MD_next_246 N s.1 s.2) N (h, hl)) (fun x => MF h x.1 ∧ x.1 65 36 = 0 ∧ x.1 65 33 = nI p ∧ x.1 65 34 = nI 2 ∧ x.1 65 32 = nI (rnE A 48 57 p) ∧ (rnE A 48 57 p ≤ p + 2 → x.1 65 35 = nI (numV A p (rnE A 48 57 p - p)))) := by
  have t2 := hw.t200
  refine wp_lp (fun k s => ∃ e, MF h s.1 ∧ s.1 65 36 = 0 ∧ s.1 65 33 = nI p ∧ s.1 65 34 = nI 2 ∧ s.1 65 32 = nI e ∧ p ≤ e ∧ e ≤ A.taped ∧ k = A.taped - e ∧ (∀ i, p ≤ i → i < e → ¬ stpR A 48 57 i) ∧ (e ≤ p + 2 → s.1 65 35 = nI (numV A p (e - p)))) ?_ (A.taped - p) _ N ⟨p, MF.refl h, h0, h33, h34, h32, Nat.le_refl _, hp, rfl, (fun i _ _ => by omega), fun _ => by dsimp only; rw [h35, Nat.sub_self]; rfl⟩ (by omega)
  rintro k ⟨g, gl⟩ ⟨e, f1, f2, f4, f5, f3, e1, e2, rfl, e4, e5⟩
  dsimp only at f1 f2 f3 f4 f5 e5
  unfold B_MD_next_246
  dsimp only
  have lk := m_look (N := N) (hl := gl) hw (mt.of f1) f3 (by omega)
  rw [lk, Option.bind_some]
  dsimp only
  rw [m_09 hw, Option.bind_some]
  dsimp only
  by_cases c : stpR A 48 57 e
  · rw [cD_f.mpr (fun q => q c)]
    refine wp_pos rfl ?_
    rw [wp_some]
    dsimp only
    rw [rnE_eq e1 c e4]
    exact ⟨f1, f2, f4, f5, f3, e5⟩
  · rw [cD_t.mpr c]
    refine wp_neg (by decide) ?_
    have ce : e < A.taped ∧ 48 ≤ A.tape e ∧ A.tape e ≤ 57 := by unfold stpR at c; omega
    have sb : g 65 32 - g 65 33 = nI (e - p) := by rw [f3, f4]; exact pk_sub e1
    have nx : ∀ i, p ≤ i → i < e + 1 → ¬ stpR A 48 57 i := fun i i1 i2 => by
      by_cases q : i = e
      · subst q; exact c
      · exact e4 i i1 (by omega)
    unfold J_MD_next_307
    by_cases d : 2 ≤ e - p
    · refine wp_pos (by rw [sb]; exact nI_le (a := 2) d (by omega)) ?_
      rw [wp_some]
      refine ⟨A.taped - (e + 1), by omega, e + 1, (f1.wr (by omega) (by omega) _).wr (by omega) (by omega) _, by dsimp only; rw [wr_k (by omega), wr_k (by omega)]; exact f2, by dsimp only; rw [wr_k (by omega), wr_k (by omega)]; exact f4, by dsimp only; rw [wr_k (by omega), wr_k (by omega)]; exact f5, by dsimp only; rw [wr_s, wr_k (by omega), f3, nI_1], by omega, by omega, rfl, nx, fun q => by omega⟩
    · refine wp_neg (by rw [sb]; exact nI_ge (b := 2) (by omega) (by omega)) ?_
      rw [lk, Option.bind_some, wp_some]
      refine ⟨A.taped - (e + 1), by omega, e + 1, (f1.wr (by omega) (by omega) _).wr (by omega) (by omega) _, by dsimp only; rw [wr_k (by omega), wr_k (by omega)]; exact f2, by dsimp only; rw [wr_k (by omega), wr_k (by omega)]; exact f4, by dsimp only; rw [wr_k (by omega), wr_k (by omega)]; exact f5, by dsimp only; rw [wr_s, wr_k (by omega), f3, nI_1], by omega, by omega, rfl, nx, fun q => ?_⟩
      dsimp only
      rw [wr_k (by omega), wr_s, e5 (by omega), show e + 1 - p = (e - p) + 1 by omega]
      unfold lkV
      rw [if_pos ce.1]
      show nI 10 * nI (numV A p (e - p)) + nI (A.tape e) - nI 48 = nI (numV A p (e - p) * 10 + (A.tape (p + (e - p)) - 48))
      rw [pk_mul, nI_add, pk_sub (by omega), show p + (e - p) = e by omega]
      congr 1
      omega
theorem m_is4 {N : Nat} {A : St} (hw : WF A) {h : HI} {hl : HL} (mt : MT A h) {p e : Nat} (h32 : h 65 32 = nI e) (h33 : h 65 33 = nI p) (h1 : p ≤ e) (h2 : e ≤ A.taped) {a b c d : Nat} (la : a < 128) (lb : b < 128) (lc : c < 128) (ld : d < 128) : f_MD_is N 4 (nI a) (nI b) (nI c) (nI d) h hl = some (b2i (cD (Wrd A p e [a, b, c, d])), h, hl) := by
  unfold f_MD_is
  have t2 := hw.t200
  have sb : h 65 32 - h 65 33 = nI (e - p) := by rw [h32, h33]; exact pk_sub h1
  have wd : Wrd A p e [a, b, c, d] ↔ (e - p = 4 ∧ A.tape p = a ∧ A.tape (p + 1) = b ∧ A.tape (p + 2) = c ∧ A.tape (p + 3) = d) := by
    constructor
    · intro q
      have q0 : e = p + 4 := q.1
      exact ⟨by omega, q.2 0 (Nat.lt_of_succ_le (by show _ ≤ 4; omega)), q.2 1 (Nat.lt_of_succ_le (by show _ ≤ 4; omega)), q.2 2 (Nat.lt_of_succ_le (by show _ ≤ 4; omega)), q.2 3 (Nat.lt_of_succ_le (by show _ ≤ 4; omega))⟩
    · rintro ⟨q0, q1, q2, q3, q4⟩
      refine ⟨by show e = p + 4; omega, fun i hi => ?_⟩
      have hi : i < 4 := hi
      have : i = 0 ∨ i = 1 ∨ i = 2 ∨ i = 3 := by omega
      rcases this with rfl | rfl | rfl | rfl
      · exact q1
      · exact q2
      · exact q3
      · exact q4
  by_cases c0 : e - p = 4
  case neg => rw [if_neg (by rw [sb]; exact fun q => c0 ((nI_eq (b := 4) (by omega) (by omega)).mp q)), cD_f.mpr (fun q => c0 (wd.mp q).1)]; rfl
  rw [if_pos (by rw [sb, c0]; rfl), m_look hw mt h33 (by omega), Option.bind_some]
  dsimp only
  have e1 : h 65 33 + 1 = nI (p + 1) := by rw [h33]; exact nI_1 p
  have e2 : h 65 33 + 2 = nI (p + 2) := by rw [h33]; exact nI_add p 2
  have e3 : h 65 33 + 3 = nI (p + 3) := by rw [h33]; exact nI_add p 3
  by_cases c1 : A.tape p = a
  case neg => rw [if_neg (fun q => c1 ((lkV_eq hw (by omega)).mp q).2), cD_f.mpr (fun q => c1 (wd.mp q).2.1)]; rfl
  rw [if_pos ((lkV_eq hw (by omega)).mpr ⟨by omega, c1⟩), m_look hw mt e1 (by omega), Option.bind_some]
  dsimp only
  by_cases c2 : A.tape (p + 1) = b
  case neg => rw [if_neg (fun q => c2 ((lkV_eq hw (by omega)).mp q).2), cD_f.mpr (fun q => c2 (wd.mp q).2.2.1)]; rfl
  rw [if_pos ((lkV_eq hw (by omega)).mpr ⟨by omega, c2⟩), m_look hw mt e2 (by omega), Option.bind_some]
  dsimp only
  by_cases c3 : A.tape (p + 2) = c
  case neg => rw [if_neg (fun q => c3 ((lkV_eq hw (by omega)).mp q).2), cD_f.mpr (fun q => c3 (wd.mp q).2.2.2.1)]; rfl
  rw [if_pos ((lkV_eq hw (by omega)).mpr ⟨by omega, c3⟩), if_neg (by decide), m_look hw mt e3 (by omega), Option.bind_some]
  dsimp only
  by_cases c4 : A.tape (p + 3) = d
  case neg => rw [if_neg (fun q => c4 ((lkV_eq hw (by omega)).mp q).2), cD_f.mpr (fun q => c4 (wd.mp q).2.2.2.2)]; rfl
  rw [if_pos ((lkV_eq hw (by omega)).mpr ⟨by omega, c4⟩), cD_t.mpr (wd.mpr ⟨c0, c1, c2, c3, c4⟩)]
  rfl
theorem m_is3 {N : Nat} {A : St} (hw : WF A) {h : HI} {hl : HL} (mt : MT A h) {p e : Nat} (h32 : h 65 32 = nI e) (h33 : h 65 33 = nI p) (h1 : p ≤ e) (h2 : e ≤ A.taped) {a b c : Nat} (la : a < 128) (lb : b < 128) (lc : c < 128) : f_MD_is N 3 (nI a) (nI b) (nI c) 0 h hl = some (b2i (cD (Wrd A p e [a, b, c])), h, hl) := by
  unfold f_MD_is
  have t2 := hw.t200
  have sb : h 65 32 - h 65 33 = nI (e - p) := by rw [h32, h33]; exact pk_sub h1
  have wd : Wrd A p e [a, b, c] ↔ (e - p = 3 ∧ A.tape p = a ∧ A.tape (p + 1) = b ∧ A.tape (p + 2) = c) := by
    constructor
    · intro q
      have q0 : e = p + 3 := q.1
      exact ⟨by omega, q.2 0 (Nat.lt_of_succ_le (by show _ ≤ 3; omega)), q.2 1 (Nat.lt_of_succ_le (by show _ ≤ 3; omega)), q.2 2 (Nat.lt_of_succ_le (by show _ ≤ 3; omega))⟩
    · rintro ⟨q0, q1, q2, q3⟩
      refine ⟨by show e = p + 3; omega, fun i hi => ?_⟩
      have hi : i < 3 := hi
      have : i = 0 ∨ i = 1 ∨ i = 2 := by omega
      rcases this with rfl | rfl | rfl
      · exact q1
      · exact q2
      · exact q3
  by_cases c0 : e - p = 3
  case neg => rw [if_neg (by rw [sb]; exact fun q => c0 ((nI_eq (b := 3) (by omega) (by omega)).mp q)), cD_f.mpr (fun q => c0 (wd.mp q).1)]; rfl
  rw [if_pos (by rw [sb, c0]; rfl), m_look hw mt h33 (by omega), Option.bind_some]
  dsimp only
  have e1 : h 65 33 + 1 = nI (p + 1) := by rw [h33]; exact nI_1 p
  have e2 : h 65 33 + 2 = nI (p + 2) := by rw [h33]; exact nI_add p 2
  by_cases c1 : A.tape p = a
  case neg => rw [if_neg (fun q => c1 ((lkV_eq hw (by omega)).mp q).2), cD_f.mpr (fun q => c1 (wd.mp q).2.1)]; rfl
  rw [if_pos ((lkV_eq hw (by omega)).mpr ⟨by omega, c1⟩), m_look hw mt e1 (by omega), Option.bind_some]
  dsimp only
  by_cases c2 : A.tape (p + 1) = b
  case neg => rw [if_neg (fun q => c2 ((lkV_eq hw (by omega)).mp q).2), cD_f.mpr (fun q => c2 (wd.mp q).2.2.1)]; rfl
  rw [if_pos ((lkV_eq hw (by omega)).mpr ⟨by omega, c2⟩), m_look hw mt e2 (by omega), Option.bind_some]
  dsimp only
  by_cases c3 : A.tape (p + 2) = c
  case neg => rw [if_neg (fun q => c3 ((lkV_eq hw (by omega)).mp q).2), cD_f.mpr (fun q => c3 (wd.mp q).2.2.2)]; rfl
  rw [if_pos ((lkV_eq hw (by omega)).mpr ⟨by omega, c3⟩), if_pos (by decide), cD_t.mpr (wd.mpr ⟨c0, c1, c2, c3⟩)]
  rfl
