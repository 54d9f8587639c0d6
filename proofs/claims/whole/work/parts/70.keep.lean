/-! what does not change the board -/
abbrev SB (A B : St) : Prop :=
  (B.w = A.w) ∧
  (B.sup = A.sup) ∧
  (B.n = A.n) ∧
  (B.lf = A.lf) ∧
  (B.lt = A.lt) ∧
  (B.lv = A.lv) ∧
  (B.st = A.st)
theorem SB.w {A B : St} (h_ : SB A B) : B.w = A.w := h_.1
theorem SB.s {A B : St} (h_ : SB A B) : B.sup = A.sup := h_.2.1
theorem SB.n {A B : St} (h_ : SB A B) : B.n = A.n := h_.2.2.1
theorem SB.f {A B : St} (h_ : SB A B) : B.lf = A.lf := h_.2.2.2.1
theorem SB.t {A B : St} (h_ : SB A B) : B.lt = A.lt := h_.2.2.2.2.1
theorem SB.v {A B : St} (h_ : SB A B) : B.lv = A.lv := h_.2.2.2.2.2.1
theorem SB.st {A B : St} (h_ : SB A B) : B.st = A.st := h_.2.2.2.2.2.2
abbrev SB0 (A B : St) : Prop :=
  (B.w = A.w) ∧
  (B.sup = A.sup) ∧
  (B.n = A.n) ∧
  (B.lf = A.lf) ∧
  (B.lt = A.lt) ∧
  (B.lv = A.lv)
theorem SB0.w {A B : St} (h_ : SB0 A B) : B.w = A.w := h_.1
theorem SB0.s {A B : St} (h_ : SB0 A B) : B.sup = A.sup := h_.2.1
theorem SB0.n {A B : St} (h_ : SB0 A B) : B.n = A.n := h_.2.2.1
theorem SB0.f {A B : St} (h_ : SB0 A B) : B.lf = A.lf := h_.2.2.2.1
theorem SB0.t {A B : St} (h_ : SB0 A B) : B.lt = A.lt := h_.2.2.2.2.1
theorem SB0.v {A B : St} (h_ : SB0 A B) : B.lv = A.lv := h_.2.2.2.2.2
section
variable {A B : St}
theorem SB.b0 (h : SB A B) : SB0 A B := ⟨h.w, h.s, h.n, h.f, h.t, h.v⟩
theorem s0_Stg (h : SB0 A B) (g : Nat → Nat) : Stg B g = Stg A g := by
  funext u v c m
  obtain ⟨h1, h2, h3, h4, h5, h6⟩ := h
  unfold Stg
  rw [h3, h4, h5, h6]
theorem s0_Way (h : SB0 A B) (g : Nat → Nat) (t : Nat) : Way B g t = Way A g t := by
  funext c m
  unfold Way
  rw [s0_Stg h g, h.w]
theorem s0_Lst (h : SB0 A B) (g : Nat → Nat) (t : Nat) : Lst B g t = Lst A g t := by
  unfold Lst
  rw [s0_Way h g t]
theorem s0_GM (h : SB0 A B) (g : Nat → Nat) (t : Nat) : GM B g t = GM A g t := by
  unfold GM
  rw [s0_Lst h g t, s0_Way h g t, h.s, h.n]
theorem sb_Lst (h : SB A B) (g : Nat → Nat) (t : Nat) : Lst B g t = Lst A g t := s0_Lst h.b0 g t
theorem sb_GM (h : SB A B) (g : Nat → Nat) (t : Nat) : GM B g t = GM A g t := s0_GM h.b0 g t
theorem sb_Gt (h : SB A B) : Gt B = Gt A := by
  funext t
  unfold Gt
  rw [h.st, sb_GM h]
theorem sb_LsI (h : SB A B) (g : Nat → Nat) (t : Nat) : LsI B g t = LsI A g t := by
  unfold LsI
  rw [sb_Lst h g t]
theorem sb_IsSet (h : SB A B) : IsSet B = IsSet A := by
  funext s
  unfold IsSet
  rw [sb_Gt h, h.w]
theorem sb_Uni (h : SB A B) : ∀ k, Uni B k = Uni A k := by
  intro k
  induction k with
  | zero => rfl
  | succ k ih =>
    funext p
    show (∃ q s, Uni B k q ∧ IsSet B s ∧ p = q ||| s) = (∃ q s, Uni A k q ∧ IsSet A s ∧ p = q ||| s)
    rw [ih, sb_IsSet h]
theorem sb_Few (h : SB A B) : Few B = Few A := by
  funext p
  unfold Few
  congr 1
  funext k
  rw [sb_Uni h]
theorem sb_Cov (h : SB A B) (p : Nat) : ∀ k, Cov B p k = Cov A p k := by
  intro k
  induction k with
  | zero => rfl
  | succ k ih =>
    funext s
    show (∃ g, IsSet B g ∧ g ||| p = p ∧ Cov B p k (s ||| g)) = (∃ g, IsSet A g ∧ g ||| p = p ∧ Cov A p k (s ||| g))
    rw [ih, sb_IsSet h]
theorem sb_Need (h : SB A B) (p : Nat) : Need B p = Need A p := by
  funext s
  unfold Need
  congr 1
  funext k
  rw [sb_Cov h]
theorem sb_shown (h : SB A B) (ts : Nat → Nat) : ∀ i, shownBy B ts i = shownBy A ts i := by
  intro i
  induction i with
  | zero => rfl
  | succ i ih =>
    show shownBy B ts i ||| Gt B (ts i) = shownBy A ts i ||| Gt A (ts i)
    rw [ih, sb_Gt h]
theorem sb_Good (h : SB A B) (p s l t : Nat) : Good B p s l t = Good A p s l t := by
  unfold Good
  rw [sb_Gt h, sb_Need h]
theorem sb_IsFrame (h : SB A B) (p : Nat) : IsFrame B p = IsFrame A p := by
  funext ts
  unfold IsFrame
  simp only [sb_Few h, sb_Good h, sb_shown h, h.w]
theorem sb_cnt (h : SB A B) : cntFew B = cntFew A := by
  funext m
  unfold cntFew
  rw [sb_Few h, h.n]
theorem sb_Tb (h : SB A B) (b g l kd kt : Nat → Int32) : TbOK B b g l kd kt = TbOK A b g l kd kt := by
  unfold TbOK MostOK TbFull
  simp only [sb_Gt h, sb_LsI h, sb_Lst h, h.w, h.st]
theorem sb_Un (h : SB A B) (b m : Nat → Int32) : UnOK B b m = UnOK A b m := by
  unfold UnOK
  rw [sb_cnt h]
theorem sb_Fr (h : SB A B) (b t : Nat → Int32) : FrOK B b t = FrOK A b t := by
  unfold FrOK FrKnown
  simp only [sb_Few h, sb_IsFrame h, h.n]
theorem sb_MF (h : SB A B) (b g i so fw : Nat → Int32) : MFull B b g i so fw = MFull A b g i so fw := by
  unfold MFull
  simp only [sb_Gt h, sb_Lst h, sb_IsSet h, sb_Few h, h.w, h.n, h.st]
abbrev SGl (A B : St) : Prop :=
  (SB0 A B) ∧
  (B.lines = A.lines) ∧
  (B.pt = A.pt)
theorem SGl.b {A B : St} (h_ : SGl A B) : SB0 A B := h_.1
theorem SGl.l {A B : St} (h_ : SGl A B) : B.lines = A.lines := h_.2.1
theorem SGl.p {A B : St} (h_ : SGl A B) : B.pt = A.pt := h_.2.2
theorem sb_tel (h : SGl A B) (b : Nat → Int32) : GsW B b = GsW A b := by
  unfold GsW telN telF Tells
  simp only [s0_GM h.b, h.l, h.p, h.b.n]
theorem sb_Expl (h : SGl A B) (hs : B.sn = A.sn) : Expl B = Expl A := by
  funext f g
  unfold Expl
  simp only [s0_GM h.b, h.l, h.p, hs]
theorem sb_GsL (h : SGl A B) (hs : B.sn = A.sn) (b f s : Nat → Int32) : GsL B b f s = GsL A b f s := by
  have e : glL B = glL A := by
    unfold glL gl0 gl1 gl2
    simp only [sb_Expl h hs, h.b.n]
  have e2 : glF B = glF A := by
    unfold glF gl0 gl1 gl2
    simp only [sb_Expl h hs, h.b.n]
  unfold GsL
  rw [e, e2]
theorem sb_Gs (h : SGl A B) (hs : B.sn = A.sn) (b f s : Nat → Int32) : GsOK B b f s = GsOK A b f s := by
  unfold GsOK
  rw [sb_GsL h hs, sb_tel h]
/-- RC behind a change that leaves the board -/
theorem RC.keep {hi h1 : HI} (h : RC A hi) (sb : SB A B) (hs : ∀ a, frC a = false → a ∉ [6, 43, 46, 47, 48, 49, 50, 51, 52, 53, 57, 58, 59, 60, 61, 62, 63, 64] → h1 a = hi a) (e : ∀ l, l < B.n → h1 6 l = nI (B.lev l)) (tp : TpC B (h1 43) (h1 46)) (sc : ScC B (h1 47) (h1 48) (h1 49) (h1 50)) (gs : GsOK B (h1 51) (h1 52) (h1 53)) (sh : ∀ k, k < 4 → ShC B k (h1 (57 + 2 * k)) (h1 (58 + 2 * k))) : RC B h1 := by
  obtain ⟨a1, a2, a3, a4, a5, a6, a7, a8, a9, a10⟩ := h
  have fr : ∀ i, i < 8 → h1 (20 + 2 * i) = hi (20 + 2 * i) ∧ h1 (21 + 2 * i) = hi (21 + 2 * i) := by
    intro i hi
    constructor <;> refine hs _ ?_ ?_ <;> revert i <;> decide
  refine ⟨?_, ?_, ?_, ?_, ?_, ?_, tp, sc, gs, sh⟩
  · obtain ⟨c1, c2, c3, c4, c5, c6, c7, c8⟩ := a1
    rw [hs 1 (by decide) (by decide), hs 2 (by decide) (by decide), hs 3 (by decide) (by decide), hs 4 (by decide) (by decide), hs 5 (by decide) (by decide)]
    unfold Bd
    rw [sb.w, sb.s, sb.n, sb.f, sb.t, sb.v, sb.st]
    rw [sb.n] at e
    exact ⟨c1, c2, c3, c4, c5, c6, c7, e⟩
  · rw [sb_Tb sb, hs 12 (by decide) (by decide), hs 13 (by decide) (by decide), hs 14 (by decide) (by decide), hs 15 (by decide) (by decide), hs 16 (by decide) (by decide)]; exact a2
  · rw [hs 17 (by decide) (by decide)]; exact a3
  · rw [hs 18 (by decide) (by decide)]; exact a4
  · intro i hi
    rw [sb_Fr sb, (fr i hi).1, (fr i hi).2]; exact a5 i hi
  · rw [sb_Un sb, hs 38 (by decide) (by decide), hs 39 (by decide) (by decide)]; exact a6
theorem RM.keep {hi h1 : HI} (h : RM A hi) (sb : SB A B) (hs : ∀ a, frM a = false → a ∉ [70, 83, 84, 85, 88, 92, 93, 94] → h1 a = hi a) (h65 : ∀ j, j ∈ [0, 1, 2, 8, 15] → h1 65 j = hi 65 j) (e : ∀ l, l < B.n → h1 70 l = nI (B.lev l)) (ln : h1 65 23 = nI B.lines) (pt : ∀ i, i < B.lines → h1 83 i = nI (B.pt i)) (pk : ∀ i, i < B.lines → h1 84 i = nI (B.pk i)) (sn : ∀ i, i < B.lines → h1 85 i = B.sn i) (tn : h1 65 31 = nI B.taped) (ty : ∀ i, i < B.taped → h1 88 i = nI (B.tape i)) (ft : h1 65 36 = nI B.fault) (la : ∀ k, k < 4 → h1 92 k = if B.has k = 1 then nI (B.lane k) else -4) (sz : ∀ k, k < 4 → B.has k = 1 → h1 93 k = nI (B.size k)) (ce : ∀ k, k < 4 → B.has k = 1 → ∀ i, i < 40 → h1 94 (40 * k + i) = B.cel k i) : RM B h1 := by
  obtain ⟨a1, a2, _⟩ := h
  refine ⟨?_, ?_, ln, pt, pk, sn, tn, ty, ft, la, sz, ce⟩
  · obtain ⟨c1, c2, c3, c4, c5, c6, c7, c8⟩ := a1
    rw [hs 66 (by decide) (by decide), hs 67 (by decide) (by decide), hs 68 (by decide) (by decide), hs 69 (by decide) (by decide)]
    unfold Bd
    rw [sb.w, sb.s, sb.n, sb.f, sb.t, sb.v, sb.st, h65 0 (by decide), h65 1 (by decide), h65 2 (by decide)]
    rw [sb.n] at e
    exact ⟨c1, c2, c3, c4, c5, c6, c7, e⟩
  · rw [hs 74 (by decide) (by decide), hs 75 (by decide) (by decide), hs 76 (by decide) (by decide), hs 77 (by decide) (by decide), h65 8 (by decide)]
    rcases a2 with a2 | ⟨a2, a3⟩
    · exact Or.inl a2
    · refine Or.inr ⟨a2, ?_⟩
      rw [sb_MF sb]
      obtain ⟨d1, d2, d3, d4⟩ := a3
      refine ⟨d1, d2, ?_, d4⟩
      obtain ⟨S, sv, f1, f2⟩ := d3
      exact ⟨S, sv, (h65 15 (by decide)).trans f1, f2⟩
end
/-! level -/
theorem S_level {N : Nat} (hN : 70000 ≤ N) (p q : Int32) : Sim (f_LW_level N p q) (f_MD_level N p q) := by
  refine Sim.of (fun A hw => ?_)
  have n16 := hw.n16
  have hb : ∀ (hi : HI) (hl : HL), f_MD_in N q.toInt64 0 15 hi hl = some (b2i (rg q 0 16), hi, hl) := fun hi hl => e_in32 N q _ _ hi hl (x := 0) (y := 16) (ltL64 0 (by decide)) (ltL64 15 (by decide))
  rcases rgE p 0 A.n with ⟨e, _⟩ | ⟨e, _⟩
  · refine Sim.bad (ans := -1) hw (fun hi hl hR => ?_) (fun hi hl hR => ?_)
    · unfold f_LW_level
      rw [e_isLamp hR.bd.n (by omega), e]; rfl
    · unfold f_MD_level
      rw [m_isLamp hR.bd.n (by omega), e]; rfl
  rcases rgE q 0 16 with ⟨f, _⟩ | ⟨f, _⟩
  · refine Sim.bad (ans := -1) hw (fun hi hl hR => ?_) (fun hi hl hR => ?_)
    · unfold f_LW_level
      rw [e_isLamp hR.bd.n (by omega), e]
      simp only [Option.bind_some, b2i_tt, if_false]
      rw [e_isLevel, f]; rfl
    · unfold f_MD_level
      rw [m_isLamp hR.bd.n (by omega), e]
      simp only [Option.bind_some, b2i_tt, if_false]
      rw [hb, f]; rfl
  obtain ⟨l, _, l1, rfl⟩ := rg_t (by omega) e
  obtain ⟨v, _, v1, rfl⟩ := rg_t (by omega) f
  have cl : (nI l).toNatClampNeg = l := nI_clamp (by omega)
  have sb : SB A (A.setA 4 (fun j => if j = l then v else A.lev j)) := ⟨rfl, rfl, rfl, rfl, rfl, rfl, rfl⟩
  refine ⟨nI (A.lev l), A.setA 4 (fun j => if j = l then v else A.lev j), ?_, fun hi hl hR => ?_, fun hi hl hR => ?_⟩
  · obtain ⟨a1, a2, a3, a4, a5, a6, a7, a8, a9, b1, b2, b3, rest⟩ := hw
    exact ⟨a1, a2, a3, a4, a5, a6, a7, a8, a9, b1, b2, fun j hj => by
      show (if j = l then v else A.lev j) ≤ 15
      split
      · omega
      · exact b3 j hj, rest⟩
  · unfold f_LW_level
    rw [e_isLamp hR.bd.n (by omega), e]
    simp only [Option.bind_some, b2i_tt, if_false]
    rw [e_isLevel, f]
    simp only [Option.bind_some, b2i_tt, if_false]
    refine wp_neg (nI_in (by omega) (by omega)) (wp_neg (nI_in (by omega) (by omega)) ?_)
    rw [wp_some, cl]
    refine ⟨hR.bd.e l l1, hR.keep sb (fun a ha hb => wr_o (fun q => hb (by rw [q]; decide))) (fun j hj => ?_) ?_ ?_ ?_ (fun k hk => ?_), (HiC.refl hi).wr (by omega)⟩
    · dsimp only
      show _ = nI (if j = l then v else A.lev j)
      rw [wr_i]
      split
      · rfl
      · exact hR.bd.e j hj
    · simp (disch := first | decide | omega) only [wr_o, wr_k, wr_s]; exact hR.tp
    · simp (disch := first | decide | omega) only [wr_o, wr_k, wr_s]; exact hR.sc
    · simp (disch := first | decide | omega) only [wr_o, wr_k, wr_s]; rw [sb_Gs ⟨sb.b0, rfl, rfl⟩ rfl]; exact hR.gs
    · dsimp only
      rw [wr_o (by omega), wr_o (by omega)]; exact hR.sh k hk
  · unfold f_MD_level
    rw [m_isLamp hR.bd.n (by omega), e]
    simp only [Option.bind_some, b2i_tt, if_false]
    rw [hb, f]
    simp only [Option.bind_some, b2i_tt, if_false]
    refine wp_neg (nI_in (by omega) (by omega)) (wp_neg (nI_in (by omega) (by omega)) ?_)
    rw [wp_some, cl]
    obtain ⟨a1, a2, a3, a4, a5, a6, a7, a8, a9, b1, b2, b3⟩ := id hR
    refine ⟨hR.bd.e l l1, hR.keep sb (fun a ha hb => wr_o (fun q => hb (by rw [q]; decide))) (fun j _ => by dsimp only; rw [wr_o (by omega)]) (fun j hj => ?_) ?_ ?_ ?_ ?_ ?_ ?_ ?_ ?_ ?_ ?_, (LoC.refl hi).wr (by omega)⟩
    · dsimp only
      show _ = nI (if j = l then v else A.lev j)
      rw [wr_i]
      split
      · rfl
      · exact hR.bd.e j hj
    · simp (disch := first | decide | omega) only [wr_o, wr_k, wr_s]; exact a3
    · simp (disch := first | decide | omega) only [wr_o, wr_k, wr_s]; exact a4
    · simp (disch := first | decide | omega) only [wr_o, wr_k, wr_s]; exact a5
    · simp (disch := first | decide | omega) only [wr_o, wr_k, wr_s]; exact a6
    · simp (disch := first | decide | omega) only [wr_o, wr_k, wr_s]; exact a7
    · simp (disch := first | decide | omega) only [wr_o, wr_k, wr_s]; exact a8
    · simp (disch := first | decide | omega) only [wr_o, wr_k, wr_s]; exact a9
    · simp (disch := first | decide | omega) only [wr_o, wr_k, wr_s]; exact b1
    · simp (disch := first | decide | omega) only [wr_o, wr_k, wr_s]; exact b2
    · simp (disch := first | decide | omega) only [wr_o, wr_k, wr_s]; exact b3
