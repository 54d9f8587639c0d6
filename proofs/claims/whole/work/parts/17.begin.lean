/-! from the law's entry to the abstract machine -/
def R_law : String := "LampWiresLaw"
def lw_P (b : Addr) (xs : List Int32) (args : Array Value) (s : State) : Prop := args = #[.ref b] ∧ s.IntsAt b xs ∧ xs.length ≤ 2048 ∧ (Jvm.Cond.and given_1 narrow_1).before args s = true
def lw_Q (_ : Array Value) (s : State) (o : Outcome) (t : State) : Prop := o = .returned (some (.int 1)) ∧ Framed s o t [] 600000 7302250
def lw_Z (below : List Frame) (a : Array Value) (s : State) : State → Prop := fun t => ∃ o, t.status = .running ∧ Ended t below o ∧ lw_Q a s o t
theorem lw_ret {p : Program} {l : Launch} {e : Env} {s : State} {m : MethodId} {below : List Frame} {meth : Method} {c : Code} {b : Nat} (hx : p.tables.exec = Jvm.exec) (hb : c.code = code) (hr : meth.sig.returnType = ret) (hlocks : meth.locks = false) {pc : Nat} {H : Heap} {ls : Array Slot} (hdg : decode code pc = .ok (.ireturn, 1)) : W p l e room_1 s m #[Value.ref b] below meth c H [] 600000 7302250 (lw_Z below #[Value.ref b] s) (F0 m pc ls [.int 1]) := by
  intro T hT X
  obtain ⟨fs, hret, hrun, hended, hW, hframe⟩ := X.leave (v := some (.int 1)) (hlocks := hlocks) (fun h => by rw [hr] at h; cases h)
  have hmeth' : T.vm.method? m = some meth := X.method'
  refine ⟨T.setFrames fs, ?_, .returned (some (.int 1)), hrun, hended, rfl, ⟨_, rfl⟩, hW, hframe⟩
  jvm_step X.here [X.here.top, hx, hb, hdg, hmeth', hr, ret, narrow_b1]
  (try refine ⟨rfl, ?_⟩); (try refine ⟨rfl, ?_⟩)
  first | (intro acts; rw [hret _ acts rfl rfl rfl]) | rw [hret _ _ rfl rfl rfl]
  exact Steps.refl _
def lw_At (p : Program) (s : State) (m : MethodId) (meth : Method) (c : Code) (b L : Nat) (xs : Nat → Int32) : Prop :=
  p.tables.exec = Jvm.exec ∧ c.code = code ∧ meth.sig.returnType = ret ∧ c.maxLocals = 4 ∧ s.vm.findClass R_law = some m.cls ∧ (∀ w ∈ lw_tbl, w.before #[Value.ref b] s = true) ∧ va_X b L xs s s.heap ∧ b < s.heap.size ∧ meth.locks = false ∧ (Jvm.Cond.and given_1 narrow_1).before #[Value.ref b] s = true
def st_sv (tP tW b : Nat) (adK adV : Nat → Nat) (oS : Option Nat) : Nat → Option Nat := fun k =>
  if k = 0 then some tP else if k = 1 then some tW else if k = 2 ∨ k = 3 ∨ k = 4 ∨ k = 5 then some (adK (k - 2)) else if k = 6 ∨ k = 7 ∨ k = 8 ∨ k = 9 then some (adV (k - 6)) else if k = 10 then some b else oS
theorem st_known {s : State} {b : Nat} (hts : ∀ w ∈ lw_tbl, w.before #[Value.ref b] s = true) : ∃ (D : va_G) (cA : FieldType → ClassId), va_K D q_cl (q_tys cA) s := by
  have h1 : ∀ c : Nat, ∃ x : ClassId × (Nat → Nat), c < 13 → u_Kn s (q_cn c) (q_T c) (q_N c) x.1 x.2 := by
    intro c
    by_cases hc : c < 13
    · obtain ⟨cC, iS, h⟩ := u_known (C := q_cn c) (T := q_T c) (N := q_N c) (n := q_N c) hts (q_words c hc) (hts _ (q_insts c hc))
      exact ⟨(cC, iS), fun _ => h⟩
    · exact ⟨(0, fun _ => 0), fun h => absurd h hc⟩
  obtain ⟨f, hf⟩ := Classical.axiomOfChoice h1
  have harr : ∀ t : FieldType, t ≠ .object "" → Cond.arrayClass t ∈ lw_tbl → (∀ C, t ≠ .object C) → ∃ cA : ClassId, ArrOfT s cA t ∧ va_RA s cA t := by
    intro t _ hm hno
    obtain ⟨cA, kA, comp, h1, h2, h3⟩ := Cond.arrayClass_spec (hts _ hm)
    refine ⟨cA, fun n z => ⟨fun k h => (by cases h), kA, h2, comp, h3⟩, ?_⟩
    cases t with
    | object C => exact absurd rfl (hno C)
    | _ => exact h1
  have hobj : ∀ C : String, Cond.arrayOver (.object C) ∈ lw_tbl → ∃ cA : ClassId, ArrOfT s cA (.object C) ∧ va_RA s cA (.object C) := by
    intro C hm
    obtain ⟨comp, cA, kA, h1, -, h3, h4, h5⟩ := Cond.arrayOver_spec (hts _ hm)
    exact ⟨cA, fun n z => ⟨fun k h => (by cases h), kA, h3, comp, h4⟩, kA, comp, h3, h4, h1, h5⟩
  obtain ⟨c1, a1⟩ := harr .int (by decide) (st_words _ (by decide +kernel)) (fun C h => by cases h)
  obtain ⟨c2, a2⟩ := harr .byte (by decide) (st_words _ (by decide +kernel)) (fun C h => by cases h)
  obtain ⟨c3, a3⟩ := harr .boolean (by decide) (st_words _ (by decide +kernel)) (fun C h => by cases h)
  obtain ⟨c4, a4⟩ := harr .long (by decide) (st_words _ (by decide +kernel)) (fun C h => by cases h)
  obtain ⟨c5, a5⟩ := hobj "LampWires$Frame" (st_words _ (by decide +kernel))
  obtain ⟨c6, a6⟩ := hobj "LampWires$Sheet" (st_words _ (by decide +kernel))
  refine ⟨(fun c => (f c).1, fun c => (f c).2), fun t => if t = .int then c1 else if t = .byte then c2 else if t = .boolean then c3 else if t = .long then c4 else if t = .object "LampWires$Frame" then c5 else c6, ?_, ?_⟩
  · intro c q hq
    have hl : c < q_cl.length := (List.getElem?_eq_some_iff.mp hq).1
    have hl : c < 13 := by simpa [q_cl] using hl
    have := q_cl_inv hq
    subst this
    exact hf c hl
  · intro k q hq
    match k, hq with
    | 0, hq => cases hq; exact a1
    | 1, hq => cases hq; exact a2
    | 2, hq => cases hq; exact a3
    | 3, hq => cases hq; exact a4
    | 4, hq => cases hq; exact a5
    | 5, hq => cases hq; exact a6
    | k + 6, hq => simp [q_tys] at hq
theorem st_ro {s : State} {b L : Nat} {xs : Nat → Int32} (hL : L ≤ 2048) (hts : ∀ w ∈ lw_tbl, w.before #[Value.ref b] s = true) (hX : va_X b L xs s s.heap) (hbl : b < s.heap.size) (hgv : (Jvm.Cond.and given_1 narrow_1).before #[Value.ref b] s = true) : ∃ sv : Nat → Option Nat, sv 10 = some b ∧ RO s.heap.size sv (L, xs) s s.heap := by
  have hs := flat_of_before _ hgv
  have hA : ∀ a : Nat, a < s.heap.size → ¬ s.heap.size ≤ a := fun a h => Nat.not_le.mpr h
  obtain ⟨adK, adV, hS, hE⟩ := st_strings hgv
  obtain ⟨tP, hP1, hP2⟩ := st_pow hgv
  obtain ⟨tW, hW1, hW2⟩ := st_with hgv
  have hz := va_Zqof (A := fun q => s.heap.size ≤ q) (hts _ (st_words (.laysStatic "jdk/internal/util/Preconditions" "SIOOBE_FORMATTER" "Ljava/util/function/BiFunction;") (by decide +kernel))) (hts _ (st_words (.initialized "jdk/internal/util/Preconditions") (by decide +kernel))) (hs _ (by decide +kernel)) hA
  obtain ⟨oS, hoS⟩ : ∃ oS : Option Nat, va_Z "jdk/internal/util/Preconditions" "SIOOBE_FORMATTER" "Ljava/util/function/BiFunction;" (va_rf oS) (fun q => s.heap.size ≤ q) s s.heap := by
    rcases hz with h | ⟨t, h⟩
    · exact ⟨none, h⟩
    · exact ⟨some t, h⟩
  have hscr : va_T .int b L (fun j => .int (xs j)) (fun q => s.heap.size ≤ q) s s.heap := by
    obtain ⟨scr, h1, h2, h3, h4, h5⟩ := hX
    exact ⟨scr, h1, h2, h3, by rw [h4]; exact Nat.le_refl _, by rw [h4] <;> rfl, h5, hA b hbl⟩
  refine ⟨st_sv tP tW b adK adV oS, rfl, ?_, ⟨?_, ?_, ?_, ?_⟩, ?_, ?_, ?_, ?_, ?_⟩
  · intro k t n f hk
    have hm := q_lk_mem _ _ _ hk
    simp only [roT, List.mem_cons, Prod.mk.injEq, List.not_mem_nil, or_false] at hm
    rcases hm with ⟨rfl, rfl, rfl, rfl⟩ | ⟨rfl, rfl, rfl, rfl⟩ | ⟨rfl, rfl, rfl, rfl⟩ | ⟨rfl, rfl, rfl, rfl⟩ | ⟨rfl, rfl, rfl, rfl⟩ | ⟨rfl, rfl, rfl, rfl⟩ | ⟨rfl, rfl, rfl, rfl⟩
    · exact ⟨by decide, tP, rfl, hP2⟩
    · exact ⟨by decide, tW, rfl, hW2⟩
    · exact ⟨by decide, adV 0, rfl, (hS.1 0 (by decide)).2.2.2⟩
    · exact ⟨by decide, adV 1, rfl, (hS.1 1 (by decide)).2.2.2⟩
    · exact ⟨by decide, adV 2, rfl, (hS.1 2 (by decide)).2.2.2⟩
    · exact ⟨by decide, adV 3, rfl, (hS.1 3 (by decide)).2.2.2⟩
    · exact ⟨by decide, b, rfl, hscr⟩
  · exact va_Zref (hts _ (st_words (.laysStatic "LampWires" "POWERS" "[I") (by decide +kernel))) (hts _ (st_words (.initialized "LampWires") (by decide +kernel))) hP1 hA
  · exact va_Zref (hts _ (st_words (.laysStatic "LampWires$Unions" "WITH" "[J") (by decide +kernel))) (hts _ (st_words (.initialized "LampWires$Unions") (by decide +kernel))) hW1 hA
  · exact va_Zof (hts _ (st_words (.laysStatic "java/lang/String" "COMPACT_STRINGS" "Z") (by decide +kernel))) (hts _ (st_words (.initialized "java/lang/String") (by decide +kernel))) (va_eqi (hs _ (by decide +kernel))) hA
  · exact hoS
  · intro e he x hx hb
    exact va_Nw.of rfl (hts _ (q_ix _ ((q_rs_tab e he x hx).2.2 hb)))
  · intro e he x hx hb
    exact va_Nw.of rfl (hts _ (q_ix _ ((q_rm_tab e he x hx).1.2.1 hb)))
  · intro x hx
    simp only [q_strs, List.mem_cons, List.not_mem_nil, or_false] at hx
    rcases hx with rfl | rfl | rfl | rfl
    · exact ⟨adK 0, rfl, vk_R.of (hts _ (st_words (.stringRef "LampWires$Tape" 93 "high") (by decide +kernel))) (hE 0 (by decide)), (hS.1 0 (by decide)).1, (hS.1 0 (by decide)).2.1, (hS.1 0 (by decide)).2.2.1⟩
    · exact ⟨adK 1, rfl, vk_R.of (hts _ (st_words (.stringRef "LampWires$Tape" 99 "low") (by decide +kernel))) (hE 1 (by decide)), (hS.1 1 (by decide)).1, (hS.1 1 (by decide)).2.1, (hS.1 1 (by decide)).2.2.1⟩
    · exact ⟨adK 2, rfl, vk_R.of (hts _ (st_words (.stringRef "LampWires$Tape" 101 "for") (by decide +kernel))) (hE 2 (by decide)), (hS.1 2 (by decide)).1, (hS.1 2 (by decide)).2.1, (hS.1 2 (by decide)).2.2.1⟩
    · exact ⟨adK 3, rfl, vk_R.of (hts _ (st_words (.stringRef "LampWires$Tape" 103 "dark") (by decide +kernel))) (hE 3 (by decide)), (hS.1 3 (by decide)).1, (hS.1 3 (by decide)).2.1, (hS.1 3 (by decide)).2.2.1⟩
  · exact va_AO.of (hts _ (st_words (.arrayOver (.object "LampWires$Frame")) (by decide +kernel)))
  · exact va_AO.of (hts _ (st_words (.arrayOver (.object "LampWires$Sheet")) (by decide +kernel)))
/-- nothing is made yet -/
def σ_0 : SG := (fun _ _ => 0, fun _ _ => 0, ([], 0))
theorem start_of_run {p : Program} {e : Env} {s : State} {m : MethodId} {below : List Frame} {meth : Method} {c : Code} (l : Launch) {b L : Nat} {xs : Nat → Int32} (hL : L ≤ 2048) (C0 : lw_At p s m meth c b L xs) {N d : Nat} {σ1 : SG} (hrun : runF (L, xs) (runD (L, xs) N d) m_LA_law N 0 [(0, .ref 1000010)] [] σ_0 = some (some (.int 1), σ1)) (hn : σ1.2.2.1.length ≤ 600000) (hsl : σ1.2.2.2 ≤ 7302250) (hd : d < 1000) : W p l e room_1 s m #[Value.ref b] below meth c s.heap [] 0 0 (lw_Z below #[Value.ref b] s) (entryFrame m ([Value.ref b] : List Value).toArray 4) := by
  obtain ⟨hx, hb, hr, hml, hown, hts, hX, hbl, hlocks, hgv⟩ := id C0
  obtain ⟨D, cA, hK⟩ := st_known hts
  obtain ⟨sv, hsv, hRO⟩ := st_ro hL hts hX hbl hgv
  have hl := lv_entry ([.ref b]) (n := 4) (Nat.le_of_ble_eq_true rfl)
  rw [lg_entry_eq]
  generalize (lg_sl ([.ref b]) ++ List.replicate (4 - (lg_sl ([.ref b])).length) Slot.unset).toArray = ls at hl ⊢
  have hT : RET p l e room_1 s m #[Value.ref b] below meth c (lw_Z below #[Value.ref b] s) s.heap.size sv D cA m_LA_law 0 0 (some (.int 1), σ1) := by
    intro pc i H locs cells slots ls g hdg hr9
    obtain ⟨gP, gS, g3, g4, g5, g6⟩ := g
    obtain ⟨rfl, -⟩ := hr9
    dsimp only at g3 g4
    refine va_forget (fun q hq => gS.2.2 q hq) ?_
    refine W.widen (k := 600000) (n := 7302250) (by omega) (by omega) ?_
    exact lw_ret hx hb hr hlocks hdg
  have key := runF_sound (p := p) (L := l) (e := e) (R := room_1) (s := s) (m := m) (args := #[Value.ref b]) (below := below) (meth := meth) (c := c) (Q := lw_Z below #[Value.ref b] s) (n0 := s.heap.size) (sv := sv) (D := D) (cA := cA) (md := m_LA_law) (d := d) (nE := 0) (sE := 0) ⟨by show _ ≤ 0 + 600000; dsimp only; omega, by show _ ≤ 0 + 7302250; dsimp only; omega, by decide, by decide⟩ ⟨by show d + 1 ≤ 2048; omega, by show 64 * (d + 1) ≤ 84000; omega⟩ (fun cm av σ2 o1 k1 k2 k3 k4 => runD_sound l s.heap.size sv D cA (L, xs) N d cm av σ2 o1 k1 k2 k3 k4) ⟨hx, hb, hml, hown, fun w hw => hts w (List.mem_filter.mp hw).1, hr, hlocks, fun h => absurd h (by decide), hK, hRO, kd_LA_law⟩ hT N 0 [(0, .ref 1000010)] [] σ_0 hrun
  refine key s.heap [] 0 0 ls ⟨fun k q h => by simp [wl, σ_0] at h, va_S.rf, rfl, rfl, by decide, rfl⟩ ?_
  have e1 : cvv s.heap.size sv (.ref 1000010) = .ref b := cvv_ro (by decide) hsv
  show lv_has ls 4 [(0, cvv s.heap.size sv (.ref 1000010))]
  rw [e1]
  exact hl
