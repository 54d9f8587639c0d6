/-! methods as functions -/
def J_LW_isLane_13 (N : Nat) (hi : HI) (hl : HL) : Option (Int32 × HI × HL) :=
  some (0, hi, hl)
set_option maxRecDepth 10000 in
set_option maxHeartbeats 4000000 in
theorem bJ_LW_isLane_13 (ev : EV) {N : Nat} {hi : HI} {hl : HL} {o : Int32 × HI × HL} (h : J_LW_isLane_13 N hi hl = some o) : EX w0 ev 0 m_LW_isLane 13 [] [] (hi) (hl) (oI o) := by
  unfold J_LW_isLane_13 at h
  refine EX.iconst (v := 0) rfl rfl ?_
  obtain rfl := Option.some.inj h
  exact EX.zret rfl rfl (Or.inl rfl)
def f_LW_isLane (N : Nat) (p0 : Int32) (hi : HI) (hl : HL) : Option (Int32 × HI × HL) :=
  if (p0 : Int32) < 0 then J_LW_isLane_13 N (hi) (hl) else if (3 : Int32) ≤ (p0 : Int32) then J_LW_isLane_13 N (hi) (hl) else some (1, hi, hl)
set_option maxRecDepth 10000 in
set_option maxHeartbeats 4000000 in
theorem b_LW_isLane (ev : EV) {N : Nat} {p0 : Int32} {hi : HI} {hl : HL} {o : Int32 × HI × HL} (h : f_LW_isLane N p0 hi hl = some o) : EM w0 ev 1 m_LW_isLane [.int (p0)] hi hl (oI o) := by
  unfold f_LW_isLane at h
  refine EM.of rfl ?_
  show EX w0 ev 0 m_LW_isLane 0 [(0, .int (p0))] [] (hi) (hl) (oI o)
  refine EX.iload_n (x := p0) rfl (List.mem_of_getElem? (i := 0) rfl) ?_
  rcases ite_some h with ⟨c1, h⟩ | ⟨c1, h⟩
  · refine EX.go (i := .ifCond .lt 12) (len := 3) (pc1 := 13) (st1 := []) (hi1 := hi) (hl1 := hl) rfl ?_ (fun _ _ _ => if_pos c1)
    refine EX.pick [] ?_ rfl
    exact bJ_LW_isLane_13 ev h
  · refine EX.go (i := .ifCond .lt 12) (len := 3) (pc1 := 4) (st1 := []) (hi1 := hi) (hl1 := hl) rfl ?_ (fun _ _ _ => if_neg c1)
    refine EX.iload_n (x := p0) rfl (List.mem_of_getElem? (i := 0) rfl) ?_
    refine EX.iconst (v := 3) rfl rfl ?_
    rcases ite_some h with ⟨c2, h⟩ | ⟨c2, h⟩
    · refine EX.go (i := .if_icmp .ge 7) (len := 3) (pc1 := 13) (st1 := []) (hi1 := hi) (hl1 := hl) rfl ?_ (fun _ _ _ => if_pos c2)
      refine EX.pick [] ?_ rfl
      exact bJ_LW_isLane_13 ev h
    · refine EX.go (i := .if_icmp .ge 7) (len := 3) (pc1 := 9) (st1 := []) (hi1 := hi) (hl1 := hl) rfl ?_ (fun _ _ _ => if_neg c2)
      refine EX.iconst (v := 1) rfl rfl ?_
      refine EX.go (i := .goto 4) (len := 3) (pc1 := 14) (st1 := [.int (1)]) (hi1 := hi) (hl1 := hl) rfl ?_ (fun _ _ _ => rfl)
      obtain rfl := Option.some.inj h
      exact EX.zret rfl rfl (Or.inr rfl)
def f_LW_sheet (N : Nat) (p1 : Int32) (p2 : Int32) (p3 : Int32) (hi : HI) (hl : HL) : Option (Int32 × HI × HL) :=
  (f_LW_isSheet N (p1) (hi) (hl)).bind fun z1 => if (z1.1 : Int32) = 0 then some ((-1), z1.2.1, z1.2.2) else (f_LW_isLane N (p2) (z1.2.1) (z1.2.2)).bind fun z3 => if (z3.1 : Int32) = 0 then some ((-1), z3.2.1, z3.2.2) else if (p3 : Int32) ≤ (40 : Int32) then if 0 ≤ (p3 : Int32) then if (p1 : Int32) < 0 ∨ 4 ≤ Int32.toNatClampNeg (p1) then none else if gS (57 + 2 * Int32.toNatClampNeg (p1)) then (f_Sheet_renew N (57 + 2 * Int32.toNatClampNeg (p1)) (p2) (p3) (z3.2.1) (z3.2.2)).bind fun z8 => some (1, z8.2.1, z8.2.2) else none else some ((-14), z3.2.1, z3.2.2) else some ((-1), z3.2.1, z3.2.2)
set_option maxRecDepth 10000 in
set_option maxHeartbeats 4000000 in
theorem b_LW_sheet (ev : EV) {N : Nat} {p1 : Int32} {p2 : Int32} {p3 : Int32} {hi : HI} {hl : HL} {o : Int32 × HI × HL} (h : f_LW_sheet N p1 p2 p3 hi hl = some o) : EM w0 ev 3 m_LW_sheet [.ref 0, .int (p1), .int (p2), .int (p3)] hi hl (oI o) := by
  unfold f_LW_sheet at h
  refine EM.of rfl ?_
  show EX w0 ev 2 m_LW_sheet 0 [(0, .ref 0), (1, .int (p1)), (2, .int (p2)), (3, .int (p3))] [] (hi) (hl) (oI o)
  refine EX.iload_n (x := p1) rfl (List.mem_of_getElem? (i := 1) rfl) ?_
  obtain ⟨z1, hz1, h⟩ := bnd_some h
  refine EX.callS (as := [.int (p1)]) (rest := []) (r := some (.int (z1.1))) (hi1 := z1.2.1) (hl1 := z1.2.2) rfl rfl rfl rfl rfl rfl ((b_LW_isSheet ev hz1).mono (by decide)) ?_
  show EX w0 ev 2 m_LW_sheet 4 [(0, .ref 0), (1, .int (p1)), (2, .int (p2)), (3, .int (p3))] [.int (z1.1)] (z1.2.1) (z1.2.2) (oI o)
  rcases ite_some h with ⟨c2, h⟩ | ⟨c2, h⟩
  · refine EX.go (i := .ifCond .eq 16) (len := 3) (pc1 := 20) (st1 := []) (hi1 := z1.2.1) (hl1 := z1.2.2) rfl ?_ (fun _ _ _ => if_pos c2)
    refine EX.iconst (v := (-1)) rfl rfl ?_
    obtain rfl := Option.some.inj h
    exact EX.iret rfl rfl
  · refine EX.go (i := .ifCond .eq 16) (len := 3) (pc1 := 7) (st1 := []) (hi1 := z1.2.1) (hl1 := z1.2.2) rfl ?_ (fun _ _ _ => if_neg c2)
    refine EX.iload_n (x := p2) rfl (List.mem_of_getElem? (i := 2) rfl) ?_
    obtain ⟨z3, hz3, h⟩ := bnd_some h
    refine EX.callS (as := [.int (p2)]) (rest := []) (r := some (.int (z3.1))) (hi1 := z3.2.1) (hl1 := z3.2.2) rfl rfl rfl rfl rfl rfl ((b_LW_isLane ev hz3).mono (by decide)) ?_
    show EX w0 ev 2 m_LW_sheet 11 [(0, .ref 0), (1, .int (p1)), (2, .int (p2)), (3, .int (p3))] [.int (z3.1)] (z3.2.1) (z3.2.2) (oI o)
    rcases ite_some h with ⟨c4, h⟩ | ⟨c4, h⟩
    · refine EX.go (i := .ifCond .eq 9) (len := 3) (pc1 := 20) (st1 := []) (hi1 := z3.2.1) (hl1 := z3.2.2) rfl ?_ (fun _ _ _ => if_pos c4)
      refine EX.iconst (v := (-1)) rfl rfl ?_
      obtain rfl := Option.some.inj h
      exact EX.iret rfl rfl
    · refine EX.go (i := .ifCond .eq 9) (len := 3) (pc1 := 14) (st1 := []) (hi1 := z3.2.1) (hl1 := z3.2.2) rfl ?_ (fun _ _ _ => if_neg c4)
      refine EX.iload_n (x := p3) rfl (List.mem_of_getElem? (i := 3) rfl) ?_
      refine EX.bipush (v := 40) rfl rfl ?_
      rcases ite_some h with ⟨c5, h⟩ | ⟨c5, h⟩
      · refine EX.go (i := .if_icmp .le 5) (len := 3) (pc1 := 22) (st1 := []) (hi1 := z3.2.1) (hl1 := z3.2.2) rfl ?_ (fun _ _ _ => if_pos c5)
        refine EX.iload_n (x := p3) rfl (List.mem_of_getElem? (i := 3) rfl) ?_
        rcases ite_some h with ⟨c6, h⟩ | ⟨c6, h⟩
        · refine EX.go (i := .ifCond .ge 6) (len := 3) (pc1 := 29) (st1 := []) (hi1 := z3.2.1) (hl1 := z3.2.2) rfl ?_ (fun _ _ _ => if_pos c6)
          refine EX.aload_n (x := 0) rfl (List.mem_of_getElem? (i := 0) rfl) ?_
          refine EX.go (i := .getfield 82) (len := 3) (pc1 := 33) (st1 := [.ref 56]) (hi1 := z3.2.1) (hl1 := z3.2.2) rfl ?_ (fun _ _ _ => rfl)
          refine EX.iload_n (x := p1) rfl (List.mem_of_getElem? (i := 1) rfl) ?_
          obtain ⟨g7, h⟩ := grd_some h
          refine EX.aaloadS (b := 57 + 2 * Int32.toNatClampNeg (p1)) rfl rfl g7 (sh_at g7).1 (sh_at g7).2 ?_
          refine EX.iload_n (x := p2) rfl (List.mem_of_getElem? (i := 2) rfl) ?_
          refine EX.iload_n (x := p3) rfl (List.mem_of_getElem? (i := 3) rfl) ?_
          obtain ⟨k_57___2___Int32_toNatClampNeg__p1_, h⟩ := grp_some h
          obtain ⟨z8, hz8, h⟩ := bnd_some h
          refine EX.callV (b := (57 + 2 * Int32.toNatClampNeg (p1))) (as := [.int (p2), .int (p3)]) (rest := []) (r := none) (hi1 := z8.2.1) (hl1 := z8.2.2) rfl rfl rfl rfl (gS_in k_57___2___Int32_toNatClampNeg__p1_) rfl ((b_Sheet_renew ev hz8).mono (by decide)) ?_
          show EX w0 ev 2 m_LW_sheet 40 [(0, .ref 0), (1, .int (p1)), (2, .int (p2)), (3, .int (p3))] [] (z8.2.1) (z8.2.2) (oI o)
          refine EX.iconst (v := 1) rfl rfl ?_
          obtain rfl := Option.some.inj h
          exact EX.iret rfl rfl
        · refine EX.go (i := .ifCond .ge 6) (len := 3) (pc1 := 26) (st1 := []) (hi1 := z3.2.1) (hl1 := z3.2.2) rfl ?_ (fun _ _ _ => if_neg c6)
          refine EX.bipush (v := (-14)) rfl rfl ?_
          obtain rfl := Option.some.inj h
          exact EX.iret rfl rfl
      · refine EX.go (i := .if_icmp .le 5) (len := 3) (pc1 := 20) (st1 := []) (hi1 := z3.2.1) (hl1 := z3.2.2) rfl ?_ (fun _ _ _ => if_neg c5)
        refine EX.iconst (v := (-1)) rfl rfl ?_
        obtain rfl := Option.some.inj h
        exact EX.iret rfl rfl
def f_LW_lay (N : Nat) (p1 : Int32) (p2 : Int32) (p3 : Int32) (hi : HI) (hl : HL) : Option (Int32 × HI × HL) :=
  (f_LW_isSheet N (p1) (hi) (hl)).bind fun z1 => if (z1.1 : Int32) = 0 then some ((-1), z1.2.1, z1.2.2) else if (p1 : Int32) < 0 ∨ 4 ≤ Int32.toNatClampNeg (p1) then none else if gS (57 + 2 * Int32.toNatClampNeg (p1)) then if (z1.2.1 (57 + 2 * Int32.toNatClampNeg (p1)) 1 : Int32) = ((-4) : Int32) then some ((-11), z1.2.1, z1.2.2) else (f_Sheet_isCell N (57 + 2 * Int32.toNatClampNeg (p1)) (p2) (z1.2.1) (z1.2.2)).bind fun z5 => if (z5.1 : Int32) = 0 then some ((-12), z5.2.1, z5.2.2) else (f_Sheet_put N (57 + 2 * Int32.toNatClampNeg (p1)) (p2) (p3) (z5.2.1) (z5.2.2)).bind fun z7 => some (1, z7.2.1, z7.2.2) else none
set_option maxRecDepth 10000 in
set_option maxHeartbeats 4000000 in
theorem b_LW_lay (ev : EV) {N : Nat} {p1 : Int32} {p2 : Int32} {p3 : Int32} {hi : HI} {hl : HL} {o : Int32 × HI × HL} (h : f_LW_lay N p1 p2 p3 hi hl = some o) : EM w0 ev 2 m_LW_lay [.ref 0, .int (p1), .int (p2), .int (p3)] hi hl (oI o) := by
  unfold f_LW_lay at h
  refine EM.of rfl ?_
  show EX w0 ev 1 m_LW_lay 0 [(0, .ref 0), (1, .int (p1)), (2, .int (p2)), (3, .int (p3))] [] (hi) (hl) (oI o)
  refine EX.iload_n (x := p1) rfl (List.mem_of_getElem? (i := 1) rfl) ?_
  obtain ⟨z1, hz1, h⟩ := bnd_some h
  refine EX.callS (as := [.int (p1)]) (rest := []) (r := some (.int (z1.1))) (hi1 := z1.2.1) (hl1 := z1.2.2) rfl rfl rfl rfl rfl rfl ((b_LW_isSheet ev hz1).mono (by decide)) ?_
  show EX w0 ev 1 m_LW_lay 4 [(0, .ref 0), (1, .int (p1)), (2, .int (p2)), (3, .int (p3))] [.int (z1.1)] (z1.2.1) (z1.2.2) (oI o)
  rcases ite_some h with ⟨c2, h⟩ | ⟨c2, h⟩
  · refine EX.go (i := .ifCond .ne 5) (len := 3) (pc1 := 7) (st1 := []) (hi1 := z1.2.1) (hl1 := z1.2.2) rfl ?_ (fun _ _ _ => if_pos c2)
    refine EX.iconst (v := (-1)) rfl rfl ?_
    obtain rfl := Option.some.inj h
    exact EX.iret rfl rfl
  · refine EX.go (i := .ifCond .ne 5) (len := 3) (pc1 := 9) (st1 := []) (hi1 := z1.2.1) (hl1 := z1.2.2) rfl ?_ (fun _ _ _ => if_neg c2)
    refine EX.aload_n (x := 0) rfl (List.mem_of_getElem? (i := 0) rfl) ?_
    refine EX.go (i := .getfield 82) (len := 3) (pc1 := 13) (st1 := [.ref 56]) (hi1 := z1.2.1) (hl1 := z1.2.2) rfl ?_ (fun _ _ _ => rfl)
    refine EX.iload_n (x := p1) rfl (List.mem_of_getElem? (i := 1) rfl) ?_
    obtain ⟨g3, h⟩ := grd_some h
    refine EX.aaloadS (b := 57 + 2 * Int32.toNatClampNeg (p1)) rfl rfl g3 (sh_at g3).1 (sh_at g3).2 ?_
    refine EX.astore (req1 := [(4, .ref (57 + 2 * Int32.toNatClampNeg (p1))), (0, .ref 0), (1, .int (p1)), (2, .int (p2)), (3, .int (p3))]) rfl rfl rfl ?_
    refine EX.aload (x := 57 + 2 * Int32.toNatClampNeg (p1)) rfl (List.mem_of_getElem? (i := 0) rfl) ?_
    obtain ⟨k_57___2___Int32_toNatClampNeg__p1_, h⟩ := grp_some h
    refine EX.getfieldV (v := .int (z1.2.1 (57 + 2 * Int32.toNatClampNeg (p1)) 1)) rfl rfl k_57___2___Int32_toNatClampNeg__p1_.1 rfl rfl ?_
    refine EX.bipush (v := (-4)) rfl rfl ?_
    rcases ite_some h with ⟨c4, h⟩ | ⟨c4, h⟩
    · refine EX.go (i := .if_icmp .ne 6) (len := 3) (pc1 := 27) (st1 := []) (hi1 := z1.2.1) (hl1 := z1.2.2) rfl ?_ (fun _ _ _ => if_pos c4)
      refine EX.bipush (v := (-11)) rfl rfl ?_
      obtain rfl := Option.some.inj h
      exact EX.iret rfl rfl
    · refine EX.go (i := .if_icmp .ne 6) (len := 3) (pc1 := 30) (st1 := []) (hi1 := z1.2.1) (hl1 := z1.2.2) rfl ?_ (fun _ _ _ => if_neg c4)
      refine EX.aload (x := 57 + 2 * Int32.toNatClampNeg (p1)) rfl (List.mem_of_getElem? (i := 0) rfl) ?_
      refine EX.iload_n (x := p2) rfl (List.mem_of_getElem? (i := 3) rfl) ?_
      obtain ⟨z5, hz5, h⟩ := bnd_some h
      refine EX.callV (b := (57 + 2 * Int32.toNatClampNeg (p1))) (as := [.int (p2)]) (rest := []) (r := some (.int (z5.1))) (hi1 := z5.2.1) (hl1 := z5.2.2) rfl rfl rfl rfl (gS_in k_57___2___Int32_toNatClampNeg__p1_) rfl ((b_Sheet_isCell ev hz5).mono (by decide)) ?_
      show EX w0 ev 1 m_LW_lay 36 [(4, .ref (57 + 2 * Int32.toNatClampNeg (p1))), (0, .ref 0), (1, .int (p1)), (2, .int (p2)), (3, .int (p3))] [.int (z5.1)] (z5.2.1) (z5.2.2) (oI o)
      rcases ite_some h with ⟨c6, h⟩ | ⟨c6, h⟩
      · refine EX.go (i := .ifCond .ne 6) (len := 3) (pc1 := 39) (st1 := []) (hi1 := z5.2.1) (hl1 := z5.2.2) rfl ?_ (fun _ _ _ => if_pos c6)
        refine EX.bipush (v := (-12)) rfl rfl ?_
        obtain rfl := Option.some.inj h
        exact EX.iret rfl rfl
      · refine EX.go (i := .ifCond .ne 6) (len := 3) (pc1 := 42) (st1 := []) (hi1 := z5.2.1) (hl1 := z5.2.2) rfl ?_ (fun _ _ _ => if_neg c6)
        refine EX.aload (x := 57 + 2 * Int32.toNatClampNeg (p1)) rfl (List.mem_of_getElem? (i := 0) rfl) ?_
        refine EX.iload_n (x := p2) rfl (List.mem_of_getElem? (i := 3) rfl) ?_
        refine EX.iload_n (x := p3) rfl (List.mem_of_getElem? (i := 4) rfl) ?_
        obtain ⟨z7, hz7, h⟩ := bnd_some h
        refine EX.callV (b := (57 + 2 * Int32.toNatClampNeg (p1))) (as := [.int (p2), .int (p3)]) (rest := []) (r := none) (hi1 := z7.2.1) (hl1 := z7.2.2) rfl rfl rfl rfl (gS_in k_57___2___Int32_toNatClampNeg__p1_) rfl ((b_Sheet_put ev hz7).mono (by decide)) ?_
        show EX w0 ev 1 m_LW_lay 49 [(4, .ref (57 + 2 * Int32.toNatClampNeg (p1))), (0, .ref 0), (1, .int (p1)), (2, .int (p2)), (3, .int (p3))] [] (z7.2.1) (z7.2.2) (oI o)
        refine EX.iconst (v := 1) rfl rfl ?_
        obtain rfl := Option.some.inj h
        exact EX.iret rfl rfl
def B_LW_levels_52 (N : Nat) (v3 : Int32) (v4 : Nat) (v5 : Int32) (hi : HI) (hl : HL) : Option ((Int32 × HI × HL) ⊕ (Nat × Int32 × HI × HL)) :=
  if (hi 1 2 : Int32) ≤ (v5 : Int32) then some (.inr (0, v5, hi, hl)) else if gS (v4) then (f_Sheet_isCell N (v4) ((v3 + v5)) (hi) (hl)).bind fun z9 => if (z9.1 : Int32) = 0 then some (.inr (1, v5, z9.2.1, z9.2.2)) else if ((v3 + v5) : Int32) < 0 ∨ 40 ≤ Int32.toNatClampNeg ((v3 + v5)) then none else (f_LW_isLevel N (z9.2.1 (v4 + 1) (Int32.toNatClampNeg ((v3 + v5)))) (z9.2.1) (z9.2.2)).bind fun z12 => if (z12.1 : Int32) = 0 then some (.inr (2, v5, z12.2.1, z12.2.2)) else some (.inl (v5 + 1, z12.2.1, z12.2.2)) else none
set_option maxRecDepth 10000 in
set_option maxHeartbeats 4000000 in
theorem bB_LW_levels_52 (ev : EV) {N : Nat} {v3 : Int32} {v4 : Nat} {v5 : Int32} {hi : HI} {hl : HL} {z : (Int32 × HI × HL) ⊕ (Nat × Int32 × HI × HL)} {OUT : Option Value × HI × HL} (h : B_LW_levels_52 N v3 v4 v5 hi hl = some z) (hk : Sum.elim (fun s => EX w0 ev 1 m_LW_levels 52 [(0, .ref 0), (3, .int (v3)), (4, .ref (v4)), (5, .int (s.1))] [] (s.2.1) (s.2.2) OUT) (fun x => (x.1 = 0 → EX w0 ev 1 m_LW_levels 107 [(0, .ref 0), (3, .int (v3)), (4, .ref (v4))] [] (x.2.2.1) (x.2.2.2) OUT) ∧ (x.1 = 1 → EX w0 ev 1 m_LW_levels 76 [] [] (x.2.2.1) (x.2.2.2) OUT) ∧ (x.1 = 2 → EX w0 ev 1 m_LW_levels 95 [(5, .int (x.2.1))] [] (x.2.2.1) (x.2.2.2) OUT)) z) : EX w0 ev 1 m_LW_levels 52 [(0, .ref 0), (3, .int (v3)), (4, .ref (v4)), (5, .int (v5))] [] (hi) (hl) OUT := by
  unfold B_LW_levels_52 at h
  refine EX.iload (x := v5) rfl (List.mem_of_getElem? (i := 3) rfl) ?_
  refine EX.aload_n (x := 0) rfl (List.mem_of_getElem? (i := 0) rfl) ?_
  refine EX.go (i := .getfield 12) (len := 3) (pc1 := 58) (st1 := [.ref 1, .int (v5)]) (hi1 := hi) (hl1 := hl) rfl ?_ (fun _ _ _ => rfl)
  refine EX.go (i := .getfield 115) (len := 3) (pc1 := 61) (st1 := [.int (hi 1 2), .int (v5)]) (hi1 := hi) (hl1 := hl) rfl ?_ (fun _ _ _ => rfl)
  rcases ite_some h with ⟨c8, h⟩ | ⟨c8, h⟩
  · refine EX.go (i := .if_icmp .ge 46) (len := 3) (pc1 := 107) (st1 := []) (hi1 := hi) (hl1 := hl) rfl ?_ (fun _ _ _ => if_pos c8)
    obtain rfl := Option.some.inj h
    have hk := hk.1 rfl
    have hk : EX w0 ev 1 m_LW_levels 107 [(0, .ref 0), (3, .int (v3)), (4, .ref (v4))] [] (hi) (hl) OUT := hk
    exact EX.pick [0, 1, 2] hk rfl
  · refine EX.go (i := .if_icmp .ge 46) (len := 3) (pc1 := 64) (st1 := []) (hi1 := hi) (hl1 := hl) rfl ?_ (fun _ _ _ => if_neg c8)
    refine EX.aload (x := v4) rfl (List.mem_of_getElem? (i := 2) rfl) ?_
    refine EX.iload_n (x := v3) rfl (List.mem_of_getElem? (i := 1) rfl) ?_
    refine EX.iload (x := v5) rfl (List.mem_of_getElem? (i := 3) rfl) ?_
    refine EX.go (i := .iadd) (len := 1) (pc1 := 70) (st1 := [.int ((v3 + v5)), .ref (v4)]) (hi1 := hi) (hl1 := hl) rfl ?_ (fun _ _ _ => rfl)
    obtain ⟨k_v4, h⟩ := grp_some h
    obtain ⟨z9, hz9, h⟩ := bnd_some h
    refine EX.callV (b := (v4)) (as := [.int ((v3 + v5))]) (rest := []) (r := some (.int (z9.1))) (hi1 := z9.2.1) (hl1 := z9.2.2) rfl rfl rfl rfl (gS_in k_v4) rfl ((b_Sheet_isCell ev hz9).mono (by decide)) ?_
    show EX w0 ev 1 m_LW_levels 73 [(0, .ref 0), (3, .int (v3)), (4, .ref (v4)), (5, .int (v5))] [.int (z9.1)] (z9.2.1) (z9.2.2) OUT
    rcases ite_some h with ⟨c10, h⟩ | ⟨c10, h⟩
    · refine EX.go (i := .ifCond .ne 6) (len := 3) (pc1 := 76) (st1 := []) (hi1 := z9.2.1) (hl1 := z9.2.2) rfl ?_ (fun _ _ _ => if_pos c10)
      obtain rfl := Option.some.inj h
      have hk := hk.2.1 rfl
      have hk : EX w0 ev 1 m_LW_levels 76 [] [] (z9.2.1) (z9.2.2) OUT := hk
      exact EX.pick [] hk rfl
    · refine EX.go (i := .ifCond .ne 6) (len := 3) (pc1 := 79) (st1 := []) (hi1 := z9.2.1) (hl1 := z9.2.2) rfl ?_ (fun _ _ _ => if_neg c10)
      refine EX.aload (x := v4) rfl (List.mem_of_getElem? (i := 2) rfl) ?_
      refine EX.getfieldV (v := .ref (v4 + 1)) rfl rfl k_v4.1 rfl rfl ?_
      refine EX.iload_n (x := v3) rfl (List.mem_of_getElem? (i := 1) rfl) ?_
      refine EX.iload (x := v5) rfl (List.mem_of_getElem? (i := 3) rfl) ?_
      refine EX.go (i := .iadd) (len := 1) (pc1 := 88) (st1 := [.int ((v3 + v5)), .ref (v4 + 1)]) (hi1 := z9.2.1) (hl1 := z9.2.2) rfl ?_ (fun _ _ _ => rfl)
      obtain ⟨g11, h⟩ := grd_some h
      refine EX.iaload rfl k_v4.2 g11 ?_
      obtain ⟨z12, hz12, h⟩ := bnd_some h
      refine EX.callS (as := [.int (z9.2.1 (v4 + 1) (Int32.toNatClampNeg ((v3 + v5))))]) (rest := []) (r := some (.int (z12.1))) (hi1 := z12.2.1) (hl1 := z12.2.2) rfl rfl rfl rfl rfl rfl ((b_LW_isLevel ev hz12).mono (by decide)) ?_
      show EX w0 ev 1 m_LW_levels 92 [(0, .ref 0), (3, .int (v3)), (4, .ref (v4)), (5, .int (v5))] [.int (z12.1)] (z12.2.1) (z12.2.2) OUT
      rcases ite_some h with ⟨c13, h⟩ | ⟨c13, h⟩
      · refine EX.go (i := .ifCond .ne 9) (len := 3) (pc1 := 95) (st1 := []) (hi1 := z12.2.1) (hl1 := z12.2.2) rfl ?_ (fun _ _ _ => if_pos c13)
        obtain rfl := Option.some.inj h
        have hk := hk.2.2 rfl
        have hk : EX w0 ev 1 m_LW_levels 95 [(5, .int (v5))] [] (z12.2.1) (z12.2.2) OUT := hk
        exact EX.pick [3] hk rfl
      · refine EX.go (i := .ifCond .ne 9) (len := 3) (pc1 := 101) (st1 := []) (hi1 := z12.2.1) (hl1 := z12.2.2) rfl ?_ (fun _ _ _ => if_neg c13)
        refine EX.iinc (x := v5) (v := v5 + 1) (req1 := [(5, .int (v5 + 1)), (0, .ref 0), (3, .int (v3)), (4, .ref (v4))]) rfl rfl (List.mem_of_getElem? (i := 3) rfl) rfl rfl ?_
        refine EX.go (i := .goto (-52)) (len := 3) (pc1 := 52) (st1 := []) (hi1 := z12.2.1) (hl1 := z12.2.2) rfl ?_ (fun _ _ _ => rfl)
        obtain rfl := Option.some.inj h
        have hk : EX w0 ev 1 m_LW_levels 52 [(0, .ref 0), (3, .int (v3)), (4, .ref (v4)), (5, .int (v5 + 1))] [] (z12.2.1) (z12.2.2) OUT := hk
        exact EX.pick [1, 2, 3, 0] hk rfl
def f_LW_levels (N : Nat) (p1 : Int32) (p2 : Int32) (p3 : Int32) (hi : HI) (hl : HL) : Option (Int32 × HI × HL) :=
  (f_LW_isSheet N (p1) (hi) (hl)).bind fun z1 => if (z1.1 : Int32) = 0 then some ((-1), z1.2.1, z1.2.2) else (f_LW_isLane N (p2) (z1.2.1) (z1.2.2)).bind fun z3 => if (z3.1 : Int32) = 0 then some ((-1), z3.2.1, z3.2.2) else if (p1 : Int32) < 0 ∨ 4 ≤ Int32.toNatClampNeg (p1) then none else if gS (57 + 2 * Int32.toNatClampNeg (p1)) then if (z3.2.1 (57 + 2 * Int32.toNatClampNeg (p1)) 1 : Int32) = ((-4) : Int32) then some ((-11), z3.2.1, z3.2.2) else if (z3.2.1 (57 + 2 * Int32.toNatClampNeg (p1)) 0 : Int32) = (p2 : Int32) then (lpN (fun s => B_LW_levels_52 N (p3) (57 + 2 * Int32.toNatClampNeg (p1)) s.1 s.2.1 s.2.2) N (0, z3.2.1, z3.2.2)).bind fun x14 => if x14.1 = 0 then (f_Board_takeLevels N (57 + 2 * Int32.toNatClampNeg (p1)) (p3) (x14.2.2.1) (x14.2.2.2)).bind fun z16 => some (z16.1, z16.2.1, z16.2.2) else if x14.1 = 1 then some ((-12), x14.2.2.1, x14.2.2.2) else some ((((-20) : Int32) - (x14.2.1)), x14.2.2.1, x14.2.2.2) else some ((-13), z3.2.1, z3.2.2) else none
set_option maxRecDepth 10000 in
set_option maxHeartbeats 4000000 in
theorem b_LW_levels (ev : EV) {N : Nat} {p1 : Int32} {p2 : Int32} {p3 : Int32} {hi : HI} {hl : HL} {o : Int32 × HI × HL} (h : f_LW_levels N p1 p2 p3 hi hl = some o) : EM w0 ev 2 m_LW_levels [.ref 0, .int (p1), .int (p2), .int (p3)] hi hl (oI o) := by
  unfold f_LW_levels at h
  refine EM.of rfl ?_
  show EX w0 ev 1 m_LW_levels 0 [(0, .ref 0), (1, .int (p1)), (2, .int (p2)), (3, .int (p3))] [] (hi) (hl) (oI o)
  refine EX.iload_n (x := p1) rfl (List.mem_of_getElem? (i := 1) rfl) ?_
  obtain ⟨z1, hz1, h⟩ := bnd_some h
  refine EX.callS (as := [.int (p1)]) (rest := []) (r := some (.int (z1.1))) (hi1 := z1.2.1) (hl1 := z1.2.2) rfl rfl rfl rfl rfl rfl ((b_LW_isSheet ev hz1).mono (by decide)) ?_
  show EX w0 ev 1 m_LW_levels 4 [(0, .ref 0), (1, .int (p1)), (2, .int (p2)), (3, .int (p3))] [.int (z1.1)] (z1.2.1) (z1.2.2) (oI o)
  rcases ite_some h with ⟨c2, h⟩ | ⟨c2, h⟩
  · refine EX.go (i := .ifCond .eq 10) (len := 3) (pc1 := 14) (st1 := []) (hi1 := z1.2.1) (hl1 := z1.2.2) rfl ?_ (fun _ _ _ => if_pos c2)
    refine EX.iconst (v := (-1)) rfl rfl ?_
    obtain rfl := Option.some.inj h
    exact EX.iret rfl rfl
  · refine EX.go (i := .ifCond .eq 10) (len := 3) (pc1 := 7) (st1 := []) (hi1 := z1.2.1) (hl1 := z1.2.2) rfl ?_ (fun _ _ _ => if_neg c2)
    refine EX.iload_n (x := p2) rfl (List.mem_of_getElem? (i := 2) rfl) ?_
    obtain ⟨z3, hz3, h⟩ := bnd_some h
    refine EX.callS (as := [.int (p2)]) (rest := []) (r := some (.int (z3.1))) (hi1 := z3.2.1) (hl1 := z3.2.2) rfl rfl rfl rfl rfl rfl ((b_LW_isLane ev hz3).mono (by decide)) ?_
    show EX w0 ev 1 m_LW_levels 11 [(0, .ref 0), (1, .int (p1)), (2, .int (p2)), (3, .int (p3))] [.int (z3.1)] (z3.2.1) (z3.2.2) (oI o)
    rcases ite_some h with ⟨c4, h⟩ | ⟨c4, h⟩
    · refine EX.go (i := .ifCond .ne 5) (len := 3) (pc1 := 14) (st1 := []) (hi1 := z3.2.1) (hl1 := z3.2.2) rfl ?_ (fun _ _ _ => if_pos c4)
      refine EX.iconst (v := (-1)) rfl rfl ?_
      obtain rfl := Option.some.inj h
      exact EX.iret rfl rfl
    · refine EX.go (i := .ifCond .ne 5) (len := 3) (pc1 := 16) (st1 := []) (hi1 := z3.2.1) (hl1 := z3.2.2) rfl ?_ (fun _ _ _ => if_neg c4)
      refine EX.aload_n (x := 0) rfl (List.mem_of_getElem? (i := 0) rfl) ?_
      refine EX.go (i := .getfield 82) (len := 3) (pc1 := 20) (st1 := [.ref 56]) (hi1 := z3.2.1) (hl1 := z3.2.2) rfl ?_ (fun _ _ _ => rfl)
      refine EX.iload_n (x := p1) rfl (List.mem_of_getElem? (i := 1) rfl) ?_
      obtain ⟨g5, h⟩ := grd_some h
      refine EX.aaloadS (b := 57 + 2 * Int32.toNatClampNeg (p1)) rfl rfl g5 (sh_at g5).1 (sh_at g5).2 ?_
      refine EX.astore (req1 := [(4, .ref (57 + 2 * Int32.toNatClampNeg (p1))), (0, .ref 0), (1, .int (p1)), (2, .int (p2)), (3, .int (p3))]) rfl rfl rfl ?_
      refine EX.aload (x := 57 + 2 * Int32.toNatClampNeg (p1)) rfl (List.mem_of_getElem? (i := 0) rfl) ?_
      obtain ⟨k_57___2___Int32_toNatClampNeg__p1_, h⟩ := grp_some h
      refine EX.getfieldV (v := .int (z3.2.1 (57 + 2 * Int32.toNatClampNeg (p1)) 1)) rfl rfl k_57___2___Int32_toNatClampNeg__p1_.1 rfl rfl ?_
      refine EX.bipush (v := (-4)) rfl rfl ?_
      rcases ite_some h with ⟨c6, h⟩ | ⟨c6, h⟩
      · refine EX.go (i := .if_icmp .ne 6) (len := 3) (pc1 := 34) (st1 := []) (hi1 := z3.2.1) (hl1 := z3.2.2) rfl ?_ (fun _ _ _ => if_pos c6)
        refine EX.bipush (v := (-11)) rfl rfl ?_
        obtain rfl := Option.some.inj h
        exact EX.iret rfl rfl
      · refine EX.go (i := .if_icmp .ne 6) (len := 3) (pc1 := 37) (st1 := []) (hi1 := z3.2.1) (hl1 := z3.2.2) rfl ?_ (fun _ _ _ => if_neg c6)
        refine EX.aload (x := 57 + 2 * Int32.toNatClampNeg (p1)) rfl (List.mem_of_getElem? (i := 0) rfl) ?_
        refine EX.getfieldV (v := .int (z3.2.1 (57 + 2 * Int32.toNatClampNeg (p1)) 0)) rfl rfl k_57___2___Int32_toNatClampNeg__p1_.1 rfl rfl ?_
        refine EX.iload_n (x := p2) rfl (List.mem_of_getElem? (i := 3) rfl) ?_
        rcases ite_some h with ⟨c7, h⟩ | ⟨c7, h⟩
        · refine EX.go (i := .if_icmp .eq 6) (len := 3) (pc1 := 49) (st1 := []) (hi1 := z3.2.1) (hl1 := z3.2.2) rfl ?_ (fun _ _ _ => if_pos c7)
          refine EX.iconst (v := 0) rfl rfl ?_
          refine EX.istore (req1 := [(5, .int (0)), (4, .ref (57 + 2 * Int32.toNatClampNeg (p1))), (0, .ref 0), (1, .int (p1)), (2, .int (p2)), (3, .int (p3))]) rfl rfl rfl ?_
          obtain ⟨x14, hx14, h⟩ := bnd_some h
          refine EX.pick [2, 5, 1, 0] ?_ rfl
          refine lp_sound (f := fun s => B_LW_levels_52 N (p3) (57 + 2 * Int32.toNatClampNeg (p1)) s.1 s.2.1 s.2.2) (PS := fun s => EX w0 ev 1 m_LW_levels 52 [(0, .ref 0), (3, .int (p3)), (4, .ref (57 + 2 * Int32.toNatClampNeg (p1))), (5, .int (s.1))] [] (s.2.1) (s.2.2) (oI o)) (PX := fun x => (x.1 = 0 → EX w0 ev 1 m_LW_levels 107 [(0, .ref 0), (3, .int (p3)), (4, .ref (57 + 2 * Int32.toNatClampNeg (p1)))] [] (x.2.2.1) (x.2.2.2) (oI o)) ∧ (x.1 = 1 → EX w0 ev 1 m_LW_levels 76 [] [] (x.2.2.1) (x.2.2.2) (oI o)) ∧ (x.1 = 2 → EX w0 ev 1 m_LW_levels 95 [(5, .int (x.2.1))] [] (x.2.2.1) (x.2.2.2) (oI o))) ?_ N _ x14 hx14 ?_
          · exact fun s z hz hk => bB_LW_levels_52 ev hz hk
          rcases ite_some h with ⟨c15, h⟩ | ⟨c15, h⟩
          · refine ⟨fun _ => ?_, fun e9 => absurd (c15.symm.trans e9) (by decide), fun e9 => absurd (c15.symm.trans e9) (by decide)⟩
            show EX w0 ev 1 m_LW_levels 107 [(0, .ref 0), (3, .int (p3)), (4, .ref (57 + 2 * Int32.toNatClampNeg (p1)))] [] (x14.2.2.1) (x14.2.2.2) (oI o)
            refine EX.aload_n (x := 0) rfl (List.mem_of_getElem? (i := 0) rfl) ?_
            refine EX.go (i := .getfield 12) (len := 3) (pc1 := 111) (st1 := [.ref 1]) (hi1 := x14.2.2.1) (hl1 := x14.2.2.2) rfl ?_ (fun _ _ _ => rfl)
            refine EX.aload (x := 57 + 2 * Int32.toNatClampNeg (p1)) rfl (List.mem_of_getElem? (i := 2) rfl) ?_
            refine EX.iload_n (x := p3) rfl (List.mem_of_getElem? (i := 1) rfl) ?_
            obtain ⟨z16, hz16, h⟩ := bnd_some h
            refine EX.callV (b := 1) (as := [.ref (57 + 2 * Int32.toNatClampNeg (p1)), .int (p3)]) (rest := []) (r := some (.int (z16.1))) (hi1 := z16.2.1) (hl1 := z16.2.2) rfl rfl rfl rfl rfl rfl ((b_Board_takeLevels ev hz16).mono (by decide)) ?_
            show EX w0 ev 1 m_LW_levels 117 [(0, .ref 0), (3, .int (p3)), (4, .ref (57 + 2 * Int32.toNatClampNeg (p1)))] [.int (z16.1)] (z16.2.1) (z16.2.2) (oI o)
            obtain rfl := Option.some.inj h
            exact EX.iret rfl rfl
          · rcases ite_some h with ⟨c17, h⟩ | ⟨c17, h⟩
            · refine ⟨fun e9 => absurd e9 c15, fun _ => ?_, fun e9 => absurd (c17.symm.trans e9) (by decide)⟩
              show EX w0 ev 1 m_LW_levels 76 [] [] (x14.2.2.1) (x14.2.2.2) (oI o)
              refine EX.bipush (v := (-12)) rfl rfl ?_
              obtain rfl := Option.some.inj h
              exact EX.iret rfl rfl
            · refine ⟨fun e9 => absurd e9 c15, fun e9 => absurd e9 c17, fun _ => ?_⟩
              show EX w0 ev 1 m_LW_levels 95 [(5, .int (x14.2.1))] [] (x14.2.2.1) (x14.2.2.2) (oI o)
              refine EX.bipush (v := (-20)) rfl rfl ?_
              refine EX.iload (x := x14.2.1) rfl (List.mem_of_getElem? (i := 0) rfl) ?_
              refine EX.go (i := .isub) (len := 1) (pc1 := 100) (st1 := [.int ((((-20) : Int32) - (x14.2.1)))]) (hi1 := x14.2.2.1) (hl1 := x14.2.2.2) rfl ?_ (fun _ _ _ => rfl)
              obtain rfl := Option.some.inj h
              exact EX.iret rfl rfl
        · refine EX.go (i := .if_icmp .eq 6) (len := 3) (pc1 := 46) (st1 := []) (hi1 := z3.2.1) (hl1 := z3.2.2) rfl ?_ (fun _ _ _ => if_neg c7)
          refine EX.bipush (v := (-13)) rfl rfl ?_
          obtain rfl := Option.some.inj h
          exact EX.iret rfl rfl
def f_LW_count (N : Nat) (p1 : Int32) (hi : HI) (hl : HL) : Option (Int32 × HI × HL) :=
  if (p1 : Int32) = 0 then some (hi 1 0, hi, hl) else if (p1 : Int32) = 1 then some (hi 1 2, hi, hl) else if (p1 : Int32) = 2 then some (hi 1 1, hi, hl) else if (p1 : Int32) = 3 then (f_Board_lampsThatAre N (1) (hi) (hl)).bind fun z5 => some (z5.1, z5.2.1, z5.2.2) else if (p1 : Int32) = 4 then (f_Board_lampsThatAre N (2) (hi) (hl)).bind fun z7 => some (z7.1, z7.2.1, z7.2.2) else if (p1 : Int32) = 5 then some (hi 47 0, hi, hl) else if (p1 : Int32) = 6 then (f_Script_linesSeen N (hi) (hl)).bind fun z10 => some (z10.1, z10.2.1, z10.2.2) else if (p1 : Int32) = 7 then (f_Board_levelSum N (hi) (hl)).bind fun z12 => some (z12.1, z12.2.1, z12.2.2) else if (p1 : Int32) = 8 then some (hi 43 0, hi, hl) else if (p1 : Int32) = 9 then if (0 : Int32) < 0 ∨ 4 ≤ Int32.toNatClampNeg (0) then none else if gS (57 + 2 * Int32.toNatClampNeg (0)) then some (hi (57 + 2 * Int32.toNatClampNeg (0)) 1, hi, hl) else none else some ((-1), hi, hl)
set_option maxRecDepth 10000 in
set_option maxHeartbeats 4000000 in
theorem b_LW_count (ev : EV) {N : Nat} {p1 : Int32} {hi : HI} {hl : HL} {o : Int32 × HI × HL} (h : f_LW_count N p1 hi hl = some o) : EM w0 ev 2 m_LW_count [.ref 0, .int (p1)] hi hl (oI o) := by
  unfold f_LW_count at h
  refine EM.of rfl ?_
  show EX w0 ev 1 m_LW_count 0 [(0, .ref 0), (1, .int (p1))] [] (hi) (hl) (oI o)
  refine EX.iload_n (x := p1) rfl (List.mem_of_getElem? (i := 1) rfl) ?_
  rcases ite_some h with ⟨c1, h⟩ | ⟨c1, h⟩
  · refine EX.tswI (x := p1) (k := 0) (pc1 := 56) rfl c1 (fun _ _ _ => rfl) ?_
    refine EX.aload_n (x := 0) rfl (List.mem_of_getElem? (i := 0) rfl) ?_
    refine EX.go (i := .getfield 12) (len := 3) (pc1 := 60) (st1 := [.ref 1]) (hi1 := hi) (hl1 := hl) rfl ?_ (fun _ _ _ => rfl)
    refine EX.go (i := .getfield 87) (len := 3) (pc1 := 63) (st1 := [.int (hi 1 0)]) (hi1 := hi) (hl1 := hl) rfl ?_ (fun _ _ _ => rfl)
    obtain rfl := Option.some.inj h
    exact EX.iret rfl rfl
  · rcases ite_some h with ⟨c2, h⟩ | ⟨c2, h⟩
    · refine EX.tswI (x := p1) (k := 1) (pc1 := 64) rfl c2 (fun _ _ _ => rfl) ?_
      refine EX.aload_n (x := 0) rfl (List.mem_of_getElem? (i := 0) rfl) ?_
      refine EX.go (i := .getfield 12) (len := 3) (pc1 := 68) (st1 := [.ref 1]) (hi1 := hi) (hl1 := hl) rfl ?_ (fun _ _ _ => rfl)
      refine EX.go (i := .getfield 115) (len := 3) (pc1 := 71) (st1 := [.int (hi 1 2)]) (hi1 := hi) (hl1 := hl) rfl ?_ (fun _ _ _ => rfl)
      obtain rfl := Option.some.inj h
      exact EX.iret rfl rfl
    · rcases ite_some h with ⟨c3, h⟩ | ⟨c3, h⟩
      · refine EX.tswI (x := p1) (k := 2) (pc1 := 72) rfl c3 (fun _ _ _ => rfl) ?_
        refine EX.aload_n (x := 0) rfl (List.mem_of_getElem? (i := 0) rfl) ?_
        refine EX.go (i := .getfield 12) (len := 3) (pc1 := 76) (st1 := [.ref 1]) (hi1 := hi) (hl1 := hl) rfl ?_ (fun _ _ _ => rfl)
        refine EX.go (i := .getfield 104) (len := 3) (pc1 := 79) (st1 := [.int (hi 1 1)]) (hi1 := hi) (hl1 := hl) rfl ?_ (fun _ _ _ => rfl)
        obtain rfl := Option.some.inj h
        exact EX.iret rfl rfl
      · rcases ite_some h with ⟨c4, h⟩ | ⟨c4, h⟩
        · refine EX.tswI (x := p1) (k := 3) (pc1 := 80) rfl c4 (fun _ _ _ => rfl) ?_
          refine EX.aload_n (x := 0) rfl (List.mem_of_getElem? (i := 0) rfl) ?_
          refine EX.go (i := .getfield 12) (len := 3) (pc1 := 84) (st1 := [.ref 1]) (hi1 := hi) (hl1 := hl) rfl ?_ (fun _ _ _ => rfl)
          refine EX.iconst (v := 1) rfl rfl ?_
          obtain ⟨z5, hz5, h⟩ := bnd_some h
          refine EX.callV (b := 1) (as := [.int (1)]) (rest := []) (r := some (.int (z5.1))) (hi1 := z5.2.1) (hl1 := z5.2.2) rfl rfl rfl rfl rfl rfl ((b_Board_lampsThatAre ev hz5).mono (by decide)) ?_
          show EX w0 ev 1 m_LW_count 88 [(0, .ref 0), (1, .int (p1))] [.int (z5.1)] (z5.2.1) (z5.2.2) (oI o)
          obtain rfl := Option.some.inj h
          exact EX.iret rfl rfl
        · rcases ite_some h with ⟨c6, h⟩ | ⟨c6, h⟩
          · refine EX.tswI (x := p1) (k := 4) (pc1 := 89) rfl c6 (fun _ _ _ => rfl) ?_
            refine EX.aload_n (x := 0) rfl (List.mem_of_getElem? (i := 0) rfl) ?_
            refine EX.go (i := .getfield 12) (len := 3) (pc1 := 93) (st1 := [.ref 1]) (hi1 := hi) (hl1 := hl) rfl ?_ (fun _ _ _ => rfl)
            refine EX.iconst (v := 2) rfl rfl ?_
            obtain ⟨z7, hz7, h⟩ := bnd_some h
            refine EX.callV (b := 1) (as := [.int (2)]) (rest := []) (r := some (.int (z7.1))) (hi1 := z7.2.1) (hl1 := z7.2.2) rfl rfl rfl rfl rfl rfl ((b_Board_lampsThatAre ev hz7).mono (by decide)) ?_
            show EX w0 ev 1 m_LW_count 97 [(0, .ref 0), (1, .int (p1))] [.int (z7.1)] (z7.2.1) (z7.2.2) (oI o)
            obtain rfl := Option.some.inj h
            exact EX.iret rfl rfl
          · rcases ite_some h with ⟨c8, h⟩ | ⟨c8, h⟩
            · refine EX.tswI (x := p1) (k := 5) (pc1 := 98) rfl c8 (fun _ _ _ => rfl) ?_
              refine EX.aload_n (x := 0) rfl (List.mem_of_getElem? (i := 0) rfl) ?_
              refine EX.go (i := .getfield 69) (len := 3) (pc1 := 102) (st1 := [.ref 47]) (hi1 := hi) (hl1 := hl) rfl ?_ (fun _ _ _ => rfl)
              refine EX.go (i := .getfield 95) (len := 3) (pc1 := 105) (st1 := [.int (hi 47 0)]) (hi1 := hi) (hl1 := hl) rfl ?_ (fun _ _ _ => rfl)
              obtain rfl := Option.some.inj h
              exact EX.iret rfl rfl
            · rcases ite_some h with ⟨c9, h⟩ | ⟨c9, h⟩
              · refine EX.tswI (x := p1) (k := 6) (pc1 := 106) rfl c9 (fun _ _ _ => rfl) ?_
                refine EX.aload_n (x := 0) rfl (List.mem_of_getElem? (i := 0) rfl) ?_
                refine EX.go (i := .getfield 69) (len := 3) (pc1 := 110) (st1 := [.ref 47]) (hi1 := hi) (hl1 := hl) rfl ?_ (fun _ _ _ => rfl)
                obtain ⟨z10, hz10, h⟩ := bnd_some h
                refine EX.callV (b := 47) (as := []) (rest := []) (r := some (.int (z10.1))) (hi1 := z10.2.1) (hl1 := z10.2.2) rfl rfl rfl rfl rfl rfl ((b_Script_linesSeen ev hz10).mono (by decide)) ?_
                show EX w0 ev 1 m_LW_count 113 [(0, .ref 0), (1, .int (p1))] [.int (z10.1)] (z10.2.1) (z10.2.2) (oI o)
                obtain rfl := Option.some.inj h
                exact EX.iret rfl rfl
              · rcases ite_some h with ⟨c11, h⟩ | ⟨c11, h⟩
                · refine EX.tswI (x := p1) (k := 7) (pc1 := 114) rfl c11 (fun _ _ _ => rfl) ?_
                  refine EX.aload_n (x := 0) rfl (List.mem_of_getElem? (i := 0) rfl) ?_
                  refine EX.go (i := .getfield 12) (len := 3) (pc1 := 118) (st1 := [.ref 1]) (hi1 := hi) (hl1 := hl) rfl ?_ (fun _ _ _ => rfl)
                  obtain ⟨z12, hz12, h⟩ := bnd_some h
                  refine EX.callV (b := 1) (as := []) (rest := []) (r := some (.int (z12.1))) (hi1 := z12.2.1) (hl1 := z12.2.2) rfl rfl rfl rfl rfl rfl ((b_Board_levelSum ev hz12).mono (by decide)) ?_
                  show EX w0 ev 1 m_LW_count 121 [(0, .ref 0), (1, .int (p1))] [.int (z12.1)] (z12.2.1) (z12.2.2) (oI o)
                  obtain rfl := Option.some.inj h
                  exact EX.iret rfl rfl
                · rcases ite_some h with ⟨c13, h⟩ | ⟨c13, h⟩
                  · refine EX.tswI (x := p1) (k := 8) (pc1 := 122) rfl c13 (fun _ _ _ => rfl) ?_
                    refine EX.aload_n (x := 0) rfl (List.mem_of_getElem? (i := 0) rfl) ?_
                    refine EX.go (i := .getfield 62) (len := 3) (pc1 := 126) (st1 := [.ref 43]) (hi1 := hi) (hl1 := hl) rfl ?_ (fun _ _ _ => rfl)
                    refine EX.go (i := .getfield 229) (len := 3) (pc1 := 129) (st1 := [.int (hi 43 0)]) (hi1 := hi) (hl1 := hl) rfl ?_ (fun _ _ _ => rfl)
                    obtain rfl := Option.some.inj h
                    exact EX.iret rfl rfl
                  · rcases ite_some h with ⟨c14, h⟩ | ⟨c14, h⟩
                    · refine EX.tswI (x := p1) (k := 9) (pc1 := 130) rfl c14 (fun _ _ _ => rfl) ?_
                      refine EX.aload_n (x := 0) rfl (List.mem_of_getElem? (i := 0) rfl) ?_
                      refine EX.go (i := .getfield 82) (len := 3) (pc1 := 134) (st1 := [.ref 56]) (hi1 := hi) (hl1 := hl) rfl ?_ (fun _ _ _ => rfl)
                      refine EX.iconst (v := 0) rfl rfl ?_
                      obtain ⟨g15, h⟩ := grd_some h
                      refine EX.aaloadS (b := 57 + 2 * Int32.toNatClampNeg (0)) rfl rfl g15 (sh_at g15).1 (sh_at g15).2 ?_
                      obtain ⟨k_57___2___Int32_toNatClampNeg__0_, h⟩ := grp_some h
                      refine EX.getfieldV (v := .int (hi (57 + 2 * Int32.toNatClampNeg (0)) 1)) rfl rfl k_57___2___Int32_toNatClampNeg__0_.1 rfl rfl ?_
                      obtain rfl := Option.some.inj h
                      exact EX.iret rfl rfl
                    · refine EX.tswO (x := p1) (pc1 := 140) rfl (by have e0 := lv_neT c1 (show (0 : Int32).toInt = 0 from rfl); have e1 := lv_neT c2 (show (1 : Int32).toInt = 1 from rfl); have e2 := lv_neT c3 (show (2 : Int32).toInt = 2 from rfl); have e3 := lv_neT c4 (show (3 : Int32).toInt = 3 from rfl); have e4 := lv_neT c6 (show (4 : Int32).toInt = 4 from rfl); have e5 := lv_neT c8 (show (5 : Int32).toInt = 5 from rfl); have e6 := lv_neT c9 (show (6 : Int32).toInt = 6 from rfl); have e7 := lv_neT c11 (show (7 : Int32).toInt = 7 from rfl); have e8 := lv_neT c13 (show (8 : Int32).toInt = 8 from rfl); have e9 := lv_neT c14 (show (9 : Int32).toInt = 9 from rfl); omega) rfl rfl ?_
                      refine EX.iconst (v := (-1)) rfl rfl ?_
                      obtain rfl := Option.some.inj h
                      exact EX.iret rfl rfl
def J_MD_in_17 (N : Nat) (hi : HI) (hl : HL) : Option (Int32 × HI × HL) :=
  some (0, hi, hl)
set_option maxRecDepth 10000 in
set_option maxHeartbeats 4000000 in
theorem bJ_MD_in_17 (ev : EV) {N : Nat} {hi : HI} {hl : HL} {o : Int32 × HI × HL} (h : J_MD_in_17 N hi hl = some o) : EX w0 ev 0 m_MD_in 17 [] [] (hi) (hl) (oI o) := by
  unfold J_MD_in_17 at h
  refine EX.iconst (v := 0) rfl rfl ?_
  obtain rfl := Option.some.inj h
  exact EX.zret rfl rfl (Or.inl rfl)
def f_MD_in (N : Nat) (p0 : Int64) (p2 : Int64) (p4 : Int64) (hi : HI) (hl : HL) : Option (Int32 × HI × HL) :=
  if ((lg_cmp p0 p2) : Int32) < 0 then J_MD_in_17 N (hi) (hl) else if 0 < ((lg_cmp p0 p4) : Int32) then J_MD_in_17 N (hi) (hl) else some (1, hi, hl)
set_option maxRecDepth 10000 in
set_option maxHeartbeats 4000000 in
theorem b_MD_in (ev : EV) {N : Nat} {p0 : Int64} {p2 : Int64} {p4 : Int64} {hi : HI} {hl : HL} {o : Int32 × HI × HL} (h : f_MD_in N p0 p2 p4 hi hl = some o) : EM w0 ev 1 m_MD_in [.long (p0), .long (p2), .long (p4)] hi hl (oI o) := by
  unfold f_MD_in at h
  refine EM.of rfl ?_
  show EX w0 ev 0 m_MD_in 0 [(0, .long (p0)), (2, .long (p2)), (4, .long (p4))] [] (hi) (hl) (oI o)
  refine EX.lload_n (x := p0) rfl (List.mem_of_getElem? (i := 0) rfl) ?_
  refine EX.lload_n (x := p2) rfl (List.mem_of_getElem? (i := 1) rfl) ?_
  refine EX.go (i := .lcmp) (len := 1) (pc1 := 3) (st1 := [.int ((lg_cmp p0 p2))]) (hi1 := hi) (hl1 := hl) rfl ?_ (fun _ _ _ => rfl)
  rcases ite_some h with ⟨c1, h⟩ | ⟨c1, h⟩
  · refine EX.go (i := .ifCond .lt 14) (len := 3) (pc1 := 17) (st1 := []) (hi1 := hi) (hl1 := hl) rfl ?_ (fun _ _ _ => if_pos c1)
    refine EX.pick [] ?_ rfl
    exact bJ_MD_in_17 ev h
  · refine EX.go (i := .ifCond .lt 14) (len := 3) (pc1 := 6) (st1 := []) (hi1 := hi) (hl1 := hl) rfl ?_ (fun _ _ _ => if_neg c1)
    refine EX.lload_n (x := p0) rfl (List.mem_of_getElem? (i := 0) rfl) ?_
    refine EX.lload (x := p4) rfl (List.mem_of_getElem? (i := 2) rfl) ?_
    refine EX.go (i := .lcmp) (len := 1) (pc1 := 10) (st1 := [.int ((lg_cmp p0 p4))]) (hi1 := hi) (hl1 := hl) rfl ?_ (fun _ _ _ => rfl)
    rcases ite_some h with ⟨c2, h⟩ | ⟨c2, h⟩
    · refine EX.go (i := .ifCond .gt 7) (len := 3) (pc1 := 17) (st1 := []) (hi1 := hi) (hl1 := hl) rfl ?_ (fun _ _ _ => if_pos c2)
      refine EX.pick [] ?_ rfl
      exact bJ_MD_in_17 ev h
    · refine EX.go (i := .ifCond .gt 7) (len := 3) (pc1 := 13) (st1 := []) (hi1 := hi) (hl1 := hl) rfl ?_ (fun _ _ _ => if_neg c2)
      refine EX.iconst (v := 1) rfl rfl ?_
      refine EX.go (i := .goto 4) (len := 3) (pc1 := 18) (st1 := [.int (1)]) (hi1 := hi) (hl1 := hl) rfl ?_ (fun _ _ _ => rfl)
      obtain rfl := Option.some.inj h
      exact EX.zret rfl rfl (Or.inr rfl)
def B_MD_bits_4 (N : Nat) (v0 : Int32) (v1 : Int32) (v2 : Int32) (hi : HI) (hl : HL) : Option ((Int32 × Int32 × HI × HL) ⊕ (Int32 × HI × HL)) :=
  if (16 : Int32) ≤ (v2 : Int32) then some (.inr (v1, hi, hl)) else some (.inl ((v1 + ((((v0 >>> (v2 &&& 31)) : Int32) &&& (1)))), v2 + 1, hi, hl))
set_option maxRecDepth 10000 in
set_option maxHeartbeats 4000000 in
theorem bB_MD_bits_4 (ev : EV) {N : Nat} {v0 : Int32} {v1 : Int32} {v2 : Int32} {hi : HI} {hl : HL} {z : (Int32 × Int32 × HI × HL) ⊕ (Int32 × HI × HL)} {OUT : Option Value × HI × HL} (h : B_MD_bits_4 N v0 v1 v2 hi hl = some z) (hk : Sum.elim (fun s => EX w0 ev 0 m_MD_bits 4 [(0, .int (v0)), (1, .int (s.1)), (2, .int (s.2.1))] [] (s.2.2.1) (s.2.2.2) OUT) (fun x => EX w0 ev 0 m_MD_bits 24 [(1, .int (x.1))] [] (x.2.1) (x.2.2) OUT) z) : EX w0 ev 0 m_MD_bits 4 [(0, .int (v0)), (1, .int (v1)), (2, .int (v2))] [] (hi) (hl) OUT := by
  unfold B_MD_bits_4 at h
  refine EX.iload_n (x := v2) rfl (List.mem_of_getElem? (i := 2) rfl) ?_
  refine EX.bipush (v := 16) rfl rfl ?_
  rcases ite_some h with ⟨c1, h⟩ | ⟨c1, h⟩
  · refine EX.go (i := .if_icmp .ge 17) (len := 3) (pc1 := 24) (st1 := []) (hi1 := hi) (hl1 := hl) rfl ?_ (fun _ _ _ => if_pos c1)
    obtain rfl := Option.some.inj h
    have hk : EX w0 ev 0 m_MD_bits 24 [(1, .int (v1))] [] (hi) (hl) OUT := hk
    exact EX.pick [1] hk rfl
  · refine EX.go (i := .if_icmp .ge 17) (len := 3) (pc1 := 10) (st1 := []) (hi1 := hi) (hl1 := hl) rfl ?_ (fun _ _ _ => if_neg c1)
    refine EX.iload_n (x := v1) rfl (List.mem_of_getElem? (i := 1) rfl) ?_
    refine EX.iload_n (x := v0) rfl (List.mem_of_getElem? (i := 0) rfl) ?_
    refine EX.iload_n (x := v2) rfl (List.mem_of_getElem? (i := 2) rfl) ?_
    refine EX.go (i := .ishr) (len := 1) (pc1 := 14) (st1 := [.int ((v0 >>> (v2 &&& 31))), .int (v1)]) (hi1 := hi) (hl1 := hl) rfl ?_ (fun _ _ _ => rfl)
    refine EX.iconst (v := 1) rfl rfl ?_
    refine EX.go (i := .iand) (len := 1) (pc1 := 16) (st1 := [.int ((((v0 >>> (v2 &&& 31)) : Int32) &&& (1))), .int (v1)]) (hi1 := hi) (hl1 := hl) rfl ?_ (fun _ _ _ => rfl)
    refine EX.go (i := .iadd) (len := 1) (pc1 := 17) (st1 := [.int ((v1 + ((((v0 >>> (v2 &&& 31)) : Int32) &&& (1)))))]) (hi1 := hi) (hl1 := hl) rfl ?_ (fun _ _ _ => rfl)
    refine EX.istore_n (req1 := [(1, .int ((v1 + ((((v0 >>> (v2 &&& 31)) : Int32) &&& (1)))))), (0, .int (v0)), (2, .int (v2))]) rfl rfl rfl ?_
    refine EX.iinc (x := v2) (v := v2 + 1) (req1 := [(2, .int (v2 + 1)), (1, .int ((v1 + ((((v0 >>> (v2 &&& 31)) : Int32) &&& (1)))))), (0, .int (v0))]) rfl rfl (List.mem_of_getElem? (i := 2) rfl) rfl rfl ?_
    refine EX.go (i := .goto (-17)) (len := 3) (pc1 := 4) (st1 := []) (hi1 := hi) (hl1 := hl) rfl ?_ (fun _ _ _ => rfl)
    obtain rfl := Option.some.inj h
    have hk : EX w0 ev 0 m_MD_bits 4 [(0, .int (v0)), (1, .int ((v1 + ((((v0 >>> (v2 &&& 31)) : Int32) &&& (1)))))), (2, .int (v2 + 1))] [] (hi) (hl) OUT := hk
    exact EX.pick [2, 1, 0] hk rfl
def f_MD_bits (N : Nat) (p0 : Int32) (hi : HI) (hl : HL) : Option (Int32 × HI × HL) :=
  (lpN (fun s => B_MD_bits_4 N (p0) s.1 s.2.1 s.2.2.1 s.2.2.2) N (0, 0, hi, hl)).bind fun x2 => some (x2.1, x2.2.1, x2.2.2)
set_option maxRecDepth 10000 in
set_option maxHeartbeats 4000000 in
theorem b_MD_bits (ev : EV) {N : Nat} {p0 : Int32} {hi : HI} {hl : HL} {o : Int32 × HI × HL} (h : f_MD_bits N p0 hi hl = some o) : EM w0 ev 1 m_MD_bits [.int (p0)] hi hl (oI o) := by
  unfold f_MD_bits at h
  refine EM.of rfl ?_
  show EX w0 ev 0 m_MD_bits 0 [(0, .int (p0))] [] (hi) (hl) (oI o)
  refine EX.iconst (v := 0) rfl rfl ?_
  refine EX.istore_n (req1 := [(1, .int (0)), (0, .int (p0))]) rfl rfl rfl ?_
  refine EX.iconst (v := 0) rfl rfl ?_
  refine EX.istore_n (req1 := [(2, .int (0)), (1, .int (0)), (0, .int (p0))]) rfl rfl rfl ?_
  obtain ⟨x2, hx2, h⟩ := bnd_some h
  refine EX.pick [2, 1, 0] ?_ rfl
  refine lp_sound (f := fun s => B_MD_bits_4 N (p0) s.1 s.2.1 s.2.2.1 s.2.2.2) (PS := fun s => EX w0 ev 0 m_MD_bits 4 [(0, .int (p0)), (1, .int (s.1)), (2, .int (s.2.1))] [] (s.2.2.1) (s.2.2.2) (oI o)) (PX := fun x => EX w0 ev 0 m_MD_bits 24 [(1, .int (x.1))] [] (x.2.1) (x.2.2) (oI o)) ?_ N _ x2 hx2 ?_
  · exact fun s z hz hk => bB_MD_bits_4 ev hz hk
  show EX w0 ev 0 m_MD_bits 24 [(1, .int (x2.1))] [] (x2.2.1) (x2.2.2) (oI o)
  refine EX.iload_n (x := x2.1) rfl (List.mem_of_getElem? (i := 0) rfl) ?_
  obtain rfl := Option.some.inj h
  exact EX.iret rfl rfl
def B_MD_common_6 (N : Nat) (v4 : Int64) (v6 : Int64) (hi : HI) (hl : HL) : Option ((Int64 × Int64 × HI × HL) ⊕ (Int64 × HI × HL)) :=
  if ((lg_cmp v6 (0)) : Int32) = 0 then some (.inr (v4, hi, hl)) else if (v6 : Int64) = 0 then none else some (.inl (v6, ((v4 : Int64) - (v4 : Int64) / (v6) * (v6)), hi, hl))
set_option maxRecDepth 10000 in
set_option maxHeartbeats 4000000 in
theorem bB_MD_common_6 (ev : EV) {N : Nat} {v4 : Int64} {v6 : Int64} {hi : HI} {hl : HL} {z : (Int64 × Int64 × HI × HL) ⊕ (Int64 × HI × HL)} {OUT : Option Value × HI × HL} (h : B_MD_common_6 N v4 v6 hi hl = some z) (hk : Sum.elim (fun s => EX w0 ev 0 m_MD_common 6 [(4, .long (s.1)), (6, .long (s.2.1))] [] (s.2.2.1) (s.2.2.2) OUT) (fun x => EX w0 ev 0 m_MD_common 31 [(4, .long (x.1))] [] (x.2.1) (x.2.2) OUT) z) : EX w0 ev 0 m_MD_common 6 [(4, .long (v4)), (6, .long (v6))] [] (hi) (hl) OUT := by
  unfold B_MD_common_6 at h
  refine EX.lload (x := v6) rfl (List.mem_of_getElem? (i := 1) rfl) ?_
  refine EX.lconst (v := 0) rfl rfl ?_
  refine EX.go (i := .lcmp) (len := 1) (pc1 := 10) (st1 := [.int ((lg_cmp v6 (0)))]) (hi1 := hi) (hl1 := hl) rfl ?_ (fun _ _ _ => rfl)
  rcases ite_some h with ⟨c1, h⟩ | ⟨c1, h⟩
  · refine EX.go (i := .ifCond .eq 21) (len := 3) (pc1 := 31) (st1 := []) (hi1 := hi) (hl1 := hl) rfl ?_ (fun _ _ _ => if_pos c1)
    obtain rfl := Option.some.inj h
    have hk : EX w0 ev 0 m_MD_common 31 [(4, .long (v4))] [] (hi) (hl) OUT := hk
    exact EX.pick [0] hk rfl
  · refine EX.go (i := .ifCond .eq 21) (len := 3) (pc1 := 13) (st1 := []) (hi1 := hi) (hl1 := hl) rfl ?_ (fun _ _ _ => if_neg c1)
    refine EX.lload (x := v4) rfl (List.mem_of_getElem? (i := 0) rfl) ?_
    refine EX.lload (x := v6) rfl (List.mem_of_getElem? (i := 1) rfl) ?_
    obtain ⟨g2, h⟩ := grd_some h
    refine EX.go (i := .lrem) (len := 1) (pc1 := 18) (st1 := [.long (((v4 : Int64) - (v4 : Int64) / (v6) * (v6)))]) (hi1 := hi) (hl1 := hl) rfl ?_ (fun _ _ _ => if_neg g2)
    refine EX.lstore (req1 := [(8, .long (((v4 : Int64) - (v4 : Int64) / (v6) * (v6)))), (4, .long (v4)), (6, .long (v6))]) rfl rfl rfl ?_
    refine EX.lload (x := v6) rfl (List.mem_of_getElem? (i := 2) rfl) ?_
    refine EX.lstore (req1 := [(4, .long (v6)), (8, .long (((v4 : Int64) - (v4 : Int64) / (v6) * (v6)))), (6, .long (v6))]) rfl rfl rfl ?_
    refine EX.lload (x := ((v4 : Int64) - (v4 : Int64) / (v6) * (v6))) rfl (List.mem_of_getElem? (i := 1) rfl) ?_
    refine EX.lstore (req1 := [(6, .long (((v4 : Int64) - (v4 : Int64) / (v6) * (v6)))), (4, .long (v6)), (8, .long (((v4 : Int64) - (v4 : Int64) / (v6) * (v6))))]) rfl rfl rfl ?_
    refine EX.go (i := .goto (-22)) (len := 3) (pc1 := 6) (st1 := []) (hi1 := hi) (hl1 := hl) rfl ?_ (fun _ _ _ => rfl)
    obtain rfl := Option.some.inj h
    have hk : EX w0 ev 0 m_MD_common 6 [(4, .long (v6)), (6, .long (((v4 : Int64) - (v4 : Int64) / (v6) * (v6))))] [] (hi) (hl) OUT := hk
    exact EX.pick [1, 0] hk rfl
def f_MD_common (N : Nat) (p0 : Int64) (p2 : Int64) (hi : HI) (hl : HL) : Option (Int64 × HI × HL) :=
  (lpN (fun s => B_MD_common_6 N s.1 s.2.1 s.2.2.1 s.2.2.2) N (p0, p2, hi, hl)).bind fun x3 => some (x3.1, x3.2.1, x3.2.2)
set_option maxRecDepth 10000 in
set_option maxHeartbeats 4000000 in
theorem b_MD_common (ev : EV) {N : Nat} {p0 : Int64} {p2 : Int64} {hi : HI} {hl : HL} {o : Int64 × HI × HL} (h : f_MD_common N p0 p2 hi hl = some o) : EM w0 ev 1 m_MD_common [.long (p0), .long (p2)] hi hl (oL o) := by
  unfold f_MD_common at h
  refine EM.of rfl ?_
  show EX w0 ev 0 m_MD_common 0 [(0, .long (p0)), (2, .long (p2))] [] (hi) (hl) (oL o)
  refine EX.lload_n (x := p0) rfl (List.mem_of_getElem? (i := 0) rfl) ?_
  refine EX.lstore (req1 := [(4, .long (p0)), (0, .long (p0)), (2, .long (p2))]) rfl rfl rfl ?_
  refine EX.lload_n (x := p2) rfl (List.mem_of_getElem? (i := 2) rfl) ?_
  refine EX.lstore (req1 := [(6, .long (p2)), (4, .long (p0)), (0, .long (p0)), (2, .long (p2))]) rfl rfl rfl ?_
  obtain ⟨x3, hx3, h⟩ := bnd_some h
  refine EX.pick [1, 0] ?_ rfl
  refine lp_sound (f := fun s => B_MD_common_6 N s.1 s.2.1 s.2.2.1 s.2.2.2) (PS := fun s => EX w0 ev 0 m_MD_common 6 [(4, .long (s.1)), (6, .long (s.2.1))] [] (s.2.2.1) (s.2.2.2) (oL o)) (PX := fun x => EX w0 ev 0 m_MD_common 31 [(4, .long (x.1))] [] (x.2.1) (x.2.2) (oL o)) ?_ N _ x3 hx3 ?_
  · exact fun s z hz hk => bB_MD_common_6 ev hz hk
  show EX w0 ev 0 m_MD_common 31 [(4, .long (x3.1))] [] (x3.2.1) (x3.2.2) (oL o)
  refine EX.lload (x := x3.1) rfl (List.mem_of_getElem? (i := 0) rfl) ?_
  obtain rfl := Option.some.inj h
  exact EX.lret rfl rfl
def f_MD_wires (N : Nat) (p1 : Int32) (hi : HI) (hl : HL) : Option (Int32 × HI × HL) :=
  (f_MD_in N ((Int32.toInt64 (p1))) (2) (6) (hi) (hl)).bind fun z1 => if (z1.1 : Int32) = 0 then some ((-1), z1.2.1, z1.2.2) else some (z1.2.1 65 0, wr (wr (wr (wr (z1.2.1) 65 0 (p1)) 65 2 (0)) 65 23 (0)) 65 8 (0), z1.2.2)
set_option maxRecDepth 10000 in
set_option maxHeartbeats 4000000 in
theorem b_MD_wires (ev : EV) {N : Nat} {p1 : Int32} {hi : HI} {hl : HL} {o : Int32 × HI × HL} (h : f_MD_wires N p1 hi hl = some o) : EM w0 ev 2 m_MD_wires [.ref 65, .int (p1)] hi hl (oI o) := by
  unfold f_MD_wires at h
  refine EM.of rfl ?_
  show EX w0 ev 1 m_MD_wires 0 [(0, .ref 65), (1, .int (p1))] [] (hi) (hl) (oI o)
  refine EX.iload_n (x := p1) rfl (List.mem_of_getElem? (i := 1) rfl) ?_
  refine EX.go (i := .i2l) (len := 1) (pc1 := 2) (st1 := [.long ((Int32.toInt64 (p1)))]) (hi1 := hi) (hl1 := hl) rfl ?_ (fun _ _ _ => rfl)
  refine EX.go (i := .ldc2_w 108) (len := 3) (pc1 := 5) (st1 := [.long (2), .long ((Int32.toInt64 (p1)))]) (hi1 := hi) (hl1 := hl) rfl ?_ (fun _ _ _ => rfl)
  refine EX.go (i := .ldc2_w 110) (len := 3) (pc1 := 8) (st1 := [.long (6), .long (2), .long ((Int32.toInt64 (p1)))]) (hi1 := hi) (hl1 := hl) rfl ?_ (fun _ _ _ => rfl)
  obtain ⟨z1, hz1, h⟩ := bnd_some h
  refine EX.callS (as := [.long ((Int32.toInt64 (p1))), .long (2), .long (6)]) (rest := []) (r := some (.int (z1.1))) (hi1 := z1.2.1) (hl1 := z1.2.2) rfl rfl rfl rfl rfl rfl ((b_MD_in ev hz1).mono (by decide)) ?_
  show EX w0 ev 1 m_MD_wires 11 [(0, .ref 65), (1, .int (p1))] [.int (z1.1)] (z1.2.1) (z1.2.2) (oI o)
  rcases ite_some h with ⟨c2, h⟩ | ⟨c2, h⟩
  · refine EX.go (i := .ifCond .ne 5) (len := 3) (pc1 := 14) (st1 := []) (hi1 := z1.2.1) (hl1 := z1.2.2) rfl ?_ (fun _ _ _ => if_pos c2)
    refine EX.iconst (v := (-1)) rfl rfl ?_
    obtain rfl := Option.some.inj h
    exact EX.iret rfl rfl
  · refine EX.go (i := .ifCond .ne 5) (len := 3) (pc1 := 16) (st1 := []) (hi1 := z1.2.1) (hl1 := z1.2.2) rfl ?_ (fun _ _ _ => if_neg c2)
    refine EX.aload_n (x := 65) rfl (List.mem_of_getElem? (i := 0) rfl) ?_
    refine EX.go (i := .getfield 7) (len := 3) (pc1 := 20) (st1 := [.int (z1.2.1 65 0)]) (hi1 := z1.2.1) (hl1 := z1.2.2) rfl ?_ (fun _ _ _ => rfl)
    refine EX.istore_n (req1 := [(2, .int (z1.2.1 65 0)), (0, .ref 65), (1, .int (p1))]) rfl rfl rfl ?_
    refine EX.aload_n (x := 65) rfl (List.mem_of_getElem? (i := 1) rfl) ?_
    refine EX.iload_n (x := p1) rfl (List.mem_of_getElem? (i := 2) rfl) ?_
    refine EX.go (i := .putfield 7) (len := 3) (pc1 := 26) (st1 := []) (hi1 := wr (z1.2.1) 65 0 (p1)) (hl1 := z1.2.2) rfl ?_ (fun _ _ _ => rfl)
    refine EX.aload_n (x := 65) rfl (List.mem_of_getElem? (i := 1) rfl) ?_
    refine EX.iconst (v := 0) rfl rfl ?_
    refine EX.go (i := .putfield 116) (len := 3) (pc1 := 31) (st1 := []) (hi1 := wr (wr (z1.2.1) 65 0 (p1)) 65 2 (0)) (hl1 := z1.2.2) rfl ?_ (fun _ _ _ => rfl)
    refine EX.aload_n (x := 65) rfl (List.mem_of_getElem? (i := 1) rfl) ?_
    refine EX.iconst (v := 0) rfl rfl ?_
    refine EX.go (i := .putfield 119) (len := 3) (pc1 := 36) (st1 := []) (hi1 := wr (wr (wr (z1.2.1) 65 0 (p1)) 65 2 (0)) 65 23 (0)) (hl1 := z1.2.2) rfl ?_ (fun _ _ _ => rfl)
    refine EX.aload_n (x := 65) rfl (List.mem_of_getElem? (i := 1) rfl) ?_
    refine EX.iconst (v := 0) rfl rfl ?_
    refine EX.go (i := .putfield 122) (len := 3) (pc1 := 41) (st1 := []) (hi1 := wr (wr (wr (wr (z1.2.1) 65 0 (p1)) 65 2 (0)) 65 23 (0)) 65 8 (0)) (hl1 := z1.2.2) rfl ?_ (fun _ _ _ => rfl)
    refine EX.iload_n (x := z1.2.1 65 0) rfl (List.mem_of_getElem? (i := 0) rfl) ?_
    obtain rfl := Option.some.inj h
    exact EX.iret rfl rfl
def f_MD_supply (N : Nat) (p1 : Int32) (hi : HI) (hl : HL) : Option (Int32 × HI × HL) :=
  (f_MD_in N ((Int32.toInt64 (p1))) (1) (30) (hi) (hl)).bind fun z1 => if (z1.1 : Int32) = 0 then some ((-1), z1.2.1, z1.2.2) else some (z1.2.1 65 1, wr (wr (z1.2.1) 65 1 (p1)) 65 8 (0), z1.2.2)
set_option maxRecDepth 10000 in
set_option maxHeartbeats 4000000 in
theorem b_MD_supply (ev : EV) {N : Nat} {p1 : Int32} {hi : HI} {hl : HL} {o : Int32 × HI × HL} (h : f_MD_supply N p1 hi hl = some o) : EM w0 ev 2 m_MD_supply [.ref 65, .int (p1)] hi hl (oI o) := by
  unfold f_MD_supply at h
  refine EM.of rfl ?_
  show EX w0 ev 1 m_MD_supply 0 [(0, .ref 65), (1, .int (p1))] [] (hi) (hl) (oI o)
  refine EX.iload_n (x := p1) rfl (List.mem_of_getElem? (i := 1) rfl) ?_
  refine EX.go (i := .i2l) (len := 1) (pc1 := 2) (st1 := [.long ((Int32.toInt64 (p1)))]) (hi1 := hi) (hl1 := hl) rfl ?_ (fun _ _ _ => rfl)
  refine EX.lconst (v := 1) rfl rfl ?_
  refine EX.go (i := .ldc2_w 126) (len := 3) (pc1 := 6) (st1 := [.long (30), .long (1), .long ((Int32.toInt64 (p1)))]) (hi1 := hi) (hl1 := hl) rfl ?_ (fun _ _ _ => rfl)
  obtain ⟨z1, hz1, h⟩ := bnd_some h
  refine EX.callS (as := [.long ((Int32.toInt64 (p1))), .long (1), .long (30)]) (rest := []) (r := some (.int (z1.1))) (hi1 := z1.2.1) (hl1 := z1.2.2) rfl rfl rfl rfl rfl rfl ((b_MD_in ev hz1).mono (by decide)) ?_
  show EX w0 ev 1 m_MD_supply 9 [(0, .ref 65), (1, .int (p1))] [.int (z1.1)] (z1.2.1) (z1.2.2) (oI o)
  rcases ite_some h with ⟨c2, h⟩ | ⟨c2, h⟩
  · refine EX.go (i := .ifCond .ne 5) (len := 3) (pc1 := 12) (st1 := []) (hi1 := z1.2.1) (hl1 := z1.2.2) rfl ?_ (fun _ _ _ => if_pos c2)
    refine EX.iconst (v := (-1)) rfl rfl ?_
    obtain rfl := Option.some.inj h
    exact EX.iret rfl rfl
  · refine EX.go (i := .ifCond .ne 5) (len := 3) (pc1 := 14) (st1 := []) (hi1 := z1.2.1) (hl1 := z1.2.2) rfl ?_ (fun _ _ _ => if_neg c2)
    refine EX.aload_n (x := 65) rfl (List.mem_of_getElem? (i := 0) rfl) ?_
    refine EX.go (i := .getfield 13) (len := 3) (pc1 := 18) (st1 := [.int (z1.2.1 65 1)]) (hi1 := z1.2.1) (hl1 := z1.2.2) rfl ?_ (fun _ _ _ => rfl)
    refine EX.istore_n (req1 := [(2, .int (z1.2.1 65 1)), (0, .ref 65), (1, .int (p1))]) rfl rfl rfl ?_
    refine EX.aload_n (x := 65) rfl (List.mem_of_getElem? (i := 1) rfl) ?_
    refine EX.iload_n (x := p1) rfl (List.mem_of_getElem? (i := 2) rfl) ?_
    refine EX.go (i := .putfield 13) (len := 3) (pc1 := 24) (st1 := []) (hi1 := wr (z1.2.1) 65 1 (p1)) (hl1 := z1.2.2) rfl ?_ (fun _ _ _ => rfl)
    refine EX.aload_n (x := 65) rfl (List.mem_of_getElem? (i := 1) rfl) ?_
    refine EX.iconst (v := 0) rfl rfl ?_
    refine EX.go (i := .putfield 122) (len := 3) (pc1 := 29) (st1 := []) (hi1 := wr (wr (z1.2.1) 65 1 (p1)) 65 8 (0)) (hl1 := z1.2.2) rfl ?_ (fun _ _ _ => rfl)
    refine EX.iload_n (x := z1.2.1 65 1) rfl (List.mem_of_getElem? (i := 0) rfl) ?_
    obtain rfl := Option.some.inj h
    exact EX.iret rfl rfl
def f_MD_isWire (N : Nat) (p1 : Int32) (hi : HI) (hl : HL) : Option (Int32 × HI × HL) :=
  (f_MD_in N ((Int32.toInt64 (p1))) (0) ((Int32.toInt64 (((hi 65 0 : Int32) - (1))))) (hi) (hl)).bind fun z1 => if (z1.1 : Int32) = 0 ∨ (z1.1 : Int32) = 1 then some (z1.1, z1.2.1, z1.2.2) else none
set_option maxRecDepth 10000 in
set_option maxHeartbeats 4000000 in
theorem b_MD_isWire (ev : EV) {N : Nat} {p1 : Int32} {hi : HI} {hl : HL} {o : Int32 × HI × HL} (h : f_MD_isWire N p1 hi hl = some o) : EM w0 ev 2 m_MD_isWire [.ref 65, .int (p1)] hi hl (oI o) := by
  unfold f_MD_isWire at h
  refine EM.of rfl ?_
  show EX w0 ev 1 m_MD_isWire 0 [(0, .ref 65), (1, .int (p1))] [] (hi) (hl) (oI o)
  refine EX.iload_n (x := p1) rfl (List.mem_of_getElem? (i := 1) rfl) ?_
  refine EX.go (i := .i2l) (len := 1) (pc1 := 2) (st1 := [.long ((Int32.toInt64 (p1)))]) (hi1 := hi) (hl1 := hl) rfl ?_ (fun _ _ _ => rfl)
  refine EX.lconst (v := 0) rfl rfl ?_
  refine EX.aload_n (x := 65) rfl (List.mem_of_getElem? (i := 0) rfl) ?_
  refine EX.go (i := .getfield 7) (len := 3) (pc1 := 7) (st1 := [.int (hi 65 0), .long (0), .long ((Int32.toInt64 (p1)))]) (hi1 := hi) (hl1 := hl) rfl ?_ (fun _ _ _ => rfl)
  refine EX.iconst (v := 1) rfl rfl ?_
  refine EX.go (i := .isub) (len := 1) (pc1 := 9) (st1 := [.int (((hi 65 0 : Int32) - (1))), .long (0), .long ((Int32.toInt64 (p1)))]) (hi1 := hi) (hl1 := hl) rfl ?_ (fun _ _ _ => rfl)
  refine EX.go (i := .i2l) (len := 1) (pc1 := 10) (st1 := [.long ((Int32.toInt64 (((hi 65 0 : Int32) - (1))))), .long (0), .long ((Int32.toInt64 (p1)))]) (hi1 := hi) (hl1 := hl) rfl ?_ (fun _ _ _ => rfl)
  obtain ⟨z1, hz1, h⟩ := bnd_some h
  refine EX.callS (as := [.long ((Int32.toInt64 (p1))), .long (0), .long ((Int32.toInt64 (((hi 65 0 : Int32) - (1)))))]) (rest := []) (r := some (.int (z1.1))) (hi1 := z1.2.1) (hl1 := z1.2.2) rfl rfl rfl rfl rfl rfl ((b_MD_in ev hz1).mono (by decide)) ?_
  show EX w0 ev 1 m_MD_isWire 13 [(0, .ref 65), (1, .int (p1))] [.int (z1.1)] (z1.2.1) (z1.2.2) (oI o)
  obtain ⟨g2, h⟩ := grp_some h
  obtain rfl := Option.some.inj h
  exact EX.zret rfl rfl g2
def f_MD_isLamp (N : Nat) (p1 : Int32) (hi : HI) (hl : HL) : Option (Int32 × HI × HL) :=
  (f_MD_in N ((Int32.toInt64 (p1))) (0) ((Int32.toInt64 (((hi 65 2 : Int32) - (1))))) (hi) (hl)).bind fun z1 => if (z1.1 : Int32) = 0 ∨ (z1.1 : Int32) = 1 then some (z1.1, z1.2.1, z1.2.2) else none
set_option maxRecDepth 10000 in
set_option maxHeartbeats 4000000 in
theorem b_MD_isLamp (ev : EV) {N : Nat} {p1 : Int32} {hi : HI} {hl : HL} {o : Int32 × HI × HL} (h : f_MD_isLamp N p1 hi hl = some o) : EM w0 ev 2 m_MD_isLamp [.ref 65, .int (p1)] hi hl (oI o) := by
  unfold f_MD_isLamp at h
  refine EM.of rfl ?_
  show EX w0 ev 1 m_MD_isLamp 0 [(0, .ref 65), (1, .int (p1))] [] (hi) (hl) (oI o)
  refine EX.iload_n (x := p1) rfl (List.mem_of_getElem? (i := 1) rfl) ?_
  refine EX.go (i := .i2l) (len := 1) (pc1 := 2) (st1 := [.long ((Int32.toInt64 (p1)))]) (hi1 := hi) (hl1 := hl) rfl ?_ (fun _ _ _ => rfl)
  refine EX.lconst (v := 0) rfl rfl ?_
  refine EX.aload_n (x := 65) rfl (List.mem_of_getElem? (i := 0) rfl) ?_
  refine EX.go (i := .getfield 116) (len := 3) (pc1 := 7) (st1 := [.int (hi 65 2), .long (0), .long ((Int32.toInt64 (p1)))]) (hi1 := hi) (hl1 := hl) rfl ?_ (fun _ _ _ => rfl)
  refine EX.iconst (v := 1) rfl rfl ?_
  refine EX.go (i := .isub) (len := 1) (pc1 := 9) (st1 := [.int (((hi 65 2 : Int32) - (1))), .long (0), .long ((Int32.toInt64 (p1)))]) (hi1 := hi) (hl1 := hl) rfl ?_ (fun _ _ _ => rfl)
  refine EX.go (i := .i2l) (len := 1) (pc1 := 10) (st1 := [.long ((Int32.toInt64 (((hi 65 2 : Int32) - (1))))), .long (0), .long ((Int32.toInt64 (p1)))]) (hi1 := hi) (hl1 := hl) rfl ?_ (fun _ _ _ => rfl)
  obtain ⟨z1, hz1, h⟩ := bnd_some h
  refine EX.callS (as := [.long ((Int32.toInt64 (p1))), .long (0), .long ((Int32.toInt64 (((hi 65 2 : Int32) - (1)))))]) (rest := []) (r := some (.int (z1.1))) (hi1 := z1.2.1) (hl1 := z1.2.2) rfl rfl rfl rfl rfl rfl ((b_MD_in ev hz1).mono (by decide)) ?_
  show EX w0 ev 1 m_MD_isLamp 13 [(0, .ref 65), (1, .int (p1))] [.int (z1.1)] (z1.2.1) (z1.2.2) (oI o)
  obtain ⟨g2, h⟩ := grp_some h
  obtain rfl := Option.some.inj h
  exact EX.zret rfl rfl g2
def J_MD_find_43 (N : Nat) (v1 : Int32) (v2 : Int32) (v4 : Int32) (s0 : Int32) (hi : HI) (hl : HL) : Option ((Int32 × Int32 × HI × HL) ⊕ (Int32 × HI × HL)) :=
  some (.inl (s0, v4 + 1, hi, hl))
set_option maxRecDepth 10000 in
set_option maxHeartbeats 4000000 in
theorem bJ_MD_find_43 (ev : EV) {N : Nat} {v1 : Int32} {v2 : Int32} {v4 : Int32} {s0 : Int32} {hi : HI} {hl : HL} {z : (Int32 × Int32 × HI × HL) ⊕ (Int32 × HI × HL)} {OUT : Option Value × HI × HL} (h : J_MD_find_43 N v1 v2 v4 s0 hi hl = some z) (hk : Sum.elim (fun s => EX w0 ev 0 m_MD_find 6 [(0, .ref 65), (1, .int (v1)), (2, .int (v2)), (3, .int (s.1)), (4, .int (s.2.1))] [] (s.2.2.1) (s.2.2.2) OUT) (fun x => EX w0 ev 0 m_MD_find 50 [(3, .int (x.1))] [] (x.2.1) (x.2.2) OUT) z) : EX w0 ev 0 m_MD_find 43 [(0, .ref 65), (1, .int (v1)), (2, .int (v2)), (4, .int (v4))] [.int (s0)] (hi) (hl) OUT := by
  unfold J_MD_find_43 at h
  refine EX.istore_n (req1 := [(3, .int (s0)), (0, .ref 65), (1, .int (v1)), (2, .int (v2)), (4, .int (v4))]) rfl rfl rfl ?_
  refine EX.iinc (x := v4) (v := v4 + 1) (req1 := [(4, .int (v4 + 1)), (3, .int (s0)), (0, .ref 65), (1, .int (v1)), (2, .int (v2))]) rfl rfl (List.mem_of_getElem? (i := 4) rfl) rfl rfl ?_
  refine EX.go (i := .goto (-41)) (len := 3) (pc1 := 6) (st1 := []) (hi1 := hi) (hl1 := hl) rfl ?_ (fun _ _ _ => rfl)
  obtain rfl := Option.some.inj h
  have hk : EX w0 ev 0 m_MD_find 6 [(0, .ref 65), (1, .int (v1)), (2, .int (v2)), (3, .int (s0)), (4, .int (v4 + 1))] [] (hi) (hl) OUT := hk
  exact EX.pick [2, 3, 4, 1, 0] hk rfl
def J_MD_find_42 (N : Nat) (v1 : Int32) (v2 : Int32) (v3 : Int32) (v4 : Int32) (hi : HI) (hl : HL) : Option ((Int32 × Int32 × HI × HL) ⊕ (Int32 × HI × HL)) :=
  J_MD_find_43 N (v1) (v2) (v4) (v3) (hi) (hl)
set_option maxRecDepth 10000 in
set_option maxHeartbeats 4000000 in
theorem bJ_MD_find_42 (ev : EV) {N : Nat} {v1 : Int32} {v2 : Int32} {v3 : Int32} {v4 : Int32} {hi : HI} {hl : HL} {z : (Int32 × Int32 × HI × HL) ⊕ (Int32 × HI × HL)} {OUT : Option Value × HI × HL} (h : J_MD_find_42 N v1 v2 v3 v4 hi hl = some z) (hk : Sum.elim (fun s => EX w0 ev 0 m_MD_find 6 [(0, .ref 65), (1, .int (v1)), (2, .int (v2)), (3, .int (s.1)), (4, .int (s.2.1))] [] (s.2.2.1) (s.2.2.2) OUT) (fun x => EX w0 ev 0 m_MD_find 50 [(3, .int (x.1))] [] (x.2.1) (x.2.2) OUT) z) : EX w0 ev 0 m_MD_find 42 [(0, .ref 65), (1, .int (v1)), (2, .int (v2)), (3, .int (v3)), (4, .int (v4))] [] (hi) (hl) OUT := by
  unfold J_MD_find_42 at h
  refine EX.iload_n (x := v3) rfl (List.mem_of_getElem? (i := 3) rfl) ?_
  refine EX.pick [0, 1, 2, 4] ?_ rfl
  exact bJ_MD_find_43 ev h hk
def B_MD_find_6 (N : Nat) (v1 : Int32) (v2 : Int32) (v3 : Int32) (v4 : Int32) (hi : HI) (hl : HL) : Option ((Int32 × Int32 × HI × HL) ⊕ (Int32 × HI × HL)) :=
  if (hi 65 2 : Int32) ≤ (v4 : Int32) then some (.inr (v3, hi, hl)) else if (v4 : Int32) < 0 ∨ 16 ≤ Int32.toNatClampNeg (v4) then none else if (hi 66 (Int32.toNatClampNeg (v4)) : Int32) = (v1 : Int32) then if (v4 : Int32) < 0 ∨ 16 ≤ Int32.toNatClampNeg (v4) then none else if (hi 67 (Int32.toNatClampNeg (v4)) : Int32) = (v2 : Int32) then J_MD_find_43 N (v1) (v2) (v4) (v4) (hi) (hl) else J_MD_find_42 N (v1) (v2) (v3) (v4) (hi) (hl) else J_MD_find_42 N (v1) (v2) (v3) (v4) (hi) (hl)
set_option maxRecDepth 10000 in
set_option maxHeartbeats 4000000 in
theorem bB_MD_find_6 (ev : EV) {N : Nat} {v1 : Int32} {v2 : Int32} {v3 : Int32} {v4 : Int32} {hi : HI} {hl : HL} {z : (Int32 × Int32 × HI × HL) ⊕ (Int32 × HI × HL)} {OUT : Option Value × HI × HL} (h : B_MD_find_6 N v1 v2 v3 v4 hi hl = some z) (hk : Sum.elim (fun s => EX w0 ev 0 m_MD_find 6 [(0, .ref 65), (1, .int (v1)), (2, .int (v2)), (3, .int (s.1)), (4, .int (s.2.1))] [] (s.2.2.1) (s.2.2.2) OUT) (fun x => EX w0 ev 0 m_MD_find 50 [(3, .int (x.1))] [] (x.2.1) (x.2.2) OUT) z) : EX w0 ev 0 m_MD_find 6 [(0, .ref 65), (1, .int (v1)), (2, .int (v2)), (3, .int (v3)), (4, .int (v4))] [] (hi) (hl) OUT := by
  unfold B_MD_find_6 at h
  refine EX.iload (x := v4) rfl (List.mem_of_getElem? (i := 4) rfl) ?_
  refine EX.aload_n (x := 65) rfl (List.mem_of_getElem? (i := 0) rfl) ?_
  refine EX.go (i := .getfield 116) (len := 3) (pc1 := 12) (st1 := [.int (hi 65 2), .int (v4)]) (hi1 := hi) (hl1 := hl) rfl ?_ (fun _ _ _ => rfl)
  rcases ite_some h with ⟨c1, h⟩ | ⟨c1, h⟩
  · refine EX.go (i := .if_icmp .ge 38) (len := 3) (pc1 := 50) (st1 := []) (hi1 := hi) (hl1 := hl) rfl ?_ (fun _ _ _ => if_pos c1)
    obtain rfl := Option.some.inj h
    have hk : EX w0 ev 0 m_MD_find 50 [(3, .int (v3))] [] (hi) (hl) OUT := hk
    exact EX.pick [3] hk rfl
  · refine EX.go (i := .if_icmp .ge 38) (len := 3) (pc1 := 15) (st1 := []) (hi1 := hi) (hl1 := hl) rfl ?_ (fun _ _ _ => if_neg c1)
    refine EX.aload_n (x := 65) rfl (List.mem_of_getElem? (i := 0) rfl) ?_
    refine EX.go (i := .getfield 16) (len := 3) (pc1 := 19) (st1 := [.ref 66]) (hi1 := hi) (hl1 := hl) rfl ?_ (fun _ _ _ => rfl)
    refine EX.iload (x := v4) rfl (List.mem_of_getElem? (i := 4) rfl) ?_
    obtain ⟨g2, h⟩ := grd_some h
    refine EX.iaload rfl rfl g2 ?_
    refine EX.iload_n (x := v1) rfl (List.mem_of_getElem? (i := 1) rfl) ?_
    rcases ite_some h with ⟨c3, h⟩ | ⟨c3, h⟩
    · refine EX.go (i := .if_icmp .ne 19) (len := 3) (pc1 := 26) (st1 := []) (hi1 := hi) (hl1 := hl) rfl ?_ (fun _ _ _ => if_pos c3)
      refine EX.aload_n (x := 65) rfl (List.mem_of_getElem? (i := 0) rfl) ?_
      refine EX.go (i := .getfield 20) (len := 3) (pc1 := 30) (st1 := [.ref 67]) (hi1 := hi) (hl1 := hl) rfl ?_ (fun _ _ _ => rfl)
      refine EX.iload (x := v4) rfl (List.mem_of_getElem? (i := 4) rfl) ?_
      obtain ⟨g4, h⟩ := grd_some h
      refine EX.iaload rfl rfl g4 ?_
      refine EX.iload_n (x := v2) rfl (List.mem_of_getElem? (i := 2) rfl) ?_
      rcases ite_some h with ⟨c5, h⟩ | ⟨c5, h⟩
      · refine EX.go (i := .if_icmp .ne 8) (len := 3) (pc1 := 37) (st1 := []) (hi1 := hi) (hl1 := hl) rfl ?_ (fun _ _ _ => if_pos c5)
        refine EX.iload (x := v4) rfl (List.mem_of_getElem? (i := 4) rfl) ?_
        refine EX.go (i := .goto 4) (len := 3) (pc1 := 43) (st1 := [.int (v4)]) (hi1 := hi) (hl1 := hl) rfl ?_ (fun _ _ _ => rfl)
        refine EX.pick [0, 1, 2, 4] ?_ rfl
        exact bJ_MD_find_43 ev h hk
      · refine EX.go (i := .if_icmp .ne 8) (len := 3) (pc1 := 42) (st1 := []) (hi1 := hi) (hl1 := hl) rfl ?_ (fun _ _ _ => if_neg c5)
        refine EX.pick [0, 1, 2, 3, 4] ?_ rfl
        exact bJ_MD_find_42 ev h hk
    · refine EX.go (i := .if_icmp .ne 19) (len := 3) (pc1 := 42) (st1 := []) (hi1 := hi) (hl1 := hl) rfl ?_ (fun _ _ _ => if_neg c3)
      refine EX.pick [0, 1, 2, 3, 4] ?_ rfl
      exact bJ_MD_find_42 ev h hk
def f_MD_find (N : Nat) (p1 : Int32) (p2 : Int32) (hi : HI) (hl : HL) : Option (Int32 × HI × HL) :=
  (lpN (fun s => B_MD_find_6 N (p1) (p2) s.1 s.2.1 s.2.2.1 s.2.2.2) N ((-4), 0, hi, hl)).bind fun x6 => some (x6.1, x6.2.1, x6.2.2)
set_option maxRecDepth 10000 in
set_option maxHeartbeats 4000000 in
theorem b_MD_find (ev : EV) {N : Nat} {p1 : Int32} {p2 : Int32} {hi : HI} {hl : HL} {o : Int32 × HI × HL} (h : f_MD_find N p1 p2 hi hl = some o) : EM w0 ev 1 m_MD_find [.ref 65, .int (p1), .int (p2)] hi hl (oI o) := by
  unfold f_MD_find at h
  refine EM.of rfl ?_
  show EX w0 ev 0 m_MD_find 0 [(0, .ref 65), (1, .int (p1)), (2, .int (p2))] [] (hi) (hl) (oI o)
  refine EX.bipush (v := (-4)) rfl rfl ?_
  refine EX.istore_n (req1 := [(3, .int ((-4))), (0, .ref 65), (1, .int (p1)), (2, .int (p2))]) rfl rfl rfl ?_
  refine EX.iconst (v := 0) rfl rfl ?_
  refine EX.istore (req1 := [(4, .int (0)), (3, .int ((-4))), (0, .ref 65), (1, .int (p1)), (2, .int (p2))]) rfl rfl rfl ?_
  obtain ⟨x6, hx6, h⟩ := bnd_some h
  refine EX.pick [2, 3, 4, 1, 0] ?_ rfl
  refine lp_sound (f := fun s => B_MD_find_6 N (p1) (p2) s.1 s.2.1 s.2.2.1 s.2.2.2) (PS := fun s => EX w0 ev 0 m_MD_find 6 [(0, .ref 65), (1, .int (p1)), (2, .int (p2)), (3, .int (s.1)), (4, .int (s.2.1))] [] (s.2.2.1) (s.2.2.2) (oI o)) (PX := fun x => EX w0 ev 0 m_MD_find 50 [(3, .int (x.1))] [] (x.2.1) (x.2.2) (oI o)) ?_ N _ x6 hx6 ?_
  · exact fun s z hz hk => bB_MD_find_6 ev hz hk
  show EX w0 ev 0 m_MD_find 50 [(3, .int (x6.1))] [] (x6.2.1) (x6.2.2) (oI o)
  refine EX.iload_n (x := x6.1) rfl (List.mem_of_getElem? (i := 0) rfl) ?_
  obtain rfl := Option.some.inj h
  exact EX.iret rfl rfl
def f_MD_lamp (N : Nat) (p1 : Int32) (p2 : Int32) (p3 : Int32) (hi : HI) (hl : HL) : Option (Int32 × HI × HL) :=
  (f_MD_isWire N (p1) (hi) (hl)).bind fun z1 => if (z1.1 : Int32) = 0 then some ((-1), z1.2.1, z1.2.2) else (f_MD_isWire N (p2) (z1.2.1) (z1.2.2)).bind fun z3 => if (z3.1 : Int32) = 0 then some ((-1), z3.2.1, z3.2.2) else if (p1 : Int32) = (p2 : Int32) then some ((-1), z3.2.1, z3.2.2) else (f_MD_in N ((Int32.toInt64 (p3))) (1) (9) (z3.2.1) (z3.2.2)).bind fun z6 => if (z6.1 : Int32) = 0 then some ((-1), z6.2.1, z6.2.2) else (f_MD_find N (p1) (p2) (z6.2.1) (z6.2.2)).bind fun z8 => if (z8.1 : Int32) = ((-4) : Int32) then if (z8.2.1 65 2 : Int32) = (16 : Int32) then some ((-3), z8.2.1, z8.2.2) else if (z8.2.1 65 2 : Int32) < 0 ∨ 16 ≤ Int32.toNatClampNeg (z8.2.1 65 2) then none else if ((wr (z8.2.1) 66 (Int32.toNatClampNeg (z8.2.1 65 2)) (p1)) 65 2 : Int32) < 0 ∨ 16 ≤ Int32.toNatClampNeg ((wr (z8.2.1) 66 (Int32.toNatClampNeg (z8.2.1 65 2)) (p1)) 65 2) then none else if ((wr (wr (z8.2.1) 66 (Int32.toNatClampNeg (z8.2.1 65 2)) (p1)) 67 (Int32.toNatClampNeg ((wr (z8.2.1) 66 (Int32.toNatClampNeg (z8.2.1 65 2)) (p1)) 65 2)) (p2)) 65 2 : Int32) < 0 ∨ 16 ≤ Int32.toNatClampNeg ((wr (wr (z8.2.1) 66 (Int32.toNatClampNeg (z8.2.1 65 2)) (p1)) 67 (Int32.toNatClampNeg ((wr (z8.2.1) 66 (Int32.toNatClampNeg (z8.2.1 65 2)) (p1)) 65 2)) (p2)) 65 2) then none else if ((wr (wr (wr (z8.2.1) 66 (Int32.toNatClampNeg (z8.2.1 65 2)) (p1)) 67 (Int32.toNatClampNeg ((wr (z8.2.1) 66 (Int32.toNatClampNeg (z8.2.1 65 2)) (p1)) 65 2)) (p2)) 68 (Int32.toNatClampNeg ((wr (wr (z8.2.1) 66 (Int32.toNatClampNeg (z8.2.1 65 2)) (p1)) 67 (Int32.toNatClampNeg ((wr (z8.2.1) 66 (Int32.toNatClampNeg (z8.2.1 65 2)) (p1)) 65 2)) (p2)) 65 2)) (p3)) 65 2 : Int32) < 0 ∨ 16 ≤ Int32.toNatClampNeg ((wr (wr (wr (z8.2.1) 66 (Int32.toNatClampNeg (z8.2.1 65 2)) (p1)) 67 (Int32.toNatClampNeg ((wr (z8.2.1) 66 (Int32.toNatClampNeg (z8.2.1 65 2)) (p1)) 65 2)) (p2)) 68 (Int32.toNatClampNeg ((wr (wr (z8.2.1) 66 (Int32.toNatClampNeg (z8.2.1 65 2)) (p1)) 67 (Int32.toNatClampNeg ((wr (z8.2.1) 66 (Int32.toNatClampNeg (z8.2.1 65 2)) (p1)) 65 2)) (p2)) 65 2)) (p3)) 65 2) then none else if ((wr (wr (wr (wr (z8.2.1) 66 (Int32.toNatClampNeg (z8.2.1 65 2)) (p1)) 67 (Int32.toNatClampNeg ((wr (z8.2.1) 66 (Int32.toNatClampNeg (z8.2.1 65 2)) (p1)) 65 2)) (p2)) 68 (Int32.toNatClampNeg ((wr (wr (z8.2.1) 66 (Int32.toNatClampNeg (z8.2.1 65 2)) (p1)) 67 (Int32.toNatClampNeg ((wr (z8.2.1) 66 (Int32.toNatClampNeg (z8.2.1 65 2)) (p1)) 65 2)) (p2)) 65 2)) (p3)) 69 (Int32.toNatClampNeg ((wr (wr (wr (z8.2.1) 66 (Int32.toNatClampNeg (z8.2.1 65 2)) (p1)) 67 (Int32.toNatClampNeg ((wr (z8.2.1) 66 (Int32.toNatClampNeg (z8.2.1 65 2)) (p1)) 65 2)) (p2)) 68 (Int32.toNatClampNeg ((wr (wr (z8.2.1) 66 (Int32.toNatClampNeg (z8.2.1 65 2)) (p1)) 67 (Int32.toNatClampNeg ((wr (z8.2.1) 66 (Int32.toNatClampNeg (z8.2.1 65 2)) (p1)) 65 2)) (p2)) 65 2)) (p3)) 65 2)) (0)) 65 2 : Int32) < 0 ∨ 16 ≤ Int32.toNatClampNeg ((wr (wr (wr (wr (z8.2.1) 66 (Int32.toNatClampNeg (z8.2.1 65 2)) (p1)) 67 (Int32.toNatClampNeg ((wr (z8.2.1) 66 (Int32.toNatClampNeg (z8.2.1 65 2)) (p1)) 65 2)) (p2)) 68 (Int32.toNatClampNeg ((wr (wr (z8.2.1) 66 (Int32.toNatClampNeg (z8.2.1 65 2)) (p1)) 67 (Int32.toNatClampNeg ((wr (z8.2.1) 66 (Int32.toNatClampNeg (z8.2.1 65 2)) (p1)) 65 2)) (p2)) 65 2)) (p3)) 69 (Int32.toNatClampNeg ((wr (wr (wr (z8.2.1) 66 (Int32.toNatClampNeg (z8.2.1 65 2)) (p1)) 67 (Int32.toNatClampNeg ((wr (z8.2.1) 66 (Int32.toNatClampNeg (z8.2.1 65 2)) (p1)) 65 2)) (p2)) 68 (Int32.toNatClampNeg ((wr (wr (z8.2.1) 66 (Int32.toNatClampNeg (z8.2.1 65 2)) (p1)) 67 (Int32.toNatClampNeg ((wr (z8.2.1) 66 (Int32.toNatClampNeg (z8.2.1 65 2)) (p1)) 65 2)) (p2)) 65 2)) (p3)) 65 2)) (0)) 65 2) then none else some ((((wr (wr (wr (wr (wr (wr (wr (z8.2.1) 66 (Int32.toNatClampNeg (z8.2.1 65 2)) (p1)) 67 (Int32.toNatClampNeg ((wr (z8.2.1) 66 (Int32.toNatClampNeg (z8.2.1 65 2)) (p1)) 65 2)) (p2)) 68 (Int32.toNatClampNeg ((wr (wr (z8.2.1) 66 (Int32.toNatClampNeg (z8.2.1 65 2)) (p1)) 67 (Int32.toNatClampNeg ((wr (z8.2.1) 66 (Int32.toNatClampNeg (z8.2.1 65 2)) (p1)) 65 2)) (p2)) 65 2)) (p3)) 69 (Int32.toNatClampNeg ((wr (wr (wr (z8.2.1) 66 (Int32.toNatClampNeg (z8.2.1 65 2)) (p1)) 67 (Int32.toNatClampNeg ((wr (z8.2.1) 66 (Int32.toNatClampNeg (z8.2.1 65 2)) (p1)) 65 2)) (p2)) 68 (Int32.toNatClampNeg ((wr (wr (z8.2.1) 66 (Int32.toNatClampNeg (z8.2.1 65 2)) (p1)) 67 (Int32.toNatClampNeg ((wr (z8.2.1) 66 (Int32.toNatClampNeg (z8.2.1 65 2)) (p1)) 65 2)) (p2)) 65 2)) (p3)) 65 2)) (0)) 70 (Int32.toNatClampNeg ((wr (wr (wr (wr (z8.2.1) 66 (Int32.toNatClampNeg (z8.2.1 65 2)) (p1)) 67 (Int32.toNatClampNeg ((wr (z8.2.1) 66 (Int32.toNatClampNeg (z8.2.1 65 2)) (p1)) 65 2)) (p2)) 68 (Int32.toNatClampNeg ((wr (wr (z8.2.1) 66 (Int32.toNatClampNeg (z8.2.1 65 2)) (p1)) 67 (Int32.toNatClampNeg ((wr (z8.2.1) 66 (Int32.toNatClampNeg (z8.2.1 65 2)) (p1)) 65 2)) (p2)) 65 2)) (p3)) 69 (Int32.toNatClampNeg ((wr (wr (wr (z8.2.1) 66 (Int32.toNatClampNeg (z8.2.1 65 2)) (p1)) 67 (Int32.toNatClampNeg ((wr (z8.2.1) 66 (Int32.toNatClampNeg (z8.2.1 65 2)) (p1)) 65 2)) (p2)) 68 (Int32.toNatClampNeg ((wr (wr (z8.2.1) 66 (Int32.toNatClampNeg (z8.2.1 65 2)) (p1)) 67 (Int32.toNatClampNeg ((wr (z8.2.1) 66 (Int32.toNatClampNeg (z8.2.1 65 2)) (p1)) 65 2)) (p2)) 65 2)) (p3)) 65 2)) (0)) 65 2)) (0)) 65 2 ((((wr (wr (wr (wr (wr (z8.2.1) 66 (Int32.toNatClampNeg (z8.2.1 65 2)) (p1)) 67 (Int32.toNatClampNeg ((wr (z8.2.1) 66 (Int32.toNatClampNeg (z8.2.1 65 2)) (p1)) 65 2)) (p2)) 68 (Int32.toNatClampNeg ((wr (wr (z8.2.1) 66 (Int32.toNatClampNeg (z8.2.1 65 2)) (p1)) 67 (Int32.toNatClampNeg ((wr (z8.2.1) 66 (Int32.toNatClampNeg (z8.2.1 65 2)) (p1)) 65 2)) (p2)) 65 2)) (p3)) 69 (Int32.toNatClampNeg ((wr (wr (wr (z8.2.1) 66 (Int32.toNatClampNeg (z8.2.1 65 2)) (p1)) 67 (Int32.toNatClampNeg ((wr (z8.2.1) 66 (Int32.toNatClampNeg (z8.2.1 65 2)) (p1)) 65 2)) (p2)) 68 (Int32.toNatClampNeg ((wr (wr (z8.2.1) 66 (Int32.toNatClampNeg (z8.2.1 65 2)) (p1)) 67 (Int32.toNatClampNeg ((wr (z8.2.1) 66 (Int32.toNatClampNeg (z8.2.1 65 2)) (p1)) 65 2)) (p2)) 65 2)) (p3)) 65 2)) (0)) 70 (Int32.toNatClampNeg ((wr (wr (wr (wr (z8.2.1) 66 (Int32.toNatClampNeg (z8.2.1 65 2)) (p1)) 67 (Int32.toNatClampNeg ((wr (z8.2.1) 66 (Int32.toNatClampNeg (z8.2.1 65 2)) (p1)) 65 2)) (p2)) 68 (Int32.toNatClampNeg ((wr (wr (z8.2.1) 66 (Int32.toNatClampNeg (z8.2.1 65 2)) (p1)) 67 (Int32.toNatClampNeg ((wr (z8.2.1) 66 (Int32.toNatClampNeg (z8.2.1 65 2)) (p1)) 65 2)) (p2)) 65 2)) (p3)) 69 (Int32.toNatClampNeg ((wr (wr (wr (z8.2.1) 66 (Int32.toNatClampNeg (z8.2.1 65 2)) (p1)) 67 (Int32.toNatClampNeg ((wr (z8.2.1) 66 (Int32.toNatClampNeg (z8.2.1 65 2)) (p1)) 65 2)) (p2)) 68 (Int32.toNatClampNeg ((wr (wr (z8.2.1) 66 (Int32.toNatClampNeg (z8.2.1 65 2)) (p1)) 67 (Int32.toNatClampNeg ((wr (z8.2.1) 66 (Int32.toNatClampNeg (z8.2.1 65 2)) (p1)) 65 2)) (p2)) 65 2)) (p3)) 65 2)) (0)) 65 2)) (0)) 65 2 : Int32) + (1)))) 65 8 (0)) 65 2 : Int32) - (1)), wr (wr (wr (wr (wr (wr (wr (z8.2.1) 66 (Int32.toNatClampNeg (z8.2.1 65 2)) (p1)) 67 (Int32.toNatClampNeg ((wr (z8.2.1) 66 (Int32.toNatClampNeg (z8.2.1 65 2)) (p1)) 65 2)) (p2)) 68 (Int32.toNatClampNeg ((wr (wr (z8.2.1) 66 (Int32.toNatClampNeg (z8.2.1 65 2)) (p1)) 67 (Int32.toNatClampNeg ((wr (z8.2.1) 66 (Int32.toNatClampNeg (z8.2.1 65 2)) (p1)) 65 2)) (p2)) 65 2)) (p3)) 69 (Int32.toNatClampNeg ((wr (wr (wr (z8.2.1) 66 (Int32.toNatClampNeg (z8.2.1 65 2)) (p1)) 67 (Int32.toNatClampNeg ((wr (z8.2.1) 66 (Int32.toNatClampNeg (z8.2.1 65 2)) (p1)) 65 2)) (p2)) 68 (Int32.toNatClampNeg ((wr (wr (z8.2.1) 66 (Int32.toNatClampNeg (z8.2.1 65 2)) (p1)) 67 (Int32.toNatClampNeg ((wr (z8.2.1) 66 (Int32.toNatClampNeg (z8.2.1 65 2)) (p1)) 65 2)) (p2)) 65 2)) (p3)) 65 2)) (0)) 70 (Int32.toNatClampNeg ((wr (wr (wr (wr (z8.2.1) 66 (Int32.toNatClampNeg (z8.2.1 65 2)) (p1)) 67 (Int32.toNatClampNeg ((wr (z8.2.1) 66 (Int32.toNatClampNeg (z8.2.1 65 2)) (p1)) 65 2)) (p2)) 68 (Int32.toNatClampNeg ((wr (wr (z8.2.1) 66 (Int32.toNatClampNeg (z8.2.1 65 2)) (p1)) 67 (Int32.toNatClampNeg ((wr (z8.2.1) 66 (Int32.toNatClampNeg (z8.2.1 65 2)) (p1)) 65 2)) (p2)) 65 2)) (p3)) 69 (Int32.toNatClampNeg ((wr (wr (wr (z8.2.1) 66 (Int32.toNatClampNeg (z8.2.1 65 2)) (p1)) 67 (Int32.toNatClampNeg ((wr (z8.2.1) 66 (Int32.toNatClampNeg (z8.2.1 65 2)) (p1)) 65 2)) (p2)) 68 (Int32.toNatClampNeg ((wr (wr (z8.2.1) 66 (Int32.toNatClampNeg (z8.2.1 65 2)) (p1)) 67 (Int32.toNatClampNeg ((wr (z8.2.1) 66 (Int32.toNatClampNeg (z8.2.1 65 2)) (p1)) 65 2)) (p2)) 65 2)) (p3)) 65 2)) (0)) 65 2)) (0)) 65 2 ((((wr (wr (wr (wr (wr (z8.2.1) 66 (Int32.toNatClampNeg (z8.2.1 65 2)) (p1)) 67 (Int32.toNatClampNeg ((wr (z8.2.1) 66 (Int32.toNatClampNeg (z8.2.1 65 2)) (p1)) 65 2)) (p2)) 68 (Int32.toNatClampNeg ((wr (wr (z8.2.1) 66 (Int32.toNatClampNeg (z8.2.1 65 2)) (p1)) 67 (Int32.toNatClampNeg ((wr (z8.2.1) 66 (Int32.toNatClampNeg (z8.2.1 65 2)) (p1)) 65 2)) (p2)) 65 2)) (p3)) 69 (Int32.toNatClampNeg ((wr (wr (wr (z8.2.1) 66 (Int32.toNatClampNeg (z8.2.1 65 2)) (p1)) 67 (Int32.toNatClampNeg ((wr (z8.2.1) 66 (Int32.toNatClampNeg (z8.2.1 65 2)) (p1)) 65 2)) (p2)) 68 (Int32.toNatClampNeg ((wr (wr (z8.2.1) 66 (Int32.toNatClampNeg (z8.2.1 65 2)) (p1)) 67 (Int32.toNatClampNeg ((wr (z8.2.1) 66 (Int32.toNatClampNeg (z8.2.1 65 2)) (p1)) 65 2)) (p2)) 65 2)) (p3)) 65 2)) (0)) 70 (Int32.toNatClampNeg ((wr (wr (wr (wr (z8.2.1) 66 (Int32.toNatClampNeg (z8.2.1 65 2)) (p1)) 67 (Int32.toNatClampNeg ((wr (z8.2.1) 66 (Int32.toNatClampNeg (z8.2.1 65 2)) (p1)) 65 2)) (p2)) 68 (Int32.toNatClampNeg ((wr (wr (z8.2.1) 66 (Int32.toNatClampNeg (z8.2.1 65 2)) (p1)) 67 (Int32.toNatClampNeg ((wr (z8.2.1) 66 (Int32.toNatClampNeg (z8.2.1 65 2)) (p1)) 65 2)) (p2)) 65 2)) (p3)) 69 (Int32.toNatClampNeg ((wr (wr (wr (z8.2.1) 66 (Int32.toNatClampNeg (z8.2.1 65 2)) (p1)) 67 (Int32.toNatClampNeg ((wr (z8.2.1) 66 (Int32.toNatClampNeg (z8.2.1 65 2)) (p1)) 65 2)) (p2)) 68 (Int32.toNatClampNeg ((wr (wr (z8.2.1) 66 (Int32.toNatClampNeg (z8.2.1 65 2)) (p1)) 67 (Int32.toNatClampNeg ((wr (z8.2.1) 66 (Int32.toNatClampNeg (z8.2.1 65 2)) (p1)) 65 2)) (p2)) 65 2)) (p3)) 65 2)) (0)) 65 2)) (0)) 65 2 : Int32) + (1)))) 65 8 (0), z8.2.2) else some ((-2), z8.2.1, z8.2.2)
set_option maxRecDepth 10000 in
set_option maxHeartbeats 4000000 in
theorem b_MD_lamp (ev : EV) {N : Nat} {p1 : Int32} {p2 : Int32} {p3 : Int32} {hi : HI} {hl : HL} {o : Int32 × HI × HL} (h : f_MD_lamp N p1 p2 p3 hi hl = some o) : EM w0 ev 3 m_MD_lamp [.ref 65, .int (p1), .int (p2), .int (p3)] hi hl (oI o) := by
  unfold f_MD_lamp at h
  refine EM.of rfl ?_
  show EX w0 ev 2 m_MD_lamp 0 [(0, .ref 65), (1, .int (p1)), (2, .int (p2)), (3, .int (p3))] [] (hi) (hl) (oI o)
  refine EX.aload_n (x := 65) rfl (List.mem_of_getElem? (i := 0) rfl) ?_
  refine EX.iload_n (x := p1) rfl (List.mem_of_getElem? (i := 1) rfl) ?_
  obtain ⟨z1, hz1, h⟩ := bnd_some h
  refine EX.callV (b := 65) (as := [.int (p1)]) (rest := []) (r := some (.int (z1.1))) (hi1 := z1.2.1) (hl1 := z1.2.2) rfl rfl rfl rfl rfl rfl ((b_MD_isWire ev hz1).mono (by decide)) ?_
  show EX w0 ev 2 m_MD_lamp 5 [(0, .ref 65), (1, .int (p1)), (2, .int (p2)), (3, .int (p3))] [.int (z1.1)] (z1.2.1) (z1.2.2) (oI o)
  rcases ite_some h with ⟨c2, h⟩ | ⟨c2, h⟩
  · refine EX.go (i := .ifCond .eq 28) (len := 3) (pc1 := 33) (st1 := []) (hi1 := z1.2.1) (hl1 := z1.2.2) rfl ?_ (fun _ _ _ => if_pos c2)
    refine EX.iconst (v := (-1)) rfl rfl ?_
    obtain rfl := Option.some.inj h
    exact EX.iret rfl rfl
  · refine EX.go (i := .ifCond .eq 28) (len := 3) (pc1 := 8) (st1 := []) (hi1 := z1.2.1) (hl1 := z1.2.2) rfl ?_ (fun _ _ _ => if_neg c2)
    refine EX.aload_n (x := 65) rfl (List.mem_of_getElem? (i := 0) rfl) ?_
    refine EX.iload_n (x := p2) rfl (List.mem_of_getElem? (i := 2) rfl) ?_
    obtain ⟨z3, hz3, h⟩ := bnd_some h
    refine EX.callV (b := 65) (as := [.int (p2)]) (rest := []) (r := some (.int (z3.1))) (hi1 := z3.2.1) (hl1 := z3.2.2) rfl rfl rfl rfl rfl rfl ((b_MD_isWire ev hz3).mono (by decide)) ?_
    show EX w0 ev 2 m_MD_lamp 13 [(0, .ref 65), (1, .int (p1)), (2, .int (p2)), (3, .int (p3))] [.int (z3.1)] (z3.2.1) (z3.2.2) (oI o)
    rcases ite_some h with ⟨c4, h⟩ | ⟨c4, h⟩
    · refine EX.go (i := .ifCond .eq 20) (len := 3) (pc1 := 33) (st1 := []) (hi1 := z3.2.1) (hl1 := z3.2.2) rfl ?_ (fun _ _ _ => if_pos c4)
      refine EX.iconst (v := (-1)) rfl rfl ?_
      obtain rfl := Option.some.inj h
      exact EX.iret rfl rfl
    · refine EX.go (i := .ifCond .eq 20) (len := 3) (pc1 := 16) (st1 := []) (hi1 := z3.2.1) (hl1 := z3.2.2) rfl ?_ (fun _ _ _ => if_neg c4)
      refine EX.iload_n (x := p1) rfl (List.mem_of_getElem? (i := 1) rfl) ?_
      refine EX.iload_n (x := p2) rfl (List.mem_of_getElem? (i := 2) rfl) ?_
      rcases ite_some h with ⟨c5, h⟩ | ⟨c5, h⟩
      · refine EX.go (i := .if_icmp .eq 15) (len := 3) (pc1 := 33) (st1 := []) (hi1 := z3.2.1) (hl1 := z3.2.2) rfl ?_ (fun _ _ _ => if_pos c5)
        refine EX.iconst (v := (-1)) rfl rfl ?_
        obtain rfl := Option.some.inj h
        exact EX.iret rfl rfl
      · refine EX.go (i := .if_icmp .eq 15) (len := 3) (pc1 := 21) (st1 := []) (hi1 := z3.2.1) (hl1 := z3.2.2) rfl ?_ (fun _ _ _ => if_neg c5)
        refine EX.iload_n (x := p3) rfl (List.mem_of_getElem? (i := 3) rfl) ?_
        refine EX.go (i := .i2l) (len := 1) (pc1 := 23) (st1 := [.long ((Int32.toInt64 (p3)))]) (hi1 := z3.2.1) (hl1 := z3.2.2) rfl ?_ (fun _ _ _ => rfl)
        refine EX.lconst (v := 1) rfl rfl ?_
        refine EX.go (i := .ldc2_w 132) (len := 3) (pc1 := 27) (st1 := [.long (9), .long (1), .long ((Int32.toInt64 (p3)))]) (hi1 := z3.2.1) (hl1 := z3.2.2) rfl ?_ (fun _ _ _ => rfl)
        obtain ⟨z6, hz6, h⟩ := bnd_some h
        refine EX.callS (as := [.long ((Int32.toInt64 (p3))), .long (1), .long (9)]) (rest := []) (r := some (.int (z6.1))) (hi1 := z6.2.1) (hl1 := z6.2.2) rfl rfl rfl rfl rfl rfl ((b_MD_in ev hz6).mono (by decide)) ?_
        show EX w0 ev 2 m_MD_lamp 30 [(0, .ref 65), (1, .int (p1)), (2, .int (p2)), (3, .int (p3))] [.int (z6.1)] (z6.2.1) (z6.2.2) (oI o)
        rcases ite_some h with ⟨c7, h⟩ | ⟨c7, h⟩
        · refine EX.go (i := .ifCond .ne 5) (len := 3) (pc1 := 33) (st1 := []) (hi1 := z6.2.1) (hl1 := z6.2.2) rfl ?_ (fun _ _ _ => if_pos c7)
          refine EX.iconst (v := (-1)) rfl rfl ?_
          obtain rfl := Option.some.inj h
          exact EX.iret rfl rfl
        · refine EX.go (i := .ifCond .ne 5) (len := 3) (pc1 := 35) (st1 := []) (hi1 := z6.2.1) (hl1 := z6.2.2) rfl ?_ (fun _ _ _ => if_neg c7)
          refine EX.aload_n (x := 65) rfl (List.mem_of_getElem? (i := 0) rfl) ?_
          refine EX.iload_n (x := p1) rfl (List.mem_of_getElem? (i := 1) rfl) ?_
          refine EX.iload_n (x := p2) rfl (List.mem_of_getElem? (i := 2) rfl) ?_
          obtain ⟨z8, hz8, h⟩ := bnd_some h
          refine EX.callV (b := 65) (as := [.int (p1), .int (p2)]) (rest := []) (r := some (.int (z8.1))) (hi1 := z8.2.1) (hl1 := z8.2.2) rfl rfl rfl rfl rfl rfl ((b_MD_find ev hz8).mono (by decide)) ?_
          show EX w0 ev 2 m_MD_lamp 41 [(0, .ref 65), (1, .int (p1)), (2, .int (p2)), (3, .int (p3))] [.int (z8.1)] (z8.2.1) (z8.2.2) (oI o)
          refine EX.bipush (v := (-4)) rfl rfl ?_
          rcases ite_some h with ⟨c9, h⟩ | ⟨c9, h⟩
          · refine EX.go (i := .if_icmp .eq 6) (len := 3) (pc1 := 49) (st1 := []) (hi1 := z8.2.1) (hl1 := z8.2.2) rfl ?_ (fun _ _ _ => if_pos c9)
            refine EX.aload_n (x := 65) rfl (List.mem_of_getElem? (i := 0) rfl) ?_
            refine EX.go (i := .getfield 116) (len := 3) (pc1 := 53) (st1 := [.int (z8.2.1 65 2)]) (hi1 := z8.2.1) (hl1 := z8.2.2) rfl ?_ (fun _ _ _ => rfl)
            refine EX.bipush (v := 16) rfl rfl ?_
            rcases ite_some h with ⟨c10, h⟩ | ⟨c10, h⟩
            · refine EX.go (i := .if_icmp .ne 6) (len := 3) (pc1 := 58) (st1 := []) (hi1 := z8.2.1) (hl1 := z8.2.2) rfl ?_ (fun _ _ _ => if_pos c10)
              refine EX.bipush (v := (-3)) rfl rfl ?_
              obtain rfl := Option.some.inj h
              exact EX.iret rfl rfl
            · refine EX.go (i := .if_icmp .ne 6) (len := 3) (pc1 := 61) (st1 := []) (hi1 := z8.2.1) (hl1 := z8.2.2) rfl ?_ (fun _ _ _ => if_neg c10)
              refine EX.aload_n (x := 65) rfl (List.mem_of_getElem? (i := 0) rfl) ?_
              refine EX.go (i := .getfield 16) (len := 3) (pc1 := 65) (st1 := [.ref 66]) (hi1 := z8.2.1) (hl1 := z8.2.2) rfl ?_ (fun _ _ _ => rfl)
              refine EX.aload_n (x := 65) rfl (List.mem_of_getElem? (i := 0) rfl) ?_
              refine EX.go (i := .getfield 116) (len := 3) (pc1 := 69) (st1 := [.int (z8.2.1 65 2), .ref 66]) (hi1 := z8.2.1) (hl1 := z8.2.2) rfl ?_ (fun _ _ _ => rfl)
              refine EX.iload_n (x := p1) rfl (List.mem_of_getElem? (i := 1) rfl) ?_
              obtain ⟨g11, h⟩ := grd_some h
              refine EX.iastore rfl rfl g11 ?_
              refine EX.aload_n (x := 65) rfl (List.mem_of_getElem? (i := 0) rfl) ?_
              refine EX.go (i := .getfield 20) (len := 3) (pc1 := 75) (st1 := [.ref 67]) (hi1 := wr (z8.2.1) 66 (Int32.toNatClampNeg (z8.2.1 65 2)) (p1)) (hl1 := z8.2.2) rfl ?_ (fun _ _ _ => rfl)
              refine EX.aload_n (x := 65) rfl (List.mem_of_getElem? (i := 0) rfl) ?_
              refine EX.go (i := .getfield 116) (len := 3) (pc1 := 79) (st1 := [.int ((wr (z8.2.1) 66 (Int32.toNatClampNeg (z8.2.1 65 2)) (p1)) 65 2), .ref 67]) (hi1 := wr (z8.2.1) 66 (Int32.toNatClampNeg (z8.2.1 65 2)) (p1)) (hl1 := z8.2.2) rfl ?_ (fun _ _ _ => rfl)
              refine EX.iload_n (x := p2) rfl (List.mem_of_getElem? (i := 2) rfl) ?_
              obtain ⟨g12, h⟩ := grd_some h
              refine EX.iastore rfl rfl g12 ?_
              refine EX.aload_n (x := 65) rfl (List.mem_of_getElem? (i := 0) rfl) ?_
              refine EX.go (i := .getfield 23) (len := 3) (pc1 := 85) (st1 := [.ref 68]) (hi1 := wr (wr (z8.2.1) 66 (Int32.toNatClampNeg (z8.2.1 65 2)) (p1)) 67 (Int32.toNatClampNeg ((wr (z8.2.1) 66 (Int32.toNatClampNeg (z8.2.1 65 2)) (p1)) 65 2)) (p2)) (hl1 := z8.2.2) rfl ?_ (fun _ _ _ => rfl)
              refine EX.aload_n (x := 65) rfl (List.mem_of_getElem? (i := 0) rfl) ?_
              refine EX.go (i := .getfield 116) (len := 3) (pc1 := 89) (st1 := [.int ((wr (wr (z8.2.1) 66 (Int32.toNatClampNeg (z8.2.1 65 2)) (p1)) 67 (Int32.toNatClampNeg ((wr (z8.2.1) 66 (Int32.toNatClampNeg (z8.2.1 65 2)) (p1)) 65 2)) (p2)) 65 2), .ref 68]) (hi1 := wr (wr (z8.2.1) 66 (Int32.toNatClampNeg (z8.2.1 65 2)) (p1)) 67 (Int32.toNatClampNeg ((wr (z8.2.1) 66 (Int32.toNatClampNeg (z8.2.1 65 2)) (p1)) 65 2)) (p2)) (hl1 := z8.2.2) rfl ?_ (fun _ _ _ => rfl)
              refine EX.iload_n (x := p3) rfl (List.mem_of_getElem? (i := 3) rfl) ?_
              obtain ⟨g13, h⟩ := grd_some h
              refine EX.iastore rfl rfl g13 ?_
              refine EX.aload_n (x := 65) rfl (List.mem_of_getElem? (i := 0) rfl) ?_
              refine EX.go (i := .getfield 26) (len := 3) (pc1 := 95) (st1 := [.ref 69]) (hi1 := wr (wr (wr (z8.2.1) 66 (Int32.toNatClampNeg (z8.2.1 65 2)) (p1)) 67 (Int32.toNatClampNeg ((wr (z8.2.1) 66 (Int32.toNatClampNeg (z8.2.1 65 2)) (p1)) 65 2)) (p2)) 68 (Int32.toNatClampNeg ((wr (wr (z8.2.1) 66 (Int32.toNatClampNeg (z8.2.1 65 2)) (p1)) 67 (Int32.toNatClampNeg ((wr (z8.2.1) 66 (Int32.toNatClampNeg (z8.2.1 65 2)) (p1)) 65 2)) (p2)) 65 2)) (p3)) (hl1 := z8.2.2) rfl ?_ (fun _ _ _ => rfl)
              refine EX.aload_n (x := 65) rfl (List.mem_of_getElem? (i := 0) rfl) ?_
              refine EX.go (i := .getfield 116) (len := 3) (pc1 := 99) (st1 := [.int ((wr (wr (wr (z8.2.1) 66 (Int32.toNatClampNeg (z8.2.1 65 2)) (p1)) 67 (Int32.toNatClampNeg ((wr (z8.2.1) 66 (Int32.toNatClampNeg (z8.2.1 65 2)) (p1)) 65 2)) (p2)) 68 (Int32.toNatClampNeg ((wr (wr (z8.2.1) 66 (Int32.toNatClampNeg (z8.2.1 65 2)) (p1)) 67 (Int32.toNatClampNeg ((wr (z8.2.1) 66 (Int32.toNatClampNeg (z8.2.1 65 2)) (p1)) 65 2)) (p2)) 65 2)) (p3)) 65 2), .ref 69]) (hi1 := wr (wr (wr (z8.2.1) 66 (Int32.toNatClampNeg (z8.2.1 65 2)) (p1)) 67 (Int32.toNatClampNeg ((wr (z8.2.1) 66 (Int32.toNatClampNeg (z8.2.1 65 2)) (p1)) 65 2)) (p2)) 68 (Int32.toNatClampNeg ((wr (wr (z8.2.1) 66 (Int32.toNatClampNeg (z8.2.1 65 2)) (p1)) 67 (Int32.toNatClampNeg ((wr (z8.2.1) 66 (Int32.toNatClampNeg (z8.2.1 65 2)) (p1)) 65 2)) (p2)) 65 2)) (p3)) (hl1 := z8.2.2) rfl ?_ (fun _ _ _ => rfl)
              refine EX.iconst (v := 0) rfl rfl ?_
              obtain ⟨g14, h⟩ := grd_some h
              refine EX.iastore rfl rfl g14 ?_
              refine EX.aload_n (x := 65) rfl (List.mem_of_getElem? (i := 0) rfl) ?_
              refine EX.go (i := .getfield 29) (len := 3) (pc1 := 105) (st1 := [.ref 70]) (hi1 := wr (wr (wr (wr (z8.2.1) 66 (Int32.toNatClampNeg (z8.2.1 65 2)) (p1)) 67 (Int32.toNatClampNeg ((wr (z8.2.1) 66 (Int32.toNatClampNeg (z8.2.1 65 2)) (p1)) 65 2)) (p2)) 68 (Int32.toNatClampNeg ((wr (wr (z8.2.1) 66 (Int32.toNatClampNeg (z8.2.1 65 2)) (p1)) 67 (Int32.toNatClampNeg ((wr (z8.2.1) 66 (Int32.toNatClampNeg (z8.2.1 65 2)) (p1)) 65 2)) (p2)) 65 2)) (p3)) 69 (Int32.toNatClampNeg ((wr (wr (wr (z8.2.1) 66 (Int32.toNatClampNeg (z8.2.1 65 2)) (p1)) 67 (Int32.toNatClampNeg ((wr (z8.2.1) 66 (Int32.toNatClampNeg (z8.2.1 65 2)) (p1)) 65 2)) (p2)) 68 (Int32.toNatClampNeg ((wr (wr (z8.2.1) 66 (Int32.toNatClampNeg (z8.2.1 65 2)) (p1)) 67 (Int32.toNatClampNeg ((wr (z8.2.1) 66 (Int32.toNatClampNeg (z8.2.1 65 2)) (p1)) 65 2)) (p2)) 65 2)) (p3)) 65 2)) (0)) (hl1 := z8.2.2) rfl ?_ (fun _ _ _ => rfl)
              refine EX.aload_n (x := 65) rfl (List.mem_of_getElem? (i := 0) rfl) ?_
              refine EX.go (i := .getfield 116) (len := 3) (pc1 := 109) (st1 := [.int ((wr (wr (wr (wr (z8.2.1) 66 (Int32.toNatClampNeg (z8.2.1 65 2)) (p1)) 67 (Int32.toNatClampNeg ((wr (z8.2.1) 66 (Int32.toNatClampNeg (z8.2.1 65 2)) (p1)) 65 2)) (p2)) 68 (Int32.toNatClampNeg ((wr (wr (z8.2.1) 66 (Int32.toNatClampNeg (z8.2.1 65 2)) (p1)) 67 (Int32.toNatClampNeg ((wr (z8.2.1) 66 (Int32.toNatClampNeg (z8.2.1 65 2)) (p1)) 65 2)) (p2)) 65 2)) (p3)) 69 (Int32.toNatClampNeg ((wr (wr (wr (z8.2.1) 66 (Int32.toNatClampNeg (z8.2.1 65 2)) (p1)) 67 (Int32.toNatClampNeg ((wr (z8.2.1) 66 (Int32.toNatClampNeg (z8.2.1 65 2)) (p1)) 65 2)) (p2)) 68 (Int32.toNatClampNeg ((wr (wr (z8.2.1) 66 (Int32.toNatClampNeg (z8.2.1 65 2)) (p1)) 67 (Int32.toNatClampNeg ((wr (z8.2.1) 66 (Int32.toNatClampNeg (z8.2.1 65 2)) (p1)) 65 2)) (p2)) 65 2)) (p3)) 65 2)) (0)) 65 2), .ref 70]) (hi1 := wr (wr (wr (wr (z8.2.1) 66 (Int32.toNatClampNeg (z8.2.1 65 2)) (p1)) 67 (Int32.toNatClampNeg ((wr (z8.2.1) 66 (Int32.toNatClampNeg (z8.2.1 65 2)) (p1)) 65 2)) (p2)) 68 (Int32.toNatClampNeg ((wr (wr (z8.2.1) 66 (Int32.toNatClampNeg (z8.2.1 65 2)) (p1)) 67 (Int32.toNatClampNeg ((wr (z8.2.1) 66 (Int32.toNatClampNeg (z8.2.1 65 2)) (p1)) 65 2)) (p2)) 65 2)) (p3)) 69 (Int32.toNatClampNeg ((wr (wr (wr (z8.2.1) 66 (Int32.toNatClampNeg (z8.2.1 65 2)) (p1)) 67 (Int32.toNatClampNeg ((wr (z8.2.1) 66 (Int32.toNatClampNeg (z8.2.1 65 2)) (p1)) 65 2)) (p2)) 68 (Int32.toNatClampNeg ((wr (wr (z8.2.1) 66 (Int32.toNatClampNeg (z8.2.1 65 2)) (p1)) 67 (Int32.toNatClampNeg ((wr (z8.2.1) 66 (Int32.toNatClampNeg (z8.2.1 65 2)) (p1)) 65 2)) (p2)) 65 2)) (p3)) 65 2)) (0)) (hl1 := z8.2.2) rfl ?_ (fun _ _ _ => rfl)
              refine EX.iconst (v := 0) rfl rfl ?_
              obtain ⟨g15, h⟩ := grd_some h
              refine EX.iastore rfl rfl g15 ?_
              refine EX.aload_n (x := 65) rfl (List.mem_of_getElem? (i := 0) rfl) ?_
              refine EX.go (i := .dup) (len := 1) (pc1 := 113) (st1 := [.ref 65, .ref 65]) (hi1 := wr (wr (wr (wr (wr (z8.2.1) 66 (Int32.toNatClampNeg (z8.2.1 65 2)) (p1)) 67 (Int32.toNatClampNeg ((wr (z8.2.1) 66 (Int32.toNatClampNeg (z8.2.1 65 2)) (p1)) 65 2)) (p2)) 68 (Int32.toNatClampNeg ((wr (wr (z8.2.1) 66 (Int32.toNatClampNeg (z8.2.1 65 2)) (p1)) 67 (Int32.toNatClampNeg ((wr (z8.2.1) 66 (Int32.toNatClampNeg (z8.2.1 65 2)) (p1)) 65 2)) (p2)) 65 2)) (p3)) 69 (Int32.toNatClampNeg ((wr (wr (wr (z8.2.1) 66 (Int32.toNatClampNeg (z8.2.1 65 2)) (p1)) 67 (Int32.toNatClampNeg ((wr (z8.2.1) 66 (Int32.toNatClampNeg (z8.2.1 65 2)) (p1)) 65 2)) (p2)) 68 (Int32.toNatClampNeg ((wr (wr (z8.2.1) 66 (Int32.toNatClampNeg (z8.2.1 65 2)) (p1)) 67 (Int32.toNatClampNeg ((wr (z8.2.1) 66 (Int32.toNatClampNeg (z8.2.1 65 2)) (p1)) 65 2)) (p2)) 65 2)) (p3)) 65 2)) (0)) 70 (Int32.toNatClampNeg ((wr (wr (wr (wr (z8.2.1) 66 (Int32.toNatClampNeg (z8.2.1 65 2)) (p1)) 67 (Int32.toNatClampNeg ((wr (z8.2.1) 66 (Int32.toNatClampNeg (z8.2.1 65 2)) (p1)) 65 2)) (p2)) 68 (Int32.toNatClampNeg ((wr (wr (z8.2.1) 66 (Int32.toNatClampNeg (z8.2.1 65 2)) (p1)) 67 (Int32.toNatClampNeg ((wr (z8.2.1) 66 (Int32.toNatClampNeg (z8.2.1 65 2)) (p1)) 65 2)) (p2)) 65 2)) (p3)) 69 (Int32.toNatClampNeg ((wr (wr (wr (z8.2.1) 66 (Int32.toNatClampNeg (z8.2.1 65 2)) (p1)) 67 (Int32.toNatClampNeg ((wr (z8.2.1) 66 (Int32.toNatClampNeg (z8.2.1 65 2)) (p1)) 65 2)) (p2)) 68 (Int32.toNatClampNeg ((wr (wr (z8.2.1) 66 (Int32.toNatClampNeg (z8.2.1 65 2)) (p1)) 67 (Int32.toNatClampNeg ((wr (z8.2.1) 66 (Int32.toNatClampNeg (z8.2.1 65 2)) (p1)) 65 2)) (p2)) 65 2)) (p3)) 65 2)) (0)) 65 2)) (0)) (hl1 := z8.2.2) rfl ?_ (fun _ _ _ => rfl)
              refine EX.go (i := .getfield 116) (len := 3) (pc1 := 116) (st1 := [.int ((wr (wr (wr (wr (wr (z8.2.1) 66 (Int32.toNatClampNeg (z8.2.1 65 2)) (p1)) 67 (Int32.toNatClampNeg ((wr (z8.2.1) 66 (Int32.toNatClampNeg (z8.2.1 65 2)) (p1)) 65 2)) (p2)) 68 (Int32.toNatClampNeg ((wr (wr (z8.2.1) 66 (Int32.toNatClampNeg (z8.2.1 65 2)) (p1)) 67 (Int32.toNatClampNeg ((wr (z8.2.1) 66 (Int32.toNatClampNeg (z8.2.1 65 2)) (p1)) 65 2)) (p2)) 65 2)) (p3)) 69 (Int32.toNatClampNeg ((wr (wr (wr (z8.2.1) 66 (Int32.toNatClampNeg (z8.2.1 65 2)) (p1)) 67 (Int32.toNatClampNeg ((wr (z8.2.1) 66 (Int32.toNatClampNeg (z8.2.1 65 2)) (p1)) 65 2)) (p2)) 68 (Int32.toNatClampNeg ((wr (wr (z8.2.1) 66 (Int32.toNatClampNeg (z8.2.1 65 2)) (p1)) 67 (Int32.toNatClampNeg ((wr (z8.2.1) 66 (Int32.toNatClampNeg (z8.2.1 65 2)) (p1)) 65 2)) (p2)) 65 2)) (p3)) 65 2)) (0)) 70 (Int32.toNatClampNeg ((wr (wr (wr (wr (z8.2.1) 66 (Int32.toNatClampNeg (z8.2.1 65 2)) (p1)) 67 (Int32.toNatClampNeg ((wr (z8.2.1) 66 (Int32.toNatClampNeg (z8.2.1 65 2)) (p1)) 65 2)) (p2)) 68 (Int32.toNatClampNeg ((wr (wr (z8.2.1) 66 (Int32.toNatClampNeg (z8.2.1 65 2)) (p1)) 67 (Int32.toNatClampNeg ((wr (z8.2.1) 66 (Int32.toNatClampNeg (z8.2.1 65 2)) (p1)) 65 2)) (p2)) 65 2)) (p3)) 69 (Int32.toNatClampNeg ((wr (wr (wr (z8.2.1) 66 (Int32.toNatClampNeg (z8.2.1 65 2)) (p1)) 67 (Int32.toNatClampNeg ((wr (z8.2.1) 66 (Int32.toNatClampNeg (z8.2.1 65 2)) (p1)) 65 2)) (p2)) 68 (Int32.toNatClampNeg ((wr (wr (z8.2.1) 66 (Int32.toNatClampNeg (z8.2.1 65 2)) (p1)) 67 (Int32.toNatClampNeg ((wr (z8.2.1) 66 (Int32.toNatClampNeg (z8.2.1 65 2)) (p1)) 65 2)) (p2)) 65 2)) (p3)) 65 2)) (0)) 65 2)) (0)) 65 2), .ref 65]) (hi1 := wr (wr (wr (wr (wr (z8.2.1) 66 (Int32.toNatClampNeg (z8.2.1 65 2)) (p1)) 67 (Int32.toNatClampNeg ((wr (z8.2.1) 66 (Int32.toNatClampNeg (z8.2.1 65 2)) (p1)) 65 2)) (p2)) 68 (Int32.toNatClampNeg ((wr (wr (z8.2.1) 66 (Int32.toNatClampNeg (z8.2.1 65 2)) (p1)) 67 (Int32.toNatClampNeg ((wr (z8.2.1) 66 (Int32.toNatClampNeg (z8.2.1 65 2)) (p1)) 65 2)) (p2)) 65 2)) (p3)) 69 (Int32.toNatClampNeg ((wr (wr (wr (z8.2.1) 66 (Int32.toNatClampNeg (z8.2.1 65 2)) (p1)) 67 (Int32.toNatClampNeg ((wr (z8.2.1) 66 (Int32.toNatClampNeg (z8.2.1 65 2)) (p1)) 65 2)) (p2)) 68 (Int32.toNatClampNeg ((wr (wr (z8.2.1) 66 (Int32.toNatClampNeg (z8.2.1 65 2)) (p1)) 67 (Int32.toNatClampNeg ((wr (z8.2.1) 66 (Int32.toNatClampNeg (z8.2.1 65 2)) (p1)) 65 2)) (p2)) 65 2)) (p3)) 65 2)) (0)) 70 (Int32.toNatClampNeg ((wr (wr (wr (wr (z8.2.1) 66 (Int32.toNatClampNeg (z8.2.1 65 2)) (p1)) 67 (Int32.toNatClampNeg ((wr (z8.2.1) 66 (Int32.toNatClampNeg (z8.2.1 65 2)) (p1)) 65 2)) (p2)) 68 (Int32.toNatClampNeg ((wr (wr (z8.2.1) 66 (Int32.toNatClampNeg (z8.2.1 65 2)) (p1)) 67 (Int32.toNatClampNeg ((wr (z8.2.1) 66 (Int32.toNatClampNeg (z8.2.1 65 2)) (p1)) 65 2)) (p2)) 65 2)) (p3)) 69 (Int32.toNatClampNeg ((wr (wr (wr (z8.2.1) 66 (Int32.toNatClampNeg (z8.2.1 65 2)) (p1)) 67 (Int32.toNatClampNeg ((wr (z8.2.1) 66 (Int32.toNatClampNeg (z8.2.1 65 2)) (p1)) 65 2)) (p2)) 68 (Int32.toNatClampNeg ((wr (wr (z8.2.1) 66 (Int32.toNatClampNeg (z8.2.1 65 2)) (p1)) 67 (Int32.toNatClampNeg ((wr (z8.2.1) 66 (Int32.toNatClampNeg (z8.2.1 65 2)) (p1)) 65 2)) (p2)) 65 2)) (p3)) 65 2)) (0)) 65 2)) (0)) (hl1 := z8.2.2) rfl ?_ (fun _ _ _ => rfl)
              refine EX.iconst (v := 1) rfl rfl ?_
              refine EX.go (i := .iadd) (len := 1) (pc1 := 118) (st1 := [.int ((((wr (wr (wr (wr (wr (z8.2.1) 66 (Int32.toNatClampNeg (z8.2.1 65 2)) (p1)) 67 (Int32.toNatClampNeg ((wr (z8.2.1) 66 (Int32.toNatClampNeg (z8.2.1 65 2)) (p1)) 65 2)) (p2)) 68 (Int32.toNatClampNeg ((wr (wr (z8.2.1) 66 (Int32.toNatClampNeg (z8.2.1 65 2)) (p1)) 67 (Int32.toNatClampNeg ((wr (z8.2.1) 66 (Int32.toNatClampNeg (z8.2.1 65 2)) (p1)) 65 2)) (p2)) 65 2)) (p3)) 69 (Int32.toNatClampNeg ((wr (wr (wr (z8.2.1) 66 (Int32.toNatClampNeg (z8.2.1 65 2)) (p1)) 67 (Int32.toNatClampNeg ((wr (z8.2.1) 66 (Int32.toNatClampNeg (z8.2.1 65 2)) (p1)) 65 2)) (p2)) 68 (Int32.toNatClampNeg ((wr (wr (z8.2.1) 66 (Int32.toNatClampNeg (z8.2.1 65 2)) (p1)) 67 (Int32.toNatClampNeg ((wr (z8.2.1) 66 (Int32.toNatClampNeg (z8.2.1 65 2)) (p1)) 65 2)) (p2)) 65 2)) (p3)) 65 2)) (0)) 70 (Int32.toNatClampNeg ((wr (wr (wr (wr (z8.2.1) 66 (Int32.toNatClampNeg (z8.2.1 65 2)) (p1)) 67 (Int32.toNatClampNeg ((wr (z8.2.1) 66 (Int32.toNatClampNeg (z8.2.1 65 2)) (p1)) 65 2)) (p2)) 68 (Int32.toNatClampNeg ((wr (wr (z8.2.1) 66 (Int32.toNatClampNeg (z8.2.1 65 2)) (p1)) 67 (Int32.toNatClampNeg ((wr (z8.2.1) 66 (Int32.toNatClampNeg (z8.2.1 65 2)) (p1)) 65 2)) (p2)) 65 2)) (p3)) 69 (Int32.toNatClampNeg ((wr (wr (wr (z8.2.1) 66 (Int32.toNatClampNeg (z8.2.1 65 2)) (p1)) 67 (Int32.toNatClampNeg ((wr (z8.2.1) 66 (Int32.toNatClampNeg (z8.2.1 65 2)) (p1)) 65 2)) (p2)) 68 (Int32.toNatClampNeg ((wr (wr (z8.2.1) 66 (Int32.toNatClampNeg (z8.2.1 65 2)) (p1)) 67 (Int32.toNatClampNeg ((wr (z8.2.1) 66 (Int32.toNatClampNeg (z8.2.1 65 2)) (p1)) 65 2)) (p2)) 65 2)) (p3)) 65 2)) (0)) 65 2)) (0)) 65 2 : Int32) + (1))), .ref 65]) (hi1 := wr (wr (wr (wr (wr (z8.2.1) 66 (Int32.toNatClampNeg (z8.2.1 65 2)) (p1)) 67 (Int32.toNatClampNeg ((wr (z8.2.1) 66 (Int32.toNatClampNeg (z8.2.1 65 2)) (p1)) 65 2)) (p2)) 68 (Int32.toNatClampNeg ((wr (wr (z8.2.1) 66 (Int32.toNatClampNeg (z8.2.1 65 2)) (p1)) 67 (Int32.toNatClampNeg ((wr (z8.2.1) 66 (Int32.toNatClampNeg (z8.2.1 65 2)) (p1)) 65 2)) (p2)) 65 2)) (p3)) 69 (Int32.toNatClampNeg ((wr (wr (wr (z8.2.1) 66 (Int32.toNatClampNeg (z8.2.1 65 2)) (p1)) 67 (Int32.toNatClampNeg ((wr (z8.2.1) 66 (Int32.toNatClampNeg (z8.2.1 65 2)) (p1)) 65 2)) (p2)) 68 (Int32.toNatClampNeg ((wr (wr (z8.2.1) 66 (Int32.toNatClampNeg (z8.2.1 65 2)) (p1)) 67 (Int32.toNatClampNeg ((wr (z8.2.1) 66 (Int32.toNatClampNeg (z8.2.1 65 2)) (p1)) 65 2)) (p2)) 65 2)) (p3)) 65 2)) (0)) 70 (Int32.toNatClampNeg ((wr (wr (wr (wr (z8.2.1) 66 (Int32.toNatClampNeg (z8.2.1 65 2)) (p1)) 67 (Int32.toNatClampNeg ((wr (z8.2.1) 66 (Int32.toNatClampNeg (z8.2.1 65 2)) (p1)) 65 2)) (p2)) 68 (Int32.toNatClampNeg ((wr (wr (z8.2.1) 66 (Int32.toNatClampNeg (z8.2.1 65 2)) (p1)) 67 (Int32.toNatClampNeg ((wr (z8.2.1) 66 (Int32.toNatClampNeg (z8.2.1 65 2)) (p1)) 65 2)) (p2)) 65 2)) (p3)) 69 (Int32.toNatClampNeg ((wr (wr (wr (z8.2.1) 66 (Int32.toNatClampNeg (z8.2.1 65 2)) (p1)) 67 (Int32.toNatClampNeg ((wr (z8.2.1) 66 (Int32.toNatClampNeg (z8.2.1 65 2)) (p1)) 65 2)) (p2)) 68 (Int32.toNatClampNeg ((wr (wr (z8.2.1) 66 (Int32.toNatClampNeg (z8.2.1 65 2)) (p1)) 67 (Int32.toNatClampNeg ((wr (z8.2.1) 66 (Int32.toNatClampNeg (z8.2.1 65 2)) (p1)) 65 2)) (p2)) 65 2)) (p3)) 65 2)) (0)) 65 2)) (0)) (hl1 := z8.2.2) rfl ?_ (fun _ _ _ => rfl)
              refine EX.go (i := .putfield 116) (len := 3) (pc1 := 121) (st1 := []) (hi1 := wr (wr (wr (wr (wr (wr (z8.2.1) 66 (Int32.toNatClampNeg (z8.2.1 65 2)) (p1)) 67 (Int32.toNatClampNeg ((wr (z8.2.1) 66 (Int32.toNatClampNeg (z8.2.1 65 2)) (p1)) 65 2)) (p2)) 68 (Int32.toNatClampNeg ((wr (wr (z8.2.1) 66 (Int32.toNatClampNeg (z8.2.1 65 2)) (p1)) 67 (Int32.toNatClampNeg ((wr (z8.2.1) 66 (Int32.toNatClampNeg (z8.2.1 65 2)) (p1)) 65 2)) (p2)) 65 2)) (p3)) 69 (Int32.toNatClampNeg ((wr (wr (wr (z8.2.1) 66 (Int32.toNatClampNeg (z8.2.1 65 2)) (p1)) 67 (Int32.toNatClampNeg ((wr (z8.2.1) 66 (Int32.toNatClampNeg (z8.2.1 65 2)) (p1)) 65 2)) (p2)) 68 (Int32.toNatClampNeg ((wr (wr (z8.2.1) 66 (Int32.toNatClampNeg (z8.2.1 65 2)) (p1)) 67 (Int32.toNatClampNeg ((wr (z8.2.1) 66 (Int32.toNatClampNeg (z8.2.1 65 2)) (p1)) 65 2)) (p2)) 65 2)) (p3)) 65 2)) (0)) 70 (Int32.toNatClampNeg ((wr (wr (wr (wr (z8.2.1) 66 (Int32.toNatClampNeg (z8.2.1 65 2)) (p1)) 67 (Int32.toNatClampNeg ((wr (z8.2.1) 66 (Int32.toNatClampNeg (z8.2.1 65 2)) (p1)) 65 2)) (p2)) 68 (Int32.toNatClampNeg ((wr (wr (z8.2.1) 66 (Int32.toNatClampNeg (z8.2.1 65 2)) (p1)) 67 (Int32.toNatClampNeg ((wr (z8.2.1) 66 (Int32.toNatClampNeg (z8.2.1 65 2)) (p1)) 65 2)) (p2)) 65 2)) (p3)) 69 (Int32.toNatClampNeg ((wr (wr (wr (z8.2.1) 66 (Int32.toNatClampNeg (z8.2.1 65 2)) (p1)) 67 (Int32.toNatClampNeg ((wr (z8.2.1) 66 (Int32.toNatClampNeg (z8.2.1 65 2)) (p1)) 65 2)) (p2)) 68 (Int32.toNatClampNeg ((wr (wr (z8.2.1) 66 (Int32.toNatClampNeg (z8.2.1 65 2)) (p1)) 67 (Int32.toNatClampNeg ((wr (z8.2.1) 66 (Int32.toNatClampNeg (z8.2.1 65 2)) (p1)) 65 2)) (p2)) 65 2)) (p3)) 65 2)) (0)) 65 2)) (0)) 65 2 ((((wr (wr (wr (wr (wr (z8.2.1) 66 (Int32.toNatClampNeg (z8.2.1 65 2)) (p1)) 67 (Int32.toNatClampNeg ((wr (z8.2.1) 66 (Int32.toNatClampNeg (z8.2.1 65 2)) (p1)) 65 2)) (p2)) 68 (Int32.toNatClampNeg ((wr (wr (z8.2.1) 66 (Int32.toNatClampNeg (z8.2.1 65 2)) (p1)) 67 (Int32.toNatClampNeg ((wr (z8.2.1) 66 (Int32.toNatClampNeg (z8.2.1 65 2)) (p1)) 65 2)) (p2)) 65 2)) (p3)) 69 (Int32.toNatClampNeg ((wr (wr (wr (z8.2.1) 66 (Int32.toNatClampNeg (z8.2.1 65 2)) (p1)) 67 (Int32.toNatClampNeg ((wr (z8.2.1) 66 (Int32.toNatClampNeg (z8.2.1 65 2)) (p1)) 65 2)) (p2)) 68 (Int32.toNatClampNeg ((wr (wr (z8.2.1) 66 (Int32.toNatClampNeg (z8.2.1 65 2)) (p1)) 67 (Int32.toNatClampNeg ((wr (z8.2.1) 66 (Int32.toNatClampNeg (z8.2.1 65 2)) (p1)) 65 2)) (p2)) 65 2)) (p3)) 65 2)) (0)) 70 (Int32.toNatClampNeg ((wr (wr (wr (wr (z8.2.1) 66 (Int32.toNatClampNeg (z8.2.1 65 2)) (p1)) 67 (Int32.toNatClampNeg ((wr (z8.2.1) 66 (Int32.toNatClampNeg (z8.2.1 65 2)) (p1)) 65 2)) (p2)) 68 (Int32.toNatClampNeg ((wr (wr (z8.2.1) 66 (Int32.toNatClampNeg (z8.2.1 65 2)) (p1)) 67 (Int32.toNatClampNeg ((wr (z8.2.1) 66 (Int32.toNatClampNeg (z8.2.1 65 2)) (p1)) 65 2)) (p2)) 65 2)) (p3)) 69 (Int32.toNatClampNeg ((wr (wr (wr (z8.2.1) 66 (Int32.toNatClampNeg (z8.2.1 65 2)) (p1)) 67 (Int32.toNatClampNeg ((wr (z8.2.1) 66 (Int32.toNatClampNeg (z8.2.1 65 2)) (p1)) 65 2)) (p2)) 68 (Int32.toNatClampNeg ((wr (wr (z8.2.1) 66 (Int32.toNatClampNeg (z8.2.1 65 2)) (p1)) 67 (Int32.toNatClampNeg ((wr (z8.2.1) 66 (Int32.toNatClampNeg (z8.2.1 65 2)) (p1)) 65 2)) (p2)) 65 2)) (p3)) 65 2)) (0)) 65 2)) (0)) 65 2 : Int32) + (1)))) (hl1 := z8.2.2) rfl ?_ (fun _ _ _ => rfl)
              refine EX.aload_n (x := 65) rfl (List.mem_of_getElem? (i := 0) rfl) ?_
              refine EX.iconst (v := 0) rfl rfl ?_
              refine EX.go (i := .putfield 122) (len := 3) (pc1 := 126) (st1 := []) (hi1 := wr (wr (wr (wr (wr (wr (wr (z8.2.1) 66 (Int32.toNatClampNeg (z8.2.1 65 2)) (p1)) 67 (Int32.toNatClampNeg ((wr (z8.2.1) 66 (Int32.toNatClampNeg (z8.2.1 65 2)) (p1)) 65 2)) (p2)) 68 (Int32.toNatClampNeg ((wr (wr (z8.2.1) 66 (Int32.toNatClampNeg (z8.2.1 65 2)) (p1)) 67 (Int32.toNatClampNeg ((wr (z8.2.1) 66 (Int32.toNatClampNeg (z8.2.1 65 2)) (p1)) 65 2)) (p2)) 65 2)) (p3)) 69 (Int32.toNatClampNeg ((wr (wr (wr (z8.2.1) 66 (Int32.toNatClampNeg (z8.2.1 65 2)) (p1)) 67 (Int32.toNatClampNeg ((wr (z8.2.1) 66 (Int32.toNatClampNeg (z8.2.1 65 2)) (p1)) 65 2)) (p2)) 68 (Int32.toNatClampNeg ((wr (wr (z8.2.1) 66 (Int32.toNatClampNeg (z8.2.1 65 2)) (p1)) 67 (Int32.toNatClampNeg ((wr (z8.2.1) 66 (Int32.toNatClampNeg (z8.2.1 65 2)) (p1)) 65 2)) (p2)) 65 2)) (p3)) 65 2)) (0)) 70 (Int32.toNatClampNeg ((wr (wr (wr (wr (z8.2.1) 66 (Int32.toNatClampNeg (z8.2.1 65 2)) (p1)) 67 (Int32.toNatClampNeg ((wr (z8.2.1) 66 (Int32.toNatClampNeg (z8.2.1 65 2)) (p1)) 65 2)) (p2)) 68 (Int32.toNatClampNeg ((wr (wr (z8.2.1) 66 (Int32.toNatClampNeg (z8.2.1 65 2)) (p1)) 67 (Int32.toNatClampNeg ((wr (z8.2.1) 66 (Int32.toNatClampNeg (z8.2.1 65 2)) (p1)) 65 2)) (p2)) 65 2)) (p3)) 69 (Int32.toNatClampNeg ((wr (wr (wr (z8.2.1) 66 (Int32.toNatClampNeg (z8.2.1 65 2)) (p1)) 67 (Int32.toNatClampNeg ((wr (z8.2.1) 66 (Int32.toNatClampNeg (z8.2.1 65 2)) (p1)) 65 2)) (p2)) 68 (Int32.toNatClampNeg ((wr (wr (z8.2.1) 66 (Int32.toNatClampNeg (z8.2.1 65 2)) (p1)) 67 (Int32.toNatClampNeg ((wr (z8.2.1) 66 (Int32.toNatClampNeg (z8.2.1 65 2)) (p1)) 65 2)) (p2)) 65 2)) (p3)) 65 2)) (0)) 65 2)) (0)) 65 2 ((((wr (wr (wr (wr (wr (z8.2.1) 66 (Int32.toNatClampNeg (z8.2.1 65 2)) (p1)) 67 (Int32.toNatClampNeg ((wr (z8.2.1) 66 (Int32.toNatClampNeg (z8.2.1 65 2)) (p1)) 65 2)) (p2)) 68 (Int32.toNatClampNeg ((wr (wr (z8.2.1) 66 (Int32.toNatClampNeg (z8.2.1 65 2)) (p1)) 67 (Int32.toNatClampNeg ((wr (z8.2.1) 66 (Int32.toNatClampNeg (z8.2.1 65 2)) (p1)) 65 2)) (p2)) 65 2)) (p3)) 69 (Int32.toNatClampNeg ((wr (wr (wr (z8.2.1) 66 (Int32.toNatClampNeg (z8.2.1 65 2)) (p1)) 67 (Int32.toNatClampNeg ((wr (z8.2.1) 66 (Int32.toNatClampNeg (z8.2.1 65 2)) (p1)) 65 2)) (p2)) 68 (Int32.toNatClampNeg ((wr (wr (z8.2.1) 66 (Int32.toNatClampNeg (z8.2.1 65 2)) (p1)) 67 (Int32.toNatClampNeg ((wr (z8.2.1) 66 (Int32.toNatClampNeg (z8.2.1 65 2)) (p1)) 65 2)) (p2)) 65 2)) (p3)) 65 2)) (0)) 70 (Int32.toNatClampNeg ((wr (wr (wr (wr (z8.2.1) 66 (Int32.toNatClampNeg (z8.2.1 65 2)) (p1)) 67 (Int32.toNatClampNeg ((wr (z8.2.1) 66 (Int32.toNatClampNeg (z8.2.1 65 2)) (p1)) 65 2)) (p2)) 68 (Int32.toNatClampNeg ((wr (wr (z8.2.1) 66 (Int32.toNatClampNeg (z8.2.1 65 2)) (p1)) 67 (Int32.toNatClampNeg ((wr (z8.2.1) 66 (Int32.toNatClampNeg (z8.2.1 65 2)) (p1)) 65 2)) (p2)) 65 2)) (p3)) 69 (Int32.toNatClampNeg ((wr (wr (wr (z8.2.1) 66 (Int32.toNatClampNeg (z8.2.1 65 2)) (p1)) 67 (Int32.toNatClampNeg ((wr (z8.2.1) 66 (Int32.toNatClampNeg (z8.2.1 65 2)) (p1)) 65 2)) (p2)) 68 (Int32.toNatClampNeg ((wr (wr (z8.2.1) 66 (Int32.toNatClampNeg (z8.2.1 65 2)) (p1)) 67 (Int32.toNatClampNeg ((wr (z8.2.1) 66 (Int32.toNatClampNeg (z8.2.1 65 2)) (p1)) 65 2)) (p2)) 65 2)) (p3)) 65 2)) (0)) 65 2)) (0)) 65 2 : Int32) + (1)))) 65 8 (0)) (hl1 := z8.2.2) rfl ?_ (fun _ _ _ => rfl)
              refine EX.aload_n (x := 65) rfl (List.mem_of_getElem? (i := 0) rfl) ?_
              refine EX.go (i := .getfield 116) (len := 3) (pc1 := 130) (st1 := [.int ((wr (wr (wr (wr (wr (wr (wr (z8.2.1) 66 (Int32.toNatClampNeg (z8.2.1 65 2)) (p1)) 67 (Int32.toNatClampNeg ((wr (z8.2.1) 66 (Int32.toNatClampNeg (z8.2.1 65 2)) (p1)) 65 2)) (p2)) 68 (Int32.toNatClampNeg ((wr (wr (z8.2.1) 66 (Int32.toNatClampNeg (z8.2.1 65 2)) (p1)) 67 (Int32.toNatClampNeg ((wr (z8.2.1) 66 (Int32.toNatClampNeg (z8.2.1 65 2)) (p1)) 65 2)) (p2)) 65 2)) (p3)) 69 (Int32.toNatClampNeg ((wr (wr (wr (z8.2.1) 66 (Int32.toNatClampNeg (z8.2.1 65 2)) (p1)) 67 (Int32.toNatClampNeg ((wr (z8.2.1) 66 (Int32.toNatClampNeg (z8.2.1 65 2)) (p1)) 65 2)) (p2)) 68 (Int32.toNatClampNeg ((wr (wr (z8.2.1) 66 (Int32.toNatClampNeg (z8.2.1 65 2)) (p1)) 67 (Int32.toNatClampNeg ((wr (z8.2.1) 66 (Int32.toNatClampNeg (z8.2.1 65 2)) (p1)) 65 2)) (p2)) 65 2)) (p3)) 65 2)) (0)) 70 (Int32.toNatClampNeg ((wr (wr (wr (wr (z8.2.1) 66 (Int32.toNatClampNeg (z8.2.1 65 2)) (p1)) 67 (Int32.toNatClampNeg ((wr (z8.2.1) 66 (Int32.toNatClampNeg (z8.2.1 65 2)) (p1)) 65 2)) (p2)) 68 (Int32.toNatClampNeg ((wr (wr (z8.2.1) 66 (Int32.toNatClampNeg (z8.2.1 65 2)) (p1)) 67 (Int32.toNatClampNeg ((wr (z8.2.1) 66 (Int32.toNatClampNeg (z8.2.1 65 2)) (p1)) 65 2)) (p2)) 65 2)) (p3)) 69 (Int32.toNatClampNeg ((wr (wr (wr (z8.2.1) 66 (Int32.toNatClampNeg (z8.2.1 65 2)) (p1)) 67 (Int32.toNatClampNeg ((wr (z8.2.1) 66 (Int32.toNatClampNeg (z8.2.1 65 2)) (p1)) 65 2)) (p2)) 68 (Int32.toNatClampNeg ((wr (wr (z8.2.1) 66 (Int32.toNatClampNeg (z8.2.1 65 2)) (p1)) 67 (Int32.toNatClampNeg ((wr (z8.2.1) 66 (Int32.toNatClampNeg (z8.2.1 65 2)) (p1)) 65 2)) (p2)) 65 2)) (p3)) 65 2)) (0)) 65 2)) (0)) 65 2 ((((wr (wr (wr (wr (wr (z8.2.1) 66 (Int32.toNatClampNeg (z8.2.1 65 2)) (p1)) 67 (Int32.toNatClampNeg ((wr (z8.2.1) 66 (Int32.toNatClampNeg (z8.2.1 65 2)) (p1)) 65 2)) (p2)) 68 (Int32.toNatClampNeg ((wr (wr (z8.2.1) 66 (Int32.toNatClampNeg (z8.2.1 65 2)) (p1)) 67 (Int32.toNatClampNeg ((wr (z8.2.1) 66 (Int32.toNatClampNeg (z8.2.1 65 2)) (p1)) 65 2)) (p2)) 65 2)) (p3)) 69 (Int32.toNatClampNeg ((wr (wr (wr (z8.2.1) 66 (Int32.toNatClampNeg (z8.2.1 65 2)) (p1)) 67 (Int32.toNatClampNeg ((wr (z8.2.1) 66 (Int32.toNatClampNeg (z8.2.1 65 2)) (p1)) 65 2)) (p2)) 68 (Int32.toNatClampNeg ((wr (wr (z8.2.1) 66 (Int32.toNatClampNeg (z8.2.1 65 2)) (p1)) 67 (Int32.toNatClampNeg ((wr (z8.2.1) 66 (Int32.toNatClampNeg (z8.2.1 65 2)) (p1)) 65 2)) (p2)) 65 2)) (p3)) 65 2)) (0)) 70 (Int32.toNatClampNeg ((wr (wr (wr (wr (z8.2.1) 66 (Int32.toNatClampNeg (z8.2.1 65 2)) (p1)) 67 (Int32.toNatClampNeg ((wr (z8.2.1) 66 (Int32.toNatClampNeg (z8.2.1 65 2)) (p1)) 65 2)) (p2)) 68 (Int32.toNatClampNeg ((wr (wr (z8.2.1) 66 (Int32.toNatClampNeg (z8.2.1 65 2)) (p1)) 67 (Int32.toNatClampNeg ((wr (z8.2.1) 66 (Int32.toNatClampNeg (z8.2.1 65 2)) (p1)) 65 2)) (p2)) 65 2)) (p3)) 69 (Int32.toNatClampNeg ((wr (wr (wr (z8.2.1) 66 (Int32.toNatClampNeg (z8.2.1 65 2)) (p1)) 67 (Int32.toNatClampNeg ((wr (z8.2.1) 66 (Int32.toNatClampNeg (z8.2.1 65 2)) (p1)) 65 2)) (p2)) 68 (Int32.toNatClampNeg ((wr (wr (z8.2.1) 66 (Int32.toNatClampNeg (z8.2.1 65 2)) (p1)) 67 (Int32.toNatClampNeg ((wr (z8.2.1) 66 (Int32.toNatClampNeg (z8.2.1 65 2)) (p1)) 65 2)) (p2)) 65 2)) (p3)) 65 2)) (0)) 65 2)) (0)) 65 2 : Int32) + (1)))) 65 8 (0)) 65 2)]) (hi1 := wr (wr (wr (wr (wr (wr (wr (z8.2.1) 66 (Int32.toNatClampNeg (z8.2.1 65 2)) (p1)) 67 (Int32.toNatClampNeg ((wr (z8.2.1) 66 (Int32.toNatClampNeg (z8.2.1 65 2)) (p1)) 65 2)) (p2)) 68 (Int32.toNatClampNeg ((wr (wr (z8.2.1) 66 (Int32.toNatClampNeg (z8.2.1 65 2)) (p1)) 67 (Int32.toNatClampNeg ((wr (z8.2.1) 66 (Int32.toNatClampNeg (z8.2.1 65 2)) (p1)) 65 2)) (p2)) 65 2)) (p3)) 69 (Int32.toNatClampNeg ((wr (wr (wr (z8.2.1) 66 (Int32.toNatClampNeg (z8.2.1 65 2)) (p1)) 67 (Int32.toNatClampNeg ((wr (z8.2.1) 66 (Int32.toNatClampNeg (z8.2.1 65 2)) (p1)) 65 2)) (p2)) 68 (Int32.toNatClampNeg ((wr (wr (z8.2.1) 66 (Int32.toNatClampNeg (z8.2.1 65 2)) (p1)) 67 (Int32.toNatClampNeg ((wr (z8.2.1) 66 (Int32.toNatClampNeg (z8.2.1 65 2)) (p1)) 65 2)) (p2)) 65 2)) (p3)) 65 2)) (0)) 70 (Int32.toNatClampNeg ((wr (wr (wr (wr (z8.2.1) 66 (Int32.toNatClampNeg (z8.2.1 65 2)) (p1)) 67 (Int32.toNatClampNeg ((wr (z8.2.1) 66 (Int32.toNatClampNeg (z8.2.1 65 2)) (p1)) 65 2)) (p2)) 68 (Int32.toNatClampNeg ((wr (wr (z8.2.1) 66 (Int32.toNatClampNeg (z8.2.1 65 2)) (p1)) 67 (Int32.toNatClampNeg ((wr (z8.2.1) 66 (Int32.toNatClampNeg (z8.2.1 65 2)) (p1)) 65 2)) (p2)) 65 2)) (p3)) 69 (Int32.toNatClampNeg ((wr (wr (wr (z8.2.1) 66 (Int32.toNatClampNeg (z8.2.1 65 2)) (p1)) 67 (Int32.toNatClampNeg ((wr (z8.2.1) 66 (Int32.toNatClampNeg (z8.2.1 65 2)) (p1)) 65 2)) (p2)) 68 (Int32.toNatClampNeg ((wr (wr (z8.2.1) 66 (Int32.toNatClampNeg (z8.2.1 65 2)) (p1)) 67 (Int32.toNatClampNeg ((wr (z8.2.1) 66 (Int32.toNatClampNeg (z8.2.1 65 2)) (p1)) 65 2)) (p2)) 65 2)) (p3)) 65 2)) (0)) 65 2)) (0)) 65 2 ((((wr (wr (wr (wr (wr (z8.2.1) 66 (Int32.toNatClampNeg (z8.2.1 65 2)) (p1)) 67 (Int32.toNatClampNeg ((wr (z8.2.1) 66 (Int32.toNatClampNeg (z8.2.1 65 2)) (p1)) 65 2)) (p2)) 68 (Int32.toNatClampNeg ((wr (wr (z8.2.1) 66 (Int32.toNatClampNeg (z8.2.1 65 2)) (p1)) 67 (Int32.toNatClampNeg ((wr (z8.2.1) 66 (Int32.toNatClampNeg (z8.2.1 65 2)) (p1)) 65 2)) (p2)) 65 2)) (p3)) 69 (Int32.toNatClampNeg ((wr (wr (wr (z8.2.1) 66 (Int32.toNatClampNeg (z8.2.1 65 2)) (p1)) 67 (Int32.toNatClampNeg ((wr (z8.2.1) 66 (Int32.toNatClampNeg (z8.2.1 65 2)) (p1)) 65 2)) (p2)) 68 (Int32.toNatClampNeg ((wr (wr (z8.2.1) 66 (Int32.toNatClampNeg (z8.2.1 65 2)) (p1)) 67 (Int32.toNatClampNeg ((wr (z8.2.1) 66 (Int32.toNatClampNeg (z8.2.1 65 2)) (p1)) 65 2)) (p2)) 65 2)) (p3)) 65 2)) (0)) 70 (Int32.toNatClampNeg ((wr (wr (wr (wr (z8.2.1) 66 (Int32.toNatClampNeg (z8.2.1 65 2)) (p1)) 67 (Int32.toNatClampNeg ((wr (z8.2.1) 66 (Int32.toNatClampNeg (z8.2.1 65 2)) (p1)) 65 2)) (p2)) 68 (Int32.toNatClampNeg ((wr (wr (z8.2.1) 66 (Int32.toNatClampNeg (z8.2.1 65 2)) (p1)) 67 (Int32.toNatClampNeg ((wr (z8.2.1) 66 (Int32.toNatClampNeg (z8.2.1 65 2)) (p1)) 65 2)) (p2)) 65 2)) (p3)) 69 (Int32.toNatClampNeg ((wr (wr (wr (z8.2.1) 66 (Int32.toNatClampNeg (z8.2.1 65 2)) (p1)) 67 (Int32.toNatClampNeg ((wr (z8.2.1) 66 (Int32.toNatClampNeg (z8.2.1 65 2)) (p1)) 65 2)) (p2)) 68 (Int32.toNatClampNeg ((wr (wr (z8.2.1) 66 (Int32.toNatClampNeg (z8.2.1 65 2)) (p1)) 67 (Int32.toNatClampNeg ((wr (z8.2.1) 66 (Int32.toNatClampNeg (z8.2.1 65 2)) (p1)) 65 2)) (p2)) 65 2)) (p3)) 65 2)) (0)) 65 2)) (0)) 65 2 : Int32) + (1)))) 65 8 (0)) (hl1 := z8.2.2) rfl ?_ (fun _ _ _ => rfl)
              refine EX.iconst (v := 1) rfl rfl ?_
              refine EX.go (i := .isub) (len := 1) (pc1 := 132) (st1 := [.int ((((wr (wr (wr (wr (wr (wr (wr (z8.2.1) 66 (Int32.toNatClampNeg (z8.2.1 65 2)) (p1)) 67 (Int32.toNatClampNeg ((wr (z8.2.1) 66 (Int32.toNatClampNeg (z8.2.1 65 2)) (p1)) 65 2)) (p2)) 68 (Int32.toNatClampNeg ((wr (wr (z8.2.1) 66 (Int32.toNatClampNeg (z8.2.1 65 2)) (p1)) 67 (Int32.toNatClampNeg ((wr (z8.2.1) 66 (Int32.toNatClampNeg (z8.2.1 65 2)) (p1)) 65 2)) (p2)) 65 2)) (p3)) 69 (Int32.toNatClampNeg ((wr (wr (wr (z8.2.1) 66 (Int32.toNatClampNeg (z8.2.1 65 2)) (p1)) 67 (Int32.toNatClampNeg ((wr (z8.2.1) 66 (Int32.toNatClampNeg (z8.2.1 65 2)) (p1)) 65 2)) (p2)) 68 (Int32.toNatClampNeg ((wr (wr (z8.2.1) 66 (Int32.toNatClampNeg (z8.2.1 65 2)) (p1)) 67 (Int32.toNatClampNeg ((wr (z8.2.1) 66 (Int32.toNatClampNeg (z8.2.1 65 2)) (p1)) 65 2)) (p2)) 65 2)) (p3)) 65 2)) (0)) 70 (Int32.toNatClampNeg ((wr (wr (wr (wr (z8.2.1) 66 (Int32.toNatClampNeg (z8.2.1 65 2)) (p1)) 67 (Int32.toNatClampNeg ((wr (z8.2.1) 66 (Int32.toNatClampNeg (z8.2.1 65 2)) (p1)) 65 2)) (p2)) 68 (Int32.toNatClampNeg ((wr (wr (z8.2.1) 66 (Int32.toNatClampNeg (z8.2.1 65 2)) (p1)) 67 (Int32.toNatClampNeg ((wr (z8.2.1) 66 (Int32.toNatClampNeg (z8.2.1 65 2)) (p1)) 65 2)) (p2)) 65 2)) (p3)) 69 (Int32.toNatClampNeg ((wr (wr (wr (z8.2.1) 66 (Int32.toNatClampNeg (z8.2.1 65 2)) (p1)) 67 (Int32.toNatClampNeg ((wr (z8.2.1) 66 (Int32.toNatClampNeg (z8.2.1 65 2)) (p1)) 65 2)) (p2)) 68 (Int32.toNatClampNeg ((wr (wr (z8.2.1) 66 (Int32.toNatClampNeg (z8.2.1 65 2)) (p1)) 67 (Int32.toNatClampNeg ((wr (z8.2.1) 66 (Int32.toNatClampNeg (z8.2.1 65 2)) (p1)) 65 2)) (p2)) 65 2)) (p3)) 65 2)) (0)) 65 2)) (0)) 65 2 ((((wr (wr (wr (wr (wr (z8.2.1) 66 (Int32.toNatClampNeg (z8.2.1 65 2)) (p1)) 67 (Int32.toNatClampNeg ((wr (z8.2.1) 66 (Int32.toNatClampNeg (z8.2.1 65 2)) (p1)) 65 2)) (p2)) 68 (Int32.toNatClampNeg ((wr (wr (z8.2.1) 66 (Int32.toNatClampNeg (z8.2.1 65 2)) (p1)) 67 (Int32.toNatClampNeg ((wr (z8.2.1) 66 (Int32.toNatClampNeg (z8.2.1 65 2)) (p1)) 65 2)) (p2)) 65 2)) (p3)) 69 (Int32.toNatClampNeg ((wr (wr (wr (z8.2.1) 66 (Int32.toNatClampNeg (z8.2.1 65 2)) (p1)) 67 (Int32.toNatClampNeg ((wr (z8.2.1) 66 (Int32.toNatClampNeg (z8.2.1 65 2)) (p1)) 65 2)) (p2)) 68 (Int32.toNatClampNeg ((wr (wr (z8.2.1) 66 (Int32.toNatClampNeg (z8.2.1 65 2)) (p1)) 67 (Int32.toNatClampNeg ((wr (z8.2.1) 66 (Int32.toNatClampNeg (z8.2.1 65 2)) (p1)) 65 2)) (p2)) 65 2)) (p3)) 65 2)) (0)) 70 (Int32.toNatClampNeg ((wr (wr (wr (wr (z8.2.1) 66 (Int32.toNatClampNeg (z8.2.1 65 2)) (p1)) 67 (Int32.toNatClampNeg ((wr (z8.2.1) 66 (Int32.toNatClampNeg (z8.2.1 65 2)) (p1)) 65 2)) (p2)) 68 (Int32.toNatClampNeg ((wr (wr (z8.2.1) 66 (Int32.toNatClampNeg (z8.2.1 65 2)) (p1)) 67 (Int32.toNatClampNeg ((wr (z8.2.1) 66 (Int32.toNatClampNeg (z8.2.1 65 2)) (p1)) 65 2)) (p2)) 65 2)) (p3)) 69 (Int32.toNatClampNeg ((wr (wr (wr (z8.2.1) 66 (Int32.toNatClampNeg (z8.2.1 65 2)) (p1)) 67 (Int32.toNatClampNeg ((wr (z8.2.1) 66 (Int32.toNatClampNeg (z8.2.1 65 2)) (p1)) 65 2)) (p2)) 68 (Int32.toNatClampNeg ((wr (wr (z8.2.1) 66 (Int32.toNatClampNeg (z8.2.1 65 2)) (p1)) 67 (Int32.toNatClampNeg ((wr (z8.2.1) 66 (Int32.toNatClampNeg (z8.2.1 65 2)) (p1)) 65 2)) (p2)) 65 2)) (p3)) 65 2)) (0)) 65 2)) (0)) 65 2 : Int32) + (1)))) 65 8 (0)) 65 2 : Int32) - (1)))]) (hi1 := wr (wr (wr (wr (wr (wr (wr (z8.2.1) 66 (Int32.toNatClampNeg (z8.2.1 65 2)) (p1)) 67 (Int32.toNatClampNeg ((wr (z8.2.1) 66 (Int32.toNatClampNeg (z8.2.1 65 2)) (p1)) 65 2)) (p2)) 68 (Int32.toNatClampNeg ((wr (wr (z8.2.1) 66 (Int32.toNatClampNeg (z8.2.1 65 2)) (p1)) 67 (Int32.toNatClampNeg ((wr (z8.2.1) 66 (Int32.toNatClampNeg (z8.2.1 65 2)) (p1)) 65 2)) (p2)) 65 2)) (p3)) 69 (Int32.toNatClampNeg ((wr (wr (wr (z8.2.1) 66 (Int32.toNatClampNeg (z8.2.1 65 2)) (p1)) 67 (Int32.toNatClampNeg ((wr (z8.2.1) 66 (Int32.toNatClampNeg (z8.2.1 65 2)) (p1)) 65 2)) (p2)) 68 (Int32.toNatClampNeg ((wr (wr (z8.2.1) 66 (Int32.toNatClampNeg (z8.2.1 65 2)) (p1)) 67 (Int32.toNatClampNeg ((wr (z8.2.1) 66 (Int32.toNatClampNeg (z8.2.1 65 2)) (p1)) 65 2)) (p2)) 65 2)) (p3)) 65 2)) (0)) 70 (Int32.toNatClampNeg ((wr (wr (wr (wr (z8.2.1) 66 (Int32.toNatClampNeg (z8.2.1 65 2)) (p1)) 67 (Int32.toNatClampNeg ((wr (z8.2.1) 66 (Int32.toNatClampNeg (z8.2.1 65 2)) (p1)) 65 2)) (p2)) 68 (Int32.toNatClampNeg ((wr (wr (z8.2.1) 66 (Int32.toNatClampNeg (z8.2.1 65 2)) (p1)) 67 (Int32.toNatClampNeg ((wr (z8.2.1) 66 (Int32.toNatClampNeg (z8.2.1 65 2)) (p1)) 65 2)) (p2)) 65 2)) (p3)) 69 (Int32.toNatClampNeg ((wr (wr (wr (z8.2.1) 66 (Int32.toNatClampNeg (z8.2.1 65 2)) (p1)) 67 (Int32.toNatClampNeg ((wr (z8.2.1) 66 (Int32.toNatClampNeg (z8.2.1 65 2)) (p1)) 65 2)) (p2)) 68 (Int32.toNatClampNeg ((wr (wr (z8.2.1) 66 (Int32.toNatClampNeg (z8.2.1 65 2)) (p1)) 67 (Int32.toNatClampNeg ((wr (z8.2.1) 66 (Int32.toNatClampNeg (z8.2.1 65 2)) (p1)) 65 2)) (p2)) 65 2)) (p3)) 65 2)) (0)) 65 2)) (0)) 65 2 ((((wr (wr (wr (wr (wr (z8.2.1) 66 (Int32.toNatClampNeg (z8.2.1 65 2)) (p1)) 67 (Int32.toNatClampNeg ((wr (z8.2.1) 66 (Int32.toNatClampNeg (z8.2.1 65 2)) (p1)) 65 2)) (p2)) 68 (Int32.toNatClampNeg ((wr (wr (z8.2.1) 66 (Int32.toNatClampNeg (z8.2.1 65 2)) (p1)) 67 (Int32.toNatClampNeg ((wr (z8.2.1) 66 (Int32.toNatClampNeg (z8.2.1 65 2)) (p1)) 65 2)) (p2)) 65 2)) (p3)) 69 (Int32.toNatClampNeg ((wr (wr (wr (z8.2.1) 66 (Int32.toNatClampNeg (z8.2.1 65 2)) (p1)) 67 (Int32.toNatClampNeg ((wr (z8.2.1) 66 (Int32.toNatClampNeg (z8.2.1 65 2)) (p1)) 65 2)) (p2)) 68 (Int32.toNatClampNeg ((wr (wr (z8.2.1) 66 (Int32.toNatClampNeg (z8.2.1 65 2)) (p1)) 67 (Int32.toNatClampNeg ((wr (z8.2.1) 66 (Int32.toNatClampNeg (z8.2.1 65 2)) (p1)) 65 2)) (p2)) 65 2)) (p3)) 65 2)) (0)) 70 (Int32.toNatClampNeg ((wr (wr (wr (wr (z8.2.1) 66 (Int32.toNatClampNeg (z8.2.1 65 2)) (p1)) 67 (Int32.toNatClampNeg ((wr (z8.2.1) 66 (Int32.toNatClampNeg (z8.2.1 65 2)) (p1)) 65 2)) (p2)) 68 (Int32.toNatClampNeg ((wr (wr (z8.2.1) 66 (Int32.toNatClampNeg (z8.2.1 65 2)) (p1)) 67 (Int32.toNatClampNeg ((wr (z8.2.1) 66 (Int32.toNatClampNeg (z8.2.1 65 2)) (p1)) 65 2)) (p2)) 65 2)) (p3)) 69 (Int32.toNatClampNeg ((wr (wr (wr (z8.2.1) 66 (Int32.toNatClampNeg (z8.2.1 65 2)) (p1)) 67 (Int32.toNatClampNeg ((wr (z8.2.1) 66 (Int32.toNatClampNeg (z8.2.1 65 2)) (p1)) 65 2)) (p2)) 68 (Int32.toNatClampNeg ((wr (wr (z8.2.1) 66 (Int32.toNatClampNeg (z8.2.1 65 2)) (p1)) 67 (Int32.toNatClampNeg ((wr (z8.2.1) 66 (Int32.toNatClampNeg (z8.2.1 65 2)) (p1)) 65 2)) (p2)) 65 2)) (p3)) 65 2)) (0)) 65 2)) (0)) 65 2 : Int32) + (1)))) 65 8 (0)) (hl1 := z8.2.2) rfl ?_ (fun _ _ _ => rfl)
              obtain rfl := Option.some.inj h
              exact EX.iret rfl rfl
          · refine EX.go (i := .if_icmp .eq 6) (len := 3) (pc1 := 46) (st1 := []) (hi1 := z8.2.1) (hl1 := z8.2.2) rfl ?_ (fun _ _ _ => if_neg c9)
            refine EX.bipush (v := (-2)) rfl rfl ?_
            obtain rfl := Option.some.inj h
            exact EX.iret rfl rfl
def f_MD_lampOf (N : Nat) (p1 : Int32) (p2 : Int32) (hi : HI) (hl : HL) : Option (Int32 × HI × HL) :=
  (f_MD_isLamp N (p1) (hi) (hl)).bind fun z1 => if (z1.1 : Int32) = 0 then some ((-1), z1.2.1, z1.2.2) else (f_MD_in N ((Int32.toInt64 (p2))) (0) (4) (z1.2.1) (z1.2.2)).bind fun z3 => if (z3.1 : Int32) = 0 then some ((-1), z3.2.1, z3.2.2) else if (p2 : Int32) = 0 then if (p1 : Int32) < 0 ∨ 16 ≤ Int32.toNatClampNeg (p1) then none else some (z3.2.1 66 (Int32.toNatClampNeg (p1)), z3.2.1, z3.2.2) else if (p2 : Int32) = (1 : Int32) then if (p1 : Int32) < 0 ∨ 16 ≤ Int32.toNatClampNeg (p1) then none else some (z3.2.1 67 (Int32.toNatClampNeg (p1)), z3.2.1, z3.2.2) else if (p2 : Int32) = (2 : Int32) then if (p1 : Int32) < 0 ∨ 16 ≤ Int32.toNatClampNeg (p1) then none else some (z3.2.1 68 (Int32.toNatClampNeg (p1)), z3.2.1, z3.2.2) else if (p2 : Int32) = (3 : Int32) then if (p1 : Int32) < 0 ∨ 16 ≤ Int32.toNatClampNeg (p1) then none else some (z3.2.1 69 (Int32.toNatClampNeg (p1)), z3.2.1, z3.2.2) else if (p1 : Int32) < 0 ∨ 16 ≤ Int32.toNatClampNeg (p1) then none else some (z3.2.1 70 (Int32.toNatClampNeg (p1)), z3.2.1, z3.2.2)
set_option maxRecDepth 10000 in
set_option maxHeartbeats 4000000 in
theorem b_MD_lampOf (ev : EV) {N : Nat} {p1 : Int32} {p2 : Int32} {hi : HI} {hl : HL} {o : Int32 × HI × HL} (h : f_MD_lampOf N p1 p2 hi hl = some o) : EM w0 ev 3 m_MD_lampOf [.ref 65, .int (p1), .int (p2)] hi hl (oI o) := by
  unfold f_MD_lampOf at h
  refine EM.of rfl ?_
  show EX w0 ev 2 m_MD_lampOf 0 [(0, .ref 65), (1, .int (p1)), (2, .int (p2))] [] (hi) (hl) (oI o)
  refine EX.aload_n (x := 65) rfl (List.mem_of_getElem? (i := 0) rfl) ?_
  refine EX.iload_n (x := p1) rfl (List.mem_of_getElem? (i := 1) rfl) ?_
  obtain ⟨z1, hz1, h⟩ := bnd_some h
  refine EX.callV (b := 65) (as := [.int (p1)]) (rest := []) (r := some (.int (z1.1))) (hi1 := z1.2.1) (hl1 := z1.2.2) rfl rfl rfl rfl rfl rfl ((b_MD_isLamp ev hz1).mono (by decide)) ?_
  show EX w0 ev 2 m_MD_lampOf 5 [(0, .ref 65), (1, .int (p1)), (2, .int (p2))] [.int (z1.1)] (z1.2.1) (z1.2.2) (oI o)
  rcases ite_some h with ⟨c2, h⟩ | ⟨c2, h⟩
  · refine EX.go (i := .ifCond .eq 15) (len := 3) (pc1 := 20) (st1 := []) (hi1 := z1.2.1) (hl1 := z1.2.2) rfl ?_ (fun _ _ _ => if_pos c2)
    refine EX.iconst (v := (-1)) rfl rfl ?_
    obtain rfl := Option.some.inj h
    exact EX.iret rfl rfl
  · refine EX.go (i := .ifCond .eq 15) (len := 3) (pc1 := 8) (st1 := []) (hi1 := z1.2.1) (hl1 := z1.2.2) rfl ?_ (fun _ _ _ => if_neg c2)
    refine EX.iload_n (x := p2) rfl (List.mem_of_getElem? (i := 2) rfl) ?_
    refine EX.go (i := .i2l) (len := 1) (pc1 := 10) (st1 := [.long ((Int32.toInt64 (p2)))]) (hi1 := z1.2.1) (hl1 := z1.2.2) rfl ?_ (fun _ _ _ => rfl)
    refine EX.lconst (v := 0) rfl rfl ?_
    refine EX.go (i := .ldc2_w 141) (len := 3) (pc1 := 14) (st1 := [.long (4), .long (0), .long ((Int32.toInt64 (p2)))]) (hi1 := z1.2.1) (hl1 := z1.2.2) rfl ?_ (fun _ _ _ => rfl)
    obtain ⟨z3, hz3, h⟩ := bnd_some h
    refine EX.callS (as := [.long ((Int32.toInt64 (p2))), .long (0), .long (4)]) (rest := []) (r := some (.int (z3.1))) (hi1 := z3.2.1) (hl1 := z3.2.2) rfl rfl rfl rfl rfl rfl ((b_MD_in ev hz3).mono (by decide)) ?_
    show EX w0 ev 2 m_MD_lampOf 17 [(0, .ref 65), (1, .int (p1)), (2, .int (p2))] [.int (z3.1)] (z3.2.1) (z3.2.2) (oI o)
    rcases ite_some h with ⟨c4, h⟩ | ⟨c4, h⟩
    · refine EX.go (i := .ifCond .ne 5) (len := 3) (pc1 := 20) (st1 := []) (hi1 := z3.2.1) (hl1 := z3.2.2) rfl ?_ (fun _ _ _ => if_pos c4)
      refine EX.iconst (v := (-1)) rfl rfl ?_
      obtain rfl := Option.some.inj h
      exact EX.iret rfl rfl
    · refine EX.go (i := .ifCond .ne 5) (len := 3) (pc1 := 22) (st1 := []) (hi1 := z3.2.1) (hl1 := z3.2.2) rfl ?_ (fun _ _ _ => if_neg c4)
      refine EX.iload_n (x := p2) rfl (List.mem_of_getElem? (i := 2) rfl) ?_
      rcases ite_some h with ⟨c5, h⟩ | ⟨c5, h⟩
      · refine EX.go (i := .ifCond .ne 12) (len := 3) (pc1 := 26) (st1 := []) (hi1 := z3.2.1) (hl1 := z3.2.2) rfl ?_ (fun _ _ _ => if_pos c5)
        refine EX.aload_n (x := 65) rfl (List.mem_of_getElem? (i := 0) rfl) ?_
        refine EX.go (i := .getfield 16) (len := 3) (pc1 := 30) (st1 := [.ref 66]) (hi1 := z3.2.1) (hl1 := z3.2.2) rfl ?_ (fun _ _ _ => rfl)
        refine EX.iload_n (x := p1) rfl (List.mem_of_getElem? (i := 1) rfl) ?_
        obtain ⟨g6, h⟩ := grd_some h
        refine EX.iaload rfl rfl g6 ?_
        refine EX.go (i := .goto 51) (len := 3) (pc1 := 83) (st1 := [.int (z3.2.1 66 (Int32.toNatClampNeg (p1)))]) (hi1 := z3.2.1) (hl1 := z3.2.2) rfl ?_ (fun _ _ _ => rfl)
        obtain rfl := Option.some.inj h
        exact EX.iret rfl rfl
      · refine EX.go (i := .ifCond .ne 12) (len := 3) (pc1 := 35) (st1 := []) (hi1 := z3.2.1) (hl1 := z3.2.2) rfl ?_ (fun _ _ _ => if_neg c5)
        refine EX.iload_n (x := p2) rfl (List.mem_of_getElem? (i := 2) rfl) ?_
        refine EX.iconst (v := 1) rfl rfl ?_
        rcases ite_some h with ⟨c7, h⟩ | ⟨c7, h⟩
        · refine EX.go (i := .if_icmp .ne 12) (len := 3) (pc1 := 40) (st1 := []) (hi1 := z3.2.1) (hl1 := z3.2.2) rfl ?_ (fun _ _ _ => if_pos c7)
          refine EX.aload_n (x := 65) rfl (List.mem_of_getElem? (i := 0) rfl) ?_
          refine EX.go (i := .getfield 20) (len := 3) (pc1 := 44) (st1 := [.ref 67]) (hi1 := z3.2.1) (hl1 := z3.2.2) rfl ?_ (fun _ _ _ => rfl)
          refine EX.iload_n (x := p1) rfl (List.mem_of_getElem? (i := 1) rfl) ?_
          obtain ⟨g8, h⟩ := grd_some h
          refine EX.iaload rfl rfl g8 ?_
          refine EX.go (i := .goto 37) (len := 3) (pc1 := 83) (st1 := [.int (z3.2.1 67 (Int32.toNatClampNeg (p1)))]) (hi1 := z3.2.1) (hl1 := z3.2.2) rfl ?_ (fun _ _ _ => rfl)
          obtain rfl := Option.some.inj h
          exact EX.iret rfl rfl
        · refine EX.go (i := .if_icmp .ne 12) (len := 3) (pc1 := 49) (st1 := []) (hi1 := z3.2.1) (hl1 := z3.2.2) rfl ?_ (fun _ _ _ => if_neg c7)
          refine EX.iload_n (x := p2) rfl (List.mem_of_getElem? (i := 2) rfl) ?_
          refine EX.iconst (v := 2) rfl rfl ?_
          rcases ite_some h with ⟨c9, h⟩ | ⟨c9, h⟩
          · refine EX.go (i := .if_icmp .ne 12) (len := 3) (pc1 := 54) (st1 := []) (hi1 := z3.2.1) (hl1 := z3.2.2) rfl ?_ (fun _ _ _ => if_pos c9)
            refine EX.aload_n (x := 65) rfl (List.mem_of_getElem? (i := 0) rfl) ?_
            refine EX.go (i := .getfield 23) (len := 3) (pc1 := 58) (st1 := [.ref 68]) (hi1 := z3.2.1) (hl1 := z3.2.2) rfl ?_ (fun _ _ _ => rfl)
            refine EX.iload_n (x := p1) rfl (List.mem_of_getElem? (i := 1) rfl) ?_
            obtain ⟨g10, h⟩ := grd_some h
            refine EX.iaload rfl rfl g10 ?_
            refine EX.go (i := .goto 23) (len := 3) (pc1 := 83) (st1 := [.int (z3.2.1 68 (Int32.toNatClampNeg (p1)))]) (hi1 := z3.2.1) (hl1 := z3.2.2) rfl ?_ (fun _ _ _ => rfl)
            obtain rfl := Option.some.inj h
            exact EX.iret rfl rfl
          · refine EX.go (i := .if_icmp .ne 12) (len := 3) (pc1 := 63) (st1 := []) (hi1 := z3.2.1) (hl1 := z3.2.2) rfl ?_ (fun _ _ _ => if_neg c9)
            refine EX.iload_n (x := p2) rfl (List.mem_of_getElem? (i := 2) rfl) ?_
            refine EX.iconst (v := 3) rfl rfl ?_
            rcases ite_some h with ⟨c11, h⟩ | ⟨c11, h⟩
            · refine EX.go (i := .if_icmp .ne 12) (len := 3) (pc1 := 68) (st1 := []) (hi1 := z3.2.1) (hl1 := z3.2.2) rfl ?_ (fun _ _ _ => if_pos c11)
              refine EX.aload_n (x := 65) rfl (List.mem_of_getElem? (i := 0) rfl) ?_
              refine EX.go (i := .getfield 26) (len := 3) (pc1 := 72) (st1 := [.ref 69]) (hi1 := z3.2.1) (hl1 := z3.2.2) rfl ?_ (fun _ _ _ => rfl)
              refine EX.iload_n (x := p1) rfl (List.mem_of_getElem? (i := 1) rfl) ?_
              obtain ⟨g12, h⟩ := grd_some h
              refine EX.iaload rfl rfl g12 ?_
              refine EX.go (i := .goto 9) (len := 3) (pc1 := 83) (st1 := [.int (z3.2.1 69 (Int32.toNatClampNeg (p1)))]) (hi1 := z3.2.1) (hl1 := z3.2.2) rfl ?_ (fun _ _ _ => rfl)
              obtain rfl := Option.some.inj h
              exact EX.iret rfl rfl
            · refine EX.go (i := .if_icmp .ne 12) (len := 3) (pc1 := 77) (st1 := []) (hi1 := z3.2.1) (hl1 := z3.2.2) rfl ?_ (fun _ _ _ => if_neg c11)
              refine EX.aload_n (x := 65) rfl (List.mem_of_getElem? (i := 0) rfl) ?_
              refine EX.go (i := .getfield 29) (len := 3) (pc1 := 81) (st1 := [.ref 70]) (hi1 := z3.2.1) (hl1 := z3.2.2) rfl ?_ (fun _ _ _ => rfl)
              refine EX.iload_n (x := p1) rfl (List.mem_of_getElem? (i := 1) rfl) ?_
              obtain ⟨g13, h⟩ := grd_some h
              refine EX.iaload rfl rfl g13 ?_
              obtain rfl := Option.some.inj h
              exact EX.iret rfl rfl
def f_MD_hurt (N : Nat) (p1 : Int32) (p2 : Int32) (hi : HI) (hl : HL) : Option (Int32 × HI × HL) :=
  (f_MD_isLamp N (p1) (hi) (hl)).bind fun z1 => if (z1.1 : Int32) = 0 then some ((-1), z1.2.1, z1.2.2) else (f_MD_in N ((Int32.toInt64 (p2))) (0) (2) (z1.2.1) (z1.2.2)).bind fun z3 => if (z3.1 : Int32) = 0 then some ((-1), z3.2.1, z3.2.2) else if (p1 : Int32) < 0 ∨ 16 ≤ Int32.toNatClampNeg (p1) then none else if (p1 : Int32) < 0 ∨ 16 ≤ Int32.toNatClampNeg (p1) then none else some (z3.2.1 69 (Int32.toNatClampNeg (p1)), wr (wr (z3.2.1) 69 (Int32.toNatClampNeg (p1)) (p2)) 65 8 (0), z3.2.2)
set_option maxRecDepth 10000 in
set_option maxHeartbeats 4000000 in
theorem b_MD_hurt (ev : EV) {N : Nat} {p1 : Int32} {p2 : Int32} {hi : HI} {hl : HL} {o : Int32 × HI × HL} (h : f_MD_hurt N p1 p2 hi hl = some o) : EM w0 ev 3 m_MD_hurt [.ref 65, .int (p1), .int (p2)] hi hl (oI o) := by
  unfold f_MD_hurt at h
  refine EM.of rfl ?_
  show EX w0 ev 2 m_MD_hurt 0 [(0, .ref 65), (1, .int (p1)), (2, .int (p2))] [] (hi) (hl) (oI o)
  refine EX.aload_n (x := 65) rfl (List.mem_of_getElem? (i := 0) rfl) ?_
  refine EX.iload_n (x := p1) rfl (List.mem_of_getElem? (i := 1) rfl) ?_
  obtain ⟨z1, hz1, h⟩ := bnd_some h
  refine EX.callV (b := 65) (as := [.int (p1)]) (rest := []) (r := some (.int (z1.1))) (hi1 := z1.2.1) (hl1 := z1.2.2) rfl rfl rfl rfl rfl rfl ((b_MD_isLamp ev hz1).mono (by decide)) ?_
  show EX w0 ev 2 m_MD_hurt 5 [(0, .ref 65), (1, .int (p1)), (2, .int (p2))] [.int (z1.1)] (z1.2.1) (z1.2.2) (oI o)
  rcases ite_some h with ⟨c2, h⟩ | ⟨c2, h⟩
  · refine EX.go (i := .ifCond .eq 15) (len := 3) (pc1 := 20) (st1 := []) (hi1 := z1.2.1) (hl1 := z1.2.2) rfl ?_ (fun _ _ _ => if_pos c2)
    refine EX.iconst (v := (-1)) rfl rfl ?_
    obtain rfl := Option.some.inj h
    exact EX.iret rfl rfl
  · refine EX.go (i := .ifCond .eq 15) (len := 3) (pc1 := 8) (st1 := []) (hi1 := z1.2.1) (hl1 := z1.2.2) rfl ?_ (fun _ _ _ => if_neg c2)
    refine EX.iload_n (x := p2) rfl (List.mem_of_getElem? (i := 2) rfl) ?_
    refine EX.go (i := .i2l) (len := 1) (pc1 := 10) (st1 := [.long ((Int32.toInt64 (p2)))]) (hi1 := z1.2.1) (hl1 := z1.2.2) rfl ?_ (fun _ _ _ => rfl)
    refine EX.lconst (v := 0) rfl rfl ?_
    refine EX.go (i := .ldc2_w 108) (len := 3) (pc1 := 14) (st1 := [.long (2), .long (0), .long ((Int32.toInt64 (p2)))]) (hi1 := z1.2.1) (hl1 := z1.2.2) rfl ?_ (fun _ _ _ => rfl)
    obtain ⟨z3, hz3, h⟩ := bnd_some h
    refine EX.callS (as := [.long ((Int32.toInt64 (p2))), .long (0), .long (2)]) (rest := []) (r := some (.int (z3.1))) (hi1 := z3.2.1) (hl1 := z3.2.2) rfl rfl rfl rfl rfl rfl ((b_MD_in ev hz3).mono (by decide)) ?_
    show EX w0 ev 2 m_MD_hurt 17 [(0, .ref 65), (1, .int (p1)), (2, .int (p2))] [.int (z3.1)] (z3.2.1) (z3.2.2) (oI o)
    rcases ite_some h with ⟨c4, h⟩ | ⟨c4, h⟩
    · refine EX.go (i := .ifCond .ne 5) (len := 3) (pc1 := 20) (st1 := []) (hi1 := z3.2.1) (hl1 := z3.2.2) rfl ?_ (fun _ _ _ => if_pos c4)
      refine EX.iconst (v := (-1)) rfl rfl ?_
      obtain rfl := Option.some.inj h
      exact EX.iret rfl rfl
    · refine EX.go (i := .ifCond .ne 5) (len := 3) (pc1 := 22) (st1 := []) (hi1 := z3.2.1) (hl1 := z3.2.2) rfl ?_ (fun _ _ _ => if_neg c4)
      refine EX.aload_n (x := 65) rfl (List.mem_of_getElem? (i := 0) rfl) ?_
      refine EX.go (i := .getfield 26) (len := 3) (pc1 := 26) (st1 := [.ref 69]) (hi1 := z3.2.1) (hl1 := z3.2.2) rfl ?_ (fun _ _ _ => rfl)
      refine EX.iload_n (x := p1) rfl (List.mem_of_getElem? (i := 1) rfl) ?_
      obtain ⟨g5, h⟩ := grd_some h
      refine EX.iaload rfl rfl g5 ?_
      refine EX.istore_n (req1 := [(3, .int (z3.2.1 69 (Int32.toNatClampNeg (p1)))), (0, .ref 65), (1, .int (p1)), (2, .int (p2))]) rfl rfl rfl ?_
      refine EX.aload_n (x := 65) rfl (List.mem_of_getElem? (i := 1) rfl) ?_
      refine EX.go (i := .getfield 26) (len := 3) (pc1 := 33) (st1 := [.ref 69]) (hi1 := z3.2.1) (hl1 := z3.2.2) rfl ?_ (fun _ _ _ => rfl)
      refine EX.iload_n (x := p1) rfl (List.mem_of_getElem? (i := 2) rfl) ?_
      refine EX.iload_n (x := p2) rfl (List.mem_of_getElem? (i := 3) rfl) ?_
      obtain ⟨g6, h⟩ := grd_some h
      refine EX.iastore rfl rfl g6 ?_
      refine EX.aload_n (x := 65) rfl (List.mem_of_getElem? (i := 1) rfl) ?_
      refine EX.iconst (v := 0) rfl rfl ?_
      refine EX.go (i := .putfield 122) (len := 3) (pc1 := 41) (st1 := []) (hi1 := wr (wr (z3.2.1) 69 (Int32.toNatClampNeg (p1)) (p2)) 65 8 (0)) (hl1 := z3.2.2) rfl ?_ (fun _ _ _ => rfl)
      refine EX.iload_n (x := z3.2.1 69 (Int32.toNatClampNeg (p1))) rfl (List.mem_of_getElem? (i := 0) rfl) ?_
      obtain rfl := Option.some.inj h
      exact EX.iret rfl rfl
def J_MD_between_21 (N : Nat) (hi : HI) (hl : HL) : Option (Int32 × HI × HL) :=
  some ((-1), hi, hl)
set_option maxRecDepth 10000 in
set_option maxHeartbeats 4000000 in
theorem bJ_MD_between_21 (ev : EV) {N : Nat} {hi : HI} {hl : HL} {o : Int32 × HI × HL} (h : J_MD_between_21 N hi hl = some o) : EX w0 ev 2 m_MD_between 21 [] [] (hi) (hl) (oI o) := by
  unfold J_MD_between_21 at h
  refine EX.iconst (v := (-1)) rfl rfl ?_
  refine EX.go (i := .goto 9) (len := 3) (pc1 := 31) (st1 := [.int ((-1))]) (hi1 := hi) (hl1 := hl) rfl ?_ (fun _ _ _ => rfl)
  obtain rfl := Option.some.inj h
  exact EX.iret rfl rfl
def f_MD_between (N : Nat) (p1 : Int32) (p2 : Int32) (hi : HI) (hl : HL) : Option (Int32 × HI × HL) :=
  (f_MD_isWire N (p1) (hi) (hl)).bind fun z1 => if (z1.1 : Int32) = 0 then J_MD_between_21 N (z1.2.1) (z1.2.2) else (f_MD_isWire N (p2) (z1.2.1) (z1.2.2)).bind fun z3 => if (z3.1 : Int32) = 0 then J_MD_between_21 N (z3.2.1) (z3.2.2) else if (p1 : Int32) = (p2 : Int32) then J_MD_between_21 N (z3.2.1) (z3.2.2) else (f_MD_find N (p1) (p2) (z3.2.1) (z3.2.2)).bind fun z6 => some (z6.1, z6.2.1, z6.2.2)
set_option maxRecDepth 10000 in
set_option maxHeartbeats 4000000 in
theorem b_MD_between (ev : EV) {N : Nat} {p1 : Int32} {p2 : Int32} {hi : HI} {hl : HL} {o : Int32 × HI × HL} (h : f_MD_between N p1 p2 hi hl = some o) : EM w0 ev 3 m_MD_between [.ref 65, .int (p1), .int (p2)] hi hl (oI o) := by
  unfold f_MD_between at h
  refine EM.of rfl ?_
  show EX w0 ev 2 m_MD_between 0 [(0, .ref 65), (1, .int (p1)), (2, .int (p2))] [] (hi) (hl) (oI o)
  refine EX.aload_n (x := 65) rfl (List.mem_of_getElem? (i := 0) rfl) ?_
  refine EX.iload_n (x := p1) rfl (List.mem_of_getElem? (i := 1) rfl) ?_
  obtain ⟨z1, hz1, h⟩ := bnd_some h
  refine EX.callV (b := 65) (as := [.int (p1)]) (rest := []) (r := some (.int (z1.1))) (hi1 := z1.2.1) (hl1 := z1.2.2) rfl rfl rfl rfl rfl rfl ((b_MD_isWire ev hz1).mono (by decide)) ?_
  show EX w0 ev 2 m_MD_between 5 [(0, .ref 65), (1, .int (p1)), (2, .int (p2))] [.int (z1.1)] (z1.2.1) (z1.2.2) (oI o)
  rcases ite_some h with ⟨c2, h⟩ | ⟨c2, h⟩
  · refine EX.go (i := .ifCond .eq 16) (len := 3) (pc1 := 21) (st1 := []) (hi1 := z1.2.1) (hl1 := z1.2.2) rfl ?_ (fun _ _ _ => if_pos c2)
    refine EX.pick [] ?_ rfl
    exact bJ_MD_between_21 ev h
  · refine EX.go (i := .ifCond .eq 16) (len := 3) (pc1 := 8) (st1 := []) (hi1 := z1.2.1) (hl1 := z1.2.2) rfl ?_ (fun _ _ _ => if_neg c2)
    refine EX.aload_n (x := 65) rfl (List.mem_of_getElem? (i := 0) rfl) ?_
    refine EX.iload_n (x := p2) rfl (List.mem_of_getElem? (i := 2) rfl) ?_
    obtain ⟨z3, hz3, h⟩ := bnd_some h
    refine EX.callV (b := 65) (as := [.int (p2)]) (rest := []) (r := some (.int (z3.1))) (hi1 := z3.2.1) (hl1 := z3.2.2) rfl rfl rfl rfl rfl rfl ((b_MD_isWire ev hz3).mono (by decide)) ?_
    show EX w0 ev 2 m_MD_between 13 [(0, .ref 65), (1, .int (p1)), (2, .int (p2))] [.int (z3.1)] (z3.2.1) (z3.2.2) (oI o)
    rcases ite_some h with ⟨c4, h⟩ | ⟨c4, h⟩
    · refine EX.go (i := .ifCond .eq 8) (len := 3) (pc1 := 21) (st1 := []) (hi1 := z3.2.1) (hl1 := z3.2.2) rfl ?_ (fun _ _ _ => if_pos c4)
      refine EX.pick [] ?_ rfl
      exact bJ_MD_between_21 ev h
    · refine EX.go (i := .ifCond .eq 8) (len := 3) (pc1 := 16) (st1 := []) (hi1 := z3.2.1) (hl1 := z3.2.2) rfl ?_ (fun _ _ _ => if_neg c4)
      refine EX.iload_n (x := p1) rfl (List.mem_of_getElem? (i := 1) rfl) ?_
      refine EX.iload_n (x := p2) rfl (List.mem_of_getElem? (i := 2) rfl) ?_
      rcases ite_some h with ⟨c5, h⟩ | ⟨c5, h⟩
      · refine EX.go (i := .if_icmp .ne 7) (len := 3) (pc1 := 21) (st1 := []) (hi1 := z3.2.1) (hl1 := z3.2.2) rfl ?_ (fun _ _ _ => if_pos c5)
        refine EX.pick [] ?_ rfl
        exact bJ_MD_between_21 ev h
      · refine EX.go (i := .if_icmp .ne 7) (len := 3) (pc1 := 25) (st1 := []) (hi1 := z3.2.1) (hl1 := z3.2.2) rfl ?_ (fun _ _ _ => if_neg c5)
        refine EX.aload_n (x := 65) rfl (List.mem_of_getElem? (i := 0) rfl) ?_
        refine EX.iload_n (x := p1) rfl (List.mem_of_getElem? (i := 1) rfl) ?_
        refine EX.iload_n (x := p2) rfl (List.mem_of_getElem? (i := 2) rfl) ?_
        obtain ⟨z6, hz6, h⟩ := bnd_some h
        refine EX.callV (b := 65) (as := [.int (p1), .int (p2)]) (rest := []) (r := some (.int (z6.1))) (hi1 := z6.2.1) (hl1 := z6.2.2) rfl rfl rfl rfl rfl rfl ((b_MD_find ev hz6).mono (by decide)) ?_
        show EX w0 ev 2 m_MD_between 31 [(0, .ref 65), (1, .int (p1)), (2, .int (p2))] [.int (z6.1)] (z6.2.1) (z6.2.2) (oI o)
        obtain rfl := Option.some.inj h
        exact EX.iret rfl rfl
def B_MD_turnsOf_4 (N : Nat) (v1 : Int32) (v2 : Int32) (hi : HI) (hl : HL) : Option ((Int32 × Int32 × HI × HL) ⊕ (Int32 × HI × HL)) :=
  if (hi 65 0 : Int32) ≤ (v2 : Int32) then some (.inr (v1, hi, hl)) else some (.inl ((v1 * (3)), v2 + 1, hi, hl))
set_option maxRecDepth 10000 in
set_option maxHeartbeats 4000000 in
theorem bB_MD_turnsOf_4 (ev : EV) {N : Nat} {v1 : Int32} {v2 : Int32} {hi : HI} {hl : HL} {z : (Int32 × Int32 × HI × HL) ⊕ (Int32 × HI × HL)} {OUT : Option Value × HI × HL} (h : B_MD_turnsOf_4 N v1 v2 hi hl = some z) (hk : Sum.elim (fun s => EX w0 ev 0 m_MD_turnsOf 4 [(0, .ref 65), (1, .int (s.1)), (2, .int (s.2.1))] [] (s.2.2.1) (s.2.2.2) OUT) (fun x => EX w0 ev 0 m_MD_turnsOf 22 [(1, .int (x.1))] [] (x.2.1) (x.2.2) OUT) z) : EX w0 ev 0 m_MD_turnsOf 4 [(0, .ref 65), (1, .int (v1)), (2, .int (v2))] [] (hi) (hl) OUT := by
  unfold B_MD_turnsOf_4 at h
  refine EX.iload_n (x := v2) rfl (List.mem_of_getElem? (i := 2) rfl) ?_
  refine EX.aload_n (x := 65) rfl (List.mem_of_getElem? (i := 0) rfl) ?_
  refine EX.go (i := .getfield 7) (len := 3) (pc1 := 9) (st1 := [.int (hi 65 0), .int (v2)]) (hi1 := hi) (hl1 := hl) rfl ?_ (fun _ _ _ => rfl)
  rcases ite_some h with ⟨c1, h⟩ | ⟨c1, h⟩
  · refine EX.go (i := .if_icmp .ge 13) (len := 3) (pc1 := 22) (st1 := []) (hi1 := hi) (hl1 := hl) rfl ?_ (fun _ _ _ => if_pos c1)
    obtain rfl := Option.some.inj h
    have hk : EX w0 ev 0 m_MD_turnsOf 22 [(1, .int (v1))] [] (hi) (hl) OUT := hk
    exact EX.pick [1] hk rfl
  · refine EX.go (i := .if_icmp .ge 13) (len := 3) (pc1 := 12) (st1 := []) (hi1 := hi) (hl1 := hl) rfl ?_ (fun _ _ _ => if_neg c1)
    refine EX.iload_n (x := v1) rfl (List.mem_of_getElem? (i := 1) rfl) ?_
    refine EX.iconst (v := 3) rfl rfl ?_
    refine EX.go (i := .imul) (len := 1) (pc1 := 15) (st1 := [.int ((v1 * (3)))]) (hi1 := hi) (hl1 := hl) rfl ?_ (fun _ _ _ => rfl)
    refine EX.istore_n (req1 := [(1, .int ((v1 * (3)))), (0, .ref 65), (2, .int (v2))]) rfl rfl rfl ?_
    refine EX.iinc (x := v2) (v := v2 + 1) (req1 := [(2, .int (v2 + 1)), (1, .int ((v1 * (3)))), (0, .ref 65)]) rfl rfl (List.mem_of_getElem? (i := 2) rfl) rfl rfl ?_
    refine EX.go (i := .goto (-15)) (len := 3) (pc1 := 4) (st1 := []) (hi1 := hi) (hl1 := hl) rfl ?_ (fun _ _ _ => rfl)
    obtain rfl := Option.some.inj h
    have hk : EX w0 ev 0 m_MD_turnsOf 4 [(0, .ref 65), (1, .int ((v1 * (3)))), (2, .int (v2 + 1))] [] (hi) (hl) OUT := hk
    exact EX.pick [2, 1, 0] hk rfl
def f_MD_turnsOf (N : Nat) (hi : HI) (hl : HL) : Option (Int32 × HI × HL) :=
  (lpN (fun s => B_MD_turnsOf_4 N s.1 s.2.1 s.2.2.1 s.2.2.2) N (1, 0, hi, hl)).bind fun x2 => some (x2.1, x2.2.1, x2.2.2)
set_option maxRecDepth 10000 in
set_option maxHeartbeats 4000000 in
theorem b_MD_turnsOf (ev : EV) {N : Nat} {hi : HI} {hl : HL} {o : Int32 × HI × HL} (h : f_MD_turnsOf N hi hl = some o) : EM w0 ev 1 m_MD_turnsOf [.ref 65] hi hl (oI o) := by
  unfold f_MD_turnsOf at h
  refine EM.of rfl ?_
  show EX w0 ev 0 m_MD_turnsOf 0 [(0, .ref 65)] [] (hi) (hl) (oI o)
  refine EX.iconst (v := 1) rfl rfl ?_
  refine EX.istore_n (req1 := [(1, .int (1)), (0, .ref 65)]) rfl rfl rfl ?_
  refine EX.iconst (v := 0) rfl rfl ?_
  refine EX.istore_n (req1 := [(2, .int (0)), (1, .int (1)), (0, .ref 65)]) rfl rfl rfl ?_
  obtain ⟨x2, hx2, h⟩ := bnd_some h
  refine EX.pick [2, 1, 0] ?_ rfl
  refine lp_sound (f := fun s => B_MD_turnsOf_4 N s.1 s.2.1 s.2.2.1 s.2.2.2) (PS := fun s => EX w0 ev 0 m_MD_turnsOf 4 [(0, .ref 65), (1, .int (s.1)), (2, .int (s.2.1))] [] (s.2.2.1) (s.2.2.2) (oI o)) (PX := fun x => EX w0 ev 0 m_MD_turnsOf 22 [(1, .int (x.1))] [] (x.2.1) (x.2.2) (oI o)) ?_ N _ x2 hx2 ?_
  · exact fun s z hz hk => bB_MD_turnsOf_4 ev hz hk
  show EX w0 ev 0 m_MD_turnsOf 22 [(1, .int (x2.1))] [] (x2.2.1) (x2.2.2) (oI o)
  refine EX.iload_n (x := x2.1) rfl (List.mem_of_getElem? (i := 0) rfl) ?_
  obtain rfl := Option.some.inj h
  exact EX.iret rfl rfl
def f_MD_isTurn (N : Nat) (p1 : Int32) (hi : HI) (hl : HL) : Option (Int32 × HI × HL) :=
  (f_MD_turnsOf N (hi) (hl)).bind fun z1 => (f_MD_in N ((Int32.toInt64 (p1))) (0) ((Int32.toInt64 (((z1.1 : Int32) - (1))))) (z1.2.1) (z1.2.2)).bind fun z2 => if (z2.1 : Int32) = 0 ∨ (z2.1 : Int32) = 1 then some (z2.1, z2.2.1, z2.2.2) else none
set_option maxRecDepth 10000 in
set_option maxHeartbeats 4000000 in
theorem b_MD_isTurn (ev : EV) {N : Nat} {p1 : Int32} {hi : HI} {hl : HL} {o : Int32 × HI × HL} (h : f_MD_isTurn N p1 hi hl = some o) : EM w0 ev 2 m_MD_isTurn [.ref 65, .int (p1)] hi hl (oI o) := by
  unfold f_MD_isTurn at h
  refine EM.of rfl ?_
  show EX w0 ev 1 m_MD_isTurn 0 [(0, .ref 65), (1, .int (p1))] [] (hi) (hl) (oI o)
  refine EX.iload_n (x := p1) rfl (List.mem_of_getElem? (i := 1) rfl) ?_
  refine EX.go (i := .i2l) (len := 1) (pc1 := 2) (st1 := [.long ((Int32.toInt64 (p1)))]) (hi1 := hi) (hl1 := hl) rfl ?_ (fun _ _ _ => rfl)
  refine EX.lconst (v := 0) rfl rfl ?_
  refine EX.aload_n (x := 65) rfl (List.mem_of_getElem? (i := 0) rfl) ?_
  obtain ⟨z1, hz1, h⟩ := bnd_some h
  refine EX.callV (b := 65) (as := []) (rest := [.long (0), .long ((Int32.toInt64 (p1)))]) (r := some (.int (z1.1))) (hi1 := z1.2.1) (hl1 := z1.2.2) rfl rfl rfl rfl rfl rfl ((b_MD_turnsOf ev hz1).mono (by decide)) ?_
  show EX w0 ev 1 m_MD_isTurn 7 [(0, .ref 65), (1, .int (p1))] [.int (z1.1), .long (0), .long ((Int32.toInt64 (p1)))] (z1.2.1) (z1.2.2) (oI o)
  refine EX.iconst (v := 1) rfl rfl ?_
  refine EX.go (i := .isub) (len := 1) (pc1 := 9) (st1 := [.int (((z1.1 : Int32) - (1))), .long (0), .long ((Int32.toInt64 (p1)))]) (hi1 := z1.2.1) (hl1 := z1.2.2) rfl ?_ (fun _ _ _ => rfl)
  refine EX.go (i := .i2l) (len := 1) (pc1 := 10) (st1 := [.long ((Int32.toInt64 (((z1.1 : Int32) - (1))))), .long (0), .long ((Int32.toInt64 (p1)))]) (hi1 := z1.2.1) (hl1 := z1.2.2) rfl ?_ (fun _ _ _ => rfl)
  obtain ⟨z2, hz2, h⟩ := bnd_some h
  refine EX.callS (as := [.long ((Int32.toInt64 (p1))), .long (0), .long ((Int32.toInt64 (((z1.1 : Int32) - (1)))))]) (rest := []) (r := some (.int (z2.1))) (hi1 := z2.2.1) (hl1 := z2.2.2) rfl rfl rfl rfl rfl rfl ((b_MD_in ev hz2).mono (by decide)) ?_
  show EX w0 ev 1 m_MD_isTurn 13 [(0, .ref 65), (1, .int (p1))] [.int (z2.1)] (z2.2.1) (z2.2.2) (oI o)
  obtain ⟨g3, h⟩ := grp_some h
  obtain rfl := Option.some.inj h
  exact EX.zret rfl rfl g3
def J_MD_steps_99 (N : Nat) (s0 : Int32) (s1 : Int32) (hi : HI) (hl : HL) : Option (Unit × HI × HL) :=
  if (s1 : Int32) < 0 ∨ 6 ≤ Int32.toNatClampNeg (s1) then none else some ((), wr (hi) 73 (Int32.toNatClampNeg (s1)) (s0), hl)
set_option maxRecDepth 10000 in
set_option maxHeartbeats 4000000 in
theorem bJ_MD_steps_99 (ev : EV) {N : Nat} {s0 : Int32} {s1 : Int32} {hi : HI} {hl : HL} {o : Unit × HI × HL} (h : J_MD_steps_99 N s0 s1 hi hl = some o) : EX w0 ev 0 m_MD_steps 99 [] [.int (s0), .int (s1), .ref 73] (hi) (hl) (oV o) := by
  unfold J_MD_steps_99 at h
  obtain ⟨g14, h⟩ := grd_some h
  refine EX.iastore rfl rfl g14 ?_
  obtain rfl := Option.some.inj h
  exact EX.vret rfl rfl
def J_MD_steps_59 (N : Nat) (v1 : Int32) (v2 : Int32) (v3 : Int32) (s0 : Int32) (s1 : Int32) (hi : HI) (hl : HL) : Option (Unit × HI × HL) :=
  if (s1 : Int32) < 0 ∨ 6 ≤ Int32.toNatClampNeg (s1) then none else if (v2 : Int32) < 0 ∨ 6 ≤ Int32.toNatClampNeg (v2) then none else if (v1 : Int32) < 0 ∨ 6 ≤ Int32.toNatClampNeg (v1) then none else if ((wr (hi) 72 (Int32.toNatClampNeg (s1)) (s0)) 73 (Int32.toNatClampNeg (v1)) : Int32) ≤ ((((wr (hi) 72 (Int32.toNatClampNeg (s1)) (s0)) 73 (Int32.toNatClampNeg (v2)) : Int32) + v3) : Int32) then if (v1 : Int32) < 0 ∨ 6 ≤ Int32.toNatClampNeg (v1) then none else J_MD_steps_99 N ((wr (hi) 72 (Int32.toNatClampNeg (s1)) (s0)) 73 (Int32.toNatClampNeg (v1))) (v1) (wr (hi) 72 (Int32.toNatClampNeg (s1)) (s0)) (hl) else if (v2 : Int32) < 0 ∨ 6 ≤ Int32.toNatClampNeg (v2) then none else J_MD_steps_99 N ((((wr (hi) 72 (Int32.toNatClampNeg (s1)) (s0)) 73 (Int32.toNatClampNeg (v2)) : Int32) + v3)) (v1) (wr (hi) 72 (Int32.toNatClampNeg (s1)) (s0)) (hl)
set_option maxRecDepth 10000 in
set_option maxHeartbeats 4000000 in
theorem bJ_MD_steps_59 (ev : EV) {N : Nat} {v1 : Int32} {v2 : Int32} {v3 : Int32} {s0 : Int32} {s1 : Int32} {hi : HI} {hl : HL} {o : Unit × HI × HL} (h : J_MD_steps_59 N v1 v2 v3 s0 s1 hi hl = some o) : EX w0 ev 0 m_MD_steps 59 [(0, .ref 65), (1, .int (v1)), (2, .int (v2)), (3, .int (v3))] [.int (s0), .int (s1), .ref 72] (hi) (hl) (oV o) := by
  unfold J_MD_steps_59 at h
  obtain ⟨g9, h⟩ := grd_some h
  refine EX.iastore rfl rfl g9 ?_
  refine EX.aload_n (x := 65) rfl (List.mem_of_getElem? (i := 0) rfl) ?_
  refine EX.go (i := .getfield 38) (len := 3) (pc1 := 64) (st1 := [.ref 73]) (hi1 := wr (hi) 72 (Int32.toNatClampNeg (s1)) (s0)) (hl1 := hl) rfl ?_ (fun _ _ _ => rfl)
  refine EX.iload_n (x := v1) rfl (List.mem_of_getElem? (i := 1) rfl) ?_
  refine EX.aload_n (x := 65) rfl (List.mem_of_getElem? (i := 0) rfl) ?_
  refine EX.go (i := .getfield 38) (len := 3) (pc1 := 69) (st1 := [.ref 73, .int (v1), .ref 73]) (hi1 := wr (hi) 72 (Int32.toNatClampNeg (s1)) (s0)) (hl1 := hl) rfl ?_ (fun _ _ _ => rfl)
  refine EX.iload_n (x := v2) rfl (List.mem_of_getElem? (i := 2) rfl) ?_
  obtain ⟨g10, h⟩ := grd_some h
  refine EX.iaload rfl rfl g10 ?_
  refine EX.iload_n (x := v3) rfl (List.mem_of_getElem? (i := 3) rfl) ?_
  refine EX.go (i := .iadd) (len := 1) (pc1 := 73) (st1 := [.int ((((wr (hi) 72 (Int32.toNatClampNeg (s1)) (s0)) 73 (Int32.toNatClampNeg (v2)) : Int32) + v3)), .int (v1), .ref 73]) (hi1 := wr (hi) 72 (Int32.toNatClampNeg (s1)) (s0)) (hl1 := hl) rfl ?_ (fun _ _ _ => rfl)
  refine EX.aload_n (x := 65) rfl (List.mem_of_getElem? (i := 0) rfl) ?_
  refine EX.go (i := .getfield 38) (len := 3) (pc1 := 77) (st1 := [.ref 73, .int ((((wr (hi) 72 (Int32.toNatClampNeg (s1)) (s0)) 73 (Int32.toNatClampNeg (v2)) : Int32) + v3)), .int (v1), .ref 73]) (hi1 := wr (hi) 72 (Int32.toNatClampNeg (s1)) (s0)) (hl1 := hl) rfl ?_ (fun _ _ _ => rfl)
  refine EX.iload_n (x := v1) rfl (List.mem_of_getElem? (i := 1) rfl) ?_
  obtain ⟨g11, h⟩ := grd_some h
  refine EX.iaload rfl rfl g11 ?_
  rcases ite_some h with ⟨c12, h⟩ | ⟨c12, h⟩
  · refine EX.go (i := .if_icmp .ge 14) (len := 3) (pc1 := 93) (st1 := [.int (v1), .ref 73]) (hi1 := wr (hi) 72 (Int32.toNatClampNeg (s1)) (s0)) (hl1 := hl) rfl ?_ (fun _ _ _ => if_pos c12)
    refine EX.aload_n (x := 65) rfl (List.mem_of_getElem? (i := 0) rfl) ?_
    refine EX.go (i := .getfield 38) (len := 3) (pc1 := 97) (st1 := [.ref 73, .int (v1), .ref 73]) (hi1 := wr (hi) 72 (Int32.toNatClampNeg (s1)) (s0)) (hl1 := hl) rfl ?_ (fun _ _ _ => rfl)
    refine EX.iload_n (x := v1) rfl (List.mem_of_getElem? (i := 1) rfl) ?_
    obtain ⟨g13, h⟩ := grd_some h
    refine EX.iaload rfl rfl g13 ?_
    refine EX.pick [] ?_ rfl
    exact bJ_MD_steps_99 ev h
  · refine EX.go (i := .if_icmp .ge 14) (len := 3) (pc1 := 82) (st1 := [.int (v1), .ref 73]) (hi1 := wr (hi) 72 (Int32.toNatClampNeg (s1)) (s0)) (hl1 := hl) rfl ?_ (fun _ _ _ => if_neg c12)
    refine EX.aload_n (x := 65) rfl (List.mem_of_getElem? (i := 0) rfl) ?_
    refine EX.go (i := .getfield 38) (len := 3) (pc1 := 86) (st1 := [.ref 73, .int (v1), .ref 73]) (hi1 := wr (hi) 72 (Int32.toNatClampNeg (s1)) (s0)) (hl1 := hl) rfl ?_ (fun _ _ _ => rfl)
    refine EX.iload_n (x := v2) rfl (List.mem_of_getElem? (i := 2) rfl) ?_
    obtain ⟨g15, h⟩ := grd_some h
    refine EX.iaload rfl rfl g15 ?_
    refine EX.iload_n (x := v3) rfl (List.mem_of_getElem? (i := 3) rfl) ?_
    refine EX.go (i := .iadd) (len := 1) (pc1 := 90) (st1 := [.int ((((wr (hi) 72 (Int32.toNatClampNeg (s1)) (s0)) 73 (Int32.toNatClampNeg (v2)) : Int32) + v3)), .int (v1), .ref 73]) (hi1 := wr (hi) 72 (Int32.toNatClampNeg (s1)) (s0)) (hl1 := hl) rfl ?_ (fun _ _ _ => rfl)
    refine EX.go (i := .goto 9) (len := 3) (pc1 := 99) (st1 := [.int ((((wr (hi) 72 (Int32.toNatClampNeg (s1)) (s0)) 73 (Int32.toNatClampNeg (v2)) : Int32) + v3)), .int (v1), .ref 73]) (hi1 := wr (hi) 72 (Int32.toNatClampNeg (s1)) (s0)) (hl1 := hl) rfl ?_ (fun _ _ _ => rfl)
    refine EX.pick [] ?_ rfl
    exact bJ_MD_steps_99 ev h
def f_MD_steps (N : Nat) (p1 : Int32) (p2 : Int32) (p3 : Int32) (hi : HI) (hl : HL) : Option (Unit × HI × HL) :=
  if (p1 : Int32) < 0 ∨ 6 ≤ Int32.toNatClampNeg (p1) then none else if (hi 71 (Int32.toNatClampNeg (p1)) : Int32) = (2 : Int32) then some ((), hi, hl) else if (p2 : Int32) < 0 ∨ 6 ≤ Int32.toNatClampNeg (p2) then none else if (hi 71 (Int32.toNatClampNeg (p2)) : Int32) = (1 : Int32) then some ((), hi, hl) else if (p1 : Int32) < 0 ∨ 6 ≤ Int32.toNatClampNeg (p1) then none else if (p2 : Int32) < 0 ∨ 6 ≤ Int32.toNatClampNeg (p2) then none else if (hi 72 (Int32.toNatClampNeg (p2)) : Int32) ≤ (((hi 72 (Int32.toNatClampNeg (p1)) : Int32) + p3) : Int32) then if (p2 : Int32) < 0 ∨ 6 ≤ Int32.toNatClampNeg (p2) then none else J_MD_steps_59 N (p1) (p2) (p3) (hi 72 (Int32.toNatClampNeg (p2))) (p2) (hi) (hl) else if (p1 : Int32) < 0 ∨ 6 ≤ Int32.toNatClampNeg (p1) then none else J_MD_steps_59 N (p1) (p2) (p3) (((hi 72 (Int32.toNatClampNeg (p1)) : Int32) + p3)) (p2) (hi) (hl)
set_option maxRecDepth 10000 in
set_option maxHeartbeats 4000000 in
theorem b_MD_steps (ev : EV) {N : Nat} {p1 : Int32} {p2 : Int32} {p3 : Int32} {hi : HI} {hl : HL} {o : Unit × HI × HL} (h : f_MD_steps N p1 p2 p3 hi hl = some o) : EM w0 ev 1 m_MD_steps [.ref 65, .int (p1), .int (p2), .int (p3)] hi hl (oV o) := by
  unfold f_MD_steps at h
  refine EM.of rfl ?_
  show EX w0 ev 0 m_MD_steps 0 [(0, .ref 65), (1, .int (p1)), (2, .int (p2)), (3, .int (p3))] [] (hi) (hl) (oV o)
  refine EX.aload_n (x := 65) rfl (List.mem_of_getElem? (i := 0) rfl) ?_
  refine EX.go (i := .getfield 32) (len := 3) (pc1 := 4) (st1 := [.ref 71]) (hi1 := hi) (hl1 := hl) rfl ?_ (fun _ _ _ => rfl)
  refine EX.iload_n (x := p1) rfl (List.mem_of_getElem? (i := 1) rfl) ?_
  obtain ⟨g1, h⟩ := grd_some h
  refine EX.iaload rfl rfl g1 ?_
  refine EX.iconst (v := 2) rfl rfl ?_
  rcases ite_some h with ⟨c2, h⟩ | ⟨c2, h⟩
  · refine EX.go (i := .if_icmp .eq 93) (len := 3) (pc1 := 100) (st1 := []) (hi1 := hi) (hl1 := hl) rfl ?_ (fun _ _ _ => if_pos c2)
    obtain rfl := Option.some.inj h
    exact EX.vret rfl rfl
  · refine EX.go (i := .if_icmp .eq 93) (len := 3) (pc1 := 10) (st1 := []) (hi1 := hi) (hl1 := hl) rfl ?_ (fun _ _ _ => if_neg c2)
    refine EX.aload_n (x := 65) rfl (List.mem_of_getElem? (i := 0) rfl) ?_
    refine EX.go (i := .getfield 32) (len := 3) (pc1 := 14) (st1 := [.ref 71]) (hi1 := hi) (hl1 := hl) rfl ?_ (fun _ _ _ => rfl)
    refine EX.iload_n (x := p2) rfl (List.mem_of_getElem? (i := 2) rfl) ?_
    obtain ⟨g3, h⟩ := grd_some h
    refine EX.iaload rfl rfl g3 ?_
    refine EX.iconst (v := 1) rfl rfl ?_
    rcases ite_some h with ⟨c4, h⟩ | ⟨c4, h⟩
    · refine EX.go (i := .if_icmp .eq 83) (len := 3) (pc1 := 100) (st1 := []) (hi1 := hi) (hl1 := hl) rfl ?_ (fun _ _ _ => if_pos c4)
      obtain rfl := Option.some.inj h
      exact EX.vret rfl rfl
    · refine EX.go (i := .if_icmp .eq 83) (len := 3) (pc1 := 20) (st1 := []) (hi1 := hi) (hl1 := hl) rfl ?_ (fun _ _ _ => if_neg c4)
      refine EX.aload_n (x := 65) rfl (List.mem_of_getElem? (i := 0) rfl) ?_
      refine EX.go (i := .getfield 35) (len := 3) (pc1 := 24) (st1 := [.ref 72]) (hi1 := hi) (hl1 := hl) rfl ?_ (fun _ _ _ => rfl)
      refine EX.iload_n (x := p2) rfl (List.mem_of_getElem? (i := 2) rfl) ?_
      refine EX.aload_n (x := 65) rfl (List.mem_of_getElem? (i := 0) rfl) ?_
      refine EX.go (i := .getfield 35) (len := 3) (pc1 := 29) (st1 := [.ref 72, .int (p2), .ref 72]) (hi1 := hi) (hl1 := hl) rfl ?_ (fun _ _ _ => rfl)
      refine EX.iload_n (x := p1) rfl (List.mem_of_getElem? (i := 1) rfl) ?_
      obtain ⟨g5, h⟩ := grd_some h
      refine EX.iaload rfl rfl g5 ?_
      refine EX.iload_n (x := p3) rfl (List.mem_of_getElem? (i := 3) rfl) ?_
      refine EX.go (i := .iadd) (len := 1) (pc1 := 33) (st1 := [.int (((hi 72 (Int32.toNatClampNeg (p1)) : Int32) + p3)), .int (p2), .ref 72]) (hi1 := hi) (hl1 := hl) rfl ?_ (fun _ _ _ => rfl)
      refine EX.aload_n (x := 65) rfl (List.mem_of_getElem? (i := 0) rfl) ?_
      refine EX.go (i := .getfield 35) (len := 3) (pc1 := 37) (st1 := [.ref 72, .int (((hi 72 (Int32.toNatClampNeg (p1)) : Int32) + p3)), .int (p2), .ref 72]) (hi1 := hi) (hl1 := hl) rfl ?_ (fun _ _ _ => rfl)
      refine EX.iload_n (x := p2) rfl (List.mem_of_getElem? (i := 2) rfl) ?_
      obtain ⟨g6, h⟩ := grd_some h
      refine EX.iaload rfl rfl g6 ?_
      rcases ite_some h with ⟨c7, h⟩ | ⟨c7, h⟩
      · refine EX.go (i := .if_icmp .ge 14) (len := 3) (pc1 := 53) (st1 := [.int (p2), .ref 72]) (hi1 := hi) (hl1 := hl) rfl ?_ (fun _ _ _ => if_pos c7)
        refine EX.aload_n (x := 65) rfl (List.mem_of_getElem? (i := 0) rfl) ?_
        refine EX.go (i := .getfield 35) (len := 3) (pc1 := 57) (st1 := [.ref 72, .int (p2), .ref 72]) (hi1 := hi) (hl1 := hl) rfl ?_ (fun _ _ _ => rfl)
        refine EX.iload_n (x := p2) rfl (List.mem_of_getElem? (i := 2) rfl) ?_
        obtain ⟨g8, h⟩ := grd_some h
        refine EX.iaload rfl rfl g8 ?_
        refine EX.pick [0, 1, 2, 3] ?_ rfl
        exact bJ_MD_steps_59 ev h
      · refine EX.go (i := .if_icmp .ge 14) (len := 3) (pc1 := 42) (st1 := [.int (p2), .ref 72]) (hi1 := hi) (hl1 := hl) rfl ?_ (fun _ _ _ => if_neg c7)
        refine EX.aload_n (x := 65) rfl (List.mem_of_getElem? (i := 0) rfl) ?_
        refine EX.go (i := .getfield 35) (len := 3) (pc1 := 46) (st1 := [.ref 72, .int (p2), .ref 72]) (hi1 := hi) (hl1 := hl) rfl ?_ (fun _ _ _ => rfl)
        refine EX.iload_n (x := p1) rfl (List.mem_of_getElem? (i := 1) rfl) ?_
        obtain ⟨g16, h⟩ := grd_some h
        refine EX.iaload rfl rfl g16 ?_
        refine EX.iload_n (x := p3) rfl (List.mem_of_getElem? (i := 3) rfl) ?_
        refine EX.go (i := .iadd) (len := 1) (pc1 := 50) (st1 := [.int (((hi 72 (Int32.toNatClampNeg (p1)) : Int32) + p3)), .int (p2), .ref 72]) (hi1 := hi) (hl1 := hl) rfl ?_ (fun _ _ _ => rfl)
        refine EX.go (i := .goto 9) (len := 3) (pc1 := 59) (st1 := [.int (((hi 72 (Int32.toNatClampNeg (p1)) : Int32) + p3)), .int (p2), .ref 72]) (hi1 := hi) (hl1 := hl) rfl ?_ (fun _ _ _ => rfl)
        refine EX.pick [0, 1, 2, 3] ?_ rfl
        exact bJ_MD_steps_59 ev h
def J_MD_glows_77 (N : Nat) (v2 : Nat) (v3 : Int32) (v4 : Int32) (s0 : Int32) (s1 : Int32) (hi : HI) (hl : HL) : Option ((Int32 × Int32 × HI × HL) ⊕ (HI × HL)) :=
  if (s1 : Int32) < 0 ∨ 6 ≤ Int32.toNatClampNeg (s1) then none else some (.inl (v3, v4 + 1, wr (hi) 73 (Int32.toNatClampNeg (s1)) (s0), hl))
set_option maxRecDepth 10000 in
set_option maxHeartbeats 4000000 in
theorem bJ_MD_glows_77 (ev : EV) {N : Nat} {v2 : Nat} {v3 : Int32} {v4 : Int32} {s0 : Int32} {s1 : Int32} {hi : HI} {hl : HL} {z : (Int32 × Int32 × HI × HL) ⊕ (HI × HL)} {OUT : Option Value × HI × HL} (h : J_MD_glows_77 N v2 v3 v4 s0 s1 hi hl = some z) (hk : Sum.elim (fun s => EX w0 ev 1 m_MD_glows 5 [(0, .ref 65), (2, .ref (v2)), (3, .int (s.1)), (4, .int (s.2.1))] [] (s.2.2.1) (s.2.2.2) OUT) (fun x => EX w0 ev 1 m_MD_glows 84 [(0, .ref 65), (2, .ref (v2))] [] (x.1) (x.2) OUT) z) : EX w0 ev 1 m_MD_glows 77 [(0, .ref 65), (2, .ref (v2)), (3, .int (v3)), (4, .int (v4))] [.int (s0), .int (s1), .ref 73] (hi) (hl) OUT := by
  unfold J_MD_glows_77 at h
  obtain ⟨g8, h⟩ := grd_some h
  refine EX.iastore rfl rfl g8 ?_
  refine EX.iinc (x := v4) (v := v4 + 1) (req1 := [(4, .int (v4 + 1)), (0, .ref 65), (2, .ref (v2)), (3, .int (v3))]) rfl rfl (List.mem_of_getElem? (i := 3) rfl) rfl rfl ?_
  refine EX.go (i := .goto (-76)) (len := 3) (pc1 := 5) (st1 := []) (hi1 := wr (hi) 73 (Int32.toNatClampNeg (s1)) (s0)) (hl1 := hl) rfl ?_ (fun _ _ _ => rfl)
  obtain rfl := Option.some.inj h
  have hk : EX w0 ev 1 m_MD_glows 5 [(0, .ref 65), (2, .ref (v2)), (3, .int (v3)), (4, .int (v4 + 1))] [] (wr (hi) 73 (Int32.toNatClampNeg (s1)) (s0)) (hl) OUT := hk
  exact EX.pick [1, 2, 3, 0] hk rfl
def J_MD_glows_52 (N : Nat) (v2 : Nat) (v3 : Int32) (v4 : Int32) (s0 : Int32) (s1 : Int32) (hi : HI) (hl : HL) : Option ((Int32 × Int32 × HI × HL) ⊕ (HI × HL)) :=
  if (s1 : Int32) < 0 ∨ 6 ≤ Int32.toNatClampNeg (s1) then none else if (v4 : Int32) < 0 ∨ 6 ≤ Int32.toNatClampNeg (v4) then none else if ((wr (hi) 72 (Int32.toNatClampNeg (s1)) (s0)) 71 (Int32.toNatClampNeg (v4)) : Int32) = (2 : Int32) then J_MD_glows_77 N (v2) (v3) (v4) (0) (v4) (wr (hi) 72 (Int32.toNatClampNeg (s1)) (s0)) (hl) else J_MD_glows_77 N (v2) (v3) (v4) (10000) (v4) (wr (hi) 72 (Int32.toNatClampNeg (s1)) (s0)) (hl)
set_option maxRecDepth 10000 in
set_option maxHeartbeats 4000000 in
theorem bJ_MD_glows_52 (ev : EV) {N : Nat} {v2 : Nat} {v3 : Int32} {v4 : Int32} {s0 : Int32} {s1 : Int32} {hi : HI} {hl : HL} {z : (Int32 × Int32 × HI × HL) ⊕ (HI × HL)} {OUT : Option Value × HI × HL} (h : J_MD_glows_52 N v2 v3 v4 s0 s1 hi hl = some z) (hk : Sum.elim (fun s => EX w0 ev 1 m_MD_glows 5 [(0, .ref 65), (2, .ref (v2)), (3, .int (s.1)), (4, .int (s.2.1))] [] (s.2.2.1) (s.2.2.2) OUT) (fun x => EX w0 ev 1 m_MD_glows 84 [(0, .ref 65), (2, .ref (v2))] [] (x.1) (x.2) OUT) z) : EX w0 ev 1 m_MD_glows 52 [(0, .ref 65), (2, .ref (v2)), (3, .int (v3)), (4, .int (v4))] [.int (s0), .int (s1), .ref 72] (hi) (hl) OUT := by
  unfold J_MD_glows_52 at h
  obtain ⟨g5, h⟩ := grd_some h
  refine EX.iastore rfl rfl g5 ?_
  refine EX.aload_n (x := 65) rfl (List.mem_of_getElem? (i := 0) rfl) ?_
  refine EX.go (i := .getfield 38) (len := 3) (pc1 := 57) (st1 := [.ref 73]) (hi1 := wr (hi) 72 (Int32.toNatClampNeg (s1)) (s0)) (hl1 := hl) rfl ?_ (fun _ _ _ => rfl)
  refine EX.iload (x := v4) rfl (List.mem_of_getElem? (i := 3) rfl) ?_
  refine EX.aload_n (x := 65) rfl (List.mem_of_getElem? (i := 0) rfl) ?_
  refine EX.go (i := .getfield 32) (len := 3) (pc1 := 63) (st1 := [.ref 71, .int (v4), .ref 73]) (hi1 := wr (hi) 72 (Int32.toNatClampNeg (s1)) (s0)) (hl1 := hl) rfl ?_ (fun _ _ _ => rfl)
  refine EX.iload (x := v4) rfl (List.mem_of_getElem? (i := 3) rfl) ?_
  obtain ⟨g6, h⟩ := grd_some h
  refine EX.iaload rfl rfl g6 ?_
  refine EX.iconst (v := 2) rfl rfl ?_
  rcases ite_some h with ⟨c7, h⟩ | ⟨c7, h⟩
  · refine EX.go (i := .if_icmp .ne 7) (len := 3) (pc1 := 70) (st1 := [.int (v4), .ref 73]) (hi1 := wr (hi) 72 (Int32.toNatClampNeg (s1)) (s0)) (hl1 := hl) rfl ?_ (fun _ _ _ => if_pos c7)
    refine EX.iconst (v := 0) rfl rfl ?_
    refine EX.go (i := .goto 6) (len := 3) (pc1 := 77) (st1 := [.int (0), .int (v4), .ref 73]) (hi1 := wr (hi) 72 (Int32.toNatClampNeg (s1)) (s0)) (hl1 := hl) rfl ?_ (fun _ _ _ => rfl)
    refine EX.pick [0, 1, 2, 3] ?_ rfl
    exact bJ_MD_glows_77 ev h hk
  · refine EX.go (i := .if_icmp .ne 7) (len := 3) (pc1 := 74) (st1 := [.int (v4), .ref 73]) (hi1 := wr (hi) 72 (Int32.toNatClampNeg (s1)) (s0)) (hl1 := hl) rfl ?_ (fun _ _ _ => if_neg c7)
    refine EX.sipush (v := 10000) rfl rfl ?_
    refine EX.pick [0, 1, 2, 3] ?_ rfl
    exact bJ_MD_glows_77 ev h hk
def B_MD_glows_5 (N : Nat) (v2 : Nat) (v3 : Int32) (v4 : Int32) (hi : HI) (hl : HL) : Option ((Int32 × Int32 × HI × HL) ⊕ (HI × HL)) :=
  if (hi 65 0 : Int32) ≤ (v4 : Int32) then some (.inr (hi, hl)) else if (v4 : Int32) < 0 ∨ 6 ≤ Int32.toNatClampNeg (v4) then none else if (v4 : Int32) < 0 ∨ 6 ≤ Int32.toNatClampNeg (v4) then none else if ((wr (hi) 71 (Int32.toNatClampNeg (v4)) (((v3 : Int32) - (v3 : Int32) / (3) * (3)))) 71 (Int32.toNatClampNeg (v4)) : Int32) = (1 : Int32) then J_MD_glows_52 N (v2) (((v3 : Int32) / (3))) (v4) (0) (v4) (wr (hi) 71 (Int32.toNatClampNeg (v4)) (((v3 : Int32) - (v3 : Int32) / (3) * (3)))) (hl) else J_MD_glows_52 N (v2) (((v3 : Int32) / (3))) (v4) (10000) (v4) (wr (hi) 71 (Int32.toNatClampNeg (v4)) (((v3 : Int32) - (v3 : Int32) / (3) * (3)))) (hl)
set_option maxRecDepth 10000 in
set_option maxHeartbeats 4000000 in
theorem bB_MD_glows_5 (ev : EV) {N : Nat} {v2 : Nat} {v3 : Int32} {v4 : Int32} {hi : HI} {hl : HL} {z : (Int32 × Int32 × HI × HL) ⊕ (HI × HL)} {OUT : Option Value × HI × HL} (h : B_MD_glows_5 N v2 v3 v4 hi hl = some z) (hk : Sum.elim (fun s => EX w0 ev 1 m_MD_glows 5 [(0, .ref 65), (2, .ref (v2)), (3, .int (s.1)), (4, .int (s.2.1))] [] (s.2.2.1) (s.2.2.2) OUT) (fun x => EX w0 ev 1 m_MD_glows 84 [(0, .ref 65), (2, .ref (v2))] [] (x.1) (x.2) OUT) z) : EX w0 ev 1 m_MD_glows 5 [(0, .ref 65), (2, .ref (v2)), (3, .int (v3)), (4, .int (v4))] [] (hi) (hl) OUT := by
  unfold B_MD_glows_5 at h
  refine EX.iload (x := v4) rfl (List.mem_of_getElem? (i := 3) rfl) ?_
  refine EX.aload_n (x := 65) rfl (List.mem_of_getElem? (i := 0) rfl) ?_
  refine EX.go (i := .getfield 7) (len := 3) (pc1 := 11) (st1 := [.int (hi 65 0), .int (v4)]) (hi1 := hi) (hl1 := hl) rfl ?_ (fun _ _ _ => rfl)
  rcases ite_some h with ⟨c1, h⟩ | ⟨c1, h⟩
  · refine EX.go (i := .if_icmp .ge 73) (len := 3) (pc1 := 84) (st1 := []) (hi1 := hi) (hl1 := hl) rfl ?_ (fun _ _ _ => if_pos c1)
    obtain rfl := Option.some.inj h
    have hk : EX w0 ev 1 m_MD_glows 84 [(0, .ref 65), (2, .ref (v2))] [] (hi) (hl) OUT := hk
    exact EX.pick [0, 1] hk rfl
  · refine EX.go (i := .if_icmp .ge 73) (len := 3) (pc1 := 14) (st1 := []) (hi1 := hi) (hl1 := hl) rfl ?_ (fun _ _ _ => if_neg c1)
    refine EX.aload_n (x := 65) rfl (List.mem_of_getElem? (i := 0) rfl) ?_
    refine EX.go (i := .getfield 32) (len := 3) (pc1 := 18) (st1 := [.ref 71]) (hi1 := hi) (hl1 := hl) rfl ?_ (fun _ _ _ => rfl)
    refine EX.iload (x := v4) rfl (List.mem_of_getElem? (i := 3) rfl) ?_
    refine EX.iload_n (x := v3) rfl (List.mem_of_getElem? (i := 2) rfl) ?_
    refine EX.iconst (v := 3) rfl rfl ?_
    refine EX.go (i := .irem) (len := 1) (pc1 := 23) (st1 := [.int (((v3 : Int32) - (v3 : Int32) / (3) * (3))), .int (v4), .ref 71]) (hi1 := hi) (hl1 := hl) rfl ?_ (fun _ _ _ => rfl)
    obtain ⟨g2, h⟩ := grd_some h
    refine EX.iastore rfl rfl g2 ?_
    refine EX.iload_n (x := v3) rfl (List.mem_of_getElem? (i := 2) rfl) ?_
    refine EX.iconst (v := 3) rfl rfl ?_
    refine EX.go (i := .idiv) (len := 1) (pc1 := 27) (st1 := [.int (((v3 : Int32) / (3)))]) (hi1 := wr (hi) 71 (Int32.toNatClampNeg (v4)) (((v3 : Int32) - (v3 : Int32) / (3) * (3)))) (hl1 := hl) rfl ?_ (fun _ _ _ => rfl)
    refine EX.istore_n (req1 := [(3, .int (((v3 : Int32) / (3)))), (0, .ref 65), (2, .ref (v2)), (4, .int (v4))]) rfl rfl rfl ?_
    refine EX.aload_n (x := 65) rfl (List.mem_of_getElem? (i := 1) rfl) ?_
    refine EX.go (i := .getfield 35) (len := 3) (pc1 := 32) (st1 := [.ref 72]) (hi1 := wr (hi) 71 (Int32.toNatClampNeg (v4)) (((v3 : Int32) - (v3 : Int32) / (3) * (3)))) (hl1 := hl) rfl ?_ (fun _ _ _ => rfl)
    refine EX.iload (x := v4) rfl (List.mem_of_getElem? (i := 3) rfl) ?_
    refine EX.aload_n (x := 65) rfl (List.mem_of_getElem? (i := 1) rfl) ?_
    refine EX.go (i := .getfield 32) (len := 3) (pc1 := 38) (st1 := [.ref 71, .int (v4), .ref 72]) (hi1 := wr (hi) 71 (Int32.toNatClampNeg (v4)) (((v3 : Int32) - (v3 : Int32) / (3) * (3)))) (hl1 := hl) rfl ?_ (fun _ _ _ => rfl)
    refine EX.iload (x := v4) rfl (List.mem_of_getElem? (i := 3) rfl) ?_
    obtain ⟨g3, h⟩ := grd_some h
    refine EX.iaload rfl rfl g3 ?_
    refine EX.iconst (v := 1) rfl rfl ?_
    rcases ite_some h with ⟨c4, h⟩ | ⟨c4, h⟩
    · refine EX.go (i := .if_icmp .ne 7) (len := 3) (pc1 := 45) (st1 := [.int (v4), .ref 72]) (hi1 := wr (hi) 71 (Int32.toNatClampNeg (v4)) (((v3 : Int32) - (v3 : Int32) / (3) * (3)))) (hl1 := hl) rfl ?_ (fun _ _ _ => if_pos c4)
      refine EX.iconst (v := 0) rfl rfl ?_
      refine EX.go (i := .goto 6) (len := 3) (pc1 := 52) (st1 := [.int (0), .int (v4), .ref 72]) (hi1 := wr (hi) 71 (Int32.toNatClampNeg (v4)) (((v3 : Int32) - (v3 : Int32) / (3) * (3)))) (hl1 := hl) rfl ?_ (fun _ _ _ => rfl)
      refine EX.pick [1, 2, 0, 3] ?_ rfl
      exact bJ_MD_glows_52 ev h hk
    · refine EX.go (i := .if_icmp .ne 7) (len := 3) (pc1 := 49) (st1 := [.int (v4), .ref 72]) (hi1 := wr (hi) 71 (Int32.toNatClampNeg (v4)) (((v3 : Int32) - (v3 : Int32) / (3) * (3)))) (hl1 := hl) rfl ?_ (fun _ _ _ => if_neg c4)
      refine EX.sipush (v := 10000) rfl rfl ?_
      refine EX.pick [1, 2, 0, 3] ?_ rfl
      exact bJ_MD_glows_52 ev h hk
def J_MD_glows_191 (N : Nat) (v2 : Nat) (v4 : Int32) (v5 : Int32) (hi : HI) (hl : HL) : Option ((Int32 × HI × HL) ⊕ (HI × HL)) :=
  some (.inl (v5 + 1, hi, hl))
set_option maxRecDepth 10000 in
set_option maxHeartbeats 4000000 in
theorem bJ_MD_glows_191 (ev : EV) {N : Nat} {v2 : Nat} {v4 : Int32} {v5 : Int32} {hi : HI} {hl : HL} {z : (Int32 × HI × HL) ⊕ (HI × HL)} {OUT : Option Value × HI × HL} (h : J_MD_glows_191 N v2 v4 v5 hi hl = some z) (hk : Sum.elim (fun s => EX w0 ev 1 m_MD_glows 101 [(0, .ref 65), (2, .ref (v2)), (4, .int (v4)), (5, .int (s.1))] [] (s.2.1) (s.2.2) OUT) (fun x => EX w0 ev 1 m_MD_glows 197 [(0, .ref 65), (2, .ref (v2)), (4, .int (v4))] [] (x.1) (x.2) OUT) z) : EX w0 ev 1 m_MD_glows 191 [(0, .ref 65), (2, .ref (v2)), (4, .int (v4)), (5, .int (v5))] [] (hi) (hl) OUT := by
  unfold J_MD_glows_191 at h
  refine EX.iinc (x := v5) (v := v5 + 1) (req1 := [(5, .int (v5 + 1)), (0, .ref 65), (2, .ref (v2)), (4, .int (v4))]) rfl rfl (List.mem_of_getElem? (i := 3) rfl) rfl rfl ?_
  refine EX.go (i := .goto (-93)) (len := 3) (pc1 := 101) (st1 := []) (hi1 := hi) (hl1 := hl) rfl ?_ (fun _ _ _ => rfl)
  obtain rfl := Option.some.inj h
  have hk : EX w0 ev 1 m_MD_glows 101 [(0, .ref 65), (2, .ref (v2)), (4, .int (v4)), (5, .int (v5 + 1))] [] (hi) (hl) OUT := hk
  exact EX.pick [1, 2, 3, 0] hk rfl
def B_MD_glows_101 (N : Nat) (v2 : Nat) (v4 : Int32) (v5 : Int32) (hi : HI) (hl : HL) : Option ((Int32 × HI × HL) ⊕ (HI × HL)) :=
  if (hi 65 2 : Int32) ≤ (v5 : Int32) then some (.inr (hi, hl)) else if gA16 (v2) then if (v5 : Int32) < 0 ∨ 16 ≤ Int32.toNatClampNeg (v5) then none else if (hi (v2) (Int32.toNatClampNeg (v5)) : Int32) = (2 : Int32) then if (v5 : Int32) < 0 ∨ 16 ≤ Int32.toNatClampNeg (v5) then none else if (v5 : Int32) < 0 ∨ 16 ≤ Int32.toNatClampNeg (v5) then none else (f_MD_steps N (hi 66 (Int32.toNatClampNeg (v5))) (hi 67 (Int32.toNatClampNeg (v5))) (0) (hi) (hl)).bind fun z16 => if (v5 : Int32) < 0 ∨ 16 ≤ Int32.toNatClampNeg (v5) then none else if (v5 : Int32) < 0 ∨ 16 ≤ Int32.toNatClampNeg (v5) then none else (f_MD_steps N (z16.2.1 67 (Int32.toNatClampNeg (v5))) (z16.2.1 66 (Int32.toNatClampNeg (v5))) (0) (z16.2.1) (z16.2.2)).bind fun z19 => J_MD_glows_191 N (v2) (v4) (v5) (z19.2.1) (z19.2.2) else if (v5 : Int32) < 0 ∨ 16 ≤ Int32.toNatClampNeg (v5) then none else if (hi (v2) (Int32.toNatClampNeg (v5)) : Int32) = 0 then if (v5 : Int32) < 0 ∨ 16 ≤ Int32.toNatClampNeg (v5) then none else if (v5 : Int32) < 0 ∨ 16 ≤ Int32.toNatClampNeg (v5) then none else if (v5 : Int32) < 0 ∨ 16 ≤ Int32.toNatClampNeg (v5) then none else (f_MD_steps N (hi 66 (Int32.toNatClampNeg (v5))) (hi 67 (Int32.toNatClampNeg (v5))) (hi 68 (Int32.toNatClampNeg (v5))) (hi) (hl)).bind fun z25 => J_MD_glows_191 N (v2) (v4) (v5) (z25.2.1) (z25.2.2) else J_MD_glows_191 N (v2) (v4) (v5) (hi) (hl) else none
set_option maxRecDepth 10000 in
set_option maxHeartbeats 4000000 in
theorem bB_MD_glows_101 (ev : EV) {N : Nat} {v2 : Nat} {v4 : Int32} {v5 : Int32} {hi : HI} {hl : HL} {z : (Int32 × HI × HL) ⊕ (HI × HL)} {OUT : Option Value × HI × HL} (h : B_MD_glows_101 N v2 v4 v5 hi hl = some z) (hk : Sum.elim (fun s => EX w0 ev 1 m_MD_glows 101 [(0, .ref 65), (2, .ref (v2)), (4, .int (v4)), (5, .int (s.1))] [] (s.2.1) (s.2.2) OUT) (fun x => EX w0 ev 1 m_MD_glows 197 [(0, .ref 65), (2, .ref (v2)), (4, .int (v4))] [] (x.1) (x.2) OUT) z) : EX w0 ev 1 m_MD_glows 101 [(0, .ref 65), (2, .ref (v2)), (4, .int (v4)), (5, .int (v5))] [] (hi) (hl) OUT := by
  unfold B_MD_glows_101 at h
  refine EX.iload (x := v5) rfl (List.mem_of_getElem? (i := 3) rfl) ?_
  refine EX.aload_n (x := 65) rfl (List.mem_of_getElem? (i := 0) rfl) ?_
  refine EX.go (i := .getfield 116) (len := 3) (pc1 := 107) (st1 := [.int (hi 65 2), .int (v5)]) (hi1 := hi) (hl1 := hl) rfl ?_ (fun _ _ _ => rfl)
  rcases ite_some h with ⟨c11, h⟩ | ⟨c11, h⟩
  · refine EX.go (i := .if_icmp .ge 90) (len := 3) (pc1 := 197) (st1 := []) (hi1 := hi) (hl1 := hl) rfl ?_ (fun _ _ _ => if_pos c11)
    obtain rfl := Option.some.inj h
    have hk : EX w0 ev 1 m_MD_glows 197 [(0, .ref 65), (2, .ref (v2)), (4, .int (v4))] [] (hi) (hl) OUT := hk
    exact EX.pick [0, 1, 2] hk rfl
  · refine EX.go (i := .if_icmp .ge 90) (len := 3) (pc1 := 110) (st1 := []) (hi1 := hi) (hl1 := hl) rfl ?_ (fun _ _ _ => if_neg c11)
    refine EX.aload_n (x := v2) rfl (List.mem_of_getElem? (i := 1) rfl) ?_
    refine EX.iload (x := v5) rfl (List.mem_of_getElem? (i := 3) rfl) ?_
    obtain ⟨k_v2, h⟩ := grp_some h
    obtain ⟨g12, h⟩ := grd_some h
    refine EX.iaload rfl k_v2 g12 ?_
    refine EX.iconst (v := 2) rfl rfl ?_
    rcases ite_some h with ⟨c13, h⟩ | ⟨c13, h⟩
    · refine EX.go (i := .if_icmp .ne 44) (len := 3) (pc1 := 118) (st1 := []) (hi1 := hi) (hl1 := hl) rfl ?_ (fun _ _ _ => if_pos c13)
      refine EX.aload_n (x := 65) rfl (List.mem_of_getElem? (i := 0) rfl) ?_
      refine EX.aload_n (x := 65) rfl (List.mem_of_getElem? (i := 0) rfl) ?_
      refine EX.go (i := .getfield 16) (len := 3) (pc1 := 123) (st1 := [.ref 66, .ref 65]) (hi1 := hi) (hl1 := hl) rfl ?_ (fun _ _ _ => rfl)
      refine EX.iload (x := v5) rfl (List.mem_of_getElem? (i := 3) rfl) ?_
      obtain ⟨g14, h⟩ := grd_some h
      refine EX.iaload rfl rfl g14 ?_
      refine EX.aload_n (x := 65) rfl (List.mem_of_getElem? (i := 0) rfl) ?_
      refine EX.go (i := .getfield 20) (len := 3) (pc1 := 130) (st1 := [.ref 67, .int (hi 66 (Int32.toNatClampNeg (v5))), .ref 65]) (hi1 := hi) (hl1 := hl) rfl ?_ (fun _ _ _ => rfl)
      refine EX.iload (x := v5) rfl (List.mem_of_getElem? (i := 3) rfl) ?_
      obtain ⟨g15, h⟩ := grd_some h
      refine EX.iaload rfl rfl g15 ?_
      refine EX.iconst (v := 0) rfl rfl ?_
      obtain ⟨z16, hz16, h⟩ := bnd_some h
      refine EX.callV (b := 65) (as := [.int (hi 66 (Int32.toNatClampNeg (v5))), .int (hi 67 (Int32.toNatClampNeg (v5))), .int (0)]) (rest := []) (r := none) (hi1 := z16.2.1) (hl1 := z16.2.2) rfl rfl rfl rfl rfl rfl ((b_MD_steps ev hz16).mono (by decide)) ?_
      show EX w0 ev 1 m_MD_glows 137 [(0, .ref 65), (2, .ref (v2)), (4, .int (v4)), (5, .int (v5))] [] (z16.2.1) (z16.2.2) OUT
      refine EX.aload_n (x := 65) rfl (List.mem_of_getElem? (i := 0) rfl) ?_
      refine EX.aload_n (x := 65) rfl (List.mem_of_getElem? (i := 0) rfl) ?_
      refine EX.go (i := .getfield 20) (len := 3) (pc1 := 142) (st1 := [.ref 67, .ref 65]) (hi1 := z16.2.1) (hl1 := z16.2.2) rfl ?_ (fun _ _ _ => rfl)
      refine EX.iload (x := v5) rfl (List.mem_of_getElem? (i := 3) rfl) ?_
      obtain ⟨g17, h⟩ := grd_some h
      refine EX.iaload rfl rfl g17 ?_
      refine EX.aload_n (x := 65) rfl (List.mem_of_getElem? (i := 0) rfl) ?_
      refine EX.go (i := .getfield 16) (len := 3) (pc1 := 149) (st1 := [.ref 66, .int (z16.2.1 67 (Int32.toNatClampNeg (v5))), .ref 65]) (hi1 := z16.2.1) (hl1 := z16.2.2) rfl ?_ (fun _ _ _ => rfl)
      refine EX.iload (x := v5) rfl (List.mem_of_getElem? (i := 3) rfl) ?_
      obtain ⟨g18, h⟩ := grd_some h
      refine EX.iaload rfl rfl g18 ?_
      refine EX.iconst (v := 0) rfl rfl ?_
      obtain ⟨z19, hz19, h⟩ := bnd_some h
      refine EX.callV (b := 65) (as := [.int (z16.2.1 67 (Int32.toNatClampNeg (v5))), .int (z16.2.1 66 (Int32.toNatClampNeg (v5))), .int (0)]) (rest := []) (r := none) (hi1 := z19.2.1) (hl1 := z19.2.2) rfl rfl rfl rfl rfl rfl ((b_MD_steps ev hz19).mono (by decide)) ?_
      show EX w0 ev 1 m_MD_glows 156 [(0, .ref 65), (2, .ref (v2)), (4, .int (v4)), (5, .int (v5))] [] (z19.2.1) (z19.2.2) OUT
      refine EX.go (i := .goto 35) (len := 3) (pc1 := 191) (st1 := []) (hi1 := z19.2.1) (hl1 := z19.2.2) rfl ?_ (fun _ _ _ => rfl)
      refine EX.pick [0, 1, 2, 3] ?_ rfl
      exact bJ_MD_glows_191 ev h hk
    · refine EX.go (i := .if_icmp .ne 44) (len := 3) (pc1 := 159) (st1 := []) (hi1 := hi) (hl1 := hl) rfl ?_ (fun _ _ _ => if_neg c13)
      refine EX.aload_n (x := v2) rfl (List.mem_of_getElem? (i := 1) rfl) ?_
      refine EX.iload (x := v5) rfl (List.mem_of_getElem? (i := 3) rfl) ?_
      obtain ⟨g20, h⟩ := grd_some h
      refine EX.iaload rfl k_v2 g20 ?_
      rcases ite_some h with ⟨c21, h⟩ | ⟨c21, h⟩
      · refine EX.go (i := .ifCond .ne 28) (len := 3) (pc1 := 166) (st1 := []) (hi1 := hi) (hl1 := hl) rfl ?_ (fun _ _ _ => if_pos c21)
        refine EX.aload_n (x := 65) rfl (List.mem_of_getElem? (i := 0) rfl) ?_
        refine EX.aload_n (x := 65) rfl (List.mem_of_getElem? (i := 0) rfl) ?_
        refine EX.go (i := .getfield 16) (len := 3) (pc1 := 171) (st1 := [.ref 66, .ref 65]) (hi1 := hi) (hl1 := hl) rfl ?_ (fun _ _ _ => rfl)
        refine EX.iload (x := v5) rfl (List.mem_of_getElem? (i := 3) rfl) ?_
        obtain ⟨g22, h⟩ := grd_some h
        refine EX.iaload rfl rfl g22 ?_
        refine EX.aload_n (x := 65) rfl (List.mem_of_getElem? (i := 0) rfl) ?_
        refine EX.go (i := .getfield 20) (len := 3) (pc1 := 178) (st1 := [.ref 67, .int (hi 66 (Int32.toNatClampNeg (v5))), .ref 65]) (hi1 := hi) (hl1 := hl) rfl ?_ (fun _ _ _ => rfl)
        refine EX.iload (x := v5) rfl (List.mem_of_getElem? (i := 3) rfl) ?_
        obtain ⟨g23, h⟩ := grd_some h
        refine EX.iaload rfl rfl g23 ?_
        refine EX.aload_n (x := 65) rfl (List.mem_of_getElem? (i := 0) rfl) ?_
        refine EX.go (i := .getfield 23) (len := 3) (pc1 := 185) (st1 := [.ref 68, .int (hi 67 (Int32.toNatClampNeg (v5))), .int (hi 66 (Int32.toNatClampNeg (v5))), .ref 65]) (hi1 := hi) (hl1 := hl) rfl ?_ (fun _ _ _ => rfl)
        refine EX.iload (x := v5) rfl (List.mem_of_getElem? (i := 3) rfl) ?_
        obtain ⟨g24, h⟩ := grd_some h
        refine EX.iaload rfl rfl g24 ?_
        obtain ⟨z25, hz25, h⟩ := bnd_some h
        refine EX.callV (b := 65) (as := [.int (hi 66 (Int32.toNatClampNeg (v5))), .int (hi 67 (Int32.toNatClampNeg (v5))), .int (hi 68 (Int32.toNatClampNeg (v5)))]) (rest := []) (r := none) (hi1 := z25.2.1) (hl1 := z25.2.2) rfl rfl rfl rfl rfl rfl ((b_MD_steps ev hz25).mono (by decide)) ?_
        show EX w0 ev 1 m_MD_glows 191 [(0, .ref 65), (2, .ref (v2)), (4, .int (v4)), (5, .int (v5))] [] (z25.2.1) (z25.2.2) OUT
        refine EX.pick [0, 1, 2, 3] ?_ rfl
        exact bJ_MD_glows_191 ev h hk
      · refine EX.go (i := .ifCond .ne 28) (len := 3) (pc1 := 191) (st1 := []) (hi1 := hi) (hl1 := hl) rfl ?_ (fun _ _ _ => if_neg c21)
        refine EX.pick [0, 1, 2, 3] ?_ rfl
        exact bJ_MD_glows_191 ev h hk
def B_MD_glows_87 (N : Nat) (v2 : Nat) (v4 : Int32) (hi : HI) (hl : HL) : Option ((Int32 × HI × HL) ⊕ (HI × HL)) :=
  if (((2 : Int32) * (hi 65 0)) : Int32) ≤ (v4 : Int32) then some (.inr (hi, hl)) else (lpN (fun s => B_MD_glows_101 N (v2) (v4) s.1 s.2.1 s.2.2) N (0, hi, hl)).bind fun x26 => some (.inl (v4 + 1, x26.1, x26.2))
set_option maxRecDepth 10000 in
set_option maxHeartbeats 4000000 in
theorem bB_MD_glows_87 (ev : EV) {N : Nat} {v2 : Nat} {v4 : Int32} {hi : HI} {hl : HL} {z : (Int32 × HI × HL) ⊕ (HI × HL)} {OUT : Option Value × HI × HL} (h : B_MD_glows_87 N v2 v4 hi hl = some z) (hk : Sum.elim (fun s => EX w0 ev 1 m_MD_glows 87 [(0, .ref 65), (2, .ref (v2)), (4, .int (s.1))] [] (s.2.1) (s.2.2) OUT) (fun x => EX w0 ev 1 m_MD_glows 203 [(0, .ref 65), (2, .ref (v2))] [] (x.1) (x.2) OUT) z) : EX w0 ev 1 m_MD_glows 87 [(0, .ref 65), (2, .ref (v2)), (4, .int (v4))] [] (hi) (hl) OUT := by
  unfold B_MD_glows_87 at h
  refine EX.iload (x := v4) rfl (List.mem_of_getElem? (i := 2) rfl) ?_
  refine EX.iconst (v := 2) rfl rfl ?_
  refine EX.aload_n (x := 65) rfl (List.mem_of_getElem? (i := 0) rfl) ?_
  refine EX.go (i := .getfield 7) (len := 3) (pc1 := 94) (st1 := [.int (hi 65 0), .int (2), .int (v4)]) (hi1 := hi) (hl1 := hl) rfl ?_ (fun _ _ _ => rfl)
  refine EX.go (i := .imul) (len := 1) (pc1 := 95) (st1 := [.int (((2 : Int32) * (hi 65 0))), .int (v4)]) (hi1 := hi) (hl1 := hl) rfl ?_ (fun _ _ _ => rfl)
  rcases ite_some h with ⟨c10, h⟩ | ⟨c10, h⟩
  · refine EX.go (i := .if_icmp .ge 108) (len := 3) (pc1 := 203) (st1 := []) (hi1 := hi) (hl1 := hl) rfl ?_ (fun _ _ _ => if_pos c10)
    obtain rfl := Option.some.inj h
    have hk : EX w0 ev 1 m_MD_glows 203 [(0, .ref 65), (2, .ref (v2))] [] (hi) (hl) OUT := hk
    exact EX.pick [0, 1] hk rfl
  · refine EX.go (i := .if_icmp .ge 108) (len := 3) (pc1 := 98) (st1 := []) (hi1 := hi) (hl1 := hl) rfl ?_ (fun _ _ _ => if_neg c10)
    refine EX.iconst (v := 0) rfl rfl ?_
    refine EX.istore (req1 := [(5, .int (0)), (0, .ref 65), (2, .ref (v2)), (4, .int (v4))]) rfl rfl rfl ?_
    obtain ⟨x26, hx26, h⟩ := bnd_some h
    refine EX.pick [1, 2, 3, 0] ?_ rfl
    refine lp_sound (f := fun s => B_MD_glows_101 N (v2) (v4) s.1 s.2.1 s.2.2) (PS := fun s => EX w0 ev 1 m_MD_glows 101 [(0, .ref 65), (2, .ref (v2)), (4, .int (v4)), (5, .int (s.1))] [] (s.2.1) (s.2.2) OUT) (PX := fun x => EX w0 ev 1 m_MD_glows 197 [(0, .ref 65), (2, .ref (v2)), (4, .int (v4))] [] (x.1) (x.2) OUT) ?_ N _ x26 hx26 ?_
    · exact fun s z hz hk => bB_MD_glows_101 ev hz hk
    show EX w0 ev 1 m_MD_glows 197 [(0, .ref 65), (2, .ref (v2)), (4, .int (v4))] [] (x26.1) (x26.2) OUT
    refine EX.iinc (x := v4) (v := v4 + 1) (req1 := [(4, .int (v4 + 1)), (0, .ref 65), (2, .ref (v2))]) rfl rfl (List.mem_of_getElem? (i := 2) rfl) rfl rfl ?_
    refine EX.go (i := .goto (-113)) (len := 3) (pc1 := 87) (st1 := []) (hi1 := x26.1) (hl1 := x26.2) rfl ?_ (fun _ _ _ => rfl)
    obtain rfl := Option.some.inj h
    have hk : EX w0 ev 1 m_MD_glows 87 [(0, .ref 65), (2, .ref (v2)), (4, .int (v4 + 1))] [] (x26.1) (x26.2) OUT := hk
    exact EX.pick [1, 2, 0] hk rfl
def J_MD_glows_262 (N : Nat) (v2 : Nat) (v4 : Int32) (s0 : Int32) (hi : HI) (hl : HL) : Option ((Int32 × HI × HL) ⊕ (HI × HL)) :=
  some (.inl (v4 + 1, wr (hi) 65 12 (s0), hl))
set_option maxRecDepth 10000 in
set_option maxHeartbeats 4000000 in
theorem bJ_MD_glows_262 (ev : EV) {N : Nat} {v2 : Nat} {v4 : Int32} {s0 : Int32} {hi : HI} {hl : HL} {z : (Int32 × HI × HL) ⊕ (HI × HL)} {OUT : Option Value × HI × HL} (h : J_MD_glows_262 N v2 v4 s0 hi hl = some z) (hk : Sum.elim (fun s => EX w0 ev 1 m_MD_glows 213 [(0, .ref 65), (2, .ref (v2)), (4, .int (s.1))] [] (s.2.1) (s.2.2) OUT) (fun x => EX w0 ev 1 m_MD_glows 271 [(0, .ref 65), (2, .ref (v2))] [] (x.1) (x.2) OUT) z) : EX w0 ev 1 m_MD_glows 262 [(0, .ref 65), (2, .ref (v2)), (4, .int (v4))] [.int (s0), .ref 65] (hi) (hl) OUT := by
  unfold J_MD_glows_262 at h
  refine EX.go (i := .putfield 151) (len := 3) (pc1 := 265) (st1 := []) (hi1 := wr (hi) 65 12 (s0)) (hl1 := hl) rfl ?_ (fun _ _ _ => rfl)
  refine EX.iinc (x := v4) (v := v4 + 1) (req1 := [(4, .int (v4 + 1)), (0, .ref 65), (2, .ref (v2))]) rfl rfl (List.mem_of_getElem? (i := 2) rfl) rfl rfl ?_
  refine EX.go (i := .goto (-55)) (len := 3) (pc1 := 213) (st1 := []) (hi1 := wr (hi) 65 12 (s0)) (hl1 := hl) rfl ?_ (fun _ _ _ => rfl)
  obtain rfl := Option.some.inj h
  have hk : EX w0 ev 1 m_MD_glows 213 [(0, .ref 65), (2, .ref (v2)), (4, .int (v4 + 1))] [] (wr (hi) 65 12 (s0)) (hl) OUT := hk
  exact EX.pick [1, 2, 0] hk rfl
def J_MD_glows_258 (N : Nat) (v2 : Nat) (v4 : Int32) (hi : HI) (hl : HL) : Option ((Int32 × HI × HL) ⊕ (HI × HL)) :=
  J_MD_glows_262 N (v2) (v4) (hi 65 12) (hi) (hl)
set_option maxRecDepth 10000 in
set_option maxHeartbeats 4000000 in
theorem bJ_MD_glows_258 (ev : EV) {N : Nat} {v2 : Nat} {v4 : Int32} {hi : HI} {hl : HL} {z : (Int32 × HI × HL) ⊕ (HI × HL)} {OUT : Option Value × HI × HL} (h : J_MD_glows_258 N v2 v4 hi hl = some z) (hk : Sum.elim (fun s => EX w0 ev 1 m_MD_glows 213 [(0, .ref 65), (2, .ref (v2)), (4, .int (s.1))] [] (s.2.1) (s.2.2) OUT) (fun x => EX w0 ev 1 m_MD_glows 271 [(0, .ref 65), (2, .ref (v2))] [] (x.1) (x.2) OUT) z) : EX w0 ev 1 m_MD_glows 258 [(0, .ref 65), (2, .ref (v2)), (4, .int (v4))] [.ref 65] (hi) (hl) OUT := by
  unfold J_MD_glows_258 at h
  refine EX.aload_n (x := 65) rfl (List.mem_of_getElem? (i := 0) rfl) ?_
  refine EX.go (i := .getfield 151) (len := 3) (pc1 := 262) (st1 := [.int (hi 65 12), .ref 65]) (hi1 := hi) (hl1 := hl) rfl ?_ (fun _ _ _ => rfl)
  refine EX.pick [0, 1, 2] ?_ rfl
  exact bJ_MD_glows_262 ev h hk
def B_MD_glows_213 (N : Nat) (v2 : Nat) (v4 : Int32) (hi : HI) (hl : HL) : Option ((Int32 × HI × HL) ⊕ (HI × HL)) :=
  if (hi 65 0 : Int32) ≤ (v4 : Int32) then some (.inr (hi, hl)) else if (v4 : Int32) < 0 ∨ 6 ≤ Int32.toNatClampNeg (v4) then none else if (hi 71 (Int32.toNatClampNeg (v4)) : Int32) = (2 : Int32) then if (v4 : Int32) < 0 ∨ 6 ≤ Int32.toNatClampNeg (v4) then none else if (hi 65 12 : Int32) ≤ (hi 72 (Int32.toNatClampNeg (v4)) : Int32) then J_MD_glows_258 N (v2) (v4) (hi) (hl) else if (v4 : Int32) < 0 ∨ 6 ≤ Int32.toNatClampNeg (v4) then none else J_MD_glows_262 N (v2) (v4) (hi 72 (Int32.toNatClampNeg (v4))) (hi) (hl) else J_MD_glows_258 N (v2) (v4) (hi) (hl)
set_option maxRecDepth 10000 in
set_option maxHeartbeats 4000000 in
theorem bB_MD_glows_213 (ev : EV) {N : Nat} {v2 : Nat} {v4 : Int32} {hi : HI} {hl : HL} {z : (Int32 × HI × HL) ⊕ (HI × HL)} {OUT : Option Value × HI × HL} (h : B_MD_glows_213 N v2 v4 hi hl = some z) (hk : Sum.elim (fun s => EX w0 ev 1 m_MD_glows 213 [(0, .ref 65), (2, .ref (v2)), (4, .int (s.1))] [] (s.2.1) (s.2.2) OUT) (fun x => EX w0 ev 1 m_MD_glows 271 [(0, .ref 65), (2, .ref (v2))] [] (x.1) (x.2) OUT) z) : EX w0 ev 1 m_MD_glows 213 [(0, .ref 65), (2, .ref (v2)), (4, .int (v4))] [] (hi) (hl) OUT := by
  unfold B_MD_glows_213 at h
  refine EX.iload (x := v4) rfl (List.mem_of_getElem? (i := 2) rfl) ?_
  refine EX.aload_n (x := 65) rfl (List.mem_of_getElem? (i := 0) rfl) ?_
  refine EX.go (i := .getfield 7) (len := 3) (pc1 := 219) (st1 := [.int (hi 65 0), .int (v4)]) (hi1 := hi) (hl1 := hl) rfl ?_ (fun _ _ _ => rfl)
  rcases ite_some h with ⟨c28, h⟩ | ⟨c28, h⟩
  · refine EX.go (i := .if_icmp .ge 52) (len := 3) (pc1 := 271) (st1 := []) (hi1 := hi) (hl1 := hl) rfl ?_ (fun _ _ _ => if_pos c28)
    obtain rfl := Option.some.inj h
    have hk : EX w0 ev 1 m_MD_glows 271 [(0, .ref 65), (2, .ref (v2))] [] (hi) (hl) OUT := hk
    exact EX.pick [0, 1] hk rfl
  · refine EX.go (i := .if_icmp .ge 52) (len := 3) (pc1 := 222) (st1 := []) (hi1 := hi) (hl1 := hl) rfl ?_ (fun _ _ _ => if_neg c28)
    refine EX.aload_n (x := 65) rfl (List.mem_of_getElem? (i := 0) rfl) ?_
    refine EX.aload_n (x := 65) rfl (List.mem_of_getElem? (i := 0) rfl) ?_
    refine EX.go (i := .getfield 32) (len := 3) (pc1 := 227) (st1 := [.ref 71, .ref 65]) (hi1 := hi) (hl1 := hl) rfl ?_ (fun _ _ _ => rfl)
    refine EX.iload (x := v4) rfl (List.mem_of_getElem? (i := 2) rfl) ?_
    obtain ⟨g29, h⟩ := grd_some h
    refine EX.iaload rfl rfl g29 ?_
    refine EX.iconst (v := 2) rfl rfl ?_
    rcases ite_some h with ⟨c30, h⟩ | ⟨c30, h⟩
    · refine EX.go (i := .if_icmp .ne 27) (len := 3) (pc1 := 234) (st1 := [.ref 65]) (hi1 := hi) (hl1 := hl) rfl ?_ (fun _ _ _ => if_pos c30)
      refine EX.aload_n (x := 65) rfl (List.mem_of_getElem? (i := 0) rfl) ?_
      refine EX.go (i := .getfield 35) (len := 3) (pc1 := 238) (st1 := [.ref 72, .ref 65]) (hi1 := hi) (hl1 := hl) rfl ?_ (fun _ _ _ => rfl)
      refine EX.iload (x := v4) rfl (List.mem_of_getElem? (i := 2) rfl) ?_
      obtain ⟨g31, h⟩ := grd_some h
      refine EX.iaload rfl rfl g31 ?_
      refine EX.aload_n (x := 65) rfl (List.mem_of_getElem? (i := 0) rfl) ?_
      refine EX.go (i := .getfield 151) (len := 3) (pc1 := 245) (st1 := [.int (hi 65 12), .int (hi 72 (Int32.toNatClampNeg (v4))), .ref 65]) (hi1 := hi) (hl1 := hl) rfl ?_ (fun _ _ _ => rfl)
      rcases ite_some h with ⟨c32, h⟩ | ⟨c32, h⟩
      · refine EX.go (i := .if_icmp .ge 13) (len := 3) (pc1 := 258) (st1 := [.ref 65]) (hi1 := hi) (hl1 := hl) rfl ?_ (fun _ _ _ => if_pos c32)
        refine EX.pick [0, 1, 2] ?_ rfl
        exact bJ_MD_glows_258 ev h hk
      · refine EX.go (i := .if_icmp .ge 13) (len := 3) (pc1 := 248) (st1 := [.ref 65]) (hi1 := hi) (hl1 := hl) rfl ?_ (fun _ _ _ => if_neg c32)
        refine EX.aload_n (x := 65) rfl (List.mem_of_getElem? (i := 0) rfl) ?_
        refine EX.go (i := .getfield 35) (len := 3) (pc1 := 252) (st1 := [.ref 72, .ref 65]) (hi1 := hi) (hl1 := hl) rfl ?_ (fun _ _ _ => rfl)
        refine EX.iload (x := v4) rfl (List.mem_of_getElem? (i := 2) rfl) ?_
        obtain ⟨g33, h⟩ := grd_some h
        refine EX.iaload rfl rfl g33 ?_
        refine EX.go (i := .goto 7) (len := 3) (pc1 := 262) (st1 := [.int (hi 72 (Int32.toNatClampNeg (v4))), .ref 65]) (hi1 := hi) (hl1 := hl) rfl ?_ (fun _ _ _ => rfl)
        refine EX.pick [0, 1, 2] ?_ rfl
        exact bJ_MD_glows_262 ev h hk
    · refine EX.go (i := .if_icmp .ne 27) (len := 3) (pc1 := 258) (st1 := [.ref 65]) (hi1 := hi) (hl1 := hl) rfl ?_ (fun _ _ _ => if_neg c30)
      refine EX.pick [0, 1, 2] ?_ rfl
      exact bJ_MD_glows_258 ev h hk
def J_MD_glows_402 (N : Nat) (v2 : Nat) (v5 : Int32) (s0 : Int32) (s1 : Int32) (hi : HI) (hl : HL) : Option ((Int32 × Int32 × HI × HL) ⊕ (Int32 × HI × HL)) :=
  some (.inl ((s1 ||| s0), v5 + 1, hi, hl))
set_option maxRecDepth 10000 in
set_option maxHeartbeats 4000000 in
theorem bJ_MD_glows_402 (ev : EV) {N : Nat} {v2 : Nat} {v5 : Int32} {s0 : Int32} {s1 : Int32} {hi : HI} {hl : HL} {z : (Int32 × Int32 × HI × HL) ⊕ (Int32 × HI × HL)} {OUT : Option Value × HI × HL} (h : J_MD_glows_402 N v2 v5 s0 s1 hi hl = some z) (hk : Sum.elim (fun s => EX w0 ev 1 m_MD_glows 277 [(0, .ref 65), (2, .ref (v2)), (4, .int (s.1)), (5, .int (s.2.1))] [] (s.2.2.1) (s.2.2.2) OUT) (fun x => EX w0 ev 1 m_MD_glows 411 [(4, .int (x.1))] [] (x.2.1) (x.2.2) OUT) z) : EX w0 ev 1 m_MD_glows 402 [(0, .ref 65), (2, .ref (v2)), (5, .int (v5))] [.int (s0), .int (s1)] (hi) (hl) OUT := by
  unfold J_MD_glows_402 at h
  refine EX.go (i := .ior) (len := 1) (pc1 := 403) (st1 := [.int ((s1 ||| s0))]) (hi1 := hi) (hl1 := hl) rfl ?_ (fun _ _ _ => rfl)
  refine EX.istore (req1 := [(4, .int ((s1 ||| s0))), (0, .ref 65), (2, .ref (v2)), (5, .int (v5))]) rfl rfl rfl ?_
  refine EX.iinc (x := v5) (v := v5 + 1) (req1 := [(5, .int (v5 + 1)), (4, .int ((s1 ||| s0))), (0, .ref 65), (2, .ref (v2))]) rfl rfl (List.mem_of_getElem? (i := 3) rfl) rfl rfl ?_
  refine EX.go (i := .goto (-131)) (len := 3) (pc1 := 277) (st1 := []) (hi1 := hi) (hl1 := hl) rfl ?_ (fun _ _ _ => rfl)
  obtain rfl := Option.some.inj h
  have hk : EX w0 ev 1 m_MD_glows 277 [(0, .ref 65), (2, .ref (v2)), (4, .int ((s1 ||| s0))), (5, .int (v5 + 1))] [] (hi) (hl) OUT := hk
  exact EX.pick [2, 3, 1, 0] hk rfl
def J_MD_glows_385 (N : Nat) (v2 : Nat) (v4 : Int32) (v5 : Int32) (s0 : Int32) (hi : HI) (hl : HL) : Option ((Int32 × Int32 × HI × HL) ⊕ (Int32 × HI × HL)) :=
  if (s0 : Int32) = 0 then J_MD_glows_402 N (v2) (v5) (0) (v4) (hi) (hl) else J_MD_glows_402 N (v2) (v5) (((1 : Int32) <<< (v5 &&& 31))) (v4) (hi) (hl)
set_option maxRecDepth 10000 in
set_option maxHeartbeats 4000000 in
theorem bJ_MD_glows_385 (ev : EV) {N : Nat} {v2 : Nat} {v4 : Int32} {v5 : Int32} {s0 : Int32} {hi : HI} {hl : HL} {z : (Int32 × Int32 × HI × HL) ⊕ (Int32 × HI × HL)} {OUT : Option Value × HI × HL} (h : J_MD_glows_385 N v2 v4 v5 s0 hi hl = some z) (hk : Sum.elim (fun s => EX w0 ev 1 m_MD_glows 277 [(0, .ref 65), (2, .ref (v2)), (4, .int (s.1)), (5, .int (s.2.1))] [] (s.2.2.1) (s.2.2.2) OUT) (fun x => EX w0 ev 1 m_MD_glows 411 [(4, .int (x.1))] [] (x.2.1) (x.2.2) OUT) z) : EX w0 ev 1 m_MD_glows 385 [(0, .ref 65), (2, .ref (v2)), (4, .int (v4)), (5, .int (v5))] [.int (s0)] (hi) (hl) OUT := by
  unfold J_MD_glows_385 at h
  refine EX.istore (req1 := [(8, .int (s0)), (0, .ref 65), (2, .ref (v2)), (4, .int (v4)), (5, .int (v5))]) rfl rfl rfl ?_
  refine EX.iload (x := v4) rfl (List.mem_of_getElem? (i := 3) rfl) ?_
  refine EX.iload (x := s0) rfl (List.mem_of_getElem? (i := 0) rfl) ?_
  rcases ite_some h with ⟨c44, h⟩ | ⟨c44, h⟩
  · refine EX.go (i := .ifCond .eq 10) (len := 3) (pc1 := 401) (st1 := [.int (v4)]) (hi1 := hi) (hl1 := hl) rfl ?_ (fun _ _ _ => if_pos c44)
    refine EX.iconst (v := 0) rfl rfl ?_
    refine EX.pick [1, 2, 4] ?_ rfl
    exact bJ_MD_glows_402 ev h hk
  · refine EX.go (i := .ifCond .eq 10) (len := 3) (pc1 := 394) (st1 := [.int (v4)]) (hi1 := hi) (hl1 := hl) rfl ?_ (fun _ _ _ => if_neg c44)
    refine EX.iconst (v := 1) rfl rfl ?_
    refine EX.iload (x := v5) rfl (List.mem_of_getElem? (i := 4) rfl) ?_
    refine EX.go (i := .ishl) (len := 1) (pc1 := 398) (st1 := [.int (((1 : Int32) <<< (v5 &&& 31))), .int (v4)]) (hi1 := hi) (hl1 := hl) rfl ?_ (fun _ _ _ => rfl)
    refine EX.go (i := .goto 4) (len := 3) (pc1 := 402) (st1 := [.int (((1 : Int32) <<< (v5 &&& 31))), .int (v4)]) (hi1 := hi) (hl1 := hl) rfl ?_ (fun _ _ _ => rfl)
    refine EX.pick [1, 2, 4] ?_ rfl
    exact bJ_MD_glows_402 ev h hk
def J_MD_glows_384 (N : Nat) (v2 : Nat) (v4 : Int32) (v5 : Int32) (hi : HI) (hl : HL) : Option ((Int32 × Int32 × HI × HL) ⊕ (Int32 × HI × HL)) :=
  J_MD_glows_385 N (v2) (v4) (v5) (0) (hi) (hl)
set_option maxRecDepth 10000 in
set_option maxHeartbeats 4000000 in
theorem bJ_MD_glows_384 (ev : EV) {N : Nat} {v2 : Nat} {v4 : Int32} {v5 : Int32} {hi : HI} {hl : HL} {z : (Int32 × Int32 × HI × HL) ⊕ (Int32 × HI × HL)} {OUT : Option Value × HI × HL} (h : J_MD_glows_384 N v2 v4 v5 hi hl = some z) (hk : Sum.elim (fun s => EX w0 ev 1 m_MD_glows 277 [(0, .ref 65), (2, .ref (v2)), (4, .int (s.1)), (5, .int (s.2.1))] [] (s.2.2.1) (s.2.2.2) OUT) (fun x => EX w0 ev 1 m_MD_glows 411 [(4, .int (x.1))] [] (x.2.1) (x.2.2) OUT) z) : EX w0 ev 1 m_MD_glows 384 [(0, .ref 65), (2, .ref (v2)), (4, .int (v4)), (5, .int (v5))] [] (hi) (hl) OUT := by
  unfold J_MD_glows_384 at h
  refine EX.iconst (v := 0) rfl rfl ?_
  refine EX.pick [0, 1, 2, 3] ?_ rfl
  exact bJ_MD_glows_385 ev h hk
def B_MD_glows_277 (N : Nat) (v2 : Nat) (v4 : Int32) (v5 : Int32) (hi : HI) (hl : HL) : Option ((Int32 × Int32 × HI × HL) ⊕ (Int32 × HI × HL)) :=
  if (hi 65 2 : Int32) ≤ (v5 : Int32) then some (.inr (v4, hi, hl)) else (f_MD_in N ((Int32.toInt64 (hi 65 12))) (1) ((Int32.toInt64 (hi 65 1))) (hi) (hl)).bind fun z36 => if (z36.1 : Int32) = 0 then some (.inr (v4, z36.2.1, z36.2.2)) else if (v5 : Int32) < 0 ∨ 16 ≤ Int32.toNatClampNeg (v5) then none else if (v5 : Int32) < 0 ∨ 16 ≤ Int32.toNatClampNeg (v5) then none else if gA16 (v2) then if (v5 : Int32) < 0 ∨ 16 ≤ Int32.toNatClampNeg (v5) then none else if (z36.2.1 (v2) (Int32.toNatClampNeg (v5)) : Int32) = 0 then if (z36.2.1 66 (Int32.toNatClampNeg (v5)) : Int32) < 0 ∨ 6 ≤ Int32.toNatClampNeg (z36.2.1 66 (Int32.toNatClampNeg (v5))) then none else if (z36.2.1 71 (Int32.toNatClampNeg (z36.2.1 66 (Int32.toNatClampNeg (v5)))) : Int32) = (2 : Int32) then J_MD_glows_384 N (v2) (v4) (v5) (z36.2.1) (z36.2.2) else if (z36.2.1 67 (Int32.toNatClampNeg (v5)) : Int32) < 0 ∨ 6 ≤ Int32.toNatClampNeg (z36.2.1 67 (Int32.toNatClampNeg (v5))) then none else if (z36.2.1 71 (Int32.toNatClampNeg (z36.2.1 67 (Int32.toNatClampNeg (v5)))) : Int32) = (1 : Int32) then J_MD_glows_384 N (v2) (v4) (v5) (z36.2.1) (z36.2.2) else if (z36.2.1 66 (Int32.toNatClampNeg (v5)) : Int32) < 0 ∨ 6 ≤ Int32.toNatClampNeg (z36.2.1 66 (Int32.toNatClampNeg (v5))) then none else if (v5 : Int32) < 0 ∨ 16 ≤ Int32.toNatClampNeg (v5) then none else if (z36.2.1 67 (Int32.toNatClampNeg (v5)) : Int32) < 0 ∨ 6 ≤ Int32.toNatClampNeg (z36.2.1 67 (Int32.toNatClampNeg (v5))) then none else if (((((z36.2.1 72 (Int32.toNatClampNeg (z36.2.1 66 (Int32.toNatClampNeg (v5)))) : Int32) + (z36.2.1 68 (Int32.toNatClampNeg (v5)))) : Int32) + (z36.2.1 73 (Int32.toNatClampNeg (z36.2.1 67 (Int32.toNatClampNeg (v5)))))) : Int32) = (z36.2.1 65 12 : Int32) then J_MD_glows_385 N (v2) (v4) (v5) (1) (z36.2.1) (z36.2.2) else J_MD_glows_384 N (v2) (v4) (v5) (z36.2.1) (z36.2.2) else J_MD_glows_384 N (v2) (v4) (v5) (z36.2.1) (z36.2.2) else none
set_option maxRecDepth 10000 in
set_option maxHeartbeats 4000000 in
theorem bB_MD_glows_277 (ev : EV) {N : Nat} {v2 : Nat} {v4 : Int32} {v5 : Int32} {hi : HI} {hl : HL} {z : (Int32 × Int32 × HI × HL) ⊕ (Int32 × HI × HL)} {OUT : Option Value × HI × HL} (h : B_MD_glows_277 N v2 v4 v5 hi hl = some z) (hk : Sum.elim (fun s => EX w0 ev 1 m_MD_glows 277 [(0, .ref 65), (2, .ref (v2)), (4, .int (s.1)), (5, .int (s.2.1))] [] (s.2.2.1) (s.2.2.2) OUT) (fun x => EX w0 ev 1 m_MD_glows 411 [(4, .int (x.1))] [] (x.2.1) (x.2.2) OUT) z) : EX w0 ev 1 m_MD_glows 277 [(0, .ref 65), (2, .ref (v2)), (4, .int (v4)), (5, .int (v5))] [] (hi) (hl) OUT := by
  unfold B_MD_glows_277 at h
  refine EX.iload (x := v5) rfl (List.mem_of_getElem? (i := 3) rfl) ?_
  refine EX.aload_n (x := 65) rfl (List.mem_of_getElem? (i := 0) rfl) ?_
  refine EX.go (i := .getfield 116) (len := 3) (pc1 := 283) (st1 := [.int (hi 65 2), .int (v5)]) (hi1 := hi) (hl1 := hl) rfl ?_ (fun _ _ _ => rfl)
  rcases ite_some h with ⟨c35, h⟩ | ⟨c35, h⟩
  · refine EX.go (i := .if_icmp .ge 128) (len := 3) (pc1 := 411) (st1 := []) (hi1 := hi) (hl1 := hl) rfl ?_ (fun _ _ _ => if_pos c35)
    obtain rfl := Option.some.inj h
    have hk : EX w0 ev 1 m_MD_glows 411 [(4, .int (v4))] [] (hi) (hl) OUT := hk
    exact EX.pick [2] hk rfl
  · refine EX.go (i := .if_icmp .ge 128) (len := 3) (pc1 := 286) (st1 := []) (hi1 := hi) (hl1 := hl) rfl ?_ (fun _ _ _ => if_neg c35)
    refine EX.aload_n (x := 65) rfl (List.mem_of_getElem? (i := 0) rfl) ?_
    refine EX.go (i := .getfield 151) (len := 3) (pc1 := 290) (st1 := [.int (hi 65 12)]) (hi1 := hi) (hl1 := hl) rfl ?_ (fun _ _ _ => rfl)
    refine EX.go (i := .i2l) (len := 1) (pc1 := 291) (st1 := [.long ((Int32.toInt64 (hi 65 12)))]) (hi1 := hi) (hl1 := hl) rfl ?_ (fun _ _ _ => rfl)
    refine EX.lconst (v := 1) rfl rfl ?_
    refine EX.aload_n (x := 65) rfl (List.mem_of_getElem? (i := 0) rfl) ?_
    refine EX.go (i := .getfield 13) (len := 3) (pc1 := 296) (st1 := [.int (hi 65 1), .long (1), .long ((Int32.toInt64 (hi 65 12)))]) (hi1 := hi) (hl1 := hl) rfl ?_ (fun _ _ _ => rfl)
    refine EX.go (i := .i2l) (len := 1) (pc1 := 297) (st1 := [.long ((Int32.toInt64 (hi 65 1))), .long (1), .long ((Int32.toInt64 (hi 65 12)))]) (hi1 := hi) (hl1 := hl) rfl ?_ (fun _ _ _ => rfl)
    obtain ⟨z36, hz36, h⟩ := bnd_some h
    refine EX.callS (as := [.long ((Int32.toInt64 (hi 65 12))), .long (1), .long ((Int32.toInt64 (hi 65 1)))]) (rest := []) (r := some (.int (z36.1))) (hi1 := z36.2.1) (hl1 := z36.2.2) rfl rfl rfl rfl rfl rfl ((b_MD_in ev hz36).mono (by decide)) ?_
    show EX w0 ev 1 m_MD_glows 300 [(0, .ref 65), (2, .ref (v2)), (4, .int (v4)), (5, .int (v5))] [.int (z36.1)] (z36.2.1) (z36.2.2) OUT
    rcases ite_some h with ⟨c37, h⟩ | ⟨c37, h⟩
    · refine EX.go (i := .ifCond .eq 111) (len := 3) (pc1 := 411) (st1 := []) (hi1 := z36.2.1) (hl1 := z36.2.2) rfl ?_ (fun _ _ _ => if_pos c37)
      obtain rfl := Option.some.inj h
      have hk : EX w0 ev 1 m_MD_glows 411 [(4, .int (v4))] [] (z36.2.1) (z36.2.2) OUT := hk
      exact EX.pick [2] hk rfl
    · refine EX.go (i := .ifCond .eq 111) (len := 3) (pc1 := 303) (st1 := []) (hi1 := z36.2.1) (hl1 := z36.2.2) rfl ?_ (fun _ _ _ => if_neg c37)
      refine EX.aload_n (x := 65) rfl (List.mem_of_getElem? (i := 0) rfl) ?_
      refine EX.go (i := .getfield 16) (len := 3) (pc1 := 307) (st1 := [.ref 66]) (hi1 := z36.2.1) (hl1 := z36.2.2) rfl ?_ (fun _ _ _ => rfl)
      refine EX.iload (x := v5) rfl (List.mem_of_getElem? (i := 3) rfl) ?_
      obtain ⟨g38, h⟩ := grd_some h
      refine EX.iaload rfl rfl g38 ?_
      refine EX.istore (req1 := [(6, .int (z36.2.1 66 (Int32.toNatClampNeg (v5)))), (0, .ref 65), (2, .ref (v2)), (4, .int (v4)), (5, .int (v5))]) rfl rfl rfl ?_
      refine EX.aload_n (x := 65) rfl (List.mem_of_getElem? (i := 1) rfl) ?_
      refine EX.go (i := .getfield 20) (len := 3) (pc1 := 316) (st1 := [.ref 67]) (hi1 := z36.2.1) (hl1 := z36.2.2) rfl ?_ (fun _ _ _ => rfl)
      refine EX.iload (x := v5) rfl (List.mem_of_getElem? (i := 4) rfl) ?_
      obtain ⟨g39, h⟩ := grd_some h
      refine EX.iaload rfl rfl g39 ?_
      refine EX.istore (req1 := [(7, .int (z36.2.1 67 (Int32.toNatClampNeg (v5)))), (6, .int (z36.2.1 66 (Int32.toNatClampNeg (v5)))), (0, .ref 65), (2, .ref (v2)), (4, .int (v4)), (5, .int (v5))]) rfl rfl rfl ?_
      refine EX.aload_n (x := v2) rfl (List.mem_of_getElem? (i := 3) rfl) ?_
      refine EX.iload (x := v5) rfl (List.mem_of_getElem? (i := 5) rfl) ?_
      obtain ⟨k_v2, h⟩ := grp_some h
      obtain ⟨g40, h⟩ := grd_some h
      refine EX.iaload rfl k_v2 g40 ?_
      rcases ite_some h with ⟨c41, h⟩ | ⟨c41, h⟩
      · refine EX.go (i := .ifCond .ne 59) (len := 3) (pc1 := 328) (st1 := []) (hi1 := z36.2.1) (hl1 := z36.2.2) rfl ?_ (fun _ _ _ => if_pos c41)
        refine EX.aload_n (x := 65) rfl (List.mem_of_getElem? (i := 2) rfl) ?_
        refine EX.go (i := .getfield 32) (len := 3) (pc1 := 332) (st1 := [.ref 71]) (hi1 := z36.2.1) (hl1 := z36.2.2) rfl ?_ (fun _ _ _ => rfl)
        refine EX.iload (x := z36.2.1 66 (Int32.toNatClampNeg (v5))) rfl (List.mem_of_getElem? (i := 1) rfl) ?_
        obtain ⟨g42, h⟩ := grd_some h
        refine EX.iaload rfl rfl g42 ?_
        refine EX.iconst (v := 2) rfl rfl ?_
        rcases ite_some h with ⟨c43, h⟩ | ⟨c43, h⟩
        · refine EX.go (i := .if_icmp .eq 48) (len := 3) (pc1 := 384) (st1 := []) (hi1 := z36.2.1) (hl1 := z36.2.2) rfl ?_ (fun _ _ _ => if_pos c43)
          refine EX.pick [2, 3, 4, 5] ?_ rfl
          exact bJ_MD_glows_384 ev h hk
        · refine EX.go (i := .if_icmp .eq 48) (len := 3) (pc1 := 339) (st1 := []) (hi1 := z36.2.1) (hl1 := z36.2.2) rfl ?_ (fun _ _ _ => if_neg c43)
          refine EX.aload_n (x := 65) rfl (List.mem_of_getElem? (i := 2) rfl) ?_
          refine EX.go (i := .getfield 32) (len := 3) (pc1 := 343) (st1 := [.ref 71]) (hi1 := z36.2.1) (hl1 := z36.2.2) rfl ?_ (fun _ _ _ => rfl)
          refine EX.iload (x := z36.2.1 67 (Int32.toNatClampNeg (v5))) rfl (List.mem_of_getElem? (i := 0) rfl) ?_
          obtain ⟨g45, h⟩ := grd_some h
          refine EX.iaload rfl rfl g45 ?_
          refine EX.iconst (v := 1) rfl rfl ?_
          rcases ite_some h with ⟨c46, h⟩ | ⟨c46, h⟩
          · refine EX.go (i := .if_icmp .eq 37) (len := 3) (pc1 := 384) (st1 := []) (hi1 := z36.2.1) (hl1 := z36.2.2) rfl ?_ (fun _ _ _ => if_pos c46)
            refine EX.pick [2, 3, 4, 5] ?_ rfl
            exact bJ_MD_glows_384 ev h hk
          · refine EX.go (i := .if_icmp .eq 37) (len := 3) (pc1 := 350) (st1 := []) (hi1 := z36.2.1) (hl1 := z36.2.2) rfl ?_ (fun _ _ _ => if_neg c46)
            refine EX.aload_n (x := 65) rfl (List.mem_of_getElem? (i := 2) rfl) ?_
            refine EX.go (i := .getfield 35) (len := 3) (pc1 := 354) (st1 := [.ref 72]) (hi1 := z36.2.1) (hl1 := z36.2.2) rfl ?_ (fun _ _ _ => rfl)
            refine EX.iload (x := z36.2.1 66 (Int32.toNatClampNeg (v5))) rfl (List.mem_of_getElem? (i := 1) rfl) ?_
            obtain ⟨g47, h⟩ := grd_some h
            refine EX.iaload rfl rfl g47 ?_
            refine EX.aload_n (x := 65) rfl (List.mem_of_getElem? (i := 2) rfl) ?_
            refine EX.go (i := .getfield 23) (len := 3) (pc1 := 361) (st1 := [.ref 68, .int (z36.2.1 72 (Int32.toNatClampNeg (z36.2.1 66 (Int32.toNatClampNeg (v5)))))]) (hi1 := z36.2.1) (hl1 := z36.2.2) rfl ?_ (fun _ _ _ => rfl)
            refine EX.iload (x := v5) rfl (List.mem_of_getElem? (i := 5) rfl) ?_
            obtain ⟨g48, h⟩ := grd_some h
            refine EX.iaload rfl rfl g48 ?_
            refine EX.go (i := .iadd) (len := 1) (pc1 := 365) (st1 := [.int (((z36.2.1 72 (Int32.toNatClampNeg (z36.2.1 66 (Int32.toNatClampNeg (v5)))) : Int32) + (z36.2.1 68 (Int32.toNatClampNeg (v5)))))]) (hi1 := z36.2.1) (hl1 := z36.2.2) rfl ?_ (fun _ _ _ => rfl)
            refine EX.aload_n (x := 65) rfl (List.mem_of_getElem? (i := 2) rfl) ?_
            refine EX.go (i := .getfield 38) (len := 3) (pc1 := 369) (st1 := [.ref 73, .int (((z36.2.1 72 (Int32.toNatClampNeg (z36.2.1 66 (Int32.toNatClampNeg (v5)))) : Int32) + (z36.2.1 68 (Int32.toNatClampNeg (v5)))))]) (hi1 := z36.2.1) (hl1 := z36.2.2) rfl ?_ (fun _ _ _ => rfl)
            refine EX.iload (x := z36.2.1 67 (Int32.toNatClampNeg (v5))) rfl (List.mem_of_getElem? (i := 0) rfl) ?_
            obtain ⟨g49, h⟩ := grd_some h
            refine EX.iaload rfl rfl g49 ?_
            refine EX.go (i := .iadd) (len := 1) (pc1 := 373) (st1 := [.int (((((z36.2.1 72 (Int32.toNatClampNeg (z36.2.1 66 (Int32.toNatClampNeg (v5)))) : Int32) + (z36.2.1 68 (Int32.toNatClampNeg (v5)))) : Int32) + (z36.2.1 73 (Int32.toNatClampNeg (z36.2.1 67 (Int32.toNatClampNeg (v5)))))))]) (hi1 := z36.2.1) (hl1 := z36.2.2) rfl ?_ (fun _ _ _ => rfl)
            refine EX.aload_n (x := 65) rfl (List.mem_of_getElem? (i := 2) rfl) ?_
            refine EX.go (i := .getfield 151) (len := 3) (pc1 := 377) (st1 := [.int (z36.2.1 65 12), .int (((((z36.2.1 72 (Int32.toNatClampNeg (z36.2.1 66 (Int32.toNatClampNeg (v5)))) : Int32) + (z36.2.1 68 (Int32.toNatClampNeg (v5)))) : Int32) + (z36.2.1 73 (Int32.toNatClampNeg (z36.2.1 67 (Int32.toNatClampNeg (v5)))))))]) (hi1 := z36.2.1) (hl1 := z36.2.2) rfl ?_ (fun _ _ _ => rfl)
            rcases ite_some h with ⟨c50, h⟩ | ⟨c50, h⟩
            · refine EX.go (i := .if_icmp .ne 7) (len := 3) (pc1 := 380) (st1 := []) (hi1 := z36.2.1) (hl1 := z36.2.2) rfl ?_ (fun _ _ _ => if_pos c50)
              refine EX.iconst (v := 1) rfl rfl ?_
              refine EX.go (i := .goto 4) (len := 3) (pc1 := 385) (st1 := [.int (1)]) (hi1 := z36.2.1) (hl1 := z36.2.2) rfl ?_ (fun _ _ _ => rfl)
              refine EX.pick [2, 3, 4, 5] ?_ rfl
              exact bJ_MD_glows_385 ev h hk
            · refine EX.go (i := .if_icmp .ne 7) (len := 3) (pc1 := 384) (st1 := []) (hi1 := z36.2.1) (hl1 := z36.2.2) rfl ?_ (fun _ _ _ => if_neg c50)
              refine EX.pick [2, 3, 4, 5] ?_ rfl
              exact bJ_MD_glows_384 ev h hk
      · refine EX.go (i := .ifCond .ne 59) (len := 3) (pc1 := 384) (st1 := []) (hi1 := z36.2.1) (hl1 := z36.2.2) rfl ?_ (fun _ _ _ => if_neg c41)
        refine EX.pick [2, 3, 4, 5] ?_ rfl
        exact bJ_MD_glows_384 ev h hk
def f_MD_glows (N : Nat) (p1 : Int32) (p2 : Nat) (hi : HI) (hl : HL) : Option (Int32 × HI × HL) :=
  (lpN (fun s => B_MD_glows_5 N (p2) s.1 s.2.1 s.2.2.1 s.2.2.2) N (p1, 0, hi, hl)).bind fun x9 => (lpN (fun s => B_MD_glows_87 N (p2) s.1 s.2.1 s.2.2) N (0, x9.1, x9.2)).bind fun x27 => (lpN (fun s => B_MD_glows_213 N (p2) s.1 s.2.1 s.2.2) N (0, wr (x27.1) 65 12 (10000), x27.2)).bind fun x34 => (lpN (fun s => B_MD_glows_277 N (p2) s.1 s.2.1 s.2.2.1 s.2.2.2) N (0, 0, x34.1, x34.2)).bind fun x51 => some (x51.1, x51.2.1, x51.2.2)
set_option maxRecDepth 10000 in
set_option maxHeartbeats 4000000 in
theorem b_MD_glows (ev : EV) {N : Nat} {p1 : Int32} {p2 : Nat} {hi : HI} {hl : HL} {o : Int32 × HI × HL} (h : f_MD_glows N p1 p2 hi hl = some o) : EM w0 ev 2 m_MD_glows [.ref 65, .int (p1), .ref (p2)] hi hl (oI o) := by
  unfold f_MD_glows at h
  refine EM.of rfl ?_
  show EX w0 ev 1 m_MD_glows 0 [(0, .ref 65), (1, .int (p1)), (2, .ref (p2))] [] (hi) (hl) (oI o)
  refine EX.iload_n (x := p1) rfl (List.mem_of_getElem? (i := 1) rfl) ?_
  refine EX.istore_n (req1 := [(3, .int (p1)), (0, .ref 65), (1, .int (p1)), (2, .ref (p2))]) rfl rfl rfl ?_
  refine EX.iconst (v := 0) rfl rfl ?_
  refine EX.istore (req1 := [(4, .int (0)), (3, .int (p1)), (0, .ref 65), (1, .int (p1)), (2, .ref (p2))]) rfl rfl rfl ?_
  obtain ⟨x9, hx9, h⟩ := bnd_some h
  refine EX.pick [2, 4, 1, 0] ?_ rfl
  refine lp_sound (f := fun s => B_MD_glows_5 N (p2) s.1 s.2.1 s.2.2.1 s.2.2.2) (PS := fun s => EX w0 ev 1 m_MD_glows 5 [(0, .ref 65), (2, .ref (p2)), (3, .int (s.1)), (4, .int (s.2.1))] [] (s.2.2.1) (s.2.2.2) (oI o)) (PX := fun x => EX w0 ev 1 m_MD_glows 84 [(0, .ref 65), (2, .ref (p2))] [] (x.1) (x.2) (oI o)) ?_ N _ x9 hx9 ?_
  · exact fun s z hz hk => bB_MD_glows_5 ev hz hk
  show EX w0 ev 1 m_MD_glows 84 [(0, .ref 65), (2, .ref (p2))] [] (x9.1) (x9.2) (oI o)
  refine EX.iconst (v := 0) rfl rfl ?_
  refine EX.istore (req1 := [(4, .int (0)), (0, .ref 65), (2, .ref (p2))]) rfl rfl rfl ?_
  obtain ⟨x27, hx27, h⟩ := bnd_some h
  refine EX.pick [1, 2, 0] ?_ rfl
  refine lp_sound (f := fun s => B_MD_glows_87 N (p2) s.1 s.2.1 s.2.2) (PS := fun s => EX w0 ev 1 m_MD_glows 87 [(0, .ref 65), (2, .ref (p2)), (4, .int (s.1))] [] (s.2.1) (s.2.2) (oI o)) (PX := fun x => EX w0 ev 1 m_MD_glows 203 [(0, .ref 65), (2, .ref (p2))] [] (x.1) (x.2) (oI o)) ?_ N _ x27 hx27 ?_
  · exact fun s z hz hk => bB_MD_glows_87 ev hz hk
  show EX w0 ev 1 m_MD_glows 203 [(0, .ref 65), (2, .ref (p2))] [] (x27.1) (x27.2) (oI o)
  refine EX.aload_n (x := 65) rfl (List.mem_of_getElem? (i := 0) rfl) ?_
  refine EX.sipush (v := 10000) rfl rfl ?_
  refine EX.go (i := .putfield 151) (len := 3) (pc1 := 210) (st1 := []) (hi1 := wr (x27.1) 65 12 (10000)) (hl1 := x27.2) rfl ?_ (fun _ _ _ => rfl)
  refine EX.iconst (v := 0) rfl rfl ?_
  refine EX.istore (req1 := [(4, .int (0)), (0, .ref 65), (2, .ref (p2))]) rfl rfl rfl ?_
  obtain ⟨x34, hx34, h⟩ := bnd_some h
  refine EX.pick [1, 2, 0] ?_ rfl
  refine lp_sound (f := fun s => B_MD_glows_213 N (p2) s.1 s.2.1 s.2.2) (PS := fun s => EX w0 ev 1 m_MD_glows 213 [(0, .ref 65), (2, .ref (p2)), (4, .int (s.1))] [] (s.2.1) (s.2.2) (oI o)) (PX := fun x => EX w0 ev 1 m_MD_glows 271 [(0, .ref 65), (2, .ref (p2))] [] (x.1) (x.2) (oI o)) ?_ N _ x34 hx34 ?_
  · exact fun s z hz hk => bB_MD_glows_213 ev hz hk
  show EX w0 ev 1 m_MD_glows 271 [(0, .ref 65), (2, .ref (p2))] [] (x34.1) (x34.2) (oI o)
  refine EX.iconst (v := 0) rfl rfl ?_
  refine EX.istore (req1 := [(4, .int (0)), (0, .ref 65), (2, .ref (p2))]) rfl rfl rfl ?_
  refine EX.iconst (v := 0) rfl rfl ?_
  refine EX.istore (req1 := [(5, .int (0)), (4, .int (0)), (0, .ref 65), (2, .ref (p2))]) rfl rfl rfl ?_
  obtain ⟨x51, hx51, h⟩ := bnd_some h
  refine EX.pick [2, 3, 1, 0] ?_ rfl
  refine lp_sound (f := fun s => B_MD_glows_277 N (p2) s.1 s.2.1 s.2.2.1 s.2.2.2) (PS := fun s => EX w0 ev 1 m_MD_glows 277 [(0, .ref 65), (2, .ref (p2)), (4, .int (s.1)), (5, .int (s.2.1))] [] (s.2.2.1) (s.2.2.2) (oI o)) (PX := fun x => EX w0 ev 1 m_MD_glows 411 [(4, .int (x.1))] [] (x.2.1) (x.2.2) (oI o)) ?_ N _ x51 hx51 ?_
  · exact fun s z hz hk => bB_MD_glows_277 ev hz hk
  show EX w0 ev 1 m_MD_glows 411 [(4, .int (x51.1))] [] (x51.2.1) (x51.2.2) (oI o)
  refine EX.iload (x := x51.1) rfl (List.mem_of_getElem? (i := 0) rfl) ?_
  obtain rfl := Option.some.inj h
  exact EX.iret rfl rfl
