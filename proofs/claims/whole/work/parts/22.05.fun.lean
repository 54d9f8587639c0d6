/-! methods as functions -/
def B_LW_greatestDivisor_7 (N : Nat) (v2 : Int32) (v3 : Int32) (v4 : Int32) (hi : HI) (hl : HL) : Option ((Int32 × Int32 × Int32 × HI × HL) ⊕ (Int32 × HI × HL)) :=
  if (64 : Int32) ≤ (v4 : Int32) then some (.inr (v2, hi, hl)) else if (v3 : Int32) = 0 then some (.inr (v2, hi, hl)) else if (v3 : Int32) = 0 then none else some (.inl (v3, ((v2 : Int32) - (v2 : Int32) / (v3) * (v3)), v4 + 1, hi, hl))
set_option maxRecDepth 10000 in
set_option maxHeartbeats 4000000 in
theorem bB_LW_greatestDivisor_7 (ev : EV) {N : Nat} {v2 : Int32} {v3 : Int32} {v4 : Int32} {hi : HI} {hl : HL} {z : (Int32 × Int32 × Int32 × HI × HL) ⊕ (Int32 × HI × HL)} {OUT : Option Value × HI × HL} (h : B_LW_greatestDivisor_7 N v2 v3 v4 hi hl = some z) (hk : Sum.elim (fun s => EX w0 ev 0 m_LW_greatestDivisor 7 [(2, .int (s.1)), (3, .int (s.2.1)), (4, .int (s.2.2.1))] [] (s.2.2.2.1) (s.2.2.2.2) OUT) (fun x => EX w0 ev 0 m_LW_greatestDivisor 34 [(2, .int (x.1))] [] (x.2.1) (x.2.2) OUT) z) : EX w0 ev 0 m_LW_greatestDivisor 7 [(2, .int (v2)), (3, .int (v3)), (4, .int (v4))] [] (hi) (hl) OUT := by
  unfold B_LW_greatestDivisor_7 at h
  refine EX.iload (x := v4) rfl (List.mem_of_getElem? (i := 2) rfl) ?_
  refine EX.bipush (v := 64) rfl rfl ?_
  rcases ite_some h with ⟨c1, h⟩ | ⟨c1, h⟩
  · refine EX.go (i := .if_icmp .ge 23) (len := 3) (pc1 := 34) (st1 := []) (hi1 := hi) (hl1 := hl) rfl ?_ (fun _ _ _ => if_pos c1)
    obtain rfl := Option.some.inj h
    have hk : EX w0 ev 0 m_LW_greatestDivisor 34 [(2, .int (v2))] [] (hi) (hl) OUT := hk
    exact EX.pick [0] hk rfl
  · refine EX.go (i := .if_icmp .ge 23) (len := 3) (pc1 := 14) (st1 := []) (hi1 := hi) (hl1 := hl) rfl ?_ (fun _ _ _ => if_neg c1)
    refine EX.iload_n (x := v3) rfl (List.mem_of_getElem? (i := 1) rfl) ?_
    rcases ite_some h with ⟨c2, h⟩ | ⟨c2, h⟩
    · refine EX.go (i := .ifCond .eq 19) (len := 3) (pc1 := 34) (st1 := []) (hi1 := hi) (hl1 := hl) rfl ?_ (fun _ _ _ => if_pos c2)
      obtain rfl := Option.some.inj h
      have hk : EX w0 ev 0 m_LW_greatestDivisor 34 [(2, .int (v2))] [] (hi) (hl) OUT := hk
      exact EX.pick [0] hk rfl
    · refine EX.go (i := .ifCond .eq 19) (len := 3) (pc1 := 18) (st1 := []) (hi1 := hi) (hl1 := hl) rfl ?_ (fun _ _ _ => if_neg c2)
      refine EX.iload_n (x := v2) rfl (List.mem_of_getElem? (i := 0) rfl) ?_
      refine EX.iload_n (x := v3) rfl (List.mem_of_getElem? (i := 1) rfl) ?_
      obtain ⟨g3, h⟩ := grd_some h
      refine EX.go (i := .irem) (len := 1) (pc1 := 21) (st1 := [.int (((v2 : Int32) - (v2 : Int32) / (v3) * (v3)))]) (hi1 := hi) (hl1 := hl) rfl ?_ (fun _ _ _ => if_neg g3)
      refine EX.istore (req1 := [(5, .int (((v2 : Int32) - (v2 : Int32) / (v3) * (v3)))), (2, .int (v2)), (3, .int (v3)), (4, .int (v4))]) rfl rfl rfl ?_
      refine EX.iload_n (x := v3) rfl (List.mem_of_getElem? (i := 2) rfl) ?_
      refine EX.istore_n (req1 := [(2, .int (v3)), (5, .int (((v2 : Int32) - (v2 : Int32) / (v3) * (v3)))), (3, .int (v3)), (4, .int (v4))]) rfl rfl rfl ?_
      refine EX.iload (x := ((v2 : Int32) - (v2 : Int32) / (v3) * (v3))) rfl (List.mem_of_getElem? (i := 1) rfl) ?_
      refine EX.istore_n (req1 := [(3, .int (((v2 : Int32) - (v2 : Int32) / (v3) * (v3)))), (2, .int (v3)), (5, .int (((v2 : Int32) - (v2 : Int32) / (v3) * (v3)))), (4, .int (v4))]) rfl rfl rfl ?_
      refine EX.iinc (x := v4) (v := v4 + 1) (req1 := [(4, .int (v4 + 1)), (3, .int (((v2 : Int32) - (v2 : Int32) / (v3) * (v3)))), (2, .int (v3)), (5, .int (((v2 : Int32) - (v2 : Int32) / (v3) * (v3))))]) rfl rfl (List.mem_of_getElem? (i := 3) rfl) rfl rfl ?_
      refine EX.go (i := .goto (-24)) (len := 3) (pc1 := 7) (st1 := []) (hi1 := hi) (hl1 := hl) rfl ?_ (fun _ _ _ => rfl)
      obtain rfl := Option.some.inj h
      have hk : EX w0 ev 0 m_LW_greatestDivisor 7 [(2, .int (v3)), (3, .int (((v2 : Int32) - (v2 : Int32) / (v3) * (v3)))), (4, .int (v4 + 1))] [] (hi) (hl) OUT := hk
      exact EX.pick [2, 1, 0] hk rfl
def f_LW_greatestDivisor (N : Nat) (p0 : Int32) (p1 : Int32) (hi : HI) (hl : HL) : Option (Int32 × HI × HL) :=
  (lpN (fun s => B_LW_greatestDivisor_7 N s.1 s.2.1 s.2.2.1 s.2.2.2.1 s.2.2.2.2) N (p0, p1, 0, hi, hl)).bind fun x4 => some (x4.1, x4.2.1, x4.2.2)
set_option maxRecDepth 10000 in
set_option maxHeartbeats 4000000 in
theorem b_LW_greatestDivisor (ev : EV) {N : Nat} {p0 : Int32} {p1 : Int32} {hi : HI} {hl : HL} {o : Int32 × HI × HL} (h : f_LW_greatestDivisor N p0 p1 hi hl = some o) : EM w0 ev 1 m_LW_greatestDivisor [.int (p0), .int (p1)] hi hl (oI o) := by
  unfold f_LW_greatestDivisor at h
  refine EM.of rfl ?_
  show EX w0 ev 0 m_LW_greatestDivisor 0 [(0, .int (p0)), (1, .int (p1))] [] (hi) (hl) (oI o)
  refine EX.iload_n (x := p0) rfl (List.mem_of_getElem? (i := 0) rfl) ?_
  refine EX.istore_n (req1 := [(2, .int (p0)), (0, .int (p0)), (1, .int (p1))]) rfl rfl rfl ?_
  refine EX.iload_n (x := p1) rfl (List.mem_of_getElem? (i := 2) rfl) ?_
  refine EX.istore_n (req1 := [(3, .int (p1)), (2, .int (p0)), (0, .int (p0)), (1, .int (p1))]) rfl rfl rfl ?_
  refine EX.iconst (v := 0) rfl rfl ?_
  refine EX.istore (req1 := [(4, .int (0)), (3, .int (p1)), (2, .int (p0)), (0, .int (p0)), (1, .int (p1))]) rfl rfl rfl ?_
  obtain ⟨x4, hx4, h⟩ := bnd_some h
  refine EX.pick [2, 1, 0] ?_ rfl
  refine lp_sound (f := fun s => B_LW_greatestDivisor_7 N s.1 s.2.1 s.2.2.1 s.2.2.2.1 s.2.2.2.2) (PS := fun s => EX w0 ev 0 m_LW_greatestDivisor 7 [(2, .int (s.1)), (3, .int (s.2.1)), (4, .int (s.2.2.1))] [] (s.2.2.2.1) (s.2.2.2.2) (oI o)) (PX := fun x => EX w0 ev 0 m_LW_greatestDivisor 34 [(2, .int (x.1))] [] (x.2.1) (x.2.2) (oI o)) ?_ N _ x4 hx4 ?_
  · exact fun s z hz hk => bB_LW_greatestDivisor_7 ev hz hk
  show EX w0 ev 0 m_LW_greatestDivisor 34 [(2, .int (x4.1))] [] (x4.2.1) (x4.2.2) (oI o)
  refine EX.iload_n (x := x4.1) rfl (List.mem_of_getElem? (i := 0) rfl) ?_
  obtain rfl := Option.some.inj h
  exact EX.iret rfl rfl
def J_LW_fraction_11 (N : Nat) (v0 : Int32) (s0 : Int32) (hi : HI) (hl : HL) : Option (Int32 × HI × HL) :=
  (f_LW_greatestDivisor N (720720) (v0) (hi) (hl)).bind fun z2 => if (1 : Int32) ≤ (z2.1 : Int32) then if (z2.1 : Int32) = 0 then none else some (((s0 : Int32) / (z2.1)), z2.2.1, z2.2.2) else some (s0, z2.2.1, z2.2.2)
set_option maxRecDepth 10000 in
set_option maxHeartbeats 4000000 in
theorem bJ_LW_fraction_11 (ev : EV) {N : Nat} {v0 : Int32} {s0 : Int32} {hi : HI} {hl : HL} {o : Int32 × HI × HL} (h : J_LW_fraction_11 N v0 s0 hi hl = some o) : EX w0 ev 1 m_LW_fraction 11 [(0, .int (v0))] [.int (s0)] (hi) (hl) (oI o) := by
  unfold J_LW_fraction_11 at h
  refine EX.istore_n (req1 := [(2, .int (s0)), (0, .int (v0))]) rfl rfl rfl ?_
  refine EX.go (i := .ldc_w 362) (len := 3) (pc1 := 15) (st1 := [.int (720720)]) (hi1 := hi) (hl1 := hl) rfl ?_ (fun _ _ _ => rfl)
  refine EX.iload_n (x := v0) rfl (List.mem_of_getElem? (i := 1) rfl) ?_
  obtain ⟨z2, hz2, h⟩ := bnd_some h
  refine EX.callS (as := [.int (720720), .int (v0)]) (rest := []) (r := some (.int (z2.1))) (hi1 := z2.2.1) (hl1 := z2.2.2) rfl rfl rfl rfl rfl rfl ((b_LW_greatestDivisor ev hz2).mono (by decide)) ?_
  show EX w0 ev 1 m_LW_fraction 19 [(2, .int (s0)), (0, .int (v0))] [.int (z2.1)] (z2.2.1) (z2.2.2) (oI o)
  refine EX.istore_n (req1 := [(3, .int (z2.1)), (2, .int (s0)), (0, .int (v0))]) rfl rfl rfl ?_
  refine EX.iload_n (x := z2.1) rfl (List.mem_of_getElem? (i := 0) rfl) ?_
  refine EX.iconst (v := 1) rfl rfl ?_
  rcases ite_some h with ⟨c3, h⟩ | ⟨c3, h⟩
  · refine EX.go (i := .if_icmp .ge 7) (len := 3) (pc1 := 29) (st1 := []) (hi1 := z2.2.1) (hl1 := z2.2.2) rfl ?_ (fun _ _ _ => if_pos c3)
    refine EX.iload_n (x := s0) rfl (List.mem_of_getElem? (i := 1) rfl) ?_
    refine EX.iload_n (x := z2.1) rfl (List.mem_of_getElem? (i := 0) rfl) ?_
    obtain ⟨g4, h⟩ := grd_some h
    refine EX.go (i := .idiv) (len := 1) (pc1 := 32) (st1 := [.int (((s0 : Int32) / (z2.1)))]) (hi1 := z2.2.1) (hl1 := z2.2.2) rfl ?_ (fun _ _ _ => if_neg g4)
    obtain rfl := Option.some.inj h
    exact EX.iret rfl rfl
  · refine EX.go (i := .if_icmp .ge 7) (len := 3) (pc1 := 25) (st1 := []) (hi1 := z2.2.1) (hl1 := z2.2.2) rfl ?_ (fun _ _ _ => if_neg c3)
    refine EX.iload_n (x := s0) rfl (List.mem_of_getElem? (i := 1) rfl) ?_
    refine EX.go (i := .goto 6) (len := 3) (pc1 := 32) (st1 := [.int (s0)]) (hi1 := z2.2.1) (hl1 := z2.2.2) rfl ?_ (fun _ _ _ => rfl)
    obtain rfl := Option.some.inj h
    exact EX.iret rfl rfl
def f_LW_fraction (N : Nat) (p0 : Int32) (p1 : Int32) (hi : HI) (hl : HL) : Option (Int32 × HI × HL) :=
  if (p1 : Int32) = 0 then J_LW_fraction_11 N (p0) (p0) (hi) (hl) else J_LW_fraction_11 N (p0) (720720) (hi) (hl)
set_option maxRecDepth 10000 in
set_option maxHeartbeats 4000000 in
theorem b_LW_fraction (ev : EV) {N : Nat} {p0 : Int32} {p1 : Int32} {hi : HI} {hl : HL} {o : Int32 × HI × HL} (h : f_LW_fraction N p0 p1 hi hl = some o) : EM w0 ev 2 m_LW_fraction [.int (p0), .int (p1)] hi hl (oI o) := by
  unfold f_LW_fraction at h
  refine EM.of rfl ?_
  show EX w0 ev 1 m_LW_fraction 0 [(0, .int (p0)), (1, .int (p1))] [] (hi) (hl) (oI o)
  refine EX.iload_n (x := p1) rfl (List.mem_of_getElem? (i := 1) rfl) ?_
  rcases ite_some h with ⟨c1, h⟩ | ⟨c1, h⟩
  · refine EX.go (i := .ifCond .ne 7) (len := 3) (pc1 := 4) (st1 := []) (hi1 := hi) (hl1 := hl) rfl ?_ (fun _ _ _ => if_pos c1)
    refine EX.iload_n (x := p0) rfl (List.mem_of_getElem? (i := 0) rfl) ?_
    refine EX.go (i := .goto 6) (len := 3) (pc1 := 11) (st1 := [.int (p0)]) (hi1 := hi) (hl1 := hl) rfl ?_ (fun _ _ _ => rfl)
    refine EX.pick [0] ?_ rfl
    exact bJ_LW_fraction_11 ev h
  · refine EX.go (i := .ifCond .ne 7) (len := 3) (pc1 := 8) (st1 := []) (hi1 := hi) (hl1 := hl) rfl ?_ (fun _ _ _ => if_neg c1)
    refine EX.go (i := .ldc_w 362) (len := 3) (pc1 := 11) (st1 := [.int (720720)]) (hi1 := hi) (hl1 := hl) rfl ?_ (fun _ _ _ => rfl)
    refine EX.pick [0] ?_ rfl
    exact bJ_LW_fraction_11 ev h
def f_LW_light (N : Nat) (p1 : Int32) (p2 : Int32) (hi : HI) (hl : HL) : Option (Int32 × HI × HL) :=
  (f_Board_isLamp N (p1) (hi) (hl)).bind fun z1 => if (z1.1 : Int32) = 0 then some ((-1), z1.2.1, z1.2.2) else (f_LW_isFractionPart N (p2) (z1.2.1) (z1.2.2)).bind fun z3 => if (z3.1 : Int32) = 0 then some ((-1), z3.2.1, z3.2.2) else (f_LW_gatherPlanLight N (z3.2.1) (z3.2.2)).bind fun z5 => if (z5.1 : Int32) = 0 then some ((-4), z5.2.1, z5.2.2) else if (p1 : Int32) < 0 ∨ 16 ≤ Int32.toNatClampNeg (p1) then none else (f_LW_fraction N (z5.2.1 42 (Int32.toNatClampNeg (p1))) (p2) (z5.2.1) (z5.2.2)).bind fun z8 => some (z8.1, z8.2.1, z8.2.2)
set_option maxRecDepth 10000 in
set_option maxHeartbeats 4000000 in
theorem b_LW_light (ev : EV) {N : Nat} {p1 : Int32} {p2 : Int32} {hi : HI} {hl : HL} {o : Int32 × HI × HL} (h : f_LW_light N p1 p2 hi hl = some o) : EM w0 ev 29 m_LW_light [.ref 0, .int (p1), .int (p2)] hi hl (oI o) := by
  unfold f_LW_light at h
  refine EM.of rfl ?_
  show EX w0 ev 28 m_LW_light 0 [(0, .ref 0), (1, .int (p1)), (2, .int (p2))] [] (hi) (hl) (oI o)
  refine EX.aload_n (x := 0) rfl (List.mem_of_getElem? (i := 0) rfl) ?_
  refine EX.go (i := .getfield 12) (len := 3) (pc1 := 4) (st1 := [.ref 1]) (hi1 := hi) (hl1 := hl) rfl ?_ (fun _ _ _ => rfl)
  refine EX.iload_n (x := p1) rfl (List.mem_of_getElem? (i := 1) rfl) ?_
  obtain ⟨z1, hz1, h⟩ := bnd_some h
  refine EX.callV (b := 1) (as := [.int (p1)]) (rest := []) (r := some (.int (z1.1))) (hi1 := z1.2.1) (hl1 := z1.2.2) rfl rfl rfl rfl rfl rfl ((b_Board_isLamp ev hz1).mono (by decide)) ?_
  show EX w0 ev 28 m_LW_light 8 [(0, .ref 0), (1, .int (p1)), (2, .int (p2))] [.int (z1.1)] (z1.2.1) (z1.2.2) (oI o)
  rcases ite_some h with ⟨c2, h⟩ | ⟨c2, h⟩
  · refine EX.go (i := .ifCond .eq 10) (len := 3) (pc1 := 18) (st1 := []) (hi1 := z1.2.1) (hl1 := z1.2.2) rfl ?_ (fun _ _ _ => if_pos c2)
    refine EX.iconst (v := (-1)) rfl rfl ?_
    obtain rfl := Option.some.inj h
    exact EX.iret rfl rfl
  · refine EX.go (i := .ifCond .eq 10) (len := 3) (pc1 := 11) (st1 := []) (hi1 := z1.2.1) (hl1 := z1.2.2) rfl ?_ (fun _ _ _ => if_neg c2)
    refine EX.iload_n (x := p2) rfl (List.mem_of_getElem? (i := 2) rfl) ?_
    obtain ⟨z3, hz3, h⟩ := bnd_some h
    refine EX.callS (as := [.int (p2)]) (rest := []) (r := some (.int (z3.1))) (hi1 := z3.2.1) (hl1 := z3.2.2) rfl rfl rfl rfl rfl rfl ((b_LW_isFractionPart ev hz3).mono (by decide)) ?_
    show EX w0 ev 28 m_LW_light 15 [(0, .ref 0), (1, .int (p1)), (2, .int (p2))] [.int (z3.1)] (z3.2.1) (z3.2.2) (oI o)
    rcases ite_some h with ⟨c4, h⟩ | ⟨c4, h⟩
    · refine EX.go (i := .ifCond .ne 5) (len := 3) (pc1 := 18) (st1 := []) (hi1 := z3.2.1) (hl1 := z3.2.2) rfl ?_ (fun _ _ _ => if_pos c4)
      refine EX.iconst (v := (-1)) rfl rfl ?_
      obtain rfl := Option.some.inj h
      exact EX.iret rfl rfl
    · refine EX.go (i := .ifCond .ne 5) (len := 3) (pc1 := 20) (st1 := []) (hi1 := z3.2.1) (hl1 := z3.2.2) rfl ?_ (fun _ _ _ => if_neg c4)
      refine EX.aload_n (x := 0) rfl (List.mem_of_getElem? (i := 0) rfl) ?_
      obtain ⟨z5, hz5, h⟩ := bnd_some h
      refine EX.callV (b := 0) (as := []) (rest := []) (r := some (.int (z5.1))) (hi1 := z5.2.1) (hl1 := z5.2.2) rfl rfl rfl rfl rfl rfl ((b_LW_gatherPlanLight ev hz5).mono (by decide)) ?_
      show EX w0 ev 28 m_LW_light 24 [(0, .ref 0), (1, .int (p1)), (2, .int (p2))] [.int (z5.1)] (z5.2.1) (z5.2.2) (oI o)
      rcases ite_some h with ⟨c6, h⟩ | ⟨c6, h⟩
      · refine EX.go (i := .ifCond .eq 16) (len := 3) (pc1 := 40) (st1 := []) (hi1 := z5.2.1) (hl1 := z5.2.2) rfl ?_ (fun _ _ _ => if_pos c6)
        refine EX.bipush (v := (-4)) rfl rfl ?_
        obtain rfl := Option.some.inj h
        exact EX.iret rfl rfl
      · refine EX.go (i := .ifCond .eq 16) (len := 3) (pc1 := 27) (st1 := []) (hi1 := z5.2.1) (hl1 := z5.2.2) rfl ?_ (fun _ _ _ => if_neg c6)
        refine EX.aload_n (x := 0) rfl (List.mem_of_getElem? (i := 0) rfl) ?_
        refine EX.go (i := .getfield 55) (len := 3) (pc1 := 31) (st1 := [.ref 42]) (hi1 := z5.2.1) (hl1 := z5.2.2) rfl ?_ (fun _ _ _ => rfl)
        refine EX.iload_n (x := p1) rfl (List.mem_of_getElem? (i := 1) rfl) ?_
        obtain ⟨g7, h⟩ := grd_some h
        refine EX.iaload rfl rfl g7 ?_
        refine EX.iload_n (x := p2) rfl (List.mem_of_getElem? (i := 2) rfl) ?_
        obtain ⟨z8, hz8, h⟩ := bnd_some h
        refine EX.callS (as := [.int (z5.2.1 42 (Int32.toNatClampNeg (p1))), .int (p2)]) (rest := []) (r := some (.int (z8.1))) (hi1 := z8.2.1) (hl1 := z8.2.2) rfl rfl rfl rfl rfl rfl ((b_LW_fraction ev hz8).mono (by decide)) ?_
        show EX w0 ev 28 m_LW_light 37 [(0, .ref 0), (1, .int (p1)), (2, .int (p2))] [.int (z8.1)] (z8.2.1) (z8.2.2) (oI o)
        refine EX.go (i := .goto 5) (len := 3) (pc1 := 42) (st1 := [.int (z8.1)]) (hi1 := z8.2.1) (hl1 := z8.2.2) rfl ?_ (fun _ _ _ => rfl)
        obtain rfl := Option.some.inj h
        exact EX.iret rfl rfl
def J_LW_farthestApart_76 (N : Nat) (v1 : Int32) (v2 : Int32) (v3 : Int32) (hi : HI) (hl : HL) : Option ((Int32 × Int32 × HI × HL) ⊕ (Int32 × HI × HL)) :=
  some (.inl (v1, v3 + 1, hi, hl))
set_option maxRecDepth 10000 in
set_option maxHeartbeats 4000000 in
theorem bJ_LW_farthestApart_76 (ev : EV) {N : Nat} {v1 : Int32} {v2 : Int32} {v3 : Int32} {hi : HI} {hl : HL} {z : (Int32 × Int32 × HI × HL) ⊕ (Int32 × HI × HL)} {OUT : Option Value × HI × HL} (h : J_LW_farthestApart_76 N v1 v2 v3 hi hl = some z) (hk : Sum.elim (fun s => EX w0 ev 0 m_LW_farthestApart 17 [(0, .ref 0), (1, .int (s.1)), (2, .int (v2)), (3, .int (s.2.1))] [] (s.2.2.1) (s.2.2.2) OUT) (fun x => EX w0 ev 0 m_LW_farthestApart 82 [(0, .ref 0), (1, .int (x.1)), (2, .int (v2))] [] (x.2.1) (x.2.2) OUT) z) : EX w0 ev 0 m_LW_farthestApart 76 [(0, .ref 0), (1, .int (v1)), (2, .int (v2)), (3, .int (v3))] [] (hi) (hl) OUT := by
  unfold J_LW_farthestApart_76 at h
  refine EX.iinc (x := v3) (v := v3 + 1) (req1 := [(3, .int (v3 + 1)), (0, .ref 0), (1, .int (v1)), (2, .int (v2))]) rfl rfl (List.mem_of_getElem? (i := 3) rfl) rfl rfl ?_
  refine EX.go (i := .goto (-62)) (len := 3) (pc1 := 17) (st1 := []) (hi1 := hi) (hl1 := hl) rfl ?_ (fun _ _ _ => rfl)
  obtain rfl := Option.some.inj h
  have hk : EX w0 ev 0 m_LW_farthestApart 17 [(0, .ref 0), (1, .int (v1)), (2, .int (v2)), (3, .int (v3 + 1))] [] (hi) (hl) OUT := hk
  exact EX.pick [1, 2, 3, 0] hk rfl
def B_LW_farthestApart_17 (N : Nat) (v2 : Int32) (v1 : Int32) (v3 : Int32) (hi : HI) (hl : HL) : Option ((Int32 × Int32 × HI × HL) ⊕ (Int32 × HI × HL)) :=
  if (v2 : Int32) ≤ (v3 : Int32) then some (.inr (v1, hi, hl)) else if (v2 : Int32) < 0 ∨ 16 ≤ Int32.toNatClampNeg (v2) then none else if (hi 6 (Int32.toNatClampNeg (v2)) : Int32) ≤ 0 then J_LW_farthestApart_76 N (v1) (v2) (v3) (hi) (hl) else if (v2 : Int32) < 0 ∨ 16 ≤ Int32.toNatClampNeg (v2) then none else if (v3 : Int32) < 0 ∨ 16 ≤ Int32.toNatClampNeg (v3) then none else if (hi 6 (Int32.toNatClampNeg (v2)) : Int32) = (hi 6 (Int32.toNatClampNeg (v3)) : Int32) then if (v2 : Int32) < 0 ∨ 16 ≤ Int32.toNatClampNeg (v2) then none else if (v3 : Int32) < 0 ∨ 16 ≤ Int32.toNatClampNeg (v3) then none else J_LW_farthestApart_76 N ((if (v1 : Int32) < ((if (0 : Int32) ≤ (((hi 42 (Int32.toNatClampNeg (v2)) : Int32) - (hi 42 (Int32.toNatClampNeg (v3))))) then (((hi 42 (Int32.toNatClampNeg (v2)) : Int32) - (hi 42 (Int32.toNatClampNeg (v3))))) else (0 - (((hi 42 (Int32.toNatClampNeg (v2)) : Int32) - (hi 42 (Int32.toNatClampNeg (v3)))))))) then ((if (0 : Int32) ≤ (((hi 42 (Int32.toNatClampNeg (v2)) : Int32) - (hi 42 (Int32.toNatClampNeg (v3))))) then (((hi 42 (Int32.toNatClampNeg (v2)) : Int32) - (hi 42 (Int32.toNatClampNeg (v3))))) else (0 - (((hi 42 (Int32.toNatClampNeg (v2)) : Int32) - (hi 42 (Int32.toNatClampNeg (v3)))))))) else (v1))) (v2) (v3) (hi) (hl) else J_LW_farthestApart_76 N (v1) (v2) (v3) (hi) (hl)
set_option maxRecDepth 10000 in
set_option maxHeartbeats 4000000 in
theorem bB_LW_farthestApart_17 (ev : EV) {N : Nat} {v2 : Int32} {v1 : Int32} {v3 : Int32} {hi : HI} {hl : HL} {z : (Int32 × Int32 × HI × HL) ⊕ (Int32 × HI × HL)} {OUT : Option Value × HI × HL} (h : B_LW_farthestApart_17 N v2 v1 v3 hi hl = some z) (hk : Sum.elim (fun s => EX w0 ev 0 m_LW_farthestApart 17 [(0, .ref 0), (1, .int (s.1)), (2, .int (v2)), (3, .int (s.2.1))] [] (s.2.2.1) (s.2.2.2) OUT) (fun x => EX w0 ev 0 m_LW_farthestApart 82 [(0, .ref 0), (1, .int (x.1)), (2, .int (v2))] [] (x.2.1) (x.2.2) OUT) z) : EX w0 ev 0 m_LW_farthestApart 17 [(0, .ref 0), (1, .int (v1)), (2, .int (v2)), (3, .int (v3))] [] (hi) (hl) OUT := by
  unfold B_LW_farthestApart_17 at h
  refine EX.iload_n (x := v3) rfl (List.mem_of_getElem? (i := 3) rfl) ?_
  refine EX.iload_n (x := v2) rfl (List.mem_of_getElem? (i := 2) rfl) ?_
  rcases ite_some h with ⟨c2, h⟩ | ⟨c2, h⟩
  · refine EX.go (i := .if_icmp .ge 63) (len := 3) (pc1 := 82) (st1 := []) (hi1 := hi) (hl1 := hl) rfl ?_ (fun _ _ _ => if_pos c2)
    obtain rfl := Option.some.inj h
    have hk : EX w0 ev 0 m_LW_farthestApart 82 [(0, .ref 0), (1, .int (v1)), (2, .int (v2))] [] (hi) (hl) OUT := hk
    exact EX.pick [0, 1, 2] hk rfl
  · refine EX.go (i := .if_icmp .ge 63) (len := 3) (pc1 := 22) (st1 := []) (hi1 := hi) (hl1 := hl) rfl ?_ (fun _ _ _ => if_neg c2)
    refine EX.aload_n (x := 0) rfl (List.mem_of_getElem? (i := 0) rfl) ?_
    refine EX.go (i := .getfield 12) (len := 3) (pc1 := 26) (st1 := [.ref 1]) (hi1 := hi) (hl1 := hl) rfl ?_ (fun _ _ _ => rfl)
    refine EX.go (i := .getfield 138) (len := 3) (pc1 := 29) (st1 := [.ref 6]) (hi1 := hi) (hl1 := hl) rfl ?_ (fun _ _ _ => rfl)
    refine EX.iload_n (x := v2) rfl (List.mem_of_getElem? (i := 2) rfl) ?_
    obtain ⟨g3, h⟩ := grd_some h
    refine EX.iaload rfl rfl g3 ?_
    rcases ite_some h with ⟨c4, h⟩ | ⟨c4, h⟩
    · refine EX.go (i := .ifCond .le 45) (len := 3) (pc1 := 76) (st1 := []) (hi1 := hi) (hl1 := hl) rfl ?_ (fun _ _ _ => if_pos c4)
      refine EX.pick [0, 1, 2, 3] ?_ rfl
      exact bJ_LW_farthestApart_76 ev h hk
    · refine EX.go (i := .ifCond .le 45) (len := 3) (pc1 := 34) (st1 := []) (hi1 := hi) (hl1 := hl) rfl ?_ (fun _ _ _ => if_neg c4)
      refine EX.aload_n (x := 0) rfl (List.mem_of_getElem? (i := 0) rfl) ?_
      refine EX.go (i := .getfield 12) (len := 3) (pc1 := 38) (st1 := [.ref 1]) (hi1 := hi) (hl1 := hl) rfl ?_ (fun _ _ _ => rfl)
      refine EX.go (i := .getfield 138) (len := 3) (pc1 := 41) (st1 := [.ref 6]) (hi1 := hi) (hl1 := hl) rfl ?_ (fun _ _ _ => rfl)
      refine EX.iload_n (x := v2) rfl (List.mem_of_getElem? (i := 2) rfl) ?_
      obtain ⟨g5, h⟩ := grd_some h
      refine EX.iaload rfl rfl g5 ?_
      refine EX.aload_n (x := 0) rfl (List.mem_of_getElem? (i := 0) rfl) ?_
      refine EX.go (i := .getfield 12) (len := 3) (pc1 := 47) (st1 := [.ref 1, .int (hi 6 (Int32.toNatClampNeg (v2)))]) (hi1 := hi) (hl1 := hl) rfl ?_ (fun _ _ _ => rfl)
      refine EX.go (i := .getfield 138) (len := 3) (pc1 := 50) (st1 := [.ref 6, .int (hi 6 (Int32.toNatClampNeg (v2)))]) (hi1 := hi) (hl1 := hl) rfl ?_ (fun _ _ _ => rfl)
      refine EX.iload_n (x := v3) rfl (List.mem_of_getElem? (i := 3) rfl) ?_
      obtain ⟨g6, h⟩ := grd_some h
      refine EX.iaload rfl rfl g6 ?_
      rcases ite_some h with ⟨c7, h⟩ | ⟨c7, h⟩
      · refine EX.go (i := .if_icmp .ne 24) (len := 3) (pc1 := 55) (st1 := []) (hi1 := hi) (hl1 := hl) rfl ?_ (fun _ _ _ => if_pos c7)
        refine EX.iload_n (x := v1) rfl (List.mem_of_getElem? (i := 1) rfl) ?_
        refine EX.aload_n (x := 0) rfl (List.mem_of_getElem? (i := 0) rfl) ?_
        refine EX.go (i := .getfield 55) (len := 3) (pc1 := 60) (st1 := [.ref 42, .int (v1)]) (hi1 := hi) (hl1 := hl) rfl ?_ (fun _ _ _ => rfl)
        refine EX.iload_n (x := v2) rfl (List.mem_of_getElem? (i := 2) rfl) ?_
        obtain ⟨g8, h⟩ := grd_some h
        refine EX.iaload rfl rfl g8 ?_
        refine EX.aload_n (x := 0) rfl (List.mem_of_getElem? (i := 0) rfl) ?_
        refine EX.go (i := .getfield 55) (len := 3) (pc1 := 66) (st1 := [.ref 42, .int (hi 42 (Int32.toNatClampNeg (v2))), .int (v1)]) (hi1 := hi) (hl1 := hl) rfl ?_ (fun _ _ _ => rfl)
        refine EX.iload_n (x := v3) rfl (List.mem_of_getElem? (i := 3) rfl) ?_
        obtain ⟨g9, h⟩ := grd_some h
        refine EX.iaload rfl rfl g9 ?_
        refine EX.go (i := .isub) (len := 1) (pc1 := 69) (st1 := [.int (((hi 42 (Int32.toNatClampNeg (v2)) : Int32) - (hi 42 (Int32.toNatClampNeg (v3))))), .int (v1)]) (hi1 := hi) (hl1 := hl) rfl ?_ (fun _ _ _ => rfl)
        refine EX.mab (x := ((hi 42 (Int32.toNatClampNeg (v2)) : Int32) - (hi 42 (Int32.toNatClampNeg (v3))))) (v := (if (0 : Int32) ≤ (((hi 42 (Int32.toNatClampNeg (v2)) : Int32) - (hi 42 (Int32.toNatClampNeg (v3))))) then (((hi 42 (Int32.toNatClampNeg (v2)) : Int32) - (hi 42 (Int32.toNatClampNeg (v3))))) else (0 - (((hi 42 (Int32.toNatClampNeg (v2)) : Int32) - (hi 42 (Int32.toNatClampNeg (v3)))))))) rfl rfl rfl rfl rfl ?_
        refine EX.mx (x := v1) (y := (if (0 : Int32) ≤ (((hi 42 (Int32.toNatClampNeg (v2)) : Int32) - (hi 42 (Int32.toNatClampNeg (v3))))) then (((hi 42 (Int32.toNatClampNeg (v2)) : Int32) - (hi 42 (Int32.toNatClampNeg (v3))))) else (0 - (((hi 42 (Int32.toNatClampNeg (v2)) : Int32) - (hi 42 (Int32.toNatClampNeg (v3)))))))) (v := (if (v1 : Int32) < ((if (0 : Int32) ≤ (((hi 42 (Int32.toNatClampNeg (v2)) : Int32) - (hi 42 (Int32.toNatClampNeg (v3))))) then (((hi 42 (Int32.toNatClampNeg (v2)) : Int32) - (hi 42 (Int32.toNatClampNeg (v3))))) else (0 - (((hi 42 (Int32.toNatClampNeg (v2)) : Int32) - (hi 42 (Int32.toNatClampNeg (v3)))))))) then ((if (0 : Int32) ≤ (((hi 42 (Int32.toNatClampNeg (v2)) : Int32) - (hi 42 (Int32.toNatClampNeg (v3))))) then (((hi 42 (Int32.toNatClampNeg (v2)) : Int32) - (hi 42 (Int32.toNatClampNeg (v3))))) else (0 - (((hi 42 (Int32.toNatClampNeg (v2)) : Int32) - (hi 42 (Int32.toNatClampNeg (v3)))))))) else (v1))) rfl rfl rfl rfl rfl ?_
        refine EX.istore_n (req1 := [(1, .int ((if (v1 : Int32) < ((if (0 : Int32) ≤ (((hi 42 (Int32.toNatClampNeg (v2)) : Int32) - (hi 42 (Int32.toNatClampNeg (v3))))) then (((hi 42 (Int32.toNatClampNeg (v2)) : Int32) - (hi 42 (Int32.toNatClampNeg (v3))))) else (0 - (((hi 42 (Int32.toNatClampNeg (v2)) : Int32) - (hi 42 (Int32.toNatClampNeg (v3)))))))) then ((if (0 : Int32) ≤ (((hi 42 (Int32.toNatClampNeg (v2)) : Int32) - (hi 42 (Int32.toNatClampNeg (v3))))) then (((hi 42 (Int32.toNatClampNeg (v2)) : Int32) - (hi 42 (Int32.toNatClampNeg (v3))))) else (0 - (((hi 42 (Int32.toNatClampNeg (v2)) : Int32) - (hi 42 (Int32.toNatClampNeg (v3)))))))) else (v1)))), (0, .ref 0), (2, .int (v2)), (3, .int (v3))]) rfl rfl rfl ?_
        refine EX.pick [1, 0, 2, 3] ?_ rfl
        exact bJ_LW_farthestApart_76 ev h hk
      · refine EX.go (i := .if_icmp .ne 24) (len := 3) (pc1 := 76) (st1 := []) (hi1 := hi) (hl1 := hl) rfl ?_ (fun _ _ _ => if_neg c7)
        refine EX.pick [0, 1, 2, 3] ?_ rfl
        exact bJ_LW_farthestApart_76 ev h hk
def B_LW_farthestApart_4 (N : Nat) (v1 : Int32) (v2 : Int32) (hi : HI) (hl : HL) : Option ((Int32 × Int32 × HI × HL) ⊕ (Int32 × HI × HL)) :=
  if (hi 1 2 : Int32) ≤ (v2 : Int32) then some (.inr (v1, hi, hl)) else (lpN (fun s => B_LW_farthestApart_17 N (v2) s.1 s.2.1 s.2.2.1 s.2.2.2) N (v1, 0, hi, hl)).bind fun x10 => some (.inl (x10.1, v2 + 1, x10.2.1, x10.2.2))
set_option maxRecDepth 10000 in
set_option maxHeartbeats 4000000 in
theorem bB_LW_farthestApart_4 (ev : EV) {N : Nat} {v1 : Int32} {v2 : Int32} {hi : HI} {hl : HL} {z : (Int32 × Int32 × HI × HL) ⊕ (Int32 × HI × HL)} {OUT : Option Value × HI × HL} (h : B_LW_farthestApart_4 N v1 v2 hi hl = some z) (hk : Sum.elim (fun s => EX w0 ev 0 m_LW_farthestApart 4 [(0, .ref 0), (1, .int (s.1)), (2, .int (s.2.1))] [] (s.2.2.1) (s.2.2.2) OUT) (fun x => EX w0 ev 0 m_LW_farthestApart 88 [(1, .int (x.1))] [] (x.2.1) (x.2.2) OUT) z) : EX w0 ev 0 m_LW_farthestApart 4 [(0, .ref 0), (1, .int (v1)), (2, .int (v2))] [] (hi) (hl) OUT := by
  unfold B_LW_farthestApart_4 at h
  refine EX.iload_n (x := v2) rfl (List.mem_of_getElem? (i := 2) rfl) ?_
  refine EX.aload_n (x := 0) rfl (List.mem_of_getElem? (i := 0) rfl) ?_
  refine EX.go (i := .getfield 12) (len := 3) (pc1 := 9) (st1 := [.ref 1, .int (v2)]) (hi1 := hi) (hl1 := hl) rfl ?_ (fun _ _ _ => rfl)
  refine EX.go (i := .getfield 115) (len := 3) (pc1 := 12) (st1 := [.int (hi 1 2), .int (v2)]) (hi1 := hi) (hl1 := hl) rfl ?_ (fun _ _ _ => rfl)
  rcases ite_some h with ⟨c1, h⟩ | ⟨c1, h⟩
  · refine EX.go (i := .if_icmp .ge 76) (len := 3) (pc1 := 88) (st1 := []) (hi1 := hi) (hl1 := hl) rfl ?_ (fun _ _ _ => if_pos c1)
    obtain rfl := Option.some.inj h
    have hk : EX w0 ev 0 m_LW_farthestApart 88 [(1, .int (v1))] [] (hi) (hl) OUT := hk
    exact EX.pick [1] hk rfl
  · refine EX.go (i := .if_icmp .ge 76) (len := 3) (pc1 := 15) (st1 := []) (hi1 := hi) (hl1 := hl) rfl ?_ (fun _ _ _ => if_neg c1)
    refine EX.iconst (v := 0) rfl rfl ?_
    refine EX.istore_n (req1 := [(3, .int (0)), (0, .ref 0), (1, .int (v1)), (2, .int (v2))]) rfl rfl rfl ?_
    obtain ⟨x10, hx10, h⟩ := bnd_some h
    refine EX.pick [1, 2, 3, 0] ?_ rfl
    refine lp_sound (f := fun s => B_LW_farthestApart_17 N (v2) s.1 s.2.1 s.2.2.1 s.2.2.2) (PS := fun s => EX w0 ev 0 m_LW_farthestApart 17 [(0, .ref 0), (1, .int (s.1)), (2, .int (v2)), (3, .int (s.2.1))] [] (s.2.2.1) (s.2.2.2) OUT) (PX := fun x => EX w0 ev 0 m_LW_farthestApart 82 [(0, .ref 0), (1, .int (x.1)), (2, .int (v2))] [] (x.2.1) (x.2.2) OUT) ?_ N _ x10 hx10 ?_
    · exact fun s z hz hk => bB_LW_farthestApart_17 ev hz hk
    show EX w0 ev 0 m_LW_farthestApart 82 [(0, .ref 0), (1, .int (x10.1)), (2, .int (v2))] [] (x10.2.1) (x10.2.2) OUT
    refine EX.iinc (x := v2) (v := v2 + 1) (req1 := [(2, .int (v2 + 1)), (0, .ref 0), (1, .int (x10.1))]) rfl rfl (List.mem_of_getElem? (i := 2) rfl) rfl rfl ?_
    refine EX.go (i := .goto (-81)) (len := 3) (pc1 := 4) (st1 := []) (hi1 := x10.2.1) (hl1 := x10.2.2) rfl ?_ (fun _ _ _ => rfl)
    obtain rfl := Option.some.inj h
    have hk : EX w0 ev 0 m_LW_farthestApart 4 [(0, .ref 0), (1, .int (x10.1)), (2, .int (v2 + 1))] [] (x10.2.1) (x10.2.2) OUT := hk
    exact EX.pick [1, 2, 0] hk rfl
def f_LW_farthestApart (N : Nat) (hi : HI) (hl : HL) : Option (Int32 × HI × HL) :=
  (lpN (fun s => B_LW_farthestApart_4 N s.1 s.2.1 s.2.2.1 s.2.2.2) N (0, 1, hi, hl)).bind fun x11 => some (x11.1, x11.2.1, x11.2.2)
set_option maxRecDepth 10000 in
set_option maxHeartbeats 4000000 in
theorem b_LW_farthestApart (ev : EV) {N : Nat} {hi : HI} {hl : HL} {o : Int32 × HI × HL} (h : f_LW_farthestApart N hi hl = some o) : EM w0 ev 1 m_LW_farthestApart [.ref 0] hi hl (oI o) := by
  unfold f_LW_farthestApart at h
  refine EM.of rfl ?_
  show EX w0 ev 0 m_LW_farthestApart 0 [(0, .ref 0)] [] (hi) (hl) (oI o)
  refine EX.iconst (v := 0) rfl rfl ?_
  refine EX.istore_n (req1 := [(1, .int (0)), (0, .ref 0)]) rfl rfl rfl ?_
  refine EX.iconst (v := 1) rfl rfl ?_
  refine EX.istore_n (req1 := [(2, .int (1)), (1, .int (0)), (0, .ref 0)]) rfl rfl rfl ?_
  obtain ⟨x11, hx11, h⟩ := bnd_some h
  refine EX.pick [2, 1, 0] ?_ rfl
  refine lp_sound (f := fun s => B_LW_farthestApart_4 N s.1 s.2.1 s.2.2.1 s.2.2.2) (PS := fun s => EX w0 ev 0 m_LW_farthestApart 4 [(0, .ref 0), (1, .int (s.1)), (2, .int (s.2.1))] [] (s.2.2.1) (s.2.2.2) (oI o)) (PX := fun x => EX w0 ev 0 m_LW_farthestApart 88 [(1, .int (x.1))] [] (x.2.1) (x.2.2) (oI o)) ?_ N _ x11 hx11 ?_
  · exact fun s z hz hk => bB_LW_farthestApart_4 ev hz hk
  show EX w0 ev 0 m_LW_farthestApart 88 [(1, .int (x11.1))] [] (x11.2.1) (x11.2.2) (oI o)
  refine EX.iload_n (x := x11.1) rfl (List.mem_of_getElem? (i := 0) rfl) ?_
  obtain rfl := Option.some.inj h
  exact EX.iret rfl rfl
def f_LW_uneven (N : Nat) (p1 : Int32) (hi : HI) (hl : HL) : Option (Int32 × HI × HL) :=
  (f_LW_isFractionPart N (p1) (hi) (hl)).bind fun z1 => if (z1.1 : Int32) = 0 then some ((-1), z1.2.1, z1.2.2) else (f_LW_gatherPlanLight N (z1.2.1) (z1.2.2)).bind fun z3 => if (z3.1 : Int32) = 0 then some ((-4), z3.2.1, z3.2.2) else (f_LW_farthestApart N (z3.2.1) (z3.2.2)).bind fun z5 => (f_LW_fraction N (z5.1) (p1) (z5.2.1) (z5.2.2)).bind fun z6 => some (z6.1, z6.2.1, z6.2.2)
set_option maxRecDepth 10000 in
set_option maxHeartbeats 4000000 in
theorem b_LW_uneven (ev : EV) {N : Nat} {p1 : Int32} {hi : HI} {hl : HL} {o : Int32 × HI × HL} (h : f_LW_uneven N p1 hi hl = some o) : EM w0 ev 29 m_LW_uneven [.ref 0, .int (p1)] hi hl (oI o) := by
  unfold f_LW_uneven at h
  refine EM.of rfl ?_
  show EX w0 ev 28 m_LW_uneven 0 [(0, .ref 0), (1, .int (p1))] [] (hi) (hl) (oI o)
  refine EX.iload_n (x := p1) rfl (List.mem_of_getElem? (i := 1) rfl) ?_
  obtain ⟨z1, hz1, h⟩ := bnd_some h
  refine EX.callS (as := [.int (p1)]) (rest := []) (r := some (.int (z1.1))) (hi1 := z1.2.1) (hl1 := z1.2.2) rfl rfl rfl rfl rfl rfl ((b_LW_isFractionPart ev hz1).mono (by decide)) ?_
  show EX w0 ev 28 m_LW_uneven 4 [(0, .ref 0), (1, .int (p1))] [.int (z1.1)] (z1.2.1) (z1.2.2) (oI o)
  rcases ite_some h with ⟨c2, h⟩ | ⟨c2, h⟩
  · refine EX.go (i := .ifCond .ne 5) (len := 3) (pc1 := 7) (st1 := []) (hi1 := z1.2.1) (hl1 := z1.2.2) rfl ?_ (fun _ _ _ => if_pos c2)
    refine EX.iconst (v := (-1)) rfl rfl ?_
    obtain rfl := Option.some.inj h
    exact EX.iret rfl rfl
  · refine EX.go (i := .ifCond .ne 5) (len := 3) (pc1 := 9) (st1 := []) (hi1 := z1.2.1) (hl1 := z1.2.2) rfl ?_ (fun _ _ _ => if_neg c2)
    refine EX.aload_n (x := 0) rfl (List.mem_of_getElem? (i := 0) rfl) ?_
    obtain ⟨z3, hz3, h⟩ := bnd_some h
    refine EX.callV (b := 0) (as := []) (rest := []) (r := some (.int (z3.1))) (hi1 := z3.2.1) (hl1 := z3.2.2) rfl rfl rfl rfl rfl rfl ((b_LW_gatherPlanLight ev hz3).mono (by decide)) ?_
    show EX w0 ev 28 m_LW_uneven 13 [(0, .ref 0), (1, .int (p1))] [.int (z3.1)] (z3.2.1) (z3.2.2) (oI o)
    rcases ite_some h with ⟨c4, h⟩ | ⟨c4, h⟩
    · refine EX.go (i := .ifCond .eq 14) (len := 3) (pc1 := 27) (st1 := []) (hi1 := z3.2.1) (hl1 := z3.2.2) rfl ?_ (fun _ _ _ => if_pos c4)
      refine EX.bipush (v := (-4)) rfl rfl ?_
      obtain rfl := Option.some.inj h
      exact EX.iret rfl rfl
    · refine EX.go (i := .ifCond .eq 14) (len := 3) (pc1 := 16) (st1 := []) (hi1 := z3.2.1) (hl1 := z3.2.2) rfl ?_ (fun _ _ _ => if_neg c4)
      refine EX.aload_n (x := 0) rfl (List.mem_of_getElem? (i := 0) rfl) ?_
      obtain ⟨z5, hz5, h⟩ := bnd_some h
      refine EX.callV (b := 0) (as := []) (rest := []) (r := some (.int (z5.1))) (hi1 := z5.2.1) (hl1 := z5.2.2) rfl rfl rfl rfl rfl rfl ((b_LW_farthestApart ev hz5).mono (by decide)) ?_
      show EX w0 ev 28 m_LW_uneven 20 [(0, .ref 0), (1, .int (p1))] [.int (z5.1)] (z5.2.1) (z5.2.2) (oI o)
      refine EX.iload_n (x := p1) rfl (List.mem_of_getElem? (i := 1) rfl) ?_
      obtain ⟨z6, hz6, h⟩ := bnd_some h
      refine EX.callS (as := [.int (z5.1), .int (p1)]) (rest := []) (r := some (.int (z6.1))) (hi1 := z6.2.1) (hl1 := z6.2.2) rfl rfl rfl rfl rfl rfl ((b_LW_fraction ev hz6).mono (by decide)) ?_
      show EX w0 ev 28 m_LW_uneven 24 [(0, .ref 0), (1, .int (p1))] [.int (z6.1)] (z6.2.1) (z6.2.2) (oI o)
      refine EX.go (i := .goto 5) (len := 3) (pc1 := 29) (st1 := [.int (z6.1)]) (hi1 := z6.2.1) (hl1 := z6.2.2) rfl ?_ (fun _ _ _ => rfl)
      obtain rfl := Option.some.inj h
      exact EX.iret rfl rfl
def f_LW_feed (N : Nat) (p1 : Int64) (hi : HI) (hl : HL) : Option (Int32 × HI × HL) :=
  if (((hi 43 0 : Int32) + (8)) : Int32) ≤ (200 : Int32) then (f_Tape_append N (p1) (hi) (hl)).bind fun z2 => some (z2.2.1 43 0, z2.2.1, z2.2.2) else some ((-3), hi, hl)
set_option maxRecDepth 10000 in
set_option maxHeartbeats 4000000 in
theorem b_LW_feed (ev : EV) {N : Nat} {p1 : Int64} {hi : HI} {hl : HL} {o : Int32 × HI × HL} (h : f_LW_feed N p1 hi hl = some o) : EM w0 ev 2 m_LW_feed [.ref 0, .long (p1)] hi hl (oI o) := by
  unfold f_LW_feed at h
  refine EM.of rfl ?_
  show EX w0 ev 1 m_LW_feed 0 [(0, .ref 0), (1, .long (p1))] [] (hi) (hl) (oI o)
  refine EX.aload_n (x := 0) rfl (List.mem_of_getElem? (i := 0) rfl) ?_
  refine EX.go (i := .getfield 62) (len := 3) (pc1 := 4) (st1 := [.ref 43]) (hi1 := hi) (hl1 := hl) rfl ?_ (fun _ _ _ => rfl)
  refine EX.go (i := .getfield 229) (len := 3) (pc1 := 7) (st1 := [.int (hi 43 0)]) (hi1 := hi) (hl1 := hl) rfl ?_ (fun _ _ _ => rfl)
  refine EX.bipush (v := 8) rfl rfl ?_
  refine EX.go (i := .iadd) (len := 1) (pc1 := 10) (st1 := [.int (((hi 43 0 : Int32) + (8)))]) (hi1 := hi) (hl1 := hl) rfl ?_ (fun _ _ _ => rfl)
  refine EX.sipush (v := 200) rfl rfl ?_
  rcases ite_some h with ⟨c1, h⟩ | ⟨c1, h⟩
  · refine EX.go (i := .if_icmp .le 6) (len := 3) (pc1 := 19) (st1 := []) (hi1 := hi) (hl1 := hl) rfl ?_ (fun _ _ _ => if_pos c1)
    refine EX.aload_n (x := 0) rfl (List.mem_of_getElem? (i := 0) rfl) ?_
    refine EX.go (i := .getfield 62) (len := 3) (pc1 := 23) (st1 := [.ref 43]) (hi1 := hi) (hl1 := hl) rfl ?_ (fun _ _ _ => rfl)
    refine EX.lload_n (x := p1) rfl (List.mem_of_getElem? (i := 1) rfl) ?_
    obtain ⟨z2, hz2, h⟩ := bnd_some h
    refine EX.callV (b := 43) (as := [.long (p1)]) (rest := []) (r := none) (hi1 := z2.2.1) (hl1 := z2.2.2) rfl rfl rfl rfl rfl rfl ((b_Tape_append ev hz2).mono (by decide)) ?_
    show EX w0 ev 1 m_LW_feed 27 [(0, .ref 0), (1, .long (p1))] [] (z2.2.1) (z2.2.2) (oI o)
    refine EX.aload_n (x := 0) rfl (List.mem_of_getElem? (i := 0) rfl) ?_
    refine EX.go (i := .getfield 62) (len := 3) (pc1 := 31) (st1 := [.ref 43]) (hi1 := z2.2.1) (hl1 := z2.2.2) rfl ?_ (fun _ _ _ => rfl)
    refine EX.go (i := .getfield 229) (len := 3) (pc1 := 34) (st1 := [.int (z2.2.1 43 0)]) (hi1 := z2.2.1) (hl1 := z2.2.2) rfl ?_ (fun _ _ _ => rfl)
    obtain rfl := Option.some.inj h
    exact EX.iret rfl rfl
  · refine EX.go (i := .if_icmp .le 6) (len := 3) (pc1 := 16) (st1 := []) (hi1 := hi) (hl1 := hl) rfl ?_ (fun _ _ _ => if_neg c1)
    refine EX.bipush (v := (-3)) rfl rfl ?_
    obtain rfl := Option.some.inj h
    exact EX.iret rfl rfl
def f_LW_end (N : Nat) (p1 : Int32) (hi : HI) (hl : HL) : Option (Int32 × HI × HL) :=
  if (p1 : Int32) < 0 then some ((-1), hi, hl) else if (p1 : Int32) ≤ (hi 43 0 : Int32) then some (hi 43 0, wr (hi) 43 0 (p1), hl) else some ((-1), hi, hl)
set_option maxRecDepth 10000 in
set_option maxHeartbeats 4000000 in
theorem b_LW_end (ev : EV) {N : Nat} {p1 : Int32} {hi : HI} {hl : HL} {o : Int32 × HI × HL} (h : f_LW_end N p1 hi hl = some o) : EM w0 ev 1 m_LW_end [.ref 0, .int (p1)] hi hl (oI o) := by
  unfold f_LW_end at h
  refine EM.of rfl ?_
  show EX w0 ev 0 m_LW_end 0 [(0, .ref 0), (1, .int (p1))] [] (hi) (hl) (oI o)
  refine EX.iload_n (x := p1) rfl (List.mem_of_getElem? (i := 1) rfl) ?_
  rcases ite_some h with ⟨c1, h⟩ | ⟨c1, h⟩
  · refine EX.go (i := .ifCond .lt 14) (len := 3) (pc1 := 15) (st1 := []) (hi1 := hi) (hl1 := hl) rfl ?_ (fun _ _ _ => if_pos c1)
    refine EX.iconst (v := (-1)) rfl rfl ?_
    obtain rfl := Option.some.inj h
    exact EX.iret rfl rfl
  · refine EX.go (i := .ifCond .lt 14) (len := 3) (pc1 := 4) (st1 := []) (hi1 := hi) (hl1 := hl) rfl ?_ (fun _ _ _ => if_neg c1)
    refine EX.iload_n (x := p1) rfl (List.mem_of_getElem? (i := 1) rfl) ?_
    refine EX.aload_n (x := 0) rfl (List.mem_of_getElem? (i := 0) rfl) ?_
    refine EX.go (i := .getfield 62) (len := 3) (pc1 := 9) (st1 := [.ref 43, .int (p1)]) (hi1 := hi) (hl1 := hl) rfl ?_ (fun _ _ _ => rfl)
    refine EX.go (i := .getfield 229) (len := 3) (pc1 := 12) (st1 := [.int (hi 43 0), .int (p1)]) (hi1 := hi) (hl1 := hl) rfl ?_ (fun _ _ _ => rfl)
    rcases ite_some h with ⟨c2, h⟩ | ⟨c2, h⟩
    · refine EX.go (i := .if_icmp .le 5) (len := 3) (pc1 := 17) (st1 := []) (hi1 := hi) (hl1 := hl) rfl ?_ (fun _ _ _ => if_pos c2)
      refine EX.aload_n (x := 0) rfl (List.mem_of_getElem? (i := 0) rfl) ?_
      refine EX.go (i := .getfield 62) (len := 3) (pc1 := 21) (st1 := [.ref 43]) (hi1 := hi) (hl1 := hl) rfl ?_ (fun _ _ _ => rfl)
      refine EX.go (i := .getfield 229) (len := 3) (pc1 := 24) (st1 := [.int (hi 43 0)]) (hi1 := hi) (hl1 := hl) rfl ?_ (fun _ _ _ => rfl)
      refine EX.istore_n (req1 := [(2, .int (hi 43 0)), (0, .ref 0), (1, .int (p1))]) rfl rfl rfl ?_
      refine EX.aload_n (x := 0) rfl (List.mem_of_getElem? (i := 1) rfl) ?_
      refine EX.go (i := .getfield 62) (len := 3) (pc1 := 29) (st1 := [.ref 43]) (hi1 := hi) (hl1 := hl) rfl ?_ (fun _ _ _ => rfl)
      refine EX.iload_n (x := p1) rfl (List.mem_of_getElem? (i := 2) rfl) ?_
      refine EX.go (i := .putfield 229) (len := 3) (pc1 := 33) (st1 := []) (hi1 := wr (hi) 43 0 (p1)) (hl1 := hl) rfl ?_ (fun _ _ _ => rfl)
      refine EX.iload_n (x := hi 43 0) rfl (List.mem_of_getElem? (i := 0) rfl) ?_
      obtain rfl := Option.some.inj h
      exact EX.iret rfl rfl
    · refine EX.go (i := .if_icmp .le 5) (len := 3) (pc1 := 15) (st1 := []) (hi1 := hi) (hl1 := hl) rfl ?_ (fun _ _ _ => if_neg c2)
      refine EX.iconst (v := (-1)) rfl rfl ?_
      obtain rfl := Option.some.inj h
      exact EX.iret rfl rfl
def f_LW_program (N : Nat) (hi : HI) (hl : HL) : Option (Int32 × HI × HL) :=
  (f_Tape_tell N (hi 1 0) (hi) (hl)).bind fun z1 => if ((wr (z1.2.1) 43 0 (0)) 43 1 : Int32) = 0 then (f_Script_take N (wr (z1.2.1) 43 0 (0)) (z1.2.2)).bind fun z3 => (f_Guesses_forget N (z3.2.1) (z3.2.2)).bind fun z4 => some (z4.2.1 47 0, z4.2.1, z4.2.2) else some ((((-10) : Int32) - ((wr (z1.2.1) 43 0 (0)) 43 2)), wr (z1.2.1) 43 0 (0), z1.2.2)
set_option maxRecDepth 10000 in
set_option maxHeartbeats 4000000 in
theorem b_LW_program (ev : EV) {N : Nat} {hi : HI} {hl : HL} {o : Int32 × HI × HL} (h : f_LW_program N hi hl = some o) : EM w0 ev 11 m_LW_program [.ref 0] hi hl (oI o) := by
  unfold f_LW_program at h
  refine EM.of rfl ?_
  show EX w0 ev 10 m_LW_program 0 [(0, .ref 0)] [] (hi) (hl) (oI o)
  refine EX.aload_n (x := 0) rfl (List.mem_of_getElem? (i := 0) rfl) ?_
  refine EX.go (i := .getfield 62) (len := 3) (pc1 := 4) (st1 := [.ref 43]) (hi1 := hi) (hl1 := hl) rfl ?_ (fun _ _ _ => rfl)
  refine EX.aload_n (x := 0) rfl (List.mem_of_getElem? (i := 0) rfl) ?_
  refine EX.go (i := .getfield 12) (len := 3) (pc1 := 8) (st1 := [.ref 1, .ref 43]) (hi1 := hi) (hl1 := hl) rfl ?_ (fun _ _ _ => rfl)
  refine EX.go (i := .getfield 87) (len := 3) (pc1 := 11) (st1 := [.int (hi 1 0), .ref 43]) (hi1 := hi) (hl1 := hl) rfl ?_ (fun _ _ _ => rfl)
  obtain ⟨z1, hz1, h⟩ := bnd_some h
  refine EX.callV (b := 43) (as := [.int (hi 1 0)]) (rest := []) (r := none) (hi1 := z1.2.1) (hl1 := z1.2.2) rfl rfl rfl rfl rfl rfl ((b_Tape_tell ev hz1).mono (by decide)) ?_
  show EX w0 ev 10 m_LW_program 14 [(0, .ref 0)] [] (z1.2.1) (z1.2.2) (oI o)
  refine EX.aload_n (x := 0) rfl (List.mem_of_getElem? (i := 0) rfl) ?_
  refine EX.go (i := .getfield 62) (len := 3) (pc1 := 18) (st1 := [.ref 43]) (hi1 := z1.2.1) (hl1 := z1.2.2) rfl ?_ (fun _ _ _ => rfl)
  refine EX.iconst (v := 0) rfl rfl ?_
  refine EX.go (i := .putfield 229) (len := 3) (pc1 := 22) (st1 := []) (hi1 := wr (z1.2.1) 43 0 (0)) (hl1 := z1.2.2) rfl ?_ (fun _ _ _ => rfl)
  refine EX.aload_n (x := 0) rfl (List.mem_of_getElem? (i := 0) rfl) ?_
  refine EX.go (i := .getfield 62) (len := 3) (pc1 := 26) (st1 := [.ref 43]) (hi1 := wr (z1.2.1) 43 0 (0)) (hl1 := z1.2.2) rfl ?_ (fun _ _ _ => rfl)
  refine EX.go (i := .getfield 239) (len := 3) (pc1 := 29) (st1 := [.int ((wr (z1.2.1) 43 0 (0)) 43 1)]) (hi1 := wr (z1.2.1) 43 0 (0)) (hl1 := z1.2.2) rfl ?_ (fun _ _ _ => rfl)
  rcases ite_some h with ⟨c2, h⟩ | ⟨c2, h⟩
  · refine EX.go (i := .ifCond .eq 14) (len := 3) (pc1 := 43) (st1 := []) (hi1 := wr (z1.2.1) 43 0 (0)) (hl1 := z1.2.2) rfl ?_ (fun _ _ _ => if_pos c2)
    refine EX.aload_n (x := 0) rfl (List.mem_of_getElem? (i := 0) rfl) ?_
    refine EX.go (i := .getfield 69) (len := 3) (pc1 := 47) (st1 := [.ref 47]) (hi1 := wr (z1.2.1) 43 0 (0)) (hl1 := z1.2.2) rfl ?_ (fun _ _ _ => rfl)
    refine EX.aload_n (x := 0) rfl (List.mem_of_getElem? (i := 0) rfl) ?_
    refine EX.go (i := .getfield 62) (len := 3) (pc1 := 51) (st1 := [.ref 43, .ref 47]) (hi1 := wr (z1.2.1) 43 0 (0)) (hl1 := z1.2.2) rfl ?_ (fun _ _ _ => rfl)
    obtain ⟨z3, hz3, h⟩ := bnd_some h
    refine EX.callV (b := 47) (as := [.ref 43]) (rest := []) (r := none) (hi1 := z3.2.1) (hl1 := z3.2.2) rfl rfl rfl rfl rfl rfl ((b_Script_take ev hz3).mono (by decide)) ?_
    show EX w0 ev 10 m_LW_program 54 [(0, .ref 0)] [] (z3.2.1) (z3.2.2) (oI o)
    refine EX.aload_n (x := 0) rfl (List.mem_of_getElem? (i := 0) rfl) ?_
    refine EX.go (i := .getfield 76) (len := 3) (pc1 := 58) (st1 := [.ref 51]) (hi1 := z3.2.1) (hl1 := z3.2.2) rfl ?_ (fun _ _ _ => rfl)
    obtain ⟨z4, hz4, h⟩ := bnd_some h
    refine EX.callV (b := 51) (as := []) (rest := []) (r := none) (hi1 := z4.2.1) (hl1 := z4.2.2) rfl rfl rfl rfl rfl rfl ((b_Guesses_forget ev hz4).mono (by decide)) ?_
    show EX w0 ev 10 m_LW_program 61 [(0, .ref 0)] [] (z4.2.1) (z4.2.2) (oI o)
    refine EX.aload_n (x := 0) rfl (List.mem_of_getElem? (i := 0) rfl) ?_
    refine EX.go (i := .getfield 69) (len := 3) (pc1 := 65) (st1 := [.ref 47]) (hi1 := z4.2.1) (hl1 := z4.2.2) rfl ?_ (fun _ _ _ => rfl)
    refine EX.go (i := .getfield 95) (len := 3) (pc1 := 68) (st1 := [.int (z4.2.1 47 0)]) (hi1 := z4.2.1) (hl1 := z4.2.2) rfl ?_ (fun _ _ _ => rfl)
    obtain rfl := Option.some.inj h
    exact EX.iret rfl rfl
  · refine EX.go (i := .ifCond .eq 14) (len := 3) (pc1 := 32) (st1 := []) (hi1 := wr (z1.2.1) 43 0 (0)) (hl1 := z1.2.2) rfl ?_ (fun _ _ _ => if_neg c2)
    refine EX.bipush (v := (-10)) rfl rfl ?_
    refine EX.aload_n (x := 0) rfl (List.mem_of_getElem? (i := 0) rfl) ?_
    refine EX.go (i := .getfield 62) (len := 3) (pc1 := 38) (st1 := [.ref 43, .int ((-10))]) (hi1 := wr (z1.2.1) 43 0 (0)) (hl1 := z1.2.2) rfl ?_ (fun _ _ _ => rfl)
    refine EX.go (i := .getfield 242) (len := 3) (pc1 := 41) (st1 := [.int ((wr (z1.2.1) 43 0 (0)) 43 2), .int ((-10))]) (hi1 := wr (z1.2.1) 43 0 (0)) (hl1 := z1.2.2) rfl ?_ (fun _ _ _ => rfl)
    refine EX.go (i := .isub) (len := 1) (pc1 := 42) (st1 := [.int ((((-10) : Int32) - ((wr (z1.2.1) 43 0 (0)) 43 2)))]) (hi1 := wr (z1.2.1) 43 0 (0)) (hl1 := z1.2.2) rfl ?_ (fun _ _ _ => rfl)
    obtain rfl := Option.some.inj h
    exact EX.iret rfl rfl
def f_LW_fault (N : Nat) (hi : HI) (hl : HL) : Option (Int32 × HI × HL) :=
  some (hi 43 1, hi, hl)
set_option maxRecDepth 10000 in
set_option maxHeartbeats 4000000 in
theorem b_LW_fault (ev : EV) {N : Nat} {hi : HI} {hl : HL} {o : Int32 × HI × HL} (h : f_LW_fault N hi hl = some o) : EM w0 ev 1 m_LW_fault [.ref 0] hi hl (oI o) := by
  unfold f_LW_fault at h
  refine EM.of rfl ?_
  show EX w0 ev 0 m_LW_fault 0 [(0, .ref 0)] [] (hi) (hl) (oI o)
  refine EX.aload_n (x := 0) rfl (List.mem_of_getElem? (i := 0) rfl) ?_
  refine EX.go (i := .getfield 62) (len := 3) (pc1 := 4) (st1 := [.ref 43]) (hi1 := hi) (hl1 := hl) rfl ?_ (fun _ _ _ => rfl)
  refine EX.go (i := .getfield 239) (len := 3) (pc1 := 7) (st1 := [.int (hi 43 1)]) (hi1 := hi) (hl1 := hl) rfl ?_ (fun _ _ _ => rfl)
  obtain rfl := Option.some.inj h
  exact EX.iret rfl rfl
def f_LW_line (N : Nat) (p1 : Int32) (p2 : Int32) (hi : HI) (hl : HL) : Option (Int32 × HI × HL) :=
  (f_Script_isLine N (p1) (hi) (hl)).bind fun z1 => if (z1.1 : Int32) = 0 then some ((-1), z1.2.1, z1.2.2) else if (p2 : Int32) = 0 then if (p1 : Int32) < 0 ∨ 12 ≤ Int32.toNatClampNeg (p1) then none else some (z1.2.1 48 (Int32.toNatClampNeg (p1)), z1.2.1, z1.2.2) else if (p2 : Int32) = 1 then if (p1 : Int32) < 0 ∨ 12 ≤ Int32.toNatClampNeg (p1) then none else some (z1.2.1 49 (Int32.toNatClampNeg (p1)), z1.2.1, z1.2.2) else if (p2 : Int32) = 2 then (f_Script_ticksBefore N (p1) (z1.2.1) (z1.2.2)).bind fun z8 => some (z8.1, z8.2.1, z8.2.2) else if (p2 : Int32) = 3 then if (p1 : Int32) < 0 ∨ 12 ≤ Int32.toNatClampNeg (p1) then none else (f_LW_lampsIn N (z1.2.1 48 (Int32.toNatClampNeg (p1))) (z1.2.1) (z1.2.2)).bind fun z11 => some (z11.1, z11.2.1, z11.2.2) else if (p2 : Int32) = 4 then if (p1 : Int32) < 0 ∨ 12 ≤ Int32.toNatClampNeg (p1) then none else some (z1.2.1 50 (Int32.toNatClampNeg (p1)), z1.2.1, z1.2.2) else some ((-1), z1.2.1, z1.2.2)
set_option maxRecDepth 10000 in
set_option maxHeartbeats 4000000 in
theorem b_LW_line (ev : EV) {N : Nat} {p1 : Int32} {p2 : Int32} {hi : HI} {hl : HL} {o : Int32 × HI × HL} (h : f_LW_line N p1 p2 hi hl = some o) : EM w0 ev 6 m_LW_line [.ref 0, .int (p1), .int (p2)] hi hl (oI o) := by
  unfold f_LW_line at h
  refine EM.of rfl ?_
  show EX w0 ev 5 m_LW_line 0 [(0, .ref 0), (1, .int (p1)), (2, .int (p2))] [] (hi) (hl) (oI o)
  refine EX.aload_n (x := 0) rfl (List.mem_of_getElem? (i := 0) rfl) ?_
  refine EX.go (i := .getfield 69) (len := 3) (pc1 := 4) (st1 := [.ref 47]) (hi1 := hi) (hl1 := hl) rfl ?_ (fun _ _ _ => rfl)
  refine EX.iload_n (x := p1) rfl (List.mem_of_getElem? (i := 1) rfl) ?_
  obtain ⟨z1, hz1, h⟩ := bnd_some h
  refine EX.callV (b := 47) (as := [.int (p1)]) (rest := []) (r := some (.int (z1.1))) (hi1 := z1.2.1) (hl1 := z1.2.2) rfl rfl rfl rfl rfl rfl ((b_Script_isLine ev hz1).mono (by decide)) ?_
  show EX w0 ev 5 m_LW_line 8 [(0, .ref 0), (1, .int (p1)), (2, .int (p2))] [.int (z1.1)] (z1.2.1) (z1.2.2) (oI o)
  rcases ite_some h with ⟨c2, h⟩ | ⟨c2, h⟩
  · refine EX.go (i := .ifCond .ne 5) (len := 3) (pc1 := 11) (st1 := []) (hi1 := z1.2.1) (hl1 := z1.2.2) rfl ?_ (fun _ _ _ => if_pos c2)
    refine EX.iconst (v := (-1)) rfl rfl ?_
    obtain rfl := Option.some.inj h
    exact EX.iret rfl rfl
  · refine EX.go (i := .ifCond .ne 5) (len := 3) (pc1 := 13) (st1 := []) (hi1 := z1.2.1) (hl1 := z1.2.2) rfl ?_ (fun _ _ _ => if_neg c2)
    refine EX.iload_n (x := p2) rfl (List.mem_of_getElem? (i := 2) rfl) ?_
    rcases ite_some h with ⟨c3, h⟩ | ⟨c3, h⟩
    · refine EX.tswI (x := p2) (k := 0) (pc1 := 48) rfl c3 (fun _ _ _ => rfl) ?_
      refine EX.aload_n (x := 0) rfl (List.mem_of_getElem? (i := 0) rfl) ?_
      refine EX.go (i := .getfield 69) (len := 3) (pc1 := 52) (st1 := [.ref 47]) (hi1 := z1.2.1) (hl1 := z1.2.2) rfl ?_ (fun _ _ _ => rfl)
      refine EX.go (i := .getfield 252) (len := 3) (pc1 := 55) (st1 := [.ref 48]) (hi1 := z1.2.1) (hl1 := z1.2.2) rfl ?_ (fun _ _ _ => rfl)
      refine EX.iload_n (x := p1) rfl (List.mem_of_getElem? (i := 1) rfl) ?_
      obtain ⟨g4, h⟩ := grd_some h
      refine EX.iaload rfl rfl g4 ?_
      obtain rfl := Option.some.inj h
      exact EX.iret rfl rfl
    · rcases ite_some h with ⟨c5, h⟩ | ⟨c5, h⟩
      · refine EX.tswI (x := p2) (k := 1) (pc1 := 58) rfl c5 (fun _ _ _ => rfl) ?_
        refine EX.aload_n (x := 0) rfl (List.mem_of_getElem? (i := 0) rfl) ?_
        refine EX.go (i := .getfield 69) (len := 3) (pc1 := 62) (st1 := [.ref 47]) (hi1 := z1.2.1) (hl1 := z1.2.2) rfl ?_ (fun _ _ _ => rfl)
        refine EX.go (i := .getfield 255) (len := 3) (pc1 := 65) (st1 := [.ref 49]) (hi1 := z1.2.1) (hl1 := z1.2.2) rfl ?_ (fun _ _ _ => rfl)
        refine EX.iload_n (x := p1) rfl (List.mem_of_getElem? (i := 1) rfl) ?_
        obtain ⟨g6, h⟩ := grd_some h
        refine EX.iaload rfl rfl g6 ?_
        obtain rfl := Option.some.inj h
        exact EX.iret rfl rfl
      · rcases ite_some h with ⟨c7, h⟩ | ⟨c7, h⟩
        · refine EX.tswI (x := p2) (k := 2) (pc1 := 68) rfl c7 (fun _ _ _ => rfl) ?_
          refine EX.aload_n (x := 0) rfl (List.mem_of_getElem? (i := 0) rfl) ?_
          refine EX.go (i := .getfield 69) (len := 3) (pc1 := 72) (st1 := [.ref 47]) (hi1 := z1.2.1) (hl1 := z1.2.2) rfl ?_ (fun _ _ _ => rfl)
          refine EX.iload_n (x := p1) rfl (List.mem_of_getElem? (i := 1) rfl) ?_
          obtain ⟨z8, hz8, h⟩ := bnd_some h
          refine EX.callV (b := 47) (as := [.int (p1)]) (rest := []) (r := some (.int (z8.1))) (hi1 := z8.2.1) (hl1 := z8.2.2) rfl rfl rfl rfl rfl rfl ((b_Script_ticksBefore ev hz8).mono (by decide)) ?_
          show EX w0 ev 5 m_LW_line 76 [(0, .ref 0), (1, .int (p1)), (2, .int (p2))] [.int (z8.1)] (z8.2.1) (z8.2.2) (oI o)
          obtain rfl := Option.some.inj h
          exact EX.iret rfl rfl
        · rcases ite_some h with ⟨c9, h⟩ | ⟨c9, h⟩
          · refine EX.tswI (x := p2) (k := 3) (pc1 := 77) rfl c9 (fun _ _ _ => rfl) ?_
            refine EX.aload_n (x := 0) rfl (List.mem_of_getElem? (i := 0) rfl) ?_
            refine EX.aload_n (x := 0) rfl (List.mem_of_getElem? (i := 0) rfl) ?_
            refine EX.go (i := .getfield 69) (len := 3) (pc1 := 82) (st1 := [.ref 47, .ref 0]) (hi1 := z1.2.1) (hl1 := z1.2.2) rfl ?_ (fun _ _ _ => rfl)
            refine EX.go (i := .getfield 252) (len := 3) (pc1 := 85) (st1 := [.ref 48, .ref 0]) (hi1 := z1.2.1) (hl1 := z1.2.2) rfl ?_ (fun _ _ _ => rfl)
            refine EX.iload_n (x := p1) rfl (List.mem_of_getElem? (i := 1) rfl) ?_
            obtain ⟨g10, h⟩ := grd_some h
            refine EX.iaload rfl rfl g10 ?_
            obtain ⟨z11, hz11, h⟩ := bnd_some h
            refine EX.callV (b := 0) (as := [.int (z1.2.1 48 (Int32.toNatClampNeg (p1)))]) (rest := []) (r := some (.int (z11.1))) (hi1 := z11.2.1) (hl1 := z11.2.2) rfl rfl rfl rfl rfl rfl ((b_LW_lampsIn ev hz11).mono (by decide)) ?_
            show EX w0 ev 5 m_LW_line 90 [(0, .ref 0), (1, .int (p1)), (2, .int (p2))] [.int (z11.1)] (z11.2.1) (z11.2.2) (oI o)
            obtain rfl := Option.some.inj h
            exact EX.iret rfl rfl
          · rcases ite_some h with ⟨c12, h⟩ | ⟨c12, h⟩
            · refine EX.tswI (x := p2) (k := 4) (pc1 := 91) rfl c12 (fun _ _ _ => rfl) ?_
              refine EX.aload_n (x := 0) rfl (List.mem_of_getElem? (i := 0) rfl) ?_
              refine EX.go (i := .getfield 69) (len := 3) (pc1 := 95) (st1 := [.ref 47]) (hi1 := z1.2.1) (hl1 := z1.2.2) rfl ?_ (fun _ _ _ => rfl)
              refine EX.go (i := .getfield 261) (len := 3) (pc1 := 98) (st1 := [.ref 50]) (hi1 := z1.2.1) (hl1 := z1.2.2) rfl ?_ (fun _ _ _ => rfl)
              refine EX.iload_n (x := p1) rfl (List.mem_of_getElem? (i := 1) rfl) ?_
              obtain ⟨g13, h⟩ := grd_some h
              refine EX.iaload rfl rfl g13 ?_
              obtain rfl := Option.some.inj h
              exact EX.iret rfl rfl
            · refine EX.tswO (x := p2) (pc1 := 101) rfl (by have e0 := lv_neT c3 (show (0 : Int32).toInt = 0 from rfl); have e1 := lv_neT c5 (show (1 : Int32).toInt = 1 from rfl); have e2 := lv_neT c7 (show (2 : Int32).toInt = 2 from rfl); have e3 := lv_neT c9 (show (3 : Int32).toInt = 3 from rfl); have e4 := lv_neT c12 (show (4 : Int32).toInt = 4 from rfl); omega) rfl rfl ?_
              refine EX.iconst (v := (-1)) rfl rfl ?_
              obtain rfl := Option.some.inj h
              exact EX.iret rfl rfl
def B_LW_lampsInAnyLine_4 (N : Nat) (v1 : Int32) (v2 : Int32) (hi : HI) (hl : HL) : Option ((Int32 × Int32 × HI × HL) ⊕ (Int32 × HI × HL)) :=
  if (hi 47 0 : Int32) ≤ (v2 : Int32) then some (.inr (v1, hi, hl)) else if (v2 : Int32) < 0 ∨ 12 ≤ Int32.toNatClampNeg (v2) then none else (f_LW_lampsIn N (hi 48 (Int32.toNatClampNeg (v2))) (hi) (hl)).bind fun z3 => some (.inl ((v1 ||| (z3.1)), v2 + 1, z3.2.1, z3.2.2))
set_option maxRecDepth 10000 in
set_option maxHeartbeats 4000000 in
theorem bB_LW_lampsInAnyLine_4 (ev : EV) {N : Nat} {v1 : Int32} {v2 : Int32} {hi : HI} {hl : HL} {z : (Int32 × Int32 × HI × HL) ⊕ (Int32 × HI × HL)} {OUT : Option Value × HI × HL} (h : B_LW_lampsInAnyLine_4 N v1 v2 hi hl = some z) (hk : Sum.elim (fun s => EX w0 ev 5 m_LW_lampsInAnyLine 4 [(0, .ref 0), (1, .int (s.1)), (2, .int (s.2.1))] [] (s.2.2.1) (s.2.2.2) OUT) (fun x => EX w0 ev 5 m_LW_lampsInAnyLine 37 [(1, .int (x.1))] [] (x.2.1) (x.2.2) OUT) z) : EX w0 ev 5 m_LW_lampsInAnyLine 4 [(0, .ref 0), (1, .int (v1)), (2, .int (v2))] [] (hi) (hl) OUT := by
  unfold B_LW_lampsInAnyLine_4 at h
  refine EX.iload_n (x := v2) rfl (List.mem_of_getElem? (i := 2) rfl) ?_
  refine EX.aload_n (x := 0) rfl (List.mem_of_getElem? (i := 0) rfl) ?_
  refine EX.go (i := .getfield 69) (len := 3) (pc1 := 9) (st1 := [.ref 47, .int (v2)]) (hi1 := hi) (hl1 := hl) rfl ?_ (fun _ _ _ => rfl)
  refine EX.go (i := .getfield 95) (len := 3) (pc1 := 12) (st1 := [.int (hi 47 0), .int (v2)]) (hi1 := hi) (hl1 := hl) rfl ?_ (fun _ _ _ => rfl)
  rcases ite_some h with ⟨c1, h⟩ | ⟨c1, h⟩
  · refine EX.go (i := .if_icmp .ge 25) (len := 3) (pc1 := 37) (st1 := []) (hi1 := hi) (hl1 := hl) rfl ?_ (fun _ _ _ => if_pos c1)
    obtain rfl := Option.some.inj h
    have hk : EX w0 ev 5 m_LW_lampsInAnyLine 37 [(1, .int (v1))] [] (hi) (hl) OUT := hk
    exact EX.pick [1] hk rfl
  · refine EX.go (i := .if_icmp .ge 25) (len := 3) (pc1 := 15) (st1 := []) (hi1 := hi) (hl1 := hl) rfl ?_ (fun _ _ _ => if_neg c1)
    refine EX.iload_n (x := v1) rfl (List.mem_of_getElem? (i := 1) rfl) ?_
    refine EX.aload_n (x := 0) rfl (List.mem_of_getElem? (i := 0) rfl) ?_
    refine EX.aload_n (x := 0) rfl (List.mem_of_getElem? (i := 0) rfl) ?_
    refine EX.go (i := .getfield 69) (len := 3) (pc1 := 21) (st1 := [.ref 47, .ref 0, .int (v1)]) (hi1 := hi) (hl1 := hl) rfl ?_ (fun _ _ _ => rfl)
    refine EX.go (i := .getfield 252) (len := 3) (pc1 := 24) (st1 := [.ref 48, .ref 0, .int (v1)]) (hi1 := hi) (hl1 := hl) rfl ?_ (fun _ _ _ => rfl)
    refine EX.iload_n (x := v2) rfl (List.mem_of_getElem? (i := 2) rfl) ?_
    obtain ⟨g2, h⟩ := grd_some h
    refine EX.iaload rfl rfl g2 ?_
    obtain ⟨z3, hz3, h⟩ := bnd_some h
    refine EX.callV (b := 0) (as := [.int (hi 48 (Int32.toNatClampNeg (v2)))]) (rest := [.int (v1)]) (r := some (.int (z3.1))) (hi1 := z3.2.1) (hl1 := z3.2.2) rfl rfl rfl rfl rfl rfl ((b_LW_lampsIn ev hz3).mono (by decide)) ?_
    show EX w0 ev 5 m_LW_lampsInAnyLine 29 [(0, .ref 0), (1, .int (v1)), (2, .int (v2))] [.int (z3.1), .int (v1)] (z3.2.1) (z3.2.2) OUT
    refine EX.go (i := .ior) (len := 1) (pc1 := 30) (st1 := [.int ((v1 ||| (z3.1)))]) (hi1 := z3.2.1) (hl1 := z3.2.2) rfl ?_ (fun _ _ _ => rfl)
    refine EX.istore_n (req1 := [(1, .int ((v1 ||| (z3.1)))), (0, .ref 0), (2, .int (v2))]) rfl rfl rfl ?_
    refine EX.iinc (x := v2) (v := v2 + 1) (req1 := [(2, .int (v2 + 1)), (1, .int ((v1 ||| (z3.1)))), (0, .ref 0)]) rfl rfl (List.mem_of_getElem? (i := 2) rfl) rfl rfl ?_
    refine EX.go (i := .goto (-30)) (len := 3) (pc1 := 4) (st1 := []) (hi1 := z3.2.1) (hl1 := z3.2.2) rfl ?_ (fun _ _ _ => rfl)
    obtain rfl := Option.some.inj h
    have hk : EX w0 ev 5 m_LW_lampsInAnyLine 4 [(0, .ref 0), (1, .int ((v1 ||| (z3.1)))), (2, .int (v2 + 1))] [] (z3.2.1) (z3.2.2) OUT := hk
    exact EX.pick [2, 1, 0] hk rfl
def f_LW_lampsInAnyLine (N : Nat) (hi : HI) (hl : HL) : Option (Int32 × HI × HL) :=
  (lpN (fun s => B_LW_lampsInAnyLine_4 N s.1 s.2.1 s.2.2.1 s.2.2.2) N (0, 0, hi, hl)).bind fun x4 => some (x4.1, x4.2.1, x4.2.2)
set_option maxRecDepth 10000 in
set_option maxHeartbeats 4000000 in
theorem b_LW_lampsInAnyLine (ev : EV) {N : Nat} {hi : HI} {hl : HL} {o : Int32 × HI × HL} (h : f_LW_lampsInAnyLine N hi hl = some o) : EM w0 ev 6 m_LW_lampsInAnyLine [.ref 0] hi hl (oI o) := by
  unfold f_LW_lampsInAnyLine at h
  refine EM.of rfl ?_
  show EX w0 ev 5 m_LW_lampsInAnyLine 0 [(0, .ref 0)] [] (hi) (hl) (oI o)
  refine EX.iconst (v := 0) rfl rfl ?_
  refine EX.istore_n (req1 := [(1, .int (0)), (0, .ref 0)]) rfl rfl rfl ?_
  refine EX.iconst (v := 0) rfl rfl ?_
  refine EX.istore_n (req1 := [(2, .int (0)), (1, .int (0)), (0, .ref 0)]) rfl rfl rfl ?_
  obtain ⟨x4, hx4, h⟩ := bnd_some h
  refine EX.pick [2, 1, 0] ?_ rfl
  refine lp_sound (f := fun s => B_LW_lampsInAnyLine_4 N s.1 s.2.1 s.2.2.1 s.2.2.2) (PS := fun s => EX w0 ev 5 m_LW_lampsInAnyLine 4 [(0, .ref 0), (1, .int (s.1)), (2, .int (s.2.1))] [] (s.2.2.1) (s.2.2.2) (oI o)) (PX := fun x => EX w0 ev 5 m_LW_lampsInAnyLine 37 [(1, .int (x.1))] [] (x.2.1) (x.2.2) (oI o)) ?_ N _ x4 hx4 ?_
  · exact fun s z hz hk => bB_LW_lampsInAnyLine_4 ev hz hk
  show EX w0 ev 5 m_LW_lampsInAnyLine 37 [(1, .int (x4.1))] [] (x4.2.1) (x4.2.2) (oI o)
  refine EX.iload_n (x := x4.1) rfl (List.mem_of_getElem? (i := 0) rfl) ?_
  obtain rfl := Option.some.inj h
  exact EX.iret rfl rfl
def B_LW_lampsInAllLines_24 (N : Nat) (v1 : Int32) (v2 : Int32) (hi : HI) (hl : HL) : Option ((Int32 × Int32 × HI × HL) ⊕ (Int32 × HI × HL)) :=
  if (hi 47 0 : Int32) ≤ (v2 : Int32) then some (.inr (v1, hi, hl)) else if (v2 : Int32) < 0 ∨ 12 ≤ Int32.toNatClampNeg (v2) then none else (f_LW_lampsIn N (hi 48 (Int32.toNatClampNeg (v2))) (hi) (hl)).bind fun z4 => some (.inl ((v1 &&& (z4.1)), v2 + 1, z4.2.1, z4.2.2))
set_option maxRecDepth 10000 in
set_option maxHeartbeats 4000000 in
theorem bB_LW_lampsInAllLines_24 (ev : EV) {N : Nat} {v1 : Int32} {v2 : Int32} {hi : HI} {hl : HL} {z : (Int32 × Int32 × HI × HL) ⊕ (Int32 × HI × HL)} {OUT : Option Value × HI × HL} (h : B_LW_lampsInAllLines_24 N v1 v2 hi hl = some z) (hk : Sum.elim (fun s => EX w0 ev 5 m_LW_lampsInAllLines 24 [(0, .ref 0), (1, .int (s.1)), (2, .int (s.2.1))] [] (s.2.2.1) (s.2.2.2) OUT) (fun x => EX w0 ev 5 m_LW_lampsInAllLines 57 [(1, .int (x.1))] [] (x.2.1) (x.2.2) OUT) z) : EX w0 ev 5 m_LW_lampsInAllLines 24 [(0, .ref 0), (1, .int (v1)), (2, .int (v2))] [] (hi) (hl) OUT := by
  unfold B_LW_lampsInAllLines_24 at h
  refine EX.iload_n (x := v2) rfl (List.mem_of_getElem? (i := 2) rfl) ?_
  refine EX.aload_n (x := 0) rfl (List.mem_of_getElem? (i := 0) rfl) ?_
  refine EX.go (i := .getfield 69) (len := 3) (pc1 := 29) (st1 := [.ref 47, .int (v2)]) (hi1 := hi) (hl1 := hl) rfl ?_ (fun _ _ _ => rfl)
  refine EX.go (i := .getfield 95) (len := 3) (pc1 := 32) (st1 := [.int (hi 47 0), .int (v2)]) (hi1 := hi) (hl1 := hl) rfl ?_ (fun _ _ _ => rfl)
  rcases ite_some h with ⟨c2, h⟩ | ⟨c2, h⟩
  · refine EX.go (i := .if_icmp .ge 25) (len := 3) (pc1 := 57) (st1 := []) (hi1 := hi) (hl1 := hl) rfl ?_ (fun _ _ _ => if_pos c2)
    obtain rfl := Option.some.inj h
    have hk : EX w0 ev 5 m_LW_lampsInAllLines 57 [(1, .int (v1))] [] (hi) (hl) OUT := hk
    exact EX.pick [1] hk rfl
  · refine EX.go (i := .if_icmp .ge 25) (len := 3) (pc1 := 35) (st1 := []) (hi1 := hi) (hl1 := hl) rfl ?_ (fun _ _ _ => if_neg c2)
    refine EX.iload_n (x := v1) rfl (List.mem_of_getElem? (i := 1) rfl) ?_
    refine EX.aload_n (x := 0) rfl (List.mem_of_getElem? (i := 0) rfl) ?_
    refine EX.aload_n (x := 0) rfl (List.mem_of_getElem? (i := 0) rfl) ?_
    refine EX.go (i := .getfield 69) (len := 3) (pc1 := 41) (st1 := [.ref 47, .ref 0, .int (v1)]) (hi1 := hi) (hl1 := hl) rfl ?_ (fun _ _ _ => rfl)
    refine EX.go (i := .getfield 252) (len := 3) (pc1 := 44) (st1 := [.ref 48, .ref 0, .int (v1)]) (hi1 := hi) (hl1 := hl) rfl ?_ (fun _ _ _ => rfl)
    refine EX.iload_n (x := v2) rfl (List.mem_of_getElem? (i := 2) rfl) ?_
    obtain ⟨g3, h⟩ := grd_some h
    refine EX.iaload rfl rfl g3 ?_
    obtain ⟨z4, hz4, h⟩ := bnd_some h
    refine EX.callV (b := 0) (as := [.int (hi 48 (Int32.toNatClampNeg (v2)))]) (rest := [.int (v1)]) (r := some (.int (z4.1))) (hi1 := z4.2.1) (hl1 := z4.2.2) rfl rfl rfl rfl rfl rfl ((b_LW_lampsIn ev hz4).mono (by decide)) ?_
    show EX w0 ev 5 m_LW_lampsInAllLines 49 [(0, .ref 0), (1, .int (v1)), (2, .int (v2))] [.int (z4.1), .int (v1)] (z4.2.1) (z4.2.2) OUT
    refine EX.go (i := .iand) (len := 1) (pc1 := 50) (st1 := [.int ((v1 &&& (z4.1)))]) (hi1 := z4.2.1) (hl1 := z4.2.2) rfl ?_ (fun _ _ _ => rfl)
    refine EX.istore_n (req1 := [(1, .int ((v1 &&& (z4.1)))), (0, .ref 0), (2, .int (v2))]) rfl rfl rfl ?_
    refine EX.iinc (x := v2) (v := v2 + 1) (req1 := [(2, .int (v2 + 1)), (1, .int ((v1 &&& (z4.1)))), (0, .ref 0)]) rfl rfl (List.mem_of_getElem? (i := 2) rfl) rfl rfl ?_
    refine EX.go (i := .goto (-30)) (len := 3) (pc1 := 24) (st1 := []) (hi1 := z4.2.1) (hl1 := z4.2.2) rfl ?_ (fun _ _ _ => rfl)
    obtain rfl := Option.some.inj h
    have hk : EX w0 ev 5 m_LW_lampsInAllLines 24 [(0, .ref 0), (1, .int ((v1 &&& (z4.1)))), (2, .int (v2 + 1))] [] (z4.2.1) (z4.2.2) OUT := hk
    exact EX.pick [2, 1, 0] hk rfl
def J_LW_lampsInAllLines_21 (N : Nat) (s0 : Int32) (hi : HI) (hl : HL) : Option (Int32 × HI × HL) :=
  (lpN (fun s => B_LW_lampsInAllLines_24 N s.1 s.2.1 s.2.2.1 s.2.2.2) N (s0, 0, hi, hl)).bind fun x5 => some (x5.1, x5.2.1, x5.2.2)
set_option maxRecDepth 10000 in
set_option maxHeartbeats 4000000 in
theorem bJ_LW_lampsInAllLines_21 (ev : EV) {N : Nat} {s0 : Int32} {hi : HI} {hl : HL} {o : Int32 × HI × HL} (h : J_LW_lampsInAllLines_21 N s0 hi hl = some o) : EX w0 ev 5 m_LW_lampsInAllLines 21 [(0, .ref 0)] [.int (s0)] (hi) (hl) (oI o) := by
  unfold J_LW_lampsInAllLines_21 at h
  refine EX.istore_n (req1 := [(1, .int (s0)), (0, .ref 0)]) rfl rfl rfl ?_
  refine EX.iconst (v := 0) rfl rfl ?_
  refine EX.istore_n (req1 := [(2, .int (0)), (1, .int (s0)), (0, .ref 0)]) rfl rfl rfl ?_
  obtain ⟨x5, hx5, h⟩ := bnd_some h
  refine EX.pick [2, 1, 0] ?_ rfl
  refine lp_sound (f := fun s => B_LW_lampsInAllLines_24 N s.1 s.2.1 s.2.2.1 s.2.2.2) (PS := fun s => EX w0 ev 5 m_LW_lampsInAllLines 24 [(0, .ref 0), (1, .int (s.1)), (2, .int (s.2.1))] [] (s.2.2.1) (s.2.2.2) (oI o)) (PX := fun x => EX w0 ev 5 m_LW_lampsInAllLines 57 [(1, .int (x.1))] [] (x.2.1) (x.2.2) (oI o)) ?_ N _ x5 hx5 ?_
  · exact fun s z hz hk => bB_LW_lampsInAllLines_24 ev hz hk
  show EX w0 ev 5 m_LW_lampsInAllLines 57 [(1, .int (x5.1))] [] (x5.2.1) (x5.2.2) (oI o)
  refine EX.iload_n (x := x5.1) rfl (List.mem_of_getElem? (i := 0) rfl) ?_
  obtain rfl := Option.some.inj h
  exact EX.iret rfl rfl
def f_LW_lampsInAllLines (N : Nat) (hi : HI) (hl : HL) : Option (Int32 × HI × HL) :=
  if (hi 47 0 : Int32) = 0 then J_LW_lampsInAllLines_21 N (0) (hi) (hl) else (f_Board_allLamps N (hi) (hl)).bind fun z6 => J_LW_lampsInAllLines_21 N (z6.1) (z6.2.1) (z6.2.2)
set_option maxRecDepth 10000 in
set_option maxHeartbeats 4000000 in
theorem b_LW_lampsInAllLines (ev : EV) {N : Nat} {hi : HI} {hl : HL} {o : Int32 × HI × HL} (h : f_LW_lampsInAllLines N hi hl = some o) : EM w0 ev 6 m_LW_lampsInAllLines [.ref 0] hi hl (oI o) := by
  unfold f_LW_lampsInAllLines at h
  refine EM.of rfl ?_
  show EX w0 ev 5 m_LW_lampsInAllLines 0 [(0, .ref 0)] [] (hi) (hl) (oI o)
  refine EX.aload_n (x := 0) rfl (List.mem_of_getElem? (i := 0) rfl) ?_
  refine EX.go (i := .getfield 69) (len := 3) (pc1 := 4) (st1 := [.ref 47]) (hi1 := hi) (hl1 := hl) rfl ?_ (fun _ _ _ => rfl)
  refine EX.go (i := .getfield 95) (len := 3) (pc1 := 7) (st1 := [.int (hi 47 0)]) (hi1 := hi) (hl1 := hl) rfl ?_ (fun _ _ _ => rfl)
  rcases ite_some h with ⟨c1, h⟩ | ⟨c1, h⟩
  · refine EX.go (i := .ifCond .ne 7) (len := 3) (pc1 := 10) (st1 := []) (hi1 := hi) (hl1 := hl) rfl ?_ (fun _ _ _ => if_pos c1)
    refine EX.iconst (v := 0) rfl rfl ?_
    refine EX.go (i := .goto 10) (len := 3) (pc1 := 21) (st1 := [.int (0)]) (hi1 := hi) (hl1 := hl) rfl ?_ (fun _ _ _ => rfl)
    refine EX.pick [0] ?_ rfl
    exact bJ_LW_lampsInAllLines_21 ev h
  · refine EX.go (i := .ifCond .ne 7) (len := 3) (pc1 := 14) (st1 := []) (hi1 := hi) (hl1 := hl) rfl ?_ (fun _ _ _ => if_neg c1)
    refine EX.aload_n (x := 0) rfl (List.mem_of_getElem? (i := 0) rfl) ?_
    refine EX.go (i := .getfield 12) (len := 3) (pc1 := 18) (st1 := [.ref 1]) (hi1 := hi) (hl1 := hl) rfl ?_ (fun _ _ _ => rfl)
    obtain ⟨z6, hz6, h⟩ := bnd_some h
    refine EX.callV (b := 1) (as := []) (rest := []) (r := some (.int (z6.1))) (hi1 := z6.2.1) (hl1 := z6.2.2) rfl rfl rfl rfl rfl rfl ((b_Board_allLamps ev hz6).mono (by decide)) ?_
    show EX w0 ev 5 m_LW_lampsInAllLines 21 [(0, .ref 0)] [.int (z6.1)] (z6.2.1) (z6.2.2) (oI o)
    refine EX.pick [0] ?_ rfl
    exact bJ_LW_lampsInAllLines_21 ev h
def J_LW_linesThatAreShorts_34 (N : Nat) (v1 : Int32) (v2 : Int32) (hi : HI) (hl : HL) : Option ((Int32 × Int32 × HI × HL) ⊕ (Int32 × HI × HL)) :=
  some (.inl (v1, v2 + 1, hi, hl))
set_option maxRecDepth 10000 in
set_option maxHeartbeats 4000000 in
theorem bJ_LW_linesThatAreShorts_34 (ev : EV) {N : Nat} {v1 : Int32} {v2 : Int32} {hi : HI} {hl : HL} {z : (Int32 × Int32 × HI × HL) ⊕ (Int32 × HI × HL)} {OUT : Option Value × HI × HL} (h : J_LW_linesThatAreShorts_34 N v1 v2 hi hl = some z) (hk : Sum.elim (fun s => EX w0 ev 5 m_LW_linesThatAreShorts 4 [(0, .ref 0), (1, .int (s.1)), (2, .int (s.2.1))] [] (s.2.2.1) (s.2.2.2) OUT) (fun x => EX w0 ev 5 m_LW_linesThatAreShorts 40 [(1, .int (x.1))] [] (x.2.1) (x.2.2) OUT) z) : EX w0 ev 5 m_LW_linesThatAreShorts 34 [(0, .ref 0), (1, .int (v1)), (2, .int (v2))] [] (hi) (hl) OUT := by
  unfold J_LW_linesThatAreShorts_34 at h
  refine EX.iinc (x := v2) (v := v2 + 1) (req1 := [(2, .int (v2 + 1)), (0, .ref 0), (1, .int (v1))]) rfl rfl (List.mem_of_getElem? (i := 2) rfl) rfl rfl ?_
  refine EX.go (i := .goto (-33)) (len := 3) (pc1 := 4) (st1 := []) (hi1 := hi) (hl1 := hl) rfl ?_ (fun _ _ _ => rfl)
  obtain rfl := Option.some.inj h
  have hk : EX w0 ev 5 m_LW_linesThatAreShorts 4 [(0, .ref 0), (1, .int (v1)), (2, .int (v2 + 1))] [] (hi) (hl) OUT := hk
  exact EX.pick [1, 2, 0] hk rfl
def B_LW_linesThatAreShorts_4 (N : Nat) (v1 : Int32) (v2 : Int32) (hi : HI) (hl : HL) : Option ((Int32 × Int32 × HI × HL) ⊕ (Int32 × HI × HL)) :=
  if (hi 47 0 : Int32) ≤ (v2 : Int32) then some (.inr (v1, hi, hl)) else if (v2 : Int32) < 0 ∨ 12 ≤ Int32.toNatClampNeg (v2) then none else (f_LW_leastIn N (hi 48 (Int32.toNatClampNeg (v2))) (hi) (hl)).bind fun z3 => if (z3.1 : Int32) = 0 then J_LW_linesThatAreShorts_34 N (v1 + 1) (v2) (z3.2.1) (z3.2.2) else J_LW_linesThatAreShorts_34 N (v1) (v2) (z3.2.1) (z3.2.2)
set_option maxRecDepth 10000 in
set_option maxHeartbeats 4000000 in
theorem bB_LW_linesThatAreShorts_4 (ev : EV) {N : Nat} {v1 : Int32} {v2 : Int32} {hi : HI} {hl : HL} {z : (Int32 × Int32 × HI × HL) ⊕ (Int32 × HI × HL)} {OUT : Option Value × HI × HL} (h : B_LW_linesThatAreShorts_4 N v1 v2 hi hl = some z) (hk : Sum.elim (fun s => EX w0 ev 5 m_LW_linesThatAreShorts 4 [(0, .ref 0), (1, .int (s.1)), (2, .int (s.2.1))] [] (s.2.2.1) (s.2.2.2) OUT) (fun x => EX w0 ev 5 m_LW_linesThatAreShorts 40 [(1, .int (x.1))] [] (x.2.1) (x.2.2) OUT) z) : EX w0 ev 5 m_LW_linesThatAreShorts 4 [(0, .ref 0), (1, .int (v1)), (2, .int (v2))] [] (hi) (hl) OUT := by
  unfold B_LW_linesThatAreShorts_4 at h
  refine EX.iload_n (x := v2) rfl (List.mem_of_getElem? (i := 2) rfl) ?_
  refine EX.aload_n (x := 0) rfl (List.mem_of_getElem? (i := 0) rfl) ?_
  refine EX.go (i := .getfield 69) (len := 3) (pc1 := 9) (st1 := [.ref 47, .int (v2)]) (hi1 := hi) (hl1 := hl) rfl ?_ (fun _ _ _ => rfl)
  refine EX.go (i := .getfield 95) (len := 3) (pc1 := 12) (st1 := [.int (hi 47 0), .int (v2)]) (hi1 := hi) (hl1 := hl) rfl ?_ (fun _ _ _ => rfl)
  rcases ite_some h with ⟨c1, h⟩ | ⟨c1, h⟩
  · refine EX.go (i := .if_icmp .ge 28) (len := 3) (pc1 := 40) (st1 := []) (hi1 := hi) (hl1 := hl) rfl ?_ (fun _ _ _ => if_pos c1)
    obtain rfl := Option.some.inj h
    have hk : EX w0 ev 5 m_LW_linesThatAreShorts 40 [(1, .int (v1))] [] (hi) (hl) OUT := hk
    exact EX.pick [1] hk rfl
  · refine EX.go (i := .if_icmp .ge 28) (len := 3) (pc1 := 15) (st1 := []) (hi1 := hi) (hl1 := hl) rfl ?_ (fun _ _ _ => if_neg c1)
    refine EX.aload_n (x := 0) rfl (List.mem_of_getElem? (i := 0) rfl) ?_
    refine EX.aload_n (x := 0) rfl (List.mem_of_getElem? (i := 0) rfl) ?_
    refine EX.go (i := .getfield 69) (len := 3) (pc1 := 20) (st1 := [.ref 47, .ref 0]) (hi1 := hi) (hl1 := hl) rfl ?_ (fun _ _ _ => rfl)
    refine EX.go (i := .getfield 252) (len := 3) (pc1 := 23) (st1 := [.ref 48, .ref 0]) (hi1 := hi) (hl1 := hl) rfl ?_ (fun _ _ _ => rfl)
    refine EX.iload_n (x := v2) rfl (List.mem_of_getElem? (i := 2) rfl) ?_
    obtain ⟨g2, h⟩ := grd_some h
    refine EX.iaload rfl rfl g2 ?_
    obtain ⟨z3, hz3, h⟩ := bnd_some h
    refine EX.callV (b := 0) (as := [.int (hi 48 (Int32.toNatClampNeg (v2)))]) (rest := []) (r := some (.int (z3.1))) (hi1 := z3.2.1) (hl1 := z3.2.2) rfl rfl rfl rfl rfl rfl ((b_LW_leastIn ev hz3).mono (by decide)) ?_
    show EX w0 ev 5 m_LW_linesThatAreShorts 28 [(0, .ref 0), (1, .int (v1)), (2, .int (v2))] [.int (z3.1)] (z3.2.1) (z3.2.2) OUT
    rcases ite_some h with ⟨c4, h⟩ | ⟨c4, h⟩
    · refine EX.go (i := .ifCond .ne 6) (len := 3) (pc1 := 31) (st1 := []) (hi1 := z3.2.1) (hl1 := z3.2.2) rfl ?_ (fun _ _ _ => if_pos c4)
      refine EX.iinc (x := v1) (v := v1 + 1) (req1 := [(1, .int (v1 + 1)), (0, .ref 0), (2, .int (v2))]) rfl rfl (List.mem_of_getElem? (i := 1) rfl) rfl rfl ?_
      refine EX.pick [1, 0, 2] ?_ rfl
      exact bJ_LW_linesThatAreShorts_34 ev h hk
    · refine EX.go (i := .ifCond .ne 6) (len := 3) (pc1 := 34) (st1 := []) (hi1 := z3.2.1) (hl1 := z3.2.2) rfl ?_ (fun _ _ _ => if_neg c4)
      refine EX.pick [0, 1, 2] ?_ rfl
      exact bJ_LW_linesThatAreShorts_34 ev h hk
def f_LW_linesThatAreShorts (N : Nat) (hi : HI) (hl : HL) : Option (Int32 × HI × HL) :=
  (lpN (fun s => B_LW_linesThatAreShorts_4 N s.1 s.2.1 s.2.2.1 s.2.2.2) N (0, 0, hi, hl)).bind fun x5 => some (x5.1, x5.2.1, x5.2.2)
set_option maxRecDepth 10000 in
set_option maxHeartbeats 4000000 in
theorem b_LW_linesThatAreShorts (ev : EV) {N : Nat} {hi : HI} {hl : HL} {o : Int32 × HI × HL} (h : f_LW_linesThatAreShorts N hi hl = some o) : EM w0 ev 6 m_LW_linesThatAreShorts [.ref 0] hi hl (oI o) := by
  unfold f_LW_linesThatAreShorts at h
  refine EM.of rfl ?_
  show EX w0 ev 5 m_LW_linesThatAreShorts 0 [(0, .ref 0)] [] (hi) (hl) (oI o)
  refine EX.iconst (v := 0) rfl rfl ?_
  refine EX.istore_n (req1 := [(1, .int (0)), (0, .ref 0)]) rfl rfl rfl ?_
  refine EX.iconst (v := 0) rfl rfl ?_
  refine EX.istore_n (req1 := [(2, .int (0)), (1, .int (0)), (0, .ref 0)]) rfl rfl rfl ?_
  obtain ⟨x5, hx5, h⟩ := bnd_some h
  refine EX.pick [2, 1, 0] ?_ rfl
  refine lp_sound (f := fun s => B_LW_linesThatAreShorts_4 N s.1 s.2.1 s.2.2.1 s.2.2.2) (PS := fun s => EX w0 ev 5 m_LW_linesThatAreShorts 4 [(0, .ref 0), (1, .int (s.1)), (2, .int (s.2.1))] [] (s.2.2.1) (s.2.2.2) (oI o)) (PX := fun x => EX w0 ev 5 m_LW_linesThatAreShorts 40 [(1, .int (x.1))] [] (x.2.1) (x.2.2) (oI o)) ?_ N _ x5 hx5 ?_
  · exact fun s z hz hk => bB_LW_linesThatAreShorts_4 ev hz hk
  show EX w0 ev 5 m_LW_linesThatAreShorts 40 [(1, .int (x5.1))] [] (x5.2.1) (x5.2.2) (oI o)
  refine EX.iload_n (x := x5.1) rfl (List.mem_of_getElem? (i := 0) rfl) ?_
  obtain rfl := Option.some.inj h
  exact EX.iret rfl rfl
def f_LW_round (N : Nat) (p1 : Int32) (hi : HI) (hl : HL) : Option (Int32 × HI × HL) :=
  if (p1 : Int32) = 0 then (f_Script_ticksBefore N (hi 47 0) (hi) (hl)).bind fun z2 => some (z2.1, z2.2.1, z2.2.2) else if (p1 : Int32) = 1 then (f_LW_lampsInAnyLine N (hi) (hl)).bind fun z4 => some (z4.1, z4.2.1, z4.2.2) else if (p1 : Int32) = 2 then (f_LW_lampsInAllLines N (hi) (hl)).bind fun z6 => some (z6.1, z6.2.1, z6.2.2) else if (p1 : Int32) = 3 then (f_LW_linesThatAreShorts N (hi) (hl)).bind fun z8 => some (z8.1, z8.2.1, z8.2.2) else some ((-1), hi, hl)
set_option maxRecDepth 10000 in
set_option maxHeartbeats 4000000 in
theorem b_LW_round (ev : EV) {N : Nat} {p1 : Int32} {hi : HI} {hl : HL} {o : Int32 × HI × HL} (h : f_LW_round N p1 hi hl = some o) : EM w0 ev 7 m_LW_round [.ref 0, .int (p1)] hi hl (oI o) := by
  unfold f_LW_round at h
  refine EM.of rfl ?_
  show EX w0 ev 6 m_LW_round 0 [(0, .ref 0), (1, .int (p1))] [] (hi) (hl) (oI o)
  refine EX.iload_n (x := p1) rfl (List.mem_of_getElem? (i := 1) rfl) ?_
  rcases ite_some h with ⟨c1, h⟩ | ⟨c1, h⟩
  · refine EX.tswI (x := p1) (k := 0) (pc1 := 32) rfl c1 (fun _ _ _ => rfl) ?_
    refine EX.aload_n (x := 0) rfl (List.mem_of_getElem? (i := 0) rfl) ?_
    refine EX.go (i := .getfield 69) (len := 3) (pc1 := 36) (st1 := [.ref 47]) (hi1 := hi) (hl1 := hl) rfl ?_ (fun _ _ _ => rfl)
    refine EX.aload_n (x := 0) rfl (List.mem_of_getElem? (i := 0) rfl) ?_
    refine EX.go (i := .getfield 69) (len := 3) (pc1 := 40) (st1 := [.ref 47, .ref 47]) (hi1 := hi) (hl1 := hl) rfl ?_ (fun _ _ _ => rfl)
    refine EX.go (i := .getfield 95) (len := 3) (pc1 := 43) (st1 := [.int (hi 47 0), .ref 47]) (hi1 := hi) (hl1 := hl) rfl ?_ (fun _ _ _ => rfl)
    obtain ⟨z2, hz2, h⟩ := bnd_some h
    refine EX.callV (b := 47) (as := [.int (hi 47 0)]) (rest := []) (r := some (.int (z2.1))) (hi1 := z2.2.1) (hl1 := z2.2.2) rfl rfl rfl rfl rfl rfl ((b_Script_ticksBefore ev hz2).mono (by decide)) ?_
    show EX w0 ev 6 m_LW_round 46 [(0, .ref 0), (1, .int (p1))] [.int (z2.1)] (z2.2.1) (z2.2.2) (oI o)
    obtain rfl := Option.some.inj h
    exact EX.iret rfl rfl
  · rcases ite_some h with ⟨c3, h⟩ | ⟨c3, h⟩
    · refine EX.tswI (x := p1) (k := 1) (pc1 := 47) rfl c3 (fun _ _ _ => rfl) ?_
      refine EX.aload_n (x := 0) rfl (List.mem_of_getElem? (i := 0) rfl) ?_
      obtain ⟨z4, hz4, h⟩ := bnd_some h
      refine EX.callV (b := 0) (as := []) (rest := []) (r := some (.int (z4.1))) (hi1 := z4.2.1) (hl1 := z4.2.2) rfl rfl rfl rfl rfl rfl ((b_LW_lampsInAnyLine ev hz4).mono (by decide)) ?_
      show EX w0 ev 6 m_LW_round 51 [(0, .ref 0), (1, .int (p1))] [.int (z4.1)] (z4.2.1) (z4.2.2) (oI o)
      obtain rfl := Option.some.inj h
      exact EX.iret rfl rfl
    · rcases ite_some h with ⟨c5, h⟩ | ⟨c5, h⟩
      · refine EX.tswI (x := p1) (k := 2) (pc1 := 52) rfl c5 (fun _ _ _ => rfl) ?_
        refine EX.aload_n (x := 0) rfl (List.mem_of_getElem? (i := 0) rfl) ?_
        obtain ⟨z6, hz6, h⟩ := bnd_some h
        refine EX.callV (b := 0) (as := []) (rest := []) (r := some (.int (z6.1))) (hi1 := z6.2.1) (hl1 := z6.2.2) rfl rfl rfl rfl rfl rfl ((b_LW_lampsInAllLines ev hz6).mono (by decide)) ?_
        show EX w0 ev 6 m_LW_round 56 [(0, .ref 0), (1, .int (p1))] [.int (z6.1)] (z6.2.1) (z6.2.2) (oI o)
        obtain rfl := Option.some.inj h
        exact EX.iret rfl rfl
      · rcases ite_some h with ⟨c7, h⟩ | ⟨c7, h⟩
        · refine EX.tswI (x := p1) (k := 3) (pc1 := 57) rfl c7 (fun _ _ _ => rfl) ?_
          refine EX.aload_n (x := 0) rfl (List.mem_of_getElem? (i := 0) rfl) ?_
          obtain ⟨z8, hz8, h⟩ := bnd_some h
          refine EX.callV (b := 0) (as := []) (rest := []) (r := some (.int (z8.1))) (hi1 := z8.2.1) (hl1 := z8.2.2) rfl rfl rfl rfl rfl rfl ((b_LW_linesThatAreShorts ev hz8).mono (by decide)) ?_
          show EX w0 ev 6 m_LW_round 61 [(0, .ref 0), (1, .int (p1))] [.int (z8.1)] (z8.2.1) (z8.2.2) (oI o)
          obtain rfl := Option.some.inj h
          exact EX.iret rfl rfl
        · refine EX.tswO (x := p1) (pc1 := 62) rfl (by have e0 := lv_neT c1 (show (0 : Int32).toInt = 0 from rfl); have e1 := lv_neT c3 (show (1 : Int32).toInt = 1 from rfl); have e2 := lv_neT c5 (show (2 : Int32).toInt = 2 from rfl); have e3 := lv_neT c7 (show (3 : Int32).toInt = 3 from rfl); omega) rfl rfl ?_
          refine EX.iconst (v := (-1)) rfl rfl ?_
          obtain rfl := Option.some.inj h
          exact EX.iret rfl rfl
def f_LW_glows (N : Nat) (p1 : Int32) (p2 : Int32) (hi : HI) (hl : HL) : Option (Int32 × HI × HL) :=
  (f_LW_lampsIn N (p2) (hi) (hl)).bind fun z1 => if (((((z1.1 : Int32) >>> (p1 &&& 31)) : Int32) &&& (1)) : Int32) = 0 then some (0, z1.2.1, z1.2.2) else some (1, z1.2.1, z1.2.2)
set_option maxRecDepth 10000 in
set_option maxHeartbeats 4000000 in
theorem b_LW_glows (ev : EV) {N : Nat} {p1 : Int32} {p2 : Int32} {hi : HI} {hl : HL} {o : Int32 × HI × HL} (h : f_LW_glows N p1 p2 hi hl = some o) : EM w0 ev 6 m_LW_glows [.ref 0, .int (p1), .int (p2)] hi hl (oI o) := by
  unfold f_LW_glows at h
  refine EM.of rfl ?_
  show EX w0 ev 5 m_LW_glows 0 [(0, .ref 0), (1, .int (p1)), (2, .int (p2))] [] (hi) (hl) (oI o)
  refine EX.aload_n (x := 0) rfl (List.mem_of_getElem? (i := 0) rfl) ?_
  refine EX.iload_n (x := p2) rfl (List.mem_of_getElem? (i := 2) rfl) ?_
  obtain ⟨z1, hz1, h⟩ := bnd_some h
  refine EX.callV (b := 0) (as := [.int (p2)]) (rest := []) (r := some (.int (z1.1))) (hi1 := z1.2.1) (hl1 := z1.2.2) rfl rfl rfl rfl rfl rfl ((b_LW_lampsIn ev hz1).mono (by decide)) ?_
  show EX w0 ev 5 m_LW_glows 5 [(0, .ref 0), (1, .int (p1)), (2, .int (p2))] [.int (z1.1)] (z1.2.1) (z1.2.2) (oI o)
  refine EX.iload_n (x := p1) rfl (List.mem_of_getElem? (i := 1) rfl) ?_
  refine EX.go (i := .ishr) (len := 1) (pc1 := 7) (st1 := [.int (((z1.1 : Int32) >>> (p1 &&& 31)))]) (hi1 := z1.2.1) (hl1 := z1.2.2) rfl ?_ (fun _ _ _ => rfl)
  refine EX.iconst (v := 1) rfl rfl ?_
  refine EX.go (i := .iand) (len := 1) (pc1 := 9) (st1 := [.int (((((z1.1 : Int32) >>> (p1 &&& 31)) : Int32) &&& (1)))]) (hi1 := z1.2.1) (hl1 := z1.2.2) rfl ?_ (fun _ _ _ => rfl)
  rcases ite_some h with ⟨c2, h⟩ | ⟨c2, h⟩
  · refine EX.go (i := .ifCond .eq 7) (len := 3) (pc1 := 16) (st1 := []) (hi1 := z1.2.1) (hl1 := z1.2.2) rfl ?_ (fun _ _ _ => if_pos c2)
    refine EX.iconst (v := 0) rfl rfl ?_
    obtain rfl := Option.some.inj h
    exact EX.zret rfl rfl (Or.inl rfl)
  · refine EX.go (i := .ifCond .eq 7) (len := 3) (pc1 := 12) (st1 := []) (hi1 := z1.2.1) (hl1 := z1.2.2) rfl ?_ (fun _ _ _ => if_neg c2)
    refine EX.iconst (v := 1) rfl rfl ?_
    refine EX.go (i := .goto 4) (len := 3) (pc1 := 17) (st1 := [.int (1)]) (hi1 := z1.2.1) (hl1 := z1.2.2) rfl ?_ (fun _ _ _ => rfl)
    obtain rfl := Option.some.inj h
    exact EX.zret rfl rfl (Or.inr rfl)
def J_LW_ticksLit_44 (N : Nat) (v1 : Int32) (v2 : Int32) (v3 : Int32) (hi : HI) (hl : HL) : Option ((Int32 × Int32 × HI × HL) ⊕ (Int32 × HI × HL)) :=
  some (.inl (v2, v3 + 1, hi, hl))
set_option maxRecDepth 10000 in
set_option maxHeartbeats 4000000 in
theorem bJ_LW_ticksLit_44 (ev : EV) {N : Nat} {v1 : Int32} {v2 : Int32} {v3 : Int32} {hi : HI} {hl : HL} {z : (Int32 × Int32 × HI × HL) ⊕ (Int32 × HI × HL)} {OUT : Option Value × HI × HL} (h : J_LW_ticksLit_44 N v1 v2 v3 hi hl = some z) (hk : Sum.elim (fun s => EX w0 ev 6 m_LW_ticksLit 4 [(0, .ref 0), (1, .int (v1)), (2, .int (s.1)), (3, .int (s.2.1))] [] (s.2.2.1) (s.2.2.2) OUT) (fun x => EX w0 ev 6 m_LW_ticksLit 50 [(2, .int (x.1))] [] (x.2.1) (x.2.2) OUT) z) : EX w0 ev 6 m_LW_ticksLit 44 [(0, .ref 0), (1, .int (v1)), (2, .int (v2)), (3, .int (v3))] [] (hi) (hl) OUT := by
  unfold J_LW_ticksLit_44 at h
  refine EX.iinc (x := v3) (v := v3 + 1) (req1 := [(3, .int (v3 + 1)), (0, .ref 0), (1, .int (v1)), (2, .int (v2))]) rfl rfl (List.mem_of_getElem? (i := 3) rfl) rfl rfl ?_
  refine EX.go (i := .goto (-43)) (len := 3) (pc1 := 4) (st1 := []) (hi1 := hi) (hl1 := hl) rfl ?_ (fun _ _ _ => rfl)
  obtain rfl := Option.some.inj h
  have hk : EX w0 ev 6 m_LW_ticksLit 4 [(0, .ref 0), (1, .int (v1)), (2, .int (v2)), (3, .int (v3 + 1))] [] (hi) (hl) OUT := hk
  exact EX.pick [1, 2, 3, 0] hk rfl
def B_LW_ticksLit_4 (N : Nat) (v1 : Int32) (v2 : Int32) (v3 : Int32) (hi : HI) (hl : HL) : Option ((Int32 × Int32 × HI × HL) ⊕ (Int32 × HI × HL)) :=
  if (hi 47 0 : Int32) ≤ (v3 : Int32) then some (.inr (v2, hi, hl)) else if (v3 : Int32) < 0 ∨ 12 ≤ Int32.toNatClampNeg (v3) then none else (f_LW_glows N (v1) (hi 48 (Int32.toNatClampNeg (v3))) (hi) (hl)).bind fun z3 => if (z3.1 : Int32) = 0 then J_LW_ticksLit_44 N (v1) (v2) (v3) (z3.2.1) (z3.2.2) else if (v3 : Int32) < 0 ∨ 12 ≤ Int32.toNatClampNeg (v3) then none else J_LW_ticksLit_44 N (v1) ((v2 + (z3.2.1 49 (Int32.toNatClampNeg (v3))))) (v3) (z3.2.1) (z3.2.2)
set_option maxRecDepth 10000 in
set_option maxHeartbeats 4000000 in
theorem bB_LW_ticksLit_4 (ev : EV) {N : Nat} {v1 : Int32} {v2 : Int32} {v3 : Int32} {hi : HI} {hl : HL} {z : (Int32 × Int32 × HI × HL) ⊕ (Int32 × HI × HL)} {OUT : Option Value × HI × HL} (h : B_LW_ticksLit_4 N v1 v2 v3 hi hl = some z) (hk : Sum.elim (fun s => EX w0 ev 6 m_LW_ticksLit 4 [(0, .ref 0), (1, .int (v1)), (2, .int (s.1)), (3, .int (s.2.1))] [] (s.2.2.1) (s.2.2.2) OUT) (fun x => EX w0 ev 6 m_LW_ticksLit 50 [(2, .int (x.1))] [] (x.2.1) (x.2.2) OUT) z) : EX w0 ev 6 m_LW_ticksLit 4 [(0, .ref 0), (1, .int (v1)), (2, .int (v2)), (3, .int (v3))] [] (hi) (hl) OUT := by
  unfold B_LW_ticksLit_4 at h
  refine EX.iload_n (x := v3) rfl (List.mem_of_getElem? (i := 3) rfl) ?_
  refine EX.aload_n (x := 0) rfl (List.mem_of_getElem? (i := 0) rfl) ?_
  refine EX.go (i := .getfield 69) (len := 3) (pc1 := 9) (st1 := [.ref 47, .int (v3)]) (hi1 := hi) (hl1 := hl) rfl ?_ (fun _ _ _ => rfl)
  refine EX.go (i := .getfield 95) (len := 3) (pc1 := 12) (st1 := [.int (hi 47 0), .int (v3)]) (hi1 := hi) (hl1 := hl) rfl ?_ (fun _ _ _ => rfl)
  rcases ite_some h with ⟨c1, h⟩ | ⟨c1, h⟩
  · refine EX.go (i := .if_icmp .ge 38) (len := 3) (pc1 := 50) (st1 := []) (hi1 := hi) (hl1 := hl) rfl ?_ (fun _ _ _ => if_pos c1)
    obtain rfl := Option.some.inj h
    have hk : EX w0 ev 6 m_LW_ticksLit 50 [(2, .int (v2))] [] (hi) (hl) OUT := hk
    exact EX.pick [2] hk rfl
  · refine EX.go (i := .if_icmp .ge 38) (len := 3) (pc1 := 15) (st1 := []) (hi1 := hi) (hl1 := hl) rfl ?_ (fun _ _ _ => if_neg c1)
    refine EX.aload_n (x := 0) rfl (List.mem_of_getElem? (i := 0) rfl) ?_
    refine EX.iload_n (x := v1) rfl (List.mem_of_getElem? (i := 1) rfl) ?_
    refine EX.aload_n (x := 0) rfl (List.mem_of_getElem? (i := 0) rfl) ?_
    refine EX.go (i := .getfield 69) (len := 3) (pc1 := 21) (st1 := [.ref 47, .int (v1), .ref 0]) (hi1 := hi) (hl1 := hl) rfl ?_ (fun _ _ _ => rfl)
    refine EX.go (i := .getfield 252) (len := 3) (pc1 := 24) (st1 := [.ref 48, .int (v1), .ref 0]) (hi1 := hi) (hl1 := hl) rfl ?_ (fun _ _ _ => rfl)
    refine EX.iload_n (x := v3) rfl (List.mem_of_getElem? (i := 3) rfl) ?_
    obtain ⟨g2, h⟩ := grd_some h
    refine EX.iaload rfl rfl g2 ?_
    obtain ⟨z3, hz3, h⟩ := bnd_some h
    refine EX.callV (b := 0) (as := [.int (v1), .int (hi 48 (Int32.toNatClampNeg (v3)))]) (rest := []) (r := some (.int (z3.1))) (hi1 := z3.2.1) (hl1 := z3.2.2) rfl rfl rfl rfl rfl rfl ((b_LW_glows ev hz3).mono (by decide)) ?_
    show EX w0 ev 6 m_LW_ticksLit 29 [(0, .ref 0), (1, .int (v1)), (2, .int (v2)), (3, .int (v3))] [.int (z3.1)] (z3.2.1) (z3.2.2) OUT
    rcases ite_some h with ⟨c4, h⟩ | ⟨c4, h⟩
    · refine EX.go (i := .ifCond .eq 15) (len := 3) (pc1 := 44) (st1 := []) (hi1 := z3.2.1) (hl1 := z3.2.2) rfl ?_ (fun _ _ _ => if_pos c4)
      refine EX.pick [0, 1, 2, 3] ?_ rfl
      exact bJ_LW_ticksLit_44 ev h hk
    · refine EX.go (i := .ifCond .eq 15) (len := 3) (pc1 := 32) (st1 := []) (hi1 := z3.2.1) (hl1 := z3.2.2) rfl ?_ (fun _ _ _ => if_neg c4)
      refine EX.iload_n (x := v2) rfl (List.mem_of_getElem? (i := 2) rfl) ?_
      refine EX.aload_n (x := 0) rfl (List.mem_of_getElem? (i := 0) rfl) ?_
      refine EX.go (i := .getfield 69) (len := 3) (pc1 := 37) (st1 := [.ref 47, .int (v2)]) (hi1 := z3.2.1) (hl1 := z3.2.2) rfl ?_ (fun _ _ _ => rfl)
      refine EX.go (i := .getfield 255) (len := 3) (pc1 := 40) (st1 := [.ref 49, .int (v2)]) (hi1 := z3.2.1) (hl1 := z3.2.2) rfl ?_ (fun _ _ _ => rfl)
      refine EX.iload_n (x := v3) rfl (List.mem_of_getElem? (i := 3) rfl) ?_
      obtain ⟨g5, h⟩ := grd_some h
      refine EX.iaload rfl rfl g5 ?_
      refine EX.go (i := .iadd) (len := 1) (pc1 := 43) (st1 := [.int ((v2 + (z3.2.1 49 (Int32.toNatClampNeg (v3)))))]) (hi1 := z3.2.1) (hl1 := z3.2.2) rfl ?_ (fun _ _ _ => rfl)
      refine EX.istore_n (req1 := [(2, .int ((v2 + (z3.2.1 49 (Int32.toNatClampNeg (v3)))))), (0, .ref 0), (1, .int (v1)), (3, .int (v3))]) rfl rfl rfl ?_
      refine EX.pick [1, 2, 0, 3] ?_ rfl
      exact bJ_LW_ticksLit_44 ev h hk
def f_LW_ticksLit (N : Nat) (p1 : Int32) (hi : HI) (hl : HL) : Option (Int32 × HI × HL) :=
  (lpN (fun s => B_LW_ticksLit_4 N (p1) s.1 s.2.1 s.2.2.1 s.2.2.2) N (0, 0, hi, hl)).bind fun x6 => some (x6.1, x6.2.1, x6.2.2)
set_option maxRecDepth 10000 in
set_option maxHeartbeats 4000000 in
theorem b_LW_ticksLit (ev : EV) {N : Nat} {p1 : Int32} {hi : HI} {hl : HL} {o : Int32 × HI × HL} (h : f_LW_ticksLit N p1 hi hl = some o) : EM w0 ev 7 m_LW_ticksLit [.ref 0, .int (p1)] hi hl (oI o) := by
  unfold f_LW_ticksLit at h
  refine EM.of rfl ?_
  show EX w0 ev 6 m_LW_ticksLit 0 [(0, .ref 0), (1, .int (p1))] [] (hi) (hl) (oI o)
  refine EX.iconst (v := 0) rfl rfl ?_
  refine EX.istore_n (req1 := [(2, .int (0)), (0, .ref 0), (1, .int (p1))]) rfl rfl rfl ?_
  refine EX.iconst (v := 0) rfl rfl ?_
  refine EX.istore_n (req1 := [(3, .int (0)), (2, .int (0)), (0, .ref 0), (1, .int (p1))]) rfl rfl rfl ?_
  obtain ⟨x6, hx6, h⟩ := bnd_some h
  refine EX.pick [2, 3, 1, 0] ?_ rfl
  refine lp_sound (f := fun s => B_LW_ticksLit_4 N (p1) s.1 s.2.1 s.2.2.1 s.2.2.2) (PS := fun s => EX w0 ev 6 m_LW_ticksLit 4 [(0, .ref 0), (1, .int (p1)), (2, .int (s.1)), (3, .int (s.2.1))] [] (s.2.2.1) (s.2.2.2) (oI o)) (PX := fun x => EX w0 ev 6 m_LW_ticksLit 50 [(2, .int (x.1))] [] (x.2.1) (x.2.2) (oI o)) ?_ N _ x6 hx6 ?_
  · exact fun s z hz hk => bB_LW_ticksLit_4 ev hz hk
  show EX w0 ev 6 m_LW_ticksLit 50 [(2, .int (x6.1))] [] (x6.2.1) (x6.2.2) (oI o)
  refine EX.iload_n (x := x6.1) rfl (List.mem_of_getElem? (i := 0) rfl) ?_
  obtain rfl := Option.some.inj h
  exact EX.iret rfl rfl
def J_LW_ticksDark_84 (N : Nat) (v1 : Int32) (v2 : Int32) (v4 : Int32) (v5 : Int32) (v6 : Int32) (s0 : Int32) (hi : HI) (hl : HL) : Option ((Int32 × Int32 × Int32 × Int32 × HI × HL) ⊕ (Int32 × Int32 × Int32 × HI × HL)) :=
  some (.inl (v2, s0, (if (v4 : Int32) < (s0) then (s0) else (v4)), v6 + 1, hi, hl))
set_option maxRecDepth 10000 in
set_option maxHeartbeats 4000000 in
theorem bJ_LW_ticksDark_84 (ev : EV) {N : Nat} {v1 : Int32} {v2 : Int32} {v4 : Int32} {v5 : Int32} {v6 : Int32} {s0 : Int32} {hi : HI} {hl : HL} {z : (Int32 × Int32 × Int32 × Int32 × HI × HL) ⊕ (Int32 × Int32 × Int32 × HI × HL)} {OUT : Option Value × HI × HL} (h : J_LW_ticksDark_84 N v1 v2 v4 v5 v6 s0 hi hl = some z) (hk : Sum.elim (fun s => EX w0 ev 6 m_LW_ticksDark 19 [(0, .ref 0), (1, .int (v1)), (2, .int (s.1)), (3, .int (s.2.1)), (4, .int (s.2.2.1)), (5, .int (v5)), (6, .int (s.2.2.2.1))] [] (s.2.2.2.2.1) (s.2.2.2.2.2) OUT) (fun x => EX w0 ev 6 m_LW_ticksDark 99 [(0, .ref 0), (1, .int (v1)), (2, .int (x.1)), (3, .int (x.2.1)), (4, .int (x.2.2.1)), (5, .int (v5))] [] (x.2.2.2.1) (x.2.2.2.2) OUT) z) : EX w0 ev 6 m_LW_ticksDark 84 [(0, .ref 0), (1, .int (v1)), (2, .int (v2)), (4, .int (v4)), (5, .int (v5)), (6, .int (v6))] [.int (s0)] (hi) (hl) OUT := by
  unfold J_LW_ticksDark_84 at h
  refine EX.istore_n (req1 := [(3, .int (s0)), (0, .ref 0), (1, .int (v1)), (2, .int (v2)), (4, .int (v4)), (5, .int (v5)), (6, .int (v6))]) rfl rfl rfl ?_
  refine EX.iload (x := v4) rfl (List.mem_of_getElem? (i := 4) rfl) ?_
  refine EX.iload_n (x := s0) rfl (List.mem_of_getElem? (i := 0) rfl) ?_
  refine EX.mx (x := v4) (y := s0) (v := (if (v4 : Int32) < (s0) then (s0) else (v4))) rfl rfl rfl rfl rfl ?_
  refine EX.istore (req1 := [(4, .int ((if (v4 : Int32) < (s0) then (s0) else (v4)))), (3, .int (s0)), (0, .ref 0), (1, .int (v1)), (2, .int (v2)), (5, .int (v5)), (6, .int (v6))]) rfl rfl rfl ?_
  refine EX.iinc (x := v6) (v := v6 + 1) (req1 := [(6, .int (v6 + 1)), (4, .int ((if (v4 : Int32) < (s0) then (s0) else (v4)))), (3, .int (s0)), (0, .ref 0), (1, .int (v1)), (2, .int (v2)), (5, .int (v5))]) rfl rfl (List.mem_of_getElem? (i := 6) rfl) rfl rfl ?_
  refine EX.go (i := .goto (-77)) (len := 3) (pc1 := 19) (st1 := []) (hi1 := hi) (hl1 := hl) rfl ?_ (fun _ _ _ => rfl)
  obtain rfl := Option.some.inj h
  have hk : EX w0 ev 6 m_LW_ticksDark 19 [(0, .ref 0), (1, .int (v1)), (2, .int (v2)), (3, .int (s0)), (4, .int ((if (v4 : Int32) < (s0) then (s0) else (v4)))), (5, .int (v5)), (6, .int (v6 + 1))] [] (hi) (hl) OUT := hk
  exact EX.pick [3, 4, 5, 2, 1, 6, 0] hk rfl
def J_LW_ticksDark_62 (N : Nat) (v1 : Int32) (v3 : Int32) (v4 : Int32) (v5 : Int32) (v6 : Int32) (v7 : Int32) (s0 : Int32) (hi : HI) (hl : HL) : Option ((Int32 × Int32 × Int32 × Int32 × HI × HL) ⊕ (Int32 × Int32 × Int32 × HI × HL)) :=
  if (v7 : Int32) = 0 then if (v6 : Int32) < 0 ∨ 12 ≤ Int32.toNatClampNeg (v6) then none else J_LW_ticksDark_84 N (v1) (s0) (v4) (v5) (v6) ((v3 + (hi 49 (Int32.toNatClampNeg (v6))))) (hi) (hl) else J_LW_ticksDark_84 N (v1) (s0) (v4) (v5) (v6) (0) (hi) (hl)
set_option maxRecDepth 10000 in
set_option maxHeartbeats 4000000 in
theorem bJ_LW_ticksDark_62 (ev : EV) {N : Nat} {v1 : Int32} {v3 : Int32} {v4 : Int32} {v5 : Int32} {v6 : Int32} {v7 : Int32} {s0 : Int32} {hi : HI} {hl : HL} {z : (Int32 × Int32 × Int32 × Int32 × HI × HL) ⊕ (Int32 × Int32 × Int32 × HI × HL)} {OUT : Option Value × HI × HL} (h : J_LW_ticksDark_62 N v1 v3 v4 v5 v6 v7 s0 hi hl = some z) (hk : Sum.elim (fun s => EX w0 ev 6 m_LW_ticksDark 19 [(0, .ref 0), (1, .int (v1)), (2, .int (s.1)), (3, .int (s.2.1)), (4, .int (s.2.2.1)), (5, .int (v5)), (6, .int (s.2.2.2.1))] [] (s.2.2.2.2.1) (s.2.2.2.2.2) OUT) (fun x => EX w0 ev 6 m_LW_ticksDark 99 [(0, .ref 0), (1, .int (v1)), (2, .int (x.1)), (3, .int (x.2.1)), (4, .int (x.2.2.1)), (5, .int (v5))] [] (x.2.2.2.1) (x.2.2.2.2) OUT) z) : EX w0 ev 6 m_LW_ticksDark 62 [(0, .ref 0), (1, .int (v1)), (3, .int (v3)), (4, .int (v4)), (5, .int (v5)), (6, .int (v6)), (7, .int (v7))] [.int (s0)] (hi) (hl) OUT := by
  unfold J_LW_ticksDark_62 at h
  refine EX.istore_n (req1 := [(2, .int (s0)), (0, .ref 0), (1, .int (v1)), (3, .int (v3)), (4, .int (v4)), (5, .int (v5)), (6, .int (v6)), (7, .int (v7))]) rfl rfl rfl ?_
  refine EX.iload (x := v7) rfl (List.mem_of_getElem? (i := 7) rfl) ?_
  rcases ite_some h with ⟨c7, h⟩ | ⟨c7, h⟩
  · refine EX.go (i := .ifCond .eq 7) (len := 3) (pc1 := 72) (st1 := []) (hi1 := hi) (hl1 := hl) rfl ?_ (fun _ _ _ => if_pos c7)
    refine EX.iload_n (x := v3) rfl (List.mem_of_getElem? (i := 3) rfl) ?_
    refine EX.aload_n (x := 0) rfl (List.mem_of_getElem? (i := 1) rfl) ?_
    refine EX.go (i := .getfield 69) (len := 3) (pc1 := 77) (st1 := [.ref 47, .int (v3)]) (hi1 := hi) (hl1 := hl) rfl ?_ (fun _ _ _ => rfl)
    refine EX.go (i := .getfield 255) (len := 3) (pc1 := 80) (st1 := [.ref 49, .int (v3)]) (hi1 := hi) (hl1 := hl) rfl ?_ (fun _ _ _ => rfl)
    refine EX.iload (x := v6) rfl (List.mem_of_getElem? (i := 6) rfl) ?_
    obtain ⟨g8, h⟩ := grd_some h
    refine EX.iaload rfl rfl g8 ?_
    refine EX.go (i := .iadd) (len := 1) (pc1 := 84) (st1 := [.int ((v3 + (hi 49 (Int32.toNatClampNeg (v6)))))]) (hi1 := hi) (hl1 := hl) rfl ?_ (fun _ _ _ => rfl)
    refine EX.pick [1, 2, 0, 4, 5, 6] ?_ rfl
    exact bJ_LW_ticksDark_84 ev h hk
  · refine EX.go (i := .ifCond .eq 7) (len := 3) (pc1 := 68) (st1 := []) (hi1 := hi) (hl1 := hl) rfl ?_ (fun _ _ _ => if_neg c7)
    refine EX.iconst (v := 0) rfl rfl ?_
    refine EX.go (i := .goto 15) (len := 3) (pc1 := 84) (st1 := [.int (0)]) (hi1 := hi) (hl1 := hl) rfl ?_ (fun _ _ _ => rfl)
    refine EX.pick [1, 2, 0, 4, 5, 6] ?_ rfl
    exact bJ_LW_ticksDark_84 ev h hk
def J_LW_ticksDark_57 (N : Nat) (v1 : Int32) (v3 : Int32) (v4 : Int32) (v5 : Int32) (v6 : Int32) (v7 : Int32) (hi : HI) (hl : HL) : Option ((Int32 × Int32 × Int32 × Int32 × HI × HL) ⊕ (Int32 × Int32 × Int32 × HI × HL)) :=
  J_LW_ticksDark_62 N (v1) (v3) (v4) (v5) (v6) (v7) (1) (hi) (hl)
set_option maxRecDepth 10000 in
set_option maxHeartbeats 4000000 in
theorem bJ_LW_ticksDark_57 (ev : EV) {N : Nat} {v1 : Int32} {v3 : Int32} {v4 : Int32} {v5 : Int32} {v6 : Int32} {v7 : Int32} {hi : HI} {hl : HL} {z : (Int32 × Int32 × Int32 × Int32 × HI × HL) ⊕ (Int32 × Int32 × Int32 × HI × HL)} {OUT : Option Value × HI × HL} (h : J_LW_ticksDark_57 N v1 v3 v4 v5 v6 v7 hi hl = some z) (hk : Sum.elim (fun s => EX w0 ev 6 m_LW_ticksDark 19 [(0, .ref 0), (1, .int (v1)), (2, .int (s.1)), (3, .int (s.2.1)), (4, .int (s.2.2.1)), (5, .int (v5)), (6, .int (s.2.2.2.1))] [] (s.2.2.2.2.1) (s.2.2.2.2.2) OUT) (fun x => EX w0 ev 6 m_LW_ticksDark 99 [(0, .ref 0), (1, .int (v1)), (2, .int (x.1)), (3, .int (x.2.1)), (4, .int (x.2.2.1)), (5, .int (v5))] [] (x.2.2.2.1) (x.2.2.2.2) OUT) z) : EX w0 ev 6 m_LW_ticksDark 57 [(0, .ref 0), (1, .int (v1)), (3, .int (v3)), (4, .int (v4)), (5, .int (v5)), (6, .int (v6)), (7, .int (v7))] [] (hi) (hl) OUT := by
  unfold J_LW_ticksDark_57 at h
  refine EX.iconst (v := 1) rfl rfl ?_
  refine EX.go (i := .goto 4) (len := 3) (pc1 := 62) (st1 := [.int (1)]) (hi1 := hi) (hl1 := hl) rfl ?_ (fun _ _ _ => rfl)
  refine EX.pick [0, 1, 2, 3, 4, 5, 6] ?_ rfl
  exact bJ_LW_ticksDark_62 ev h hk
def B_LW_ticksDark_19 (N : Nat) (v1 : Int32) (v5 : Int32) (v2 : Int32) (v3 : Int32) (v4 : Int32) (v6 : Int32) (hi : HI) (hl : HL) : Option ((Int32 × Int32 × Int32 × Int32 × HI × HL) ⊕ (Int32 × Int32 × Int32 × HI × HL)) :=
  if (hi 47 0 : Int32) ≤ (v6 : Int32) then some (.inr (v2, v3, v4, hi, hl)) else if (v6 : Int32) < 0 ∨ 12 ≤ Int32.toNatClampNeg (v6) then none else (f_LW_glows N (v1) (hi 48 (Int32.toNatClampNeg (v6))) (hi) (hl)).bind fun z4 => if (v2 : Int32) = 0 then if (z4.1 : Int32) = 0 then J_LW_ticksDark_62 N (v1) (v3) (v4) (v5) (v6) (z4.1) (0) (z4.2.1) (z4.2.2) else J_LW_ticksDark_57 N (v1) (v3) (v4) (v5) (v6) (z4.1) (z4.2.1) (z4.2.2) else J_LW_ticksDark_57 N (v1) (v3) (v4) (v5) (v6) (z4.1) (z4.2.1) (z4.2.2)
set_option maxRecDepth 10000 in
set_option maxHeartbeats 4000000 in
theorem bB_LW_ticksDark_19 (ev : EV) {N : Nat} {v1 : Int32} {v5 : Int32} {v2 : Int32} {v3 : Int32} {v4 : Int32} {v6 : Int32} {hi : HI} {hl : HL} {z : (Int32 × Int32 × Int32 × Int32 × HI × HL) ⊕ (Int32 × Int32 × Int32 × HI × HL)} {OUT : Option Value × HI × HL} (h : B_LW_ticksDark_19 N v1 v5 v2 v3 v4 v6 hi hl = some z) (hk : Sum.elim (fun s => EX w0 ev 6 m_LW_ticksDark 19 [(0, .ref 0), (1, .int (v1)), (2, .int (s.1)), (3, .int (s.2.1)), (4, .int (s.2.2.1)), (5, .int (v5)), (6, .int (s.2.2.2.1))] [] (s.2.2.2.2.1) (s.2.2.2.2.2) OUT) (fun x => EX w0 ev 6 m_LW_ticksDark 99 [(0, .ref 0), (1, .int (v1)), (2, .int (x.1)), (3, .int (x.2.1)), (4, .int (x.2.2.1)), (5, .int (v5))] [] (x.2.2.2.1) (x.2.2.2.2) OUT) z) : EX w0 ev 6 m_LW_ticksDark 19 [(0, .ref 0), (1, .int (v1)), (2, .int (v2)), (3, .int (v3)), (4, .int (v4)), (5, .int (v5)), (6, .int (v6))] [] (hi) (hl) OUT := by
  unfold B_LW_ticksDark_19 at h
  refine EX.iload (x := v6) rfl (List.mem_of_getElem? (i := 6) rfl) ?_
  refine EX.aload_n (x := 0) rfl (List.mem_of_getElem? (i := 0) rfl) ?_
  refine EX.go (i := .getfield 69) (len := 3) (pc1 := 25) (st1 := [.ref 47, .int (v6)]) (hi1 := hi) (hl1 := hl) rfl ?_ (fun _ _ _ => rfl)
  refine EX.go (i := .getfield 95) (len := 3) (pc1 := 28) (st1 := [.int (hi 47 0), .int (v6)]) (hi1 := hi) (hl1 := hl) rfl ?_ (fun _ _ _ => rfl)
  rcases ite_some h with ⟨c2, h⟩ | ⟨c2, h⟩
  · refine EX.go (i := .if_icmp .ge 71) (len := 3) (pc1 := 99) (st1 := []) (hi1 := hi) (hl1 := hl) rfl ?_ (fun _ _ _ => if_pos c2)
    obtain rfl := Option.some.inj h
    have hk : EX w0 ev 6 m_LW_ticksDark 99 [(0, .ref 0), (1, .int (v1)), (2, .int (v2)), (3, .int (v3)), (4, .int (v4)), (5, .int (v5))] [] (hi) (hl) OUT := hk
    exact EX.pick [0, 1, 2, 3, 4, 5] hk rfl
  · refine EX.go (i := .if_icmp .ge 71) (len := 3) (pc1 := 31) (st1 := []) (hi1 := hi) (hl1 := hl) rfl ?_ (fun _ _ _ => if_neg c2)
    refine EX.aload_n (x := 0) rfl (List.mem_of_getElem? (i := 0) rfl) ?_
    refine EX.iload_n (x := v1) rfl (List.mem_of_getElem? (i := 1) rfl) ?_
    refine EX.aload_n (x := 0) rfl (List.mem_of_getElem? (i := 0) rfl) ?_
    refine EX.go (i := .getfield 69) (len := 3) (pc1 := 37) (st1 := [.ref 47, .int (v1), .ref 0]) (hi1 := hi) (hl1 := hl) rfl ?_ (fun _ _ _ => rfl)
    refine EX.go (i := .getfield 252) (len := 3) (pc1 := 40) (st1 := [.ref 48, .int (v1), .ref 0]) (hi1 := hi) (hl1 := hl) rfl ?_ (fun _ _ _ => rfl)
    refine EX.iload (x := v6) rfl (List.mem_of_getElem? (i := 6) rfl) ?_
    obtain ⟨g3, h⟩ := grd_some h
    refine EX.iaload rfl rfl g3 ?_
    obtain ⟨z4, hz4, h⟩ := bnd_some h
    refine EX.callV (b := 0) (as := [.int (v1), .int (hi 48 (Int32.toNatClampNeg (v6)))]) (rest := []) (r := some (.int (z4.1))) (hi1 := z4.2.1) (hl1 := z4.2.2) rfl rfl rfl rfl rfl rfl ((b_LW_glows ev hz4).mono (by decide)) ?_
    show EX w0 ev 6 m_LW_ticksDark 46 [(0, .ref 0), (1, .int (v1)), (2, .int (v2)), (3, .int (v3)), (4, .int (v4)), (5, .int (v5)), (6, .int (v6))] [.int (z4.1)] (z4.2.1) (z4.2.2) OUT
    refine EX.istore (req1 := [(7, .int (z4.1)), (0, .ref 0), (1, .int (v1)), (2, .int (v2)), (3, .int (v3)), (4, .int (v4)), (5, .int (v5)), (6, .int (v6))]) rfl rfl rfl ?_
    refine EX.iload_n (x := v2) rfl (List.mem_of_getElem? (i := 3) rfl) ?_
    rcases ite_some h with ⟨c5, h⟩ | ⟨c5, h⟩
    · refine EX.go (i := .ifCond .ne 8) (len := 3) (pc1 := 52) (st1 := []) (hi1 := z4.2.1) (hl1 := z4.2.2) rfl ?_ (fun _ _ _ => if_pos c5)
      refine EX.iload (x := z4.1) rfl (List.mem_of_getElem? (i := 0) rfl) ?_
      rcases ite_some h with ⟨c6, h⟩ | ⟨c6, h⟩
      · refine EX.go (i := .ifCond .eq 7) (len := 3) (pc1 := 61) (st1 := []) (hi1 := z4.2.1) (hl1 := z4.2.2) rfl ?_ (fun _ _ _ => if_pos c6)
        refine EX.iconst (v := 0) rfl rfl ?_
        refine EX.pick [1, 2, 4, 5, 6, 7, 0] ?_ rfl
        exact bJ_LW_ticksDark_62 ev h hk
      · refine EX.go (i := .ifCond .eq 7) (len := 3) (pc1 := 57) (st1 := []) (hi1 := z4.2.1) (hl1 := z4.2.2) rfl ?_ (fun _ _ _ => if_neg c6)
        refine EX.pick [1, 2, 4, 5, 6, 7, 0] ?_ rfl
        exact bJ_LW_ticksDark_57 ev h hk
    · refine EX.go (i := .ifCond .ne 8) (len := 3) (pc1 := 57) (st1 := []) (hi1 := z4.2.1) (hl1 := z4.2.2) rfl ?_ (fun _ _ _ => if_neg c5)
      refine EX.pick [1, 2, 4, 5, 6, 7, 0] ?_ rfl
      exact bJ_LW_ticksDark_57 ev h hk
def B_LW_ticksDark_10 (N : Nat) (v1 : Int32) (v2 : Int32) (v3 : Int32) (v4 : Int32) (v5 : Int32) (hi : HI) (hl : HL) : Option ((Int32 × Int32 × Int32 × Int32 × HI × HL) ⊕ (Int32 × Int32 × HI × HL)) :=
  if (2 : Int32) ≤ (v5 : Int32) then some (.inr (v2, v4, hi, hl)) else (lpN (fun s => B_LW_ticksDark_19 N (v1) (v5) s.1 s.2.1 s.2.2.1 s.2.2.2.1 s.2.2.2.2.1 s.2.2.2.2.2) N (v2, v3, v4, 0, hi, hl)).bind fun x9 => some (.inl (x9.1, x9.2.1, x9.2.2.1, v5 + 1, x9.2.2.2.1, x9.2.2.2.2))
set_option maxRecDepth 10000 in
set_option maxHeartbeats 4000000 in
theorem bB_LW_ticksDark_10 (ev : EV) {N : Nat} {v1 : Int32} {v2 : Int32} {v3 : Int32} {v4 : Int32} {v5 : Int32} {hi : HI} {hl : HL} {z : (Int32 × Int32 × Int32 × Int32 × HI × HL) ⊕ (Int32 × Int32 × HI × HL)} {OUT : Option Value × HI × HL} (h : B_LW_ticksDark_10 N v1 v2 v3 v4 v5 hi hl = some z) (hk : Sum.elim (fun s => EX w0 ev 6 m_LW_ticksDark 10 [(0, .ref 0), (1, .int (v1)), (2, .int (s.1)), (3, .int (s.2.1)), (4, .int (s.2.2.1)), (5, .int (s.2.2.2.1))] [] (s.2.2.2.2.1) (s.2.2.2.2.2) OUT) (fun x => EX w0 ev 6 m_LW_ticksDark 105 [(2, .int (x.1)), (4, .int (x.2.1))] [] (x.2.2.1) (x.2.2.2) OUT) z) : EX w0 ev 6 m_LW_ticksDark 10 [(0, .ref 0), (1, .int (v1)), (2, .int (v2)), (3, .int (v3)), (4, .int (v4)), (5, .int (v5))] [] (hi) (hl) OUT := by
  unfold B_LW_ticksDark_10 at h
  refine EX.iload (x := v5) rfl (List.mem_of_getElem? (i := 5) rfl) ?_
  refine EX.iconst (v := 2) rfl rfl ?_
  rcases ite_some h with ⟨c1, h⟩ | ⟨c1, h⟩
  · refine EX.go (i := .if_icmp .ge 92) (len := 3) (pc1 := 105) (st1 := []) (hi1 := hi) (hl1 := hl) rfl ?_ (fun _ _ _ => if_pos c1)
    obtain rfl := Option.some.inj h
    have hk : EX w0 ev 6 m_LW_ticksDark 105 [(2, .int (v2)), (4, .int (v4))] [] (hi) (hl) OUT := hk
    exact EX.pick [2, 4] hk rfl
  · refine EX.go (i := .if_icmp .ge 92) (len := 3) (pc1 := 16) (st1 := []) (hi1 := hi) (hl1 := hl) rfl ?_ (fun _ _ _ => if_neg c1)
    refine EX.iconst (v := 0) rfl rfl ?_
    refine EX.istore (req1 := [(6, .int (0)), (0, .ref 0), (1, .int (v1)), (2, .int (v2)), (3, .int (v3)), (4, .int (v4)), (5, .int (v5))]) rfl rfl rfl ?_
    obtain ⟨x9, hx9, h⟩ := bnd_some h
    refine EX.pick [1, 2, 3, 4, 5, 6, 0] ?_ rfl
    refine lp_sound (f := fun s => B_LW_ticksDark_19 N (v1) (v5) s.1 s.2.1 s.2.2.1 s.2.2.2.1 s.2.2.2.2.1 s.2.2.2.2.2) (PS := fun s => EX w0 ev 6 m_LW_ticksDark 19 [(0, .ref 0), (1, .int (v1)), (2, .int (s.1)), (3, .int (s.2.1)), (4, .int (s.2.2.1)), (5, .int (v5)), (6, .int (s.2.2.2.1))] [] (s.2.2.2.2.1) (s.2.2.2.2.2) OUT) (PX := fun x => EX w0 ev 6 m_LW_ticksDark 99 [(0, .ref 0), (1, .int (v1)), (2, .int (x.1)), (3, .int (x.2.1)), (4, .int (x.2.2.1)), (5, .int (v5))] [] (x.2.2.2.1) (x.2.2.2.2) OUT) ?_ N _ x9 hx9 ?_
    · exact fun s z hz hk => bB_LW_ticksDark_19 ev hz hk
    show EX w0 ev 6 m_LW_ticksDark 99 [(0, .ref 0), (1, .int (v1)), (2, .int (x9.1)), (3, .int (x9.2.1)), (4, .int (x9.2.2.1)), (5, .int (v5))] [] (x9.2.2.2.1) (x9.2.2.2.2) OUT
    refine EX.iinc (x := v5) (v := v5 + 1) (req1 := [(5, .int (v5 + 1)), (0, .ref 0), (1, .int (v1)), (2, .int (x9.1)), (3, .int (x9.2.1)), (4, .int (x9.2.2.1))]) rfl rfl (List.mem_of_getElem? (i := 5) rfl) rfl rfl ?_
    refine EX.go (i := .goto (-92)) (len := 3) (pc1 := 10) (st1 := []) (hi1 := x9.2.2.2.1) (hl1 := x9.2.2.2.2) rfl ?_ (fun _ _ _ => rfl)
    obtain rfl := Option.some.inj h
    have hk : EX w0 ev 6 m_LW_ticksDark 10 [(0, .ref 0), (1, .int (v1)), (2, .int (x9.1)), (3, .int (x9.2.1)), (4, .int (x9.2.2.1)), (5, .int (v5 + 1))] [] (x9.2.2.2.1) (x9.2.2.2.2) OUT := hk
    exact EX.pick [1, 2, 3, 4, 5, 0] hk rfl
def f_LW_ticksDark (N : Nat) (p1 : Int32) (hi : HI) (hl : HL) : Option (Int32 × HI × HL) :=
  (lpN (fun s => B_LW_ticksDark_10 N (p1) s.1 s.2.1 s.2.2.1 s.2.2.2.1 s.2.2.2.2.1 s.2.2.2.2.2) N (0, 0, 0, 0, hi, hl)).bind fun x10 => if (x10.1 : Int32) = 0 then some ((-4), x10.2.2.1, x10.2.2.2) else some (x10.2.1, x10.2.2.1, x10.2.2.2)
set_option maxRecDepth 10000 in
set_option maxHeartbeats 4000000 in
theorem b_LW_ticksDark (ev : EV) {N : Nat} {p1 : Int32} {hi : HI} {hl : HL} {o : Int32 × HI × HL} (h : f_LW_ticksDark N p1 hi hl = some o) : EM w0 ev 7 m_LW_ticksDark [.ref 0, .int (p1)] hi hl (oI o) := by
  unfold f_LW_ticksDark at h
  refine EM.of rfl ?_
  show EX w0 ev 6 m_LW_ticksDark 0 [(0, .ref 0), (1, .int (p1))] [] (hi) (hl) (oI o)
  refine EX.iconst (v := 0) rfl rfl ?_
  refine EX.istore_n (req1 := [(2, .int (0)), (0, .ref 0), (1, .int (p1))]) rfl rfl rfl ?_
  refine EX.iconst (v := 0) rfl rfl ?_
  refine EX.istore_n (req1 := [(3, .int (0)), (2, .int (0)), (0, .ref 0), (1, .int (p1))]) rfl rfl rfl ?_
  refine EX.iconst (v := 0) rfl rfl ?_
  refine EX.istore (req1 := [(4, .int (0)), (3, .int (0)), (2, .int (0)), (0, .ref 0), (1, .int (p1))]) rfl rfl rfl ?_
  refine EX.iconst (v := 0) rfl rfl ?_
  refine EX.istore (req1 := [(5, .int (0)), (4, .int (0)), (3, .int (0)), (2, .int (0)), (0, .ref 0), (1, .int (p1))]) rfl rfl rfl ?_
  obtain ⟨x10, hx10, h⟩ := bnd_some h
  refine EX.pick [4, 5, 3, 2, 1, 0] ?_ rfl
  refine lp_sound (f := fun s => B_LW_ticksDark_10 N (p1) s.1 s.2.1 s.2.2.1 s.2.2.2.1 s.2.2.2.2.1 s.2.2.2.2.2) (PS := fun s => EX w0 ev 6 m_LW_ticksDark 10 [(0, .ref 0), (1, .int (p1)), (2, .int (s.1)), (3, .int (s.2.1)), (4, .int (s.2.2.1)), (5, .int (s.2.2.2.1))] [] (s.2.2.2.2.1) (s.2.2.2.2.2) (oI o)) (PX := fun x => EX w0 ev 6 m_LW_ticksDark 105 [(2, .int (x.1)), (4, .int (x.2.1))] [] (x.2.2.1) (x.2.2.2) (oI o)) ?_ N _ x10 hx10 ?_
  · exact fun s z hz hk => bB_LW_ticksDark_10 ev hz hk
  show EX w0 ev 6 m_LW_ticksDark 105 [(2, .int (x10.1)), (4, .int (x10.2.1))] [] (x10.2.2.1) (x10.2.2.2) (oI o)
  refine EX.iload_n (x := x10.1) rfl (List.mem_of_getElem? (i := 0) rfl) ?_
  rcases ite_some h with ⟨c11, h⟩ | ⟨c11, h⟩
  · refine EX.go (i := .ifCond .eq 8) (len := 3) (pc1 := 114) (st1 := []) (hi1 := x10.2.2.1) (hl1 := x10.2.2.2) rfl ?_ (fun _ _ _ => if_pos c11)
    refine EX.bipush (v := (-4)) rfl rfl ?_
    obtain rfl := Option.some.inj h
    exact EX.iret rfl rfl
  · refine EX.go (i := .ifCond .eq 8) (len := 3) (pc1 := 109) (st1 := []) (hi1 := x10.2.2.1) (hl1 := x10.2.2.2) rfl ?_ (fun _ _ _ => if_neg c11)
    refine EX.iload (x := x10.2.1) rfl (List.mem_of_getElem? (i := 1) rfl) ?_
    refine EX.go (i := .goto 5) (len := 3) (pc1 := 116) (st1 := [.int (x10.2.1)]) (hi1 := x10.2.2.1) (hl1 := x10.2.2.2) rfl ?_ (fun _ _ _ => rfl)
    obtain rfl := Option.some.inj h
    exact EX.iret rfl rfl
def B_LW_gatherRoundLight_10 (N : Nat) (v1 : Int32) (hi : HI) (hl : HL) : Option ((Int32 × HI × HL) ⊕ (HI × HL)) :=
  if (hi 47 0 : Int32) ≤ (v1 : Int32) then some (.inr (hi, hl)) else if (v1 : Int32) < 0 ∨ 12 ≤ Int32.toNatClampNeg (v1) then none else if (v1 : Int32) < 0 ∨ 12 ≤ Int32.toNatClampNeg (v1) then none else (f_LW_addLight N (hi 48 (Int32.toNatClampNeg (v1))) (hi 49 (Int32.toNatClampNeg (v1))) (hi) (hl)).bind fun z5 => some (.inl (v1 + 1, z5.2.1, z5.2.2))
set_option maxRecDepth 10000 in
set_option maxHeartbeats 4000000 in
theorem bB_LW_gatherRoundLight_10 (ev : EV) {N : Nat} {v1 : Int32} {hi : HI} {hl : HL} {z : (Int32 × HI × HL) ⊕ (HI × HL)} {OUT : Option Value × HI × HL} (h : B_LW_gatherRoundLight_10 N v1 hi hl = some z) (hk : Sum.elim (fun s => EX w0 ev 6 m_LW_gatherRoundLight 10 [(0, .ref 0), (1, .int (s.1))] [] (s.2.1) (s.2.2) OUT) (fun x => EX w0 ev 6 m_LW_gatherRoundLight 49 [] [] (x.1) (x.2) OUT) z) : EX w0 ev 6 m_LW_gatherRoundLight 10 [(0, .ref 0), (1, .int (v1))] [] (hi) (hl) OUT := by
  unfold B_LW_gatherRoundLight_10 at h
  refine EX.iload_n (x := v1) rfl (List.mem_of_getElem? (i := 1) rfl) ?_
  refine EX.aload_n (x := 0) rfl (List.mem_of_getElem? (i := 0) rfl) ?_
  refine EX.go (i := .getfield 69) (len := 3) (pc1 := 15) (st1 := [.ref 47, .int (v1)]) (hi1 := hi) (hl1 := hl) rfl ?_ (fun _ _ _ => rfl)
  refine EX.go (i := .getfield 95) (len := 3) (pc1 := 18) (st1 := [.int (hi 47 0), .int (v1)]) (hi1 := hi) (hl1 := hl) rfl ?_ (fun _ _ _ => rfl)
  rcases ite_some h with ⟨c2, h⟩ | ⟨c2, h⟩
  · refine EX.go (i := .if_icmp .ge 31) (len := 3) (pc1 := 49) (st1 := []) (hi1 := hi) (hl1 := hl) rfl ?_ (fun _ _ _ => if_pos c2)
    obtain rfl := Option.some.inj h
    have hk : EX w0 ev 6 m_LW_gatherRoundLight 49 [] [] (hi) (hl) OUT := hk
    exact EX.pick [] hk rfl
  · refine EX.go (i := .if_icmp .ge 31) (len := 3) (pc1 := 21) (st1 := []) (hi1 := hi) (hl1 := hl) rfl ?_ (fun _ _ _ => if_neg c2)
    refine EX.aload_n (x := 0) rfl (List.mem_of_getElem? (i := 0) rfl) ?_
    refine EX.aload_n (x := 0) rfl (List.mem_of_getElem? (i := 0) rfl) ?_
    refine EX.go (i := .getfield 69) (len := 3) (pc1 := 26) (st1 := [.ref 47, .ref 0]) (hi1 := hi) (hl1 := hl) rfl ?_ (fun _ _ _ => rfl)
    refine EX.go (i := .getfield 252) (len := 3) (pc1 := 29) (st1 := [.ref 48, .ref 0]) (hi1 := hi) (hl1 := hl) rfl ?_ (fun _ _ _ => rfl)
    refine EX.iload_n (x := v1) rfl (List.mem_of_getElem? (i := 1) rfl) ?_
    obtain ⟨g3, h⟩ := grd_some h
    refine EX.iaload rfl rfl g3 ?_
    refine EX.aload_n (x := 0) rfl (List.mem_of_getElem? (i := 0) rfl) ?_
    refine EX.go (i := .getfield 69) (len := 3) (pc1 := 35) (st1 := [.ref 47, .int (hi 48 (Int32.toNatClampNeg (v1))), .ref 0]) (hi1 := hi) (hl1 := hl) rfl ?_ (fun _ _ _ => rfl)
    refine EX.go (i := .getfield 255) (len := 3) (pc1 := 38) (st1 := [.ref 49, .int (hi 48 (Int32.toNatClampNeg (v1))), .ref 0]) (hi1 := hi) (hl1 := hl) rfl ?_ (fun _ _ _ => rfl)
    refine EX.iload_n (x := v1) rfl (List.mem_of_getElem? (i := 1) rfl) ?_
    obtain ⟨g4, h⟩ := grd_some h
    refine EX.iaload rfl rfl g4 ?_
    obtain ⟨z5, hz5, h⟩ := bnd_some h
    refine EX.callV (b := 0) (as := [.int (hi 48 (Int32.toNatClampNeg (v1))), .int (hi 49 (Int32.toNatClampNeg (v1)))]) (rest := []) (r := none) (hi1 := z5.2.1) (hl1 := z5.2.2) rfl rfl rfl rfl rfl rfl ((b_LW_addLight ev hz5).mono (by decide)) ?_
    show EX w0 ev 6 m_LW_gatherRoundLight 43 [(0, .ref 0), (1, .int (v1))] [] (z5.2.1) (z5.2.2) OUT
    refine EX.iinc (x := v1) (v := v1 + 1) (req1 := [(1, .int (v1 + 1)), (0, .ref 0)]) rfl rfl (List.mem_of_getElem? (i := 1) rfl) rfl rfl ?_
    refine EX.go (i := .goto (-36)) (len := 3) (pc1 := 10) (st1 := []) (hi1 := z5.2.1) (hl1 := z5.2.2) rfl ?_ (fun _ _ _ => rfl)
    obtain rfl := Option.some.inj h
    have hk : EX w0 ev 6 m_LW_gatherRoundLight 10 [(0, .ref 0), (1, .int (v1 + 1))] [] (z5.2.1) (z5.2.2) OUT := hk
    exact EX.pick [1, 0] hk rfl
def f_LW_gatherRoundLight (N : Nat) (hi : HI) (hl : HL) : Option (Unit × HI × HL) :=
  (f_Arrays_fill_I N (42) (0) (hi) (hl)).bind fun z1 => (lpN (fun s => B_LW_gatherRoundLight_10 N s.1 s.2.1 s.2.2) N (0, z1.2.1, z1.2.2)).bind fun x6 => some ((), x6.1, x6.2)
set_option maxRecDepth 10000 in
set_option maxHeartbeats 4000000 in
theorem b_LW_gatherRoundLight (ev : EV) {N : Nat} {hi : HI} {hl : HL} {o : Unit × HI × HL} (h : f_LW_gatherRoundLight N hi hl = some o) : EM w0 ev 7 m_LW_gatherRoundLight [.ref 0] hi hl (oV o) := by
  unfold f_LW_gatherRoundLight at h
  refine EM.of rfl ?_
  show EX w0 ev 6 m_LW_gatherRoundLight 0 [(0, .ref 0)] [] (hi) (hl) (oV o)
  refine EX.aload_n (x := 0) rfl (List.mem_of_getElem? (i := 0) rfl) ?_
  refine EX.go (i := .getfield 55) (len := 3) (pc1 := 4) (st1 := [.ref 42]) (hi1 := hi) (hl1 := hl) rfl ?_ (fun _ _ _ => rfl)
  refine EX.iconst (v := 0) rfl rfl ?_
  obtain ⟨z1, hz1, h⟩ := bnd_some h
  refine EX.callS (as := [.ref 42, .int (0)]) (rest := []) (r := none) (hi1 := z1.2.1) (hl1 := z1.2.2) rfl rfl rfl rfl rfl rfl ((b_Arrays_fill_I ev hz1).mono (by decide)) ?_
  show EX w0 ev 6 m_LW_gatherRoundLight 8 [(0, .ref 0)] [] (z1.2.1) (z1.2.2) (oV o)
  refine EX.iconst (v := 0) rfl rfl ?_
  refine EX.istore_n (req1 := [(1, .int (0)), (0, .ref 0)]) rfl rfl rfl ?_
  obtain ⟨x6, hx6, h⟩ := bnd_some h
  refine EX.pick [1, 0] ?_ rfl
  refine lp_sound (f := fun s => B_LW_gatherRoundLight_10 N s.1 s.2.1 s.2.2) (PS := fun s => EX w0 ev 6 m_LW_gatherRoundLight 10 [(0, .ref 0), (1, .int (s.1))] [] (s.2.1) (s.2.2) (oV o)) (PX := fun x => EX w0 ev 6 m_LW_gatherRoundLight 49 [] [] (x.1) (x.2) (oV o)) ?_ N _ x6 hx6 ?_
  · exact fun s z hz hk => bB_LW_gatherRoundLight_10 ev hz hk
  show EX w0 ev 6 m_LW_gatherRoundLight 49 [] [] (x6.1) (x6.2) (oV o)
  obtain rfl := Option.some.inj h
  exact EX.vret rfl rfl
def f_LW_shows (N : Nat) (p1 : Int32) (p2 : Int32) (hi : HI) (hl : HL) : Option (Int32 × HI × HL) :=
  (f_Board_isLamp N (p1) (hi) (hl)).bind fun z1 => if (z1.1 : Int32) = 0 then some ((-1), z1.2.1, z1.2.2) else if (p2 : Int32) = 0 then (f_LW_ticksLit N (p1) (z1.2.1) (z1.2.2)).bind fun z4 => some (z4.1, z4.2.1, z4.2.2) else if (p2 : Int32) = 1 then (f_LW_ticksDark N (p1) (z1.2.1) (z1.2.2)).bind fun z6 => some (z6.1, z6.2.1, z6.2.2) else if (p2 : Int32) = 2 then (f_LW_gatherRoundLight N (z1.2.1) (z1.2.2)).bind fun z8 => if (p1 : Int32) < 0 ∨ 16 ≤ Int32.toNatClampNeg (p1) then none else (f_LW_fraction N (z8.2.1 42 (Int32.toNatClampNeg (p1))) ((p2 - (2))) (z8.2.1) (z8.2.2)).bind fun z10 => some (z10.1, z10.2.1, z10.2.2) else if (p2 : Int32) = 3 then (f_LW_gatherRoundLight N (z1.2.1) (z1.2.2)).bind fun z12 => if (p1 : Int32) < 0 ∨ 16 ≤ Int32.toNatClampNeg (p1) then none else (f_LW_fraction N (z12.2.1 42 (Int32.toNatClampNeg (p1))) ((p2 - (2))) (z12.2.1) (z12.2.2)).bind fun z14 => some (z14.1, z14.2.1, z14.2.2) else some ((-1), z1.2.1, z1.2.2)
set_option maxRecDepth 10000 in
set_option maxHeartbeats 4000000 in
theorem b_LW_shows (ev : EV) {N : Nat} {p1 : Int32} {p2 : Int32} {hi : HI} {hl : HL} {o : Int32 × HI × HL} (h : f_LW_shows N p1 p2 hi hl = some o) : EM w0 ev 8 m_LW_shows [.ref 0, .int (p1), .int (p2)] hi hl (oI o) := by
  unfold f_LW_shows at h
  refine EM.of rfl ?_
  show EX w0 ev 7 m_LW_shows 0 [(0, .ref 0), (1, .int (p1)), (2, .int (p2))] [] (hi) (hl) (oI o)
  refine EX.aload_n (x := 0) rfl (List.mem_of_getElem? (i := 0) rfl) ?_
  refine EX.go (i := .getfield 12) (len := 3) (pc1 := 4) (st1 := [.ref 1]) (hi1 := hi) (hl1 := hl) rfl ?_ (fun _ _ _ => rfl)
  refine EX.iload_n (x := p1) rfl (List.mem_of_getElem? (i := 1) rfl) ?_
  obtain ⟨z1, hz1, h⟩ := bnd_some h
  refine EX.callV (b := 1) (as := [.int (p1)]) (rest := []) (r := some (.int (z1.1))) (hi1 := z1.2.1) (hl1 := z1.2.2) rfl rfl rfl rfl rfl rfl ((b_Board_isLamp ev hz1).mono (by decide)) ?_
  show EX w0 ev 7 m_LW_shows 8 [(0, .ref 0), (1, .int (p1)), (2, .int (p2))] [.int (z1.1)] (z1.2.1) (z1.2.2) (oI o)
  rcases ite_some h with ⟨c2, h⟩ | ⟨c2, h⟩
  · refine EX.go (i := .ifCond .ne 5) (len := 3) (pc1 := 11) (st1 := []) (hi1 := z1.2.1) (hl1 := z1.2.2) rfl ?_ (fun _ _ _ => if_pos c2)
    refine EX.iconst (v := (-1)) rfl rfl ?_
    obtain rfl := Option.some.inj h
    exact EX.iret rfl rfl
  · refine EX.go (i := .ifCond .ne 5) (len := 3) (pc1 := 13) (st1 := []) (hi1 := z1.2.1) (hl1 := z1.2.2) rfl ?_ (fun _ _ _ => if_neg c2)
    refine EX.iload_n (x := p2) rfl (List.mem_of_getElem? (i := 2) rfl) ?_
    rcases ite_some h with ⟨c3, h⟩ | ⟨c3, h⟩
    · refine EX.tswI (x := p2) (k := 0) (pc1 := 44) rfl c3 (fun _ _ _ => rfl) ?_
      refine EX.aload_n (x := 0) rfl (List.mem_of_getElem? (i := 0) rfl) ?_
      refine EX.iload_n (x := p1) rfl (List.mem_of_getElem? (i := 1) rfl) ?_
      obtain ⟨z4, hz4, h⟩ := bnd_some h
      refine EX.callV (b := 0) (as := [.int (p1)]) (rest := []) (r := some (.int (z4.1))) (hi1 := z4.2.1) (hl1 := z4.2.2) rfl rfl rfl rfl rfl rfl ((b_LW_ticksLit ev hz4).mono (by decide)) ?_
      show EX w0 ev 7 m_LW_shows 49 [(0, .ref 0), (1, .int (p1)), (2, .int (p2))] [.int (z4.1)] (z4.2.1) (z4.2.2) (oI o)
      obtain rfl := Option.some.inj h
      exact EX.iret rfl rfl
    · rcases ite_some h with ⟨c5, h⟩ | ⟨c5, h⟩
      · refine EX.tswI (x := p2) (k := 1) (pc1 := 50) rfl c5 (fun _ _ _ => rfl) ?_
        refine EX.aload_n (x := 0) rfl (List.mem_of_getElem? (i := 0) rfl) ?_
        refine EX.iload_n (x := p1) rfl (List.mem_of_getElem? (i := 1) rfl) ?_
        obtain ⟨z6, hz6, h⟩ := bnd_some h
        refine EX.callV (b := 0) (as := [.int (p1)]) (rest := []) (r := some (.int (z6.1))) (hi1 := z6.2.1) (hl1 := z6.2.2) rfl rfl rfl rfl rfl rfl ((b_LW_ticksDark ev hz6).mono (by decide)) ?_
        show EX w0 ev 7 m_LW_shows 55 [(0, .ref 0), (1, .int (p1)), (2, .int (p2))] [.int (z6.1)] (z6.2.1) (z6.2.2) (oI o)
        obtain rfl := Option.some.inj h
        exact EX.iret rfl rfl
      · rcases ite_some h with ⟨c7, h⟩ | ⟨c7, h⟩
        · refine EX.tswI (x := p2) (k := 2) (pc1 := 56) rfl c7 (fun _ _ _ => rfl) ?_
          refine EX.aload_n (x := 0) rfl (List.mem_of_getElem? (i := 0) rfl) ?_
          obtain ⟨z8, hz8, h⟩ := bnd_some h
          refine EX.callV (b := 0) (as := []) (rest := []) (r := none) (hi1 := z8.2.1) (hl1 := z8.2.2) rfl rfl rfl rfl rfl rfl ((b_LW_gatherRoundLight ev hz8).mono (by decide)) ?_
          show EX w0 ev 7 m_LW_shows 60 [(0, .ref 0), (1, .int (p1)), (2, .int (p2))] [] (z8.2.1) (z8.2.2) (oI o)
          refine EX.aload_n (x := 0) rfl (List.mem_of_getElem? (i := 0) rfl) ?_
          refine EX.go (i := .getfield 55) (len := 3) (pc1 := 64) (st1 := [.ref 42]) (hi1 := z8.2.1) (hl1 := z8.2.2) rfl ?_ (fun _ _ _ => rfl)
          refine EX.iload_n (x := p1) rfl (List.mem_of_getElem? (i := 1) rfl) ?_
          obtain ⟨g9, h⟩ := grd_some h
          refine EX.iaload rfl rfl g9 ?_
          refine EX.iload_n (x := p2) rfl (List.mem_of_getElem? (i := 2) rfl) ?_
          refine EX.iconst (v := 2) rfl rfl ?_
          refine EX.go (i := .isub) (len := 1) (pc1 := 69) (st1 := [.int ((p2 - (2))), .int (z8.2.1 42 (Int32.toNatClampNeg (p1)))]) (hi1 := z8.2.1) (hl1 := z8.2.2) rfl ?_ (fun _ _ _ => rfl)
          obtain ⟨z10, hz10, h⟩ := bnd_some h
          refine EX.callS (as := [.int (z8.2.1 42 (Int32.toNatClampNeg (p1))), .int ((p2 - (2)))]) (rest := []) (r := some (.int (z10.1))) (hi1 := z10.2.1) (hl1 := z10.2.2) rfl rfl rfl rfl rfl rfl ((b_LW_fraction ev hz10).mono (by decide)) ?_
          show EX w0 ev 7 m_LW_shows 72 [(0, .ref 0), (1, .int (p1)), (2, .int (p2))] [.int (z10.1)] (z10.2.1) (z10.2.2) (oI o)
          obtain rfl := Option.some.inj h
          exact EX.iret rfl rfl
        · rcases ite_some h with ⟨c11, h⟩ | ⟨c11, h⟩
          · refine EX.tswI (x := p2) (k := 3) (pc1 := 56) rfl c11 (fun _ _ _ => rfl) ?_
            refine EX.aload_n (x := 0) rfl (List.mem_of_getElem? (i := 0) rfl) ?_
            obtain ⟨z12, hz12, h⟩ := bnd_some h
            refine EX.callV (b := 0) (as := []) (rest := []) (r := none) (hi1 := z12.2.1) (hl1 := z12.2.2) rfl rfl rfl rfl rfl rfl ((b_LW_gatherRoundLight ev hz12).mono (by decide)) ?_
            show EX w0 ev 7 m_LW_shows 60 [(0, .ref 0), (1, .int (p1)), (2, .int (p2))] [] (z12.2.1) (z12.2.2) (oI o)
            refine EX.aload_n (x := 0) rfl (List.mem_of_getElem? (i := 0) rfl) ?_
            refine EX.go (i := .getfield 55) (len := 3) (pc1 := 64) (st1 := [.ref 42]) (hi1 := z12.2.1) (hl1 := z12.2.2) rfl ?_ (fun _ _ _ => rfl)
            refine EX.iload_n (x := p1) rfl (List.mem_of_getElem? (i := 1) rfl) ?_
            obtain ⟨g13, h⟩ := grd_some h
            refine EX.iaload rfl rfl g13 ?_
            refine EX.iload_n (x := p2) rfl (List.mem_of_getElem? (i := 2) rfl) ?_
            refine EX.iconst (v := 2) rfl rfl ?_
            refine EX.go (i := .isub) (len := 1) (pc1 := 69) (st1 := [.int ((p2 - (2))), .int (z12.2.1 42 (Int32.toNatClampNeg (p1)))]) (hi1 := z12.2.1) (hl1 := z12.2.2) rfl ?_ (fun _ _ _ => rfl)
            obtain ⟨z14, hz14, h⟩ := bnd_some h
            refine EX.callS (as := [.int (z12.2.1 42 (Int32.toNatClampNeg (p1))), .int ((p2 - (2)))]) (rest := []) (r := some (.int (z14.1))) (hi1 := z14.2.1) (hl1 := z14.2.2) rfl rfl rfl rfl rfl rfl ((b_LW_fraction ev hz14).mono (by decide)) ?_
            show EX w0 ev 7 m_LW_shows 72 [(0, .ref 0), (1, .int (p1)), (2, .int (p2))] [.int (z14.1)] (z14.2.1) (z14.2.2) (oI o)
            obtain rfl := Option.some.inj h
            exact EX.iret rfl rfl
          · refine EX.tswO (x := p2) (pc1 := 73) rfl (by have e0 := lv_neT c3 (show (0 : Int32).toInt = 0 from rfl); have e1 := lv_neT c5 (show (1 : Int32).toInt = 1 from rfl); have e2 := lv_neT c7 (show (2 : Int32).toInt = 2 from rfl); have e3 := lv_neT c11 (show (3 : Int32).toInt = 3 from rfl); omega) rfl rfl ?_
            refine EX.iconst (v := (-1)) rfl rfl ?_
            obtain rfl := Option.some.inj h
            exact EX.iret rfl rfl
def f_LW_at (N : Nat) (p1 : Int32) (hi : HI) (hl : HL) : Option (Int32 × HI × HL) :=
  if (p1 : Int32) < 0 then some ((-1), hi, hl) else if (p1 : Int32) ≤ (9999 : Int32) then (f_Script_ticksBefore N (hi 47 0) (hi) (hl)).bind fun z3 => if (1 : Int32) ≤ (z3.1 : Int32) then if (z3.1 : Int32) = 0 then none else (f_Script_turnAt N (((p1 : Int32) - (p1 : Int32) / (z3.1) * (z3.1))) (z3.2.1) (z3.2.2)).bind fun z6 => (f_LW_lampsIn N (z6.1) (z6.2.1) (z6.2.2)).bind fun z7 => some (z7.1, z7.2.1, z7.2.2) else some ((-2), z3.2.1, z3.2.2) else some ((-1), hi, hl)
set_option maxRecDepth 10000 in
set_option maxHeartbeats 4000000 in
theorem b_LW_at (ev : EV) {N : Nat} {p1 : Int32} {hi : HI} {hl : HL} {o : Int32 × HI × HL} (h : f_LW_at N p1 hi hl = some o) : EM w0 ev 6 m_LW_at [.ref 0, .int (p1)] hi hl (oI o) := by
  unfold f_LW_at at h
  refine EM.of rfl ?_
  show EX w0 ev 5 m_LW_at 0 [(0, .ref 0), (1, .int (p1))] [] (hi) (hl) (oI o)
  refine EX.iload_n (x := p1) rfl (List.mem_of_getElem? (i := 1) rfl) ?_
  rcases ite_some h with ⟨c1, h⟩ | ⟨c1, h⟩
  · refine EX.go (i := .ifCond .lt 10) (len := 3) (pc1 := 11) (st1 := []) (hi1 := hi) (hl1 := hl) rfl ?_ (fun _ _ _ => if_pos c1)
    refine EX.iconst (v := (-1)) rfl rfl ?_
    obtain rfl := Option.some.inj h
    exact EX.iret rfl rfl
  · refine EX.go (i := .ifCond .lt 10) (len := 3) (pc1 := 4) (st1 := []) (hi1 := hi) (hl1 := hl) rfl ?_ (fun _ _ _ => if_neg c1)
    refine EX.iload_n (x := p1) rfl (List.mem_of_getElem? (i := 1) rfl) ?_
    refine EX.sipush (v := 9999) rfl rfl ?_
    rcases ite_some h with ⟨c2, h⟩ | ⟨c2, h⟩
    · refine EX.go (i := .if_icmp .le 5) (len := 3) (pc1 := 13) (st1 := []) (hi1 := hi) (hl1 := hl) rfl ?_ (fun _ _ _ => if_pos c2)
      refine EX.aload_n (x := 0) rfl (List.mem_of_getElem? (i := 0) rfl) ?_
      refine EX.go (i := .getfield 69) (len := 3) (pc1 := 17) (st1 := [.ref 47]) (hi1 := hi) (hl1 := hl) rfl ?_ (fun _ _ _ => rfl)
      refine EX.aload_n (x := 0) rfl (List.mem_of_getElem? (i := 0) rfl) ?_
      refine EX.go (i := .getfield 69) (len := 3) (pc1 := 21) (st1 := [.ref 47, .ref 47]) (hi1 := hi) (hl1 := hl) rfl ?_ (fun _ _ _ => rfl)
      refine EX.go (i := .getfield 95) (len := 3) (pc1 := 24) (st1 := [.int (hi 47 0), .ref 47]) (hi1 := hi) (hl1 := hl) rfl ?_ (fun _ _ _ => rfl)
      obtain ⟨z3, hz3, h⟩ := bnd_some h
      refine EX.callV (b := 47) (as := [.int (hi 47 0)]) (rest := []) (r := some (.int (z3.1))) (hi1 := z3.2.1) (hl1 := z3.2.2) rfl rfl rfl rfl rfl rfl ((b_Script_ticksBefore ev hz3).mono (by decide)) ?_
      show EX w0 ev 5 m_LW_at 27 [(0, .ref 0), (1, .int (p1))] [.int (z3.1)] (z3.2.1) (z3.2.2) (oI o)
      refine EX.istore_n (req1 := [(2, .int (z3.1)), (0, .ref 0), (1, .int (p1))]) rfl rfl rfl ?_
      refine EX.iload_n (x := z3.1) rfl (List.mem_of_getElem? (i := 0) rfl) ?_
      refine EX.iconst (v := 1) rfl rfl ?_
      rcases ite_some h with ⟨c4, h⟩ | ⟨c4, h⟩
      · refine EX.go (i := .if_icmp .ge 6) (len := 3) (pc1 := 36) (st1 := []) (hi1 := z3.2.1) (hl1 := z3.2.2) rfl ?_ (fun _ _ _ => if_pos c4)
        refine EX.aload_n (x := 0) rfl (List.mem_of_getElem? (i := 1) rfl) ?_
        refine EX.aload_n (x := 0) rfl (List.mem_of_getElem? (i := 1) rfl) ?_
        refine EX.go (i := .getfield 69) (len := 3) (pc1 := 41) (st1 := [.ref 47, .ref 0]) (hi1 := z3.2.1) (hl1 := z3.2.2) rfl ?_ (fun _ _ _ => rfl)
        refine EX.iload_n (x := p1) rfl (List.mem_of_getElem? (i := 2) rfl) ?_
        refine EX.iload_n (x := z3.1) rfl (List.mem_of_getElem? (i := 0) rfl) ?_
        obtain ⟨g5, h⟩ := grd_some h
        refine EX.go (i := .irem) (len := 1) (pc1 := 44) (st1 := [.int (((p1 : Int32) - (p1 : Int32) / (z3.1) * (z3.1))), .ref 47, .ref 0]) (hi1 := z3.2.1) (hl1 := z3.2.2) rfl ?_ (fun _ _ _ => if_neg g5)
        obtain ⟨z6, hz6, h⟩ := bnd_some h
        refine EX.callV (b := 47) (as := [.int (((p1 : Int32) - (p1 : Int32) / (z3.1) * (z3.1)))]) (rest := [.ref 0]) (r := some (.int (z6.1))) (hi1 := z6.2.1) (hl1 := z6.2.2) rfl rfl rfl rfl rfl rfl ((b_Script_turnAt ev hz6).mono (by decide)) ?_
        show EX w0 ev 5 m_LW_at 47 [(2, .int (z3.1)), (0, .ref 0), (1, .int (p1))] [.int (z6.1), .ref 0] (z6.2.1) (z6.2.2) (oI o)
        obtain ⟨z7, hz7, h⟩ := bnd_some h
        refine EX.callV (b := 0) (as := [.int (z6.1)]) (rest := []) (r := some (.int (z7.1))) (hi1 := z7.2.1) (hl1 := z7.2.2) rfl rfl rfl rfl rfl rfl ((b_LW_lampsIn ev hz7).mono (by decide)) ?_
        show EX w0 ev 5 m_LW_at 50 [(2, .int (z3.1)), (0, .ref 0), (1, .int (p1))] [.int (z7.1)] (z7.2.1) (z7.2.2) (oI o)
        obtain rfl := Option.some.inj h
        exact EX.iret rfl rfl
      · refine EX.go (i := .if_icmp .ge 6) (len := 3) (pc1 := 33) (st1 := []) (hi1 := z3.2.1) (hl1 := z3.2.2) rfl ?_ (fun _ _ _ => if_neg c4)
        refine EX.bipush (v := (-2)) rfl rfl ?_
        obtain rfl := Option.some.inj h
        exact EX.iret rfl rfl
    · refine EX.go (i := .if_icmp .le 5) (len := 3) (pc1 := 11) (st1 := []) (hi1 := hi) (hl1 := hl) rfl ?_ (fun _ _ _ => if_neg c2)
      refine EX.iconst (v := (-1)) rfl rfl ?_
      obtain rfl := Option.some.inj h
      exact EX.iret rfl rfl
def J_LW_seen_31 (N : Nat) (v1 : Int32) (v2 : Int32) (hi : HI) (hl : HL) : Option (Int32 × HI × HL) :=
  if (v1 : Int32) < 0 ∨ 12 ≤ Int32.toNatClampNeg (v1) then none else if (v1 : Int32) < 0 ∨ 12 ≤ Int32.toNatClampNeg (v1) then none else some (hi 50 (Int32.toNatClampNeg (v1)), wr (wr (hi) 50 (Int32.toNatClampNeg (v1)) (v2)) 51 0 (0), hl)
set_option maxRecDepth 10000 in
set_option maxHeartbeats 4000000 in
theorem bJ_LW_seen_31 (ev : EV) {N : Nat} {v1 : Int32} {v2 : Int32} {hi : HI} {hl : HL} {o : Int32 × HI × HL} (h : J_LW_seen_31 N v1 v2 hi hl = some o) : EX w0 ev 2 m_LW_seen 31 [(0, .ref 0), (1, .int (v1)), (2, .int (v2))] [] (hi) (hl) (oI o) := by
  unfold J_LW_seen_31 at h
  refine EX.aload_n (x := 0) rfl (List.mem_of_getElem? (i := 0) rfl) ?_
  refine EX.go (i := .getfield 69) (len := 3) (pc1 := 35) (st1 := [.ref 47]) (hi1 := hi) (hl1 := hl) rfl ?_ (fun _ _ _ => rfl)
  refine EX.go (i := .getfield 261) (len := 3) (pc1 := 38) (st1 := [.ref 50]) (hi1 := hi) (hl1 := hl) rfl ?_ (fun _ _ _ => rfl)
  refine EX.iload_n (x := v1) rfl (List.mem_of_getElem? (i := 1) rfl) ?_
  obtain ⟨g4, h⟩ := grd_some h
  refine EX.iaload rfl rfl g4 ?_
  refine EX.istore_n (req1 := [(3, .int (hi 50 (Int32.toNatClampNeg (v1)))), (0, .ref 0), (1, .int (v1)), (2, .int (v2))]) rfl rfl rfl ?_
  refine EX.aload_n (x := 0) rfl (List.mem_of_getElem? (i := 1) rfl) ?_
  refine EX.go (i := .getfield 69) (len := 3) (pc1 := 45) (st1 := [.ref 47]) (hi1 := hi) (hl1 := hl) rfl ?_ (fun _ _ _ => rfl)
  refine EX.go (i := .getfield 261) (len := 3) (pc1 := 48) (st1 := [.ref 50]) (hi1 := hi) (hl1 := hl) rfl ?_ (fun _ _ _ => rfl)
  refine EX.iload_n (x := v1) rfl (List.mem_of_getElem? (i := 2) rfl) ?_
  refine EX.iload_n (x := v2) rfl (List.mem_of_getElem? (i := 3) rfl) ?_
  obtain ⟨g5, h⟩ := grd_some h
  refine EX.iastore rfl rfl g5 ?_
  refine EX.aload_n (x := 0) rfl (List.mem_of_getElem? (i := 1) rfl) ?_
  refine EX.go (i := .getfield 76) (len := 3) (pc1 := 55) (st1 := [.ref 51]) (hi1 := wr (hi) 50 (Int32.toNatClampNeg (v1)) (v2)) (hl1 := hl) rfl ?_ (fun _ _ _ => rfl)
  refine EX.iconst (v := 0) rfl rfl ?_
  refine EX.go (i := .putfield 285) (len := 3) (pc1 := 59) (st1 := []) (hi1 := wr (wr (hi) 50 (Int32.toNatClampNeg (v1)) (v2)) 51 0 (0)) (hl1 := hl) rfl ?_ (fun _ _ _ => rfl)
  refine EX.iload_n (x := hi 50 (Int32.toNatClampNeg (v1))) rfl (List.mem_of_getElem? (i := 0) rfl) ?_
  obtain rfl := Option.some.inj h
  exact EX.iret rfl rfl
def f_LW_seen (N : Nat) (p1 : Int32) (p2 : Int32) (hi : HI) (hl : HL) : Option (Int32 × HI × HL) :=
  (f_Script_isLine N (p1) (hi) (hl)).bind fun z1 => if (z1.1 : Int32) = 0 then some ((-10), z1.2.1, z1.2.2) else if (p2 : Int32) = ((-4) : Int32) then J_LW_seen_31 N (p1) (p2) (z1.2.1) (z1.2.2) else (f_Board_isPicture N (p2) (z1.2.1) (z1.2.2)).bind fun z6 => if (z6.1 : Int32) = 0 then some ((-10), z6.2.1, z6.2.2) else J_LW_seen_31 N (p1) (p2) (z6.2.1) (z6.2.2)
set_option maxRecDepth 10000 in
set_option maxHeartbeats 4000000 in
theorem b_LW_seen (ev : EV) {N : Nat} {p1 : Int32} {p2 : Int32} {hi : HI} {hl : HL} {o : Int32 × HI × HL} (h : f_LW_seen N p1 p2 hi hl = some o) : EM w0 ev 3 m_LW_seen [.ref 0, .int (p1), .int (p2)] hi hl (oI o) := by
  unfold f_LW_seen at h
  refine EM.of rfl ?_
  show EX w0 ev 2 m_LW_seen 0 [(0, .ref 0), (1, .int (p1)), (2, .int (p2))] [] (hi) (hl) (oI o)
  refine EX.aload_n (x := 0) rfl (List.mem_of_getElem? (i := 0) rfl) ?_
  refine EX.go (i := .getfield 69) (len := 3) (pc1 := 4) (st1 := [.ref 47]) (hi1 := hi) (hl1 := hl) rfl ?_ (fun _ _ _ => rfl)
  refine EX.iload_n (x := p1) rfl (List.mem_of_getElem? (i := 1) rfl) ?_
  obtain ⟨z1, hz1, h⟩ := bnd_some h
  refine EX.callV (b := 47) (as := [.int (p1)]) (rest := []) (r := some (.int (z1.1))) (hi1 := z1.2.1) (hl1 := z1.2.2) rfl rfl rfl rfl rfl rfl ((b_Script_isLine ev hz1).mono (by decide)) ?_
  show EX w0 ev 2 m_LW_seen 8 [(0, .ref 0), (1, .int (p1)), (2, .int (p2))] [.int (z1.1)] (z1.2.1) (z1.2.2) (oI o)
  rcases ite_some h with ⟨c2, h⟩ | ⟨c2, h⟩
  · refine EX.go (i := .ifCond .eq 20) (len := 3) (pc1 := 28) (st1 := []) (hi1 := z1.2.1) (hl1 := z1.2.2) rfl ?_ (fun _ _ _ => if_pos c2)
    refine EX.bipush (v := (-10)) rfl rfl ?_
    obtain rfl := Option.some.inj h
    exact EX.iret rfl rfl
  · refine EX.go (i := .ifCond .eq 20) (len := 3) (pc1 := 11) (st1 := []) (hi1 := z1.2.1) (hl1 := z1.2.2) rfl ?_ (fun _ _ _ => if_neg c2)
    refine EX.iload_n (x := p2) rfl (List.mem_of_getElem? (i := 2) rfl) ?_
    refine EX.bipush (v := (-4)) rfl rfl ?_
    rcases ite_some h with ⟨c3, h⟩ | ⟨c3, h⟩
    · refine EX.go (i := .if_icmp .eq 17) (len := 3) (pc1 := 31) (st1 := []) (hi1 := z1.2.1) (hl1 := z1.2.2) rfl ?_ (fun _ _ _ => if_pos c3)
      refine EX.pick [0, 1, 2] ?_ rfl
      exact bJ_LW_seen_31 ev h
    · refine EX.go (i := .if_icmp .eq 17) (len := 3) (pc1 := 17) (st1 := []) (hi1 := z1.2.1) (hl1 := z1.2.2) rfl ?_ (fun _ _ _ => if_neg c3)
      refine EX.aload_n (x := 0) rfl (List.mem_of_getElem? (i := 0) rfl) ?_
      refine EX.go (i := .getfield 12) (len := 3) (pc1 := 21) (st1 := [.ref 1]) (hi1 := z1.2.1) (hl1 := z1.2.2) rfl ?_ (fun _ _ _ => rfl)
      refine EX.iload_n (x := p2) rfl (List.mem_of_getElem? (i := 2) rfl) ?_
      obtain ⟨z6, hz6, h⟩ := bnd_some h
      refine EX.callV (b := 1) (as := [.int (p2)]) (rest := []) (r := some (.int (z6.1))) (hi1 := z6.2.1) (hl1 := z6.2.2) rfl rfl rfl rfl rfl rfl ((b_Board_isPicture ev hz6).mono (by decide)) ?_
      show EX w0 ev 2 m_LW_seen 25 [(0, .ref 0), (1, .int (p1)), (2, .int (p2))] [.int (z6.1)] (z6.2.1) (z6.2.2) (oI o)
      rcases ite_some h with ⟨c7, h⟩ | ⟨c7, h⟩
      · refine EX.go (i := .ifCond .ne 6) (len := 3) (pc1 := 28) (st1 := []) (hi1 := z6.2.1) (hl1 := z6.2.2) rfl ?_ (fun _ _ _ => if_pos c7)
        refine EX.bipush (v := (-10)) rfl rfl ?_
        obtain rfl := Option.some.inj h
        exact EX.iret rfl rfl
      · refine EX.go (i := .ifCond .ne 6) (len := 3) (pc1 := 31) (st1 := []) (hi1 := z6.2.1) (hl1 := z6.2.2) rfl ?_ (fun _ _ _ => if_neg c7)
        refine EX.pick [0, 1, 2] ?_ rfl
        exact bJ_LW_seen_31 ev h
def J_LW_likely_85 (N : Nat) (v1 : Int32) (v2 : Int32) (hi : HI) (hl : HL) : Option (Int32 × HI × HL) :=
  if (v1 : Int32) < (2000 : Int32) then some ((-1), hi, hl) else if (3000 : Int32) ≤ (v1 : Int32) then some ((-1), hi, hl) else if (hi 51 2 : Int32) ≤ (v2 : Int32) then some ((-1), hi, hl) else if (v2 : Int32) < 0 ∨ 480 ≤ Int32.toNatClampNeg (v2) then none else some (hi 53 (Int32.toNatClampNeg (v2)), hi, hl)
set_option maxRecDepth 10000 in
set_option maxHeartbeats 4000000 in
theorem bJ_LW_likely_85 (ev : EV) {N : Nat} {v1 : Int32} {v2 : Int32} {hi : HI} {hl : HL} {o : Int32 × HI × HL} (h : J_LW_likely_85 N v1 v2 hi hl = some o) : EX w0 ev 7 m_LW_likely 85 [(0, .ref 0), (1, .int (v1)), (2, .int (v2))] [] (hi) (hl) (oI o) := by
  unfold J_LW_likely_85 at h
  refine EX.iload_n (x := v1) rfl (List.mem_of_getElem? (i := 1) rfl) ?_
  refine EX.sipush (v := 2000) rfl rfl ?_
  rcases ite_some h with ⟨c5, h⟩ | ⟨c5, h⟩
  · refine EX.go (i := .if_icmp .lt 31) (len := 3) (pc1 := 120) (st1 := []) (hi1 := hi) (hl1 := hl) rfl ?_ (fun _ _ _ => if_pos c5)
    refine EX.iconst (v := (-1)) rfl rfl ?_
    obtain rfl := Option.some.inj h
    exact EX.iret rfl rfl
  · refine EX.go (i := .if_icmp .lt 31) (len := 3) (pc1 := 92) (st1 := []) (hi1 := hi) (hl1 := hl) rfl ?_ (fun _ _ _ => if_neg c5)
    refine EX.iload_n (x := v1) rfl (List.mem_of_getElem? (i := 1) rfl) ?_
    refine EX.sipush (v := 3000) rfl rfl ?_
    rcases ite_some h with ⟨c6, h⟩ | ⟨c6, h⟩
    · refine EX.go (i := .if_icmp .ge 24) (len := 3) (pc1 := 120) (st1 := []) (hi1 := hi) (hl1 := hl) rfl ?_ (fun _ _ _ => if_pos c6)
      refine EX.iconst (v := (-1)) rfl rfl ?_
      obtain rfl := Option.some.inj h
      exact EX.iret rfl rfl
    · refine EX.go (i := .if_icmp .ge 24) (len := 3) (pc1 := 99) (st1 := []) (hi1 := hi) (hl1 := hl) rfl ?_ (fun _ _ _ => if_neg c6)
      refine EX.iload_n (x := v2) rfl (List.mem_of_getElem? (i := 2) rfl) ?_
      refine EX.aload_n (x := 0) rfl (List.mem_of_getElem? (i := 0) rfl) ?_
      refine EX.go (i := .getfield 76) (len := 3) (pc1 := 104) (st1 := [.ref 51, .int (v2)]) (hi1 := hi) (hl1 := hl) rfl ?_ (fun _ _ _ => rfl)
      refine EX.go (i := .getfield 295) (len := 3) (pc1 := 107) (st1 := [.int (hi 51 2), .int (v2)]) (hi1 := hi) (hl1 := hl) rfl ?_ (fun _ _ _ => rfl)
      rcases ite_some h with ⟨c7, h⟩ | ⟨c7, h⟩
      · refine EX.go (i := .if_icmp .ge 13) (len := 3) (pc1 := 120) (st1 := []) (hi1 := hi) (hl1 := hl) rfl ?_ (fun _ _ _ => if_pos c7)
        refine EX.iconst (v := (-1)) rfl rfl ?_
        obtain rfl := Option.some.inj h
        exact EX.iret rfl rfl
      · refine EX.go (i := .if_icmp .ge 13) (len := 3) (pc1 := 110) (st1 := []) (hi1 := hi) (hl1 := hl) rfl ?_ (fun _ _ _ => if_neg c7)
        refine EX.aload_n (x := 0) rfl (List.mem_of_getElem? (i := 0) rfl) ?_
        refine EX.go (i := .getfield 76) (len := 3) (pc1 := 114) (st1 := [.ref 51]) (hi1 := hi) (hl1 := hl) rfl ?_ (fun _ _ _ => rfl)
        refine EX.go (i := .getfield 301) (len := 3) (pc1 := 117) (st1 := [.ref 53]) (hi1 := hi) (hl1 := hl) rfl ?_ (fun _ _ _ => rfl)
        refine EX.iload_n (x := v2) rfl (List.mem_of_getElem? (i := 2) rfl) ?_
        obtain ⟨g8, h⟩ := grd_some h
        refine EX.iaload rfl rfl g8 ?_
        obtain rfl := Option.some.inj h
        exact EX.iret rfl rfl
def f_LW_likely (N : Nat) (p1 : Int32) (hi : HI) (hl : HL) : Option (Int32 × HI × HL) :=
  (f_Guesses_list N (hi) (hl)).bind fun z1 => if (p1 : Int32) = 0 then some (z1.2.1 51 1, z1.2.1, z1.2.2) else if (p1 : Int32) = (1 : Int32) then some (z1.2.1 51 2, z1.2.1, z1.2.2) else if (p1 : Int32) < (1000 : Int32) then J_LW_likely_85 N (p1) (((p1 : Int32) - (p1 : Int32) / (1000) * (1000))) (z1.2.1) (z1.2.2) else if (2000 : Int32) ≤ (p1 : Int32) then J_LW_likely_85 N (p1) (((p1 : Int32) - (p1 : Int32) / (1000) * (1000))) (z1.2.1) (z1.2.2) else if (z1.2.1 51 2 : Int32) ≤ (((p1 : Int32) - (p1 : Int32) / (1000) * (1000)) : Int32) then J_LW_likely_85 N (p1) (((p1 : Int32) - (p1 : Int32) / (1000) * (1000))) (z1.2.1) (z1.2.2) else if (((p1 : Int32) - (p1 : Int32) / (1000) * (1000)) : Int32) < 0 ∨ 480 ≤ Int32.toNatClampNeg (((p1 : Int32) - (p1 : Int32) / (1000) * (1000))) then none else some (z1.2.1 52 (Int32.toNatClampNeg (((p1 : Int32) - (p1 : Int32) / (1000) * (1000)))), z1.2.1, z1.2.2)
set_option maxRecDepth 10000 in
set_option maxHeartbeats 4000000 in
theorem b_LW_likely (ev : EV) {N : Nat} {p1 : Int32} {hi : HI} {hl : HL} {o : Int32 × HI × HL} (h : f_LW_likely N p1 hi hl = some o) : EM w0 ev 8 m_LW_likely [.ref 0, .int (p1)] hi hl (oI o) := by
  unfold f_LW_likely at h
  refine EM.of rfl ?_
  show EX w0 ev 7 m_LW_likely 0 [(0, .ref 0), (1, .int (p1))] [] (hi) (hl) (oI o)
  refine EX.aload_n (x := 0) rfl (List.mem_of_getElem? (i := 0) rfl) ?_
  refine EX.go (i := .getfield 76) (len := 3) (pc1 := 4) (st1 := [.ref 51]) (hi1 := hi) (hl1 := hl) rfl ?_ (fun _ _ _ => rfl)
  refine EX.aload_n (x := 0) rfl (List.mem_of_getElem? (i := 0) rfl) ?_
  refine EX.go (i := .getfield 12) (len := 3) (pc1 := 8) (st1 := [.ref 1, .ref 51]) (hi1 := hi) (hl1 := hl) rfl ?_ (fun _ _ _ => rfl)
  refine EX.aload_n (x := 0) rfl (List.mem_of_getElem? (i := 0) rfl) ?_
  refine EX.go (i := .getfield 19) (len := 3) (pc1 := 12) (st1 := [.ref 7, .ref 1, .ref 51]) (hi1 := hi) (hl1 := hl) rfl ?_ (fun _ _ _ => rfl)
  refine EX.aload_n (x := 0) rfl (List.mem_of_getElem? (i := 0) rfl) ?_
  refine EX.go (i := .getfield 69) (len := 3) (pc1 := 16) (st1 := [.ref 47, .ref 7, .ref 1, .ref 51]) (hi1 := hi) (hl1 := hl) rfl ?_ (fun _ _ _ => rfl)
  obtain ⟨z1, hz1, h⟩ := bnd_some h
  refine EX.callV (b := 51) (as := [.ref 1, .ref 7, .ref 47]) (rest := []) (r := none) (hi1 := z1.2.1) (hl1 := z1.2.2) rfl rfl rfl rfl rfl rfl ((b_Guesses_list ev hz1).mono (by decide)) ?_
  show EX w0 ev 7 m_LW_likely 19 [(0, .ref 0), (1, .int (p1))] [] (z1.2.1) (z1.2.2) (oI o)
  refine EX.iload_n (x := p1) rfl (List.mem_of_getElem? (i := 1) rfl) ?_
  rcases ite_some h with ⟨c2, h⟩ | ⟨c2, h⟩
  · refine EX.go (i := .ifCond .ne 11) (len := 3) (pc1 := 23) (st1 := []) (hi1 := z1.2.1) (hl1 := z1.2.2) rfl ?_ (fun _ _ _ => if_pos c2)
    refine EX.aload_n (x := 0) rfl (List.mem_of_getElem? (i := 0) rfl) ?_
    refine EX.go (i := .getfield 76) (len := 3) (pc1 := 27) (st1 := [.ref 51]) (hi1 := z1.2.1) (hl1 := z1.2.2) rfl ?_ (fun _ _ _ => rfl)
    refine EX.go (i := .getfield 292) (len := 3) (pc1 := 30) (st1 := [.int (z1.2.1 51 1)]) (hi1 := z1.2.1) (hl1 := z1.2.2) rfl ?_ (fun _ _ _ => rfl)
    obtain rfl := Option.some.inj h
    exact EX.iret rfl rfl
  · refine EX.go (i := .ifCond .ne 11) (len := 3) (pc1 := 31) (st1 := []) (hi1 := z1.2.1) (hl1 := z1.2.2) rfl ?_ (fun _ _ _ => if_neg c2)
    refine EX.iload_n (x := p1) rfl (List.mem_of_getElem? (i := 1) rfl) ?_
    refine EX.iconst (v := 1) rfl rfl ?_
    rcases ite_some h with ⟨c3, h⟩ | ⟨c3, h⟩
    · refine EX.go (i := .if_icmp .ne 11) (len := 3) (pc1 := 36) (st1 := []) (hi1 := z1.2.1) (hl1 := z1.2.2) rfl ?_ (fun _ _ _ => if_pos c3)
      refine EX.aload_n (x := 0) rfl (List.mem_of_getElem? (i := 0) rfl) ?_
      refine EX.go (i := .getfield 76) (len := 3) (pc1 := 40) (st1 := [.ref 51]) (hi1 := z1.2.1) (hl1 := z1.2.2) rfl ?_ (fun _ _ _ => rfl)
      refine EX.go (i := .getfield 295) (len := 3) (pc1 := 43) (st1 := [.int (z1.2.1 51 2)]) (hi1 := z1.2.1) (hl1 := z1.2.2) rfl ?_ (fun _ _ _ => rfl)
      obtain rfl := Option.some.inj h
      exact EX.iret rfl rfl
    · refine EX.go (i := .if_icmp .ne 11) (len := 3) (pc1 := 44) (st1 := []) (hi1 := z1.2.1) (hl1 := z1.2.2) rfl ?_ (fun _ _ _ => if_neg c3)
      refine EX.iload_n (x := p1) rfl (List.mem_of_getElem? (i := 1) rfl) ?_
      refine EX.sipush (v := 1000) rfl rfl ?_
      refine EX.go (i := .irem) (len := 1) (pc1 := 49) (st1 := [.int (((p1 : Int32) - (p1 : Int32) / (1000) * (1000)))]) (hi1 := z1.2.1) (hl1 := z1.2.2) rfl ?_ (fun _ _ _ => rfl)
      refine EX.istore_n (req1 := [(2, .int (((p1 : Int32) - (p1 : Int32) / (1000) * (1000)))), (0, .ref 0), (1, .int (p1))]) rfl rfl rfl ?_
      refine EX.iload_n (x := p1) rfl (List.mem_of_getElem? (i := 2) rfl) ?_
      refine EX.sipush (v := 1000) rfl rfl ?_
      rcases ite_some h with ⟨c4, h⟩ | ⟨c4, h⟩
      · refine EX.go (i := .if_icmp .lt 31) (len := 3) (pc1 := 85) (st1 := []) (hi1 := z1.2.1) (hl1 := z1.2.2) rfl ?_ (fun _ _ _ => if_pos c4)
        refine EX.pick [1, 2, 0] ?_ rfl
        exact bJ_LW_likely_85 ev h
      · refine EX.go (i := .if_icmp .lt 31) (len := 3) (pc1 := 57) (st1 := []) (hi1 := z1.2.1) (hl1 := z1.2.2) rfl ?_ (fun _ _ _ => if_neg c4)
        refine EX.iload_n (x := p1) rfl (List.mem_of_getElem? (i := 2) rfl) ?_
        refine EX.sipush (v := 2000) rfl rfl ?_
        rcases ite_some h with ⟨c9, h⟩ | ⟨c9, h⟩
        · refine EX.go (i := .if_icmp .ge 24) (len := 3) (pc1 := 85) (st1 := []) (hi1 := z1.2.1) (hl1 := z1.2.2) rfl ?_ (fun _ _ _ => if_pos c9)
          refine EX.pick [1, 2, 0] ?_ rfl
          exact bJ_LW_likely_85 ev h
        · refine EX.go (i := .if_icmp .ge 24) (len := 3) (pc1 := 64) (st1 := []) (hi1 := z1.2.1) (hl1 := z1.2.2) rfl ?_ (fun _ _ _ => if_neg c9)
          refine EX.iload_n (x := ((p1 : Int32) - (p1 : Int32) / (1000) * (1000))) rfl (List.mem_of_getElem? (i := 0) rfl) ?_
          refine EX.aload_n (x := 0) rfl (List.mem_of_getElem? (i := 1) rfl) ?_
          refine EX.go (i := .getfield 76) (len := 3) (pc1 := 69) (st1 := [.ref 51, .int (((p1 : Int32) - (p1 : Int32) / (1000) * (1000)))]) (hi1 := z1.2.1) (hl1 := z1.2.2) rfl ?_ (fun _ _ _ => rfl)
          refine EX.go (i := .getfield 295) (len := 3) (pc1 := 72) (st1 := [.int (z1.2.1 51 2), .int (((p1 : Int32) - (p1 : Int32) / (1000) * (1000)))]) (hi1 := z1.2.1) (hl1 := z1.2.2) rfl ?_ (fun _ _ _ => rfl)
          rcases ite_some h with ⟨c10, h⟩ | ⟨c10, h⟩
          · refine EX.go (i := .if_icmp .ge 13) (len := 3) (pc1 := 85) (st1 := []) (hi1 := z1.2.1) (hl1 := z1.2.2) rfl ?_ (fun _ _ _ => if_pos c10)
            refine EX.pick [1, 2, 0] ?_ rfl
            exact bJ_LW_likely_85 ev h
          · refine EX.go (i := .if_icmp .ge 13) (len := 3) (pc1 := 75) (st1 := []) (hi1 := z1.2.1) (hl1 := z1.2.2) rfl ?_ (fun _ _ _ => if_neg c10)
            refine EX.aload_n (x := 0) rfl (List.mem_of_getElem? (i := 1) rfl) ?_
            refine EX.go (i := .getfield 76) (len := 3) (pc1 := 79) (st1 := [.ref 51]) (hi1 := z1.2.1) (hl1 := z1.2.2) rfl ?_ (fun _ _ _ => rfl)
            refine EX.go (i := .getfield 298) (len := 3) (pc1 := 82) (st1 := [.ref 52]) (hi1 := z1.2.1) (hl1 := z1.2.2) rfl ?_ (fun _ _ _ => rfl)
            refine EX.iload_n (x := ((p1 : Int32) - (p1 : Int32) / (1000) * (1000))) rfl (List.mem_of_getElem? (i := 0) rfl) ?_
            obtain ⟨g11, h⟩ := grd_some h
            refine EX.iaload rfl rfl g11 ?_
            obtain rfl := Option.some.inj h
            exact EX.iret rfl rfl
def J_LW_tells_11 (N : Nat) (v1 : Int32) (hi : HI) (hl : HL) : Option (Int32 × HI × HL) :=
  (f_Guesses_weigh N (hi) (hl)).bind fun z2 => if (v1 : Int32) = 0 then some (z2.2.1 51 6, z2.2.1, z2.2.2) else some (z2.2.1 51 7, z2.2.1, z2.2.2)
set_option maxRecDepth 10000 in
set_option maxHeartbeats 4000000 in
theorem bJ_LW_tells_11 (ev : EV) {N : Nat} {v1 : Int32} {hi : HI} {hl : HL} {o : Int32 × HI × HL} (h : J_LW_tells_11 N v1 hi hl = some o) : EX w0 ev 6 m_LW_tells 11 [(0, .ref 0), (1, .int (v1))] [] (hi) (hl) (oI o) := by
  unfold J_LW_tells_11 at h
  refine EX.aload_n (x := 0) rfl (List.mem_of_getElem? (i := 0) rfl) ?_
  refine EX.go (i := .getfield 76) (len := 3) (pc1 := 15) (st1 := [.ref 51]) (hi1 := hi) (hl1 := hl) rfl ?_ (fun _ _ _ => rfl)
  refine EX.aload_n (x := 0) rfl (List.mem_of_getElem? (i := 0) rfl) ?_
  refine EX.go (i := .getfield 12) (len := 3) (pc1 := 19) (st1 := [.ref 1, .ref 51]) (hi1 := hi) (hl1 := hl) rfl ?_ (fun _ _ _ => rfl)
  refine EX.aload_n (x := 0) rfl (List.mem_of_getElem? (i := 0) rfl) ?_
  refine EX.go (i := .getfield 19) (len := 3) (pc1 := 23) (st1 := [.ref 7, .ref 1, .ref 51]) (hi1 := hi) (hl1 := hl) rfl ?_ (fun _ _ _ => rfl)
  refine EX.aload_n (x := 0) rfl (List.mem_of_getElem? (i := 0) rfl) ?_
  refine EX.go (i := .getfield 69) (len := 3) (pc1 := 27) (st1 := [.ref 47, .ref 7, .ref 1, .ref 51]) (hi1 := hi) (hl1 := hl) rfl ?_ (fun _ _ _ => rfl)
  obtain ⟨z2, hz2, h⟩ := bnd_some h
  refine EX.callV (b := 51) (as := [.ref 1, .ref 7, .ref 47]) (rest := []) (r := none) (hi1 := z2.2.1) (hl1 := z2.2.2) rfl rfl rfl rfl rfl rfl ((b_Guesses_weigh ev hz2).mono (by decide)) ?_
  show EX w0 ev 6 m_LW_tells 30 [(0, .ref 0), (1, .int (v1))] [] (z2.2.1) (z2.2.2) (oI o)
  refine EX.iload_n (x := v1) rfl (List.mem_of_getElem? (i := 1) rfl) ?_
  rcases ite_some h with ⟨c3, h⟩ | ⟨c3, h⟩
  · refine EX.go (i := .ifCond .ne 13) (len := 3) (pc1 := 34) (st1 := []) (hi1 := z2.2.1) (hl1 := z2.2.2) rfl ?_ (fun _ _ _ => if_pos c3)
    refine EX.aload_n (x := 0) rfl (List.mem_of_getElem? (i := 0) rfl) ?_
    refine EX.go (i := .getfield 76) (len := 3) (pc1 := 38) (st1 := [.ref 51]) (hi1 := z2.2.1) (hl1 := z2.2.2) rfl ?_ (fun _ _ _ => rfl)
    refine EX.go (i := .getfield 307) (len := 3) (pc1 := 41) (st1 := [.int (z2.2.1 51 6)]) (hi1 := z2.2.1) (hl1 := z2.2.2) rfl ?_ (fun _ _ _ => rfl)
    refine EX.go (i := .goto 10) (len := 3) (pc1 := 51) (st1 := [.int (z2.2.1 51 6)]) (hi1 := z2.2.1) (hl1 := z2.2.2) rfl ?_ (fun _ _ _ => rfl)
    obtain rfl := Option.some.inj h
    exact EX.iret rfl rfl
  · refine EX.go (i := .ifCond .ne 13) (len := 3) (pc1 := 44) (st1 := []) (hi1 := z2.2.1) (hl1 := z2.2.2) rfl ?_ (fun _ _ _ => if_neg c3)
    refine EX.aload_n (x := 0) rfl (List.mem_of_getElem? (i := 0) rfl) ?_
    refine EX.go (i := .getfield 76) (len := 3) (pc1 := 48) (st1 := [.ref 51]) (hi1 := z2.2.1) (hl1 := z2.2.2) rfl ?_ (fun _ _ _ => rfl)
    refine EX.go (i := .getfield 310) (len := 3) (pc1 := 51) (st1 := [.int (z2.2.1 51 7)]) (hi1 := z2.2.1) (hl1 := z2.2.2) rfl ?_ (fun _ _ _ => rfl)
    obtain rfl := Option.some.inj h
    exact EX.iret rfl rfl
def f_LW_tells (N : Nat) (p1 : Int32) (hi : HI) (hl : HL) : Option (Int32 × HI × HL) :=
  if (p1 : Int32) = 0 then J_LW_tells_11 N (p1) (hi) (hl) else if (p1 : Int32) = (1 : Int32) then J_LW_tells_11 N (p1) (hi) (hl) else some ((-1), hi, hl)
set_option maxRecDepth 10000 in
set_option maxHeartbeats 4000000 in
theorem b_LW_tells (ev : EV) {N : Nat} {p1 : Int32} {hi : HI} {hl : HL} {o : Int32 × HI × HL} (h : f_LW_tells N p1 hi hl = some o) : EM w0 ev 7 m_LW_tells [.ref 0, .int (p1)] hi hl (oI o) := by
  unfold f_LW_tells at h
  refine EM.of rfl ?_
  show EX w0 ev 6 m_LW_tells 0 [(0, .ref 0), (1, .int (p1))] [] (hi) (hl) (oI o)
  refine EX.iload_n (x := p1) rfl (List.mem_of_getElem? (i := 1) rfl) ?_
  rcases ite_some h with ⟨c1, h⟩ | ⟨c1, h⟩
  · refine EX.go (i := .ifCond .eq 10) (len := 3) (pc1 := 11) (st1 := []) (hi1 := hi) (hl1 := hl) rfl ?_ (fun _ _ _ => if_pos c1)
    refine EX.pick [0, 1] ?_ rfl
    exact bJ_LW_tells_11 ev h
  · refine EX.go (i := .ifCond .eq 10) (len := 3) (pc1 := 4) (st1 := []) (hi1 := hi) (hl1 := hl) rfl ?_ (fun _ _ _ => if_neg c1)
    refine EX.iload_n (x := p1) rfl (List.mem_of_getElem? (i := 1) rfl) ?_
    refine EX.iconst (v := 1) rfl rfl ?_
    rcases ite_some h with ⟨c4, h⟩ | ⟨c4, h⟩
    · refine EX.go (i := .if_icmp .eq 5) (len := 3) (pc1 := 11) (st1 := []) (hi1 := hi) (hl1 := hl) rfl ?_ (fun _ _ _ => if_pos c4)
      refine EX.pick [0, 1] ?_ rfl
      exact bJ_LW_tells_11 ev h
    · refine EX.go (i := .if_icmp .eq 5) (len := 3) (pc1 := 9) (st1 := []) (hi1 := hi) (hl1 := hl) rfl ?_ (fun _ _ _ => if_neg c4)
      refine EX.iconst (v := (-1)) rfl rfl ?_
      obtain rfl := Option.some.inj h
      exact EX.iret rfl rfl
def J_LW_would_58 (N : Nat) (v1 : Int32) (v2 : Int32) (v3 : Int32) (hi : HI) (hl : HL) : Option (Int32 × HI × HL) :=
  (f_Guesses_suppose N (v2) (v3) (hi) (hl)).bind fun z8 => (f_Ways_solve N (v1) (z8.2.1) (z8.2.2)).bind fun z9 => some (z9.2.1 7 1, z9.2.1, z9.2.2)
set_option maxRecDepth 10000 in
set_option maxHeartbeats 4000000 in
theorem bJ_LW_would_58 (ev : EV) {N : Nat} {v1 : Int32} {v2 : Int32} {v3 : Int32} {hi : HI} {hl : HL} {o : Int32 × HI × HL} (h : J_LW_would_58 N v1 v2 v3 hi hl = some o) : EX w0 ev 4 m_LW_would 58 [(0, .ref 0), (1, .int (v1)), (2, .int (v2)), (3, .int (v3))] [] (hi) (hl) (oI o) := by
  unfold J_LW_would_58 at h
  refine EX.aload_n (x := 0) rfl (List.mem_of_getElem? (i := 0) rfl) ?_
  refine EX.go (i := .getfield 76) (len := 3) (pc1 := 62) (st1 := [.ref 51]) (hi1 := hi) (hl1 := hl) rfl ?_ (fun _ _ _ => rfl)
  refine EX.aload_n (x := 0) rfl (List.mem_of_getElem? (i := 0) rfl) ?_
  refine EX.go (i := .getfield 12) (len := 3) (pc1 := 66) (st1 := [.ref 1, .ref 51]) (hi1 := hi) (hl1 := hl) rfl ?_ (fun _ _ _ => rfl)
  refine EX.aload_n (x := 0) rfl (List.mem_of_getElem? (i := 0) rfl) ?_
  refine EX.go (i := .getfield 19) (len := 3) (pc1 := 70) (st1 := [.ref 7, .ref 1, .ref 51]) (hi1 := hi) (hl1 := hl) rfl ?_ (fun _ _ _ => rfl)
  refine EX.iload_n (x := v2) rfl (List.mem_of_getElem? (i := 2) rfl) ?_
  refine EX.iload_n (x := v3) rfl (List.mem_of_getElem? (i := 3) rfl) ?_
  obtain ⟨z8, hz8, h⟩ := bnd_some h
  refine EX.callV (b := 51) (as := [.ref 1, .ref 7, .int (v2), .int (v3)]) (rest := []) (r := none) (hi1 := z8.2.1) (hl1 := z8.2.2) rfl rfl rfl rfl rfl rfl ((b_Guesses_suppose ev hz8).mono (by decide)) ?_
  show EX w0 ev 4 m_LW_would 75 [(0, .ref 0), (1, .int (v1)), (2, .int (v2)), (3, .int (v3))] [] (z8.2.1) (z8.2.2) (oI o)
  refine EX.aload_n (x := 0) rfl (List.mem_of_getElem? (i := 0) rfl) ?_
  refine EX.go (i := .getfield 19) (len := 3) (pc1 := 79) (st1 := [.ref 7]) (hi1 := z8.2.1) (hl1 := z8.2.2) rfl ?_ (fun _ _ _ => rfl)
  refine EX.iload_n (x := v1) rfl (List.mem_of_getElem? (i := 1) rfl) ?_
  obtain ⟨z9, hz9, h⟩ := bnd_some h
  refine EX.callV (b := 7) (as := [.int (v1)]) (rest := []) (r := none) (hi1 := z9.2.1) (hl1 := z9.2.2) rfl rfl rfl rfl rfl rfl ((b_Ways_solve ev hz9).mono (by decide)) ?_
  show EX w0 ev 4 m_LW_would 83 [(0, .ref 0), (1, .int (v1)), (2, .int (v2)), (3, .int (v3))] [] (z9.2.1) (z9.2.2) (oI o)
  refine EX.aload_n (x := 0) rfl (List.mem_of_getElem? (i := 0) rfl) ?_
  refine EX.go (i := .getfield 19) (len := 3) (pc1 := 87) (st1 := [.ref 7]) (hi1 := z9.2.1) (hl1 := z9.2.2) rfl ?_ (fun _ _ _ => rfl)
  refine EX.go (i := .getfield 323) (len := 3) (pc1 := 90) (st1 := [.int (z9.2.1 7 1)]) (hi1 := z9.2.1) (hl1 := z9.2.2) rfl ?_ (fun _ _ _ => rfl)
  obtain rfl := Option.some.inj h
  exact EX.iret rfl rfl
def f_LW_would (N : Nat) (p1 : Int32) (p2 : Int32) (p3 : Int32) (hi : HI) (hl : HL) : Option (Int32 × HI × HL) :=
  (f_Board_isTurn N (p1) (hi) (hl)).bind fun z1 => if (z1.1 : Int32) = 0 then some ((-1), z1.2.1, z1.2.2) else (f_Board_isFaultOrNone N (p2) (z1.2.1) (z1.2.2)).bind fun z3 => if (z3.1 : Int32) = 0 then some ((-1), z3.2.1, z3.2.2) else (f_Board_isFaultOrNone N (p3) (z3.2.1) (z3.2.2)).bind fun z5 => if (z5.1 : Int32) = 0 then some ((-1), z5.2.1, z5.2.2) else if (p2 : Int32) = ((-4) : Int32) then J_LW_would_58 N (p1) (p2) (p3) (z5.2.1) (z5.2.2) else if (p3 : Int32) = ((-4) : Int32) then J_LW_would_58 N (p1) (p2) (p3) (z5.2.1) (z5.2.2) else if (((p2 : Int32) / (2)) : Int32) = (((p3 : Int32) / (2)) : Int32) then some ((-1), z5.2.1, z5.2.2) else J_LW_would_58 N (p1) (p2) (p3) (z5.2.1) (z5.2.2)
set_option maxRecDepth 10000 in
set_option maxHeartbeats 4000000 in
theorem b_LW_would (ev : EV) {N : Nat} {p1 : Int32} {p2 : Int32} {p3 : Int32} {hi : HI} {hl : HL} {o : Int32 × HI × HL} (h : f_LW_would N p1 p2 p3 hi hl = some o) : EM w0 ev 5 m_LW_would [.ref 0, .int (p1), .int (p2), .int (p3)] hi hl (oI o) := by
  unfold f_LW_would at h
  refine EM.of rfl ?_
  show EX w0 ev 4 m_LW_would 0 [(0, .ref 0), (1, .int (p1)), (2, .int (p2)), (3, .int (p3))] [] (hi) (hl) (oI o)
  refine EX.aload_n (x := 0) rfl (List.mem_of_getElem? (i := 0) rfl) ?_
  refine EX.go (i := .getfield 12) (len := 3) (pc1 := 4) (st1 := [.ref 1]) (hi1 := hi) (hl1 := hl) rfl ?_ (fun _ _ _ => rfl)
  refine EX.iload_n (x := p1) rfl (List.mem_of_getElem? (i := 1) rfl) ?_
  obtain ⟨z1, hz1, h⟩ := bnd_some h
  refine EX.callV (b := 1) (as := [.int (p1)]) (rest := []) (r := some (.int (z1.1))) (hi1 := z1.2.1) (hl1 := z1.2.2) rfl rfl rfl rfl rfl rfl ((b_Board_isTurn ev hz1).mono (by decide)) ?_
  show EX w0 ev 4 m_LW_would 8 [(0, .ref 0), (1, .int (p1)), (2, .int (p2)), (3, .int (p3))] [.int (z1.1)] (z1.2.1) (z1.2.2) (oI o)
  rcases ite_some h with ⟨c2, h⟩ | ⟨c2, h⟩
  · refine EX.go (i := .ifCond .eq 25) (len := 3) (pc1 := 33) (st1 := []) (hi1 := z1.2.1) (hl1 := z1.2.2) rfl ?_ (fun _ _ _ => if_pos c2)
    refine EX.iconst (v := (-1)) rfl rfl ?_
    obtain rfl := Option.some.inj h
    exact EX.iret rfl rfl
  · refine EX.go (i := .ifCond .eq 25) (len := 3) (pc1 := 11) (st1 := []) (hi1 := z1.2.1) (hl1 := z1.2.2) rfl ?_ (fun _ _ _ => if_neg c2)
    refine EX.aload_n (x := 0) rfl (List.mem_of_getElem? (i := 0) rfl) ?_
    refine EX.go (i := .getfield 12) (len := 3) (pc1 := 15) (st1 := [.ref 1]) (hi1 := z1.2.1) (hl1 := z1.2.2) rfl ?_ (fun _ _ _ => rfl)
    refine EX.iload_n (x := p2) rfl (List.mem_of_getElem? (i := 2) rfl) ?_
    obtain ⟨z3, hz3, h⟩ := bnd_some h
    refine EX.callV (b := 1) (as := [.int (p2)]) (rest := []) (r := some (.int (z3.1))) (hi1 := z3.2.1) (hl1 := z3.2.2) rfl rfl rfl rfl rfl rfl ((b_Board_isFaultOrNone ev hz3).mono (by decide)) ?_
    show EX w0 ev 4 m_LW_would 19 [(0, .ref 0), (1, .int (p1)), (2, .int (p2)), (3, .int (p3))] [.int (z3.1)] (z3.2.1) (z3.2.2) (oI o)
    rcases ite_some h with ⟨c4, h⟩ | ⟨c4, h⟩
    · refine EX.go (i := .ifCond .eq 14) (len := 3) (pc1 := 33) (st1 := []) (hi1 := z3.2.1) (hl1 := z3.2.2) rfl ?_ (fun _ _ _ => if_pos c4)
      refine EX.iconst (v := (-1)) rfl rfl ?_
      obtain rfl := Option.some.inj h
      exact EX.iret rfl rfl
    · refine EX.go (i := .ifCond .eq 14) (len := 3) (pc1 := 22) (st1 := []) (hi1 := z3.2.1) (hl1 := z3.2.2) rfl ?_ (fun _ _ _ => if_neg c4)
      refine EX.aload_n (x := 0) rfl (List.mem_of_getElem? (i := 0) rfl) ?_
      refine EX.go (i := .getfield 12) (len := 3) (pc1 := 26) (st1 := [.ref 1]) (hi1 := z3.2.1) (hl1 := z3.2.2) rfl ?_ (fun _ _ _ => rfl)
      refine EX.iload_n (x := p3) rfl (List.mem_of_getElem? (i := 3) rfl) ?_
      obtain ⟨z5, hz5, h⟩ := bnd_some h
      refine EX.callV (b := 1) (as := [.int (p3)]) (rest := []) (r := some (.int (z5.1))) (hi1 := z5.2.1) (hl1 := z5.2.2) rfl rfl rfl rfl rfl rfl ((b_Board_isFaultOrNone ev hz5).mono (by decide)) ?_
      show EX w0 ev 4 m_LW_would 30 [(0, .ref 0), (1, .int (p1)), (2, .int (p2)), (3, .int (p3))] [.int (z5.1)] (z5.2.1) (z5.2.2) (oI o)
      rcases ite_some h with ⟨c6, h⟩ | ⟨c6, h⟩
      · refine EX.go (i := .ifCond .ne 5) (len := 3) (pc1 := 33) (st1 := []) (hi1 := z5.2.1) (hl1 := z5.2.2) rfl ?_ (fun _ _ _ => if_pos c6)
        refine EX.iconst (v := (-1)) rfl rfl ?_
        obtain rfl := Option.some.inj h
        exact EX.iret rfl rfl
      · refine EX.go (i := .ifCond .ne 5) (len := 3) (pc1 := 35) (st1 := []) (hi1 := z5.2.1) (hl1 := z5.2.2) rfl ?_ (fun _ _ _ => if_neg c6)
        refine EX.iload_n (x := p2) rfl (List.mem_of_getElem? (i := 2) rfl) ?_
        refine EX.bipush (v := (-4)) rfl rfl ?_
        rcases ite_some h with ⟨c7, h⟩ | ⟨c7, h⟩
        · refine EX.go (i := .if_icmp .eq 20) (len := 3) (pc1 := 58) (st1 := []) (hi1 := z5.2.1) (hl1 := z5.2.2) rfl ?_ (fun _ _ _ => if_pos c7)
          refine EX.pick [0, 1, 2, 3] ?_ rfl
          exact bJ_LW_would_58 ev h
        · refine EX.go (i := .if_icmp .eq 20) (len := 3) (pc1 := 41) (st1 := []) (hi1 := z5.2.1) (hl1 := z5.2.2) rfl ?_ (fun _ _ _ => if_neg c7)
          refine EX.iload_n (x := p3) rfl (List.mem_of_getElem? (i := 3) rfl) ?_
          refine EX.bipush (v := (-4)) rfl rfl ?_
          rcases ite_some h with ⟨c10, h⟩ | ⟨c10, h⟩
          · refine EX.go (i := .if_icmp .eq 14) (len := 3) (pc1 := 58) (st1 := []) (hi1 := z5.2.1) (hl1 := z5.2.2) rfl ?_ (fun _ _ _ => if_pos c10)
            refine EX.pick [0, 1, 2, 3] ?_ rfl
            exact bJ_LW_would_58 ev h
          · refine EX.go (i := .if_icmp .eq 14) (len := 3) (pc1 := 47) (st1 := []) (hi1 := z5.2.1) (hl1 := z5.2.2) rfl ?_ (fun _ _ _ => if_neg c10)
            refine EX.iload_n (x := p2) rfl (List.mem_of_getElem? (i := 2) rfl) ?_
            refine EX.iconst (v := 2) rfl rfl ?_
            refine EX.go (i := .idiv) (len := 1) (pc1 := 50) (st1 := [.int (((p2 : Int32) / (2)))]) (hi1 := z5.2.1) (hl1 := z5.2.2) rfl ?_ (fun _ _ _ => rfl)
            refine EX.iload_n (x := p3) rfl (List.mem_of_getElem? (i := 3) rfl) ?_
            refine EX.iconst (v := 2) rfl rfl ?_
            refine EX.go (i := .idiv) (len := 1) (pc1 := 53) (st1 := [.int (((p3 : Int32) / (2))), .int (((p2 : Int32) / (2)))]) (hi1 := z5.2.1) (hl1 := z5.2.2) rfl ?_ (fun _ _ _ => rfl)
            rcases ite_some h with ⟨c11, h⟩ | ⟨c11, h⟩
            · refine EX.go (i := .if_icmp .ne 5) (len := 3) (pc1 := 56) (st1 := []) (hi1 := z5.2.1) (hl1 := z5.2.2) rfl ?_ (fun _ _ _ => if_pos c11)
              refine EX.iconst (v := (-1)) rfl rfl ?_
              obtain rfl := Option.some.inj h
              exact EX.iret rfl rfl
            · refine EX.go (i := .if_icmp .ne 5) (len := 3) (pc1 := 58) (st1 := []) (hi1 := z5.2.1) (hl1 := z5.2.2) rfl ?_ (fun _ _ _ => if_neg c11)
              refine EX.pick [0, 1, 2, 3] ?_ rfl
              exact bJ_LW_would_58 ev h
def J_LW_isSheet_13 (N : Nat) (hi : HI) (hl : HL) : Option (Int32 × HI × HL) :=
  some (0, hi, hl)
set_option maxRecDepth 10000 in
set_option maxHeartbeats 4000000 in
theorem bJ_LW_isSheet_13 (ev : EV) {N : Nat} {hi : HI} {hl : HL} {o : Int32 × HI × HL} (h : J_LW_isSheet_13 N hi hl = some o) : EX w0 ev 0 m_LW_isSheet 13 [] [] (hi) (hl) (oI o) := by
  unfold J_LW_isSheet_13 at h
  refine EX.iconst (v := 0) rfl rfl ?_
  obtain rfl := Option.some.inj h
  exact EX.zret rfl rfl (Or.inl rfl)
def f_LW_isSheet (N : Nat) (p0 : Int32) (hi : HI) (hl : HL) : Option (Int32 × HI × HL) :=
  if (p0 : Int32) < 0 then J_LW_isSheet_13 N (hi) (hl) else if (4 : Int32) ≤ (p0 : Int32) then J_LW_isSheet_13 N (hi) (hl) else some (1, hi, hl)
set_option maxRecDepth 10000 in
set_option maxHeartbeats 4000000 in
theorem b_LW_isSheet (ev : EV) {N : Nat} {p0 : Int32} {hi : HI} {hl : HL} {o : Int32 × HI × HL} (h : f_LW_isSheet N p0 hi hl = some o) : EM w0 ev 1 m_LW_isSheet [.int (p0)] hi hl (oI o) := by
  unfold f_LW_isSheet at h
  refine EM.of rfl ?_
  show EX w0 ev 0 m_LW_isSheet 0 [(0, .int (p0))] [] (hi) (hl) (oI o)
  refine EX.iload_n (x := p0) rfl (List.mem_of_getElem? (i := 0) rfl) ?_
  rcases ite_some h with ⟨c1, h⟩ | ⟨c1, h⟩
  · refine EX.go (i := .ifCond .lt 12) (len := 3) (pc1 := 13) (st1 := []) (hi1 := hi) (hl1 := hl) rfl ?_ (fun _ _ _ => if_pos c1)
    refine EX.pick [] ?_ rfl
    exact bJ_LW_isSheet_13 ev h
  · refine EX.go (i := .ifCond .lt 12) (len := 3) (pc1 := 4) (st1 := []) (hi1 := hi) (hl1 := hl) rfl ?_ (fun _ _ _ => if_neg c1)
    refine EX.iload_n (x := p0) rfl (List.mem_of_getElem? (i := 0) rfl) ?_
    refine EX.iconst (v := 4) rfl rfl ?_
    rcases ite_some h with ⟨c2, h⟩ | ⟨c2, h⟩
    · refine EX.go (i := .if_icmp .ge 7) (len := 3) (pc1 := 13) (st1 := []) (hi1 := hi) (hl1 := hl) rfl ?_ (fun _ _ _ => if_pos c2)
      refine EX.pick [] ?_ rfl
      exact bJ_LW_isSheet_13 ev h
    · refine EX.go (i := .if_icmp .ge 7) (len := 3) (pc1 := 9) (st1 := []) (hi1 := hi) (hl1 := hl) rfl ?_ (fun _ _ _ => if_neg c2)
      refine EX.iconst (v := 1) rfl rfl ?_
      refine EX.go (i := .goto 4) (len := 3) (pc1 := 14) (st1 := [.int (1)]) (hi1 := hi) (hl1 := hl) rfl ?_ (fun _ _ _ => rfl)
      obtain rfl := Option.some.inj h
      exact EX.zret rfl rfl (Or.inr rfl)
