/-! methods as functions -/
def B_MD_plan_56 (N : Nat) (v1 : Int32) (v2 : Int32) (v3 : Int32) (v4 : Int32) (hi : HI) (hl : HL) : Option ((Int32 × Int32 × Int32 × HI × HL) ⊕ (Int32 × Int32 × HI × HL)) :=
  if (4 : Int32) ≤ (v4 : Int32) then some (.inr (v2, v3, hi, hl)) else (f_MD_planeOf N (v4) (hi) (hl)).bind fun z8 => (f_MD_frameOf N (z8.1) (z8.2.1) (z8.2.2)).bind fun z9 => some (.inl ((v2 + (((z9.1 : Int32) <<< (v4 &&& 31)))), (v3 + (z9.1)), v4 + 1, z9.2.1, z9.2.2))
set_option maxRecDepth 10000 in
set_option maxHeartbeats 4000000 in
theorem bB_MD_plan_56 (ev : EV) {N : Nat} {v1 : Int32} {v2 : Int32} {v3 : Int32} {v4 : Int32} {hi : HI} {hl : HL} {z : (Int32 × Int32 × Int32 × HI × HL) ⊕ (Int32 × Int32 × HI × HL)} {OUT : Option Value × HI × HL} (h : B_MD_plan_56 N v1 v2 v3 v4 hi hl = some z) (hk : Sum.elim (fun s => EX w0 ev 5 m_MD_plan 56 [(0, .ref 65), (1, .int (v1)), (2, .int (s.1)), (3, .int (s.2.1)), (4, .int (s.2.2.1))] [] (s.2.2.2.1) (s.2.2.2.2) OUT) (fun x => EX w0 ev 5 m_MD_plan 93 [(1, .int (v1)), (2, .int (x.1)), (3, .int (x.2.1))] [] (x.2.2.1) (x.2.2.2) OUT) z) : EX w0 ev 5 m_MD_plan 56 [(0, .ref 65), (1, .int (v1)), (2, .int (v2)), (3, .int (v3)), (4, .int (v4))] [] (hi) (hl) OUT := by
  unfold B_MD_plan_56 at h
  refine EX.iload (x := v4) rfl (List.mem_of_getElem? (i := 4) rfl) ?_
  refine EX.iconst (v := 4) rfl rfl ?_
  rcases ite_some h with ⟨c7, h⟩ | ⟨c7, h⟩
  · refine EX.go (i := .if_icmp .ge 34) (len := 3) (pc1 := 93) (st1 := []) (hi1 := hi) (hl1 := hl) rfl ?_ (fun _ _ _ => if_pos c7)
    obtain rfl := Option.some.inj h
    have hk : EX w0 ev 5 m_MD_plan 93 [(1, .int (v1)), (2, .int (v2)), (3, .int (v3))] [] (hi) (hl) OUT := hk
    exact EX.pick [1, 2, 3] hk rfl
  · refine EX.go (i := .if_icmp .ge 34) (len := 3) (pc1 := 62) (st1 := []) (hi1 := hi) (hl1 := hl) rfl ?_ (fun _ _ _ => if_neg c7)
    refine EX.aload_n (x := 65) rfl (List.mem_of_getElem? (i := 0) rfl) ?_
    refine EX.aload_n (x := 65) rfl (List.mem_of_getElem? (i := 0) rfl) ?_
    refine EX.iload (x := v4) rfl (List.mem_of_getElem? (i := 4) rfl) ?_
    obtain ⟨z8, hz8, h⟩ := bnd_some h
    refine EX.callV (b := 65) (as := [.int (v4)]) (rest := [.ref 65]) (r := some (.int (z8.1))) (hi1 := z8.2.1) (hl1 := z8.2.2) rfl rfl rfl rfl rfl rfl ((b_MD_planeOf ev hz8).mono (by decide)) ?_
    show EX w0 ev 5 m_MD_plan 69 [(0, .ref 65), (1, .int (v1)), (2, .int (v2)), (3, .int (v3)), (4, .int (v4))] [.int (z8.1), .ref 65] (z8.2.1) (z8.2.2) OUT
    obtain ⟨z9, hz9, h⟩ := bnd_some h
    refine EX.callV (b := 65) (as := [.int (z8.1)]) (rest := []) (r := some (.int (z9.1))) (hi1 := z9.2.1) (hl1 := z9.2.2) rfl rfl rfl rfl rfl rfl ((b_MD_frameOf ev hz9).mono (by decide)) ?_
    show EX w0 ev 5 m_MD_plan 72 [(0, .ref 65), (1, .int (v1)), (2, .int (v2)), (3, .int (v3)), (4, .int (v4))] [.int (z9.1)] (z9.2.1) (z9.2.2) OUT
    refine EX.istore (req1 := [(5, .int (z9.1)), (0, .ref 65), (1, .int (v1)), (2, .int (v2)), (3, .int (v3)), (4, .int (v4))]) rfl rfl rfl ?_
    refine EX.iload_n (x := v2) rfl (List.mem_of_getElem? (i := 3) rfl) ?_
    refine EX.iload (x := z9.1) rfl (List.mem_of_getElem? (i := 0) rfl) ?_
    refine EX.iload (x := v4) rfl (List.mem_of_getElem? (i := 5) rfl) ?_
    refine EX.go (i := .ishl) (len := 1) (pc1 := 80) (st1 := [.int (((z9.1 : Int32) <<< (v4 &&& 31))), .int (v2)]) (hi1 := z9.2.1) (hl1 := z9.2.2) rfl ?_ (fun _ _ _ => rfl)
    refine EX.go (i := .iadd) (len := 1) (pc1 := 81) (st1 := [.int ((v2 + (((z9.1 : Int32) <<< (v4 &&& 31)))))]) (hi1 := z9.2.1) (hl1 := z9.2.2) rfl ?_ (fun _ _ _ => rfl)
    refine EX.istore_n (req1 := [(2, .int ((v2 + (((z9.1 : Int32) <<< (v4 &&& 31)))))), (5, .int (z9.1)), (0, .ref 65), (1, .int (v1)), (3, .int (v3)), (4, .int (v4))]) rfl rfl rfl ?_
    refine EX.iload_n (x := v3) rfl (List.mem_of_getElem? (i := 4) rfl) ?_
    refine EX.iload (x := z9.1) rfl (List.mem_of_getElem? (i := 1) rfl) ?_
    refine EX.go (i := .iadd) (len := 1) (pc1 := 86) (st1 := [.int ((v3 + (z9.1)))]) (hi1 := z9.2.1) (hl1 := z9.2.2) rfl ?_ (fun _ _ _ => rfl)
    refine EX.istore_n (req1 := [(3, .int ((v3 + (z9.1)))), (2, .int ((v2 + (((z9.1 : Int32) <<< (v4 &&& 31)))))), (5, .int (z9.1)), (0, .ref 65), (1, .int (v1)), (4, .int (v4))]) rfl rfl rfl ?_
    refine EX.iinc (x := v4) (v := v4 + 1) (req1 := [(4, .int (v4 + 1)), (3, .int ((v3 + (z9.1)))), (2, .int ((v2 + (((z9.1 : Int32) <<< (v4 &&& 31)))))), (5, .int (z9.1)), (0, .ref 65), (1, .int (v1))]) rfl rfl (List.mem_of_getElem? (i := 5) rfl) rfl rfl ?_
    refine EX.go (i := .goto (-34)) (len := 3) (pc1 := 56) (st1 := []) (hi1 := z9.2.1) (hl1 := z9.2.2) rfl ?_ (fun _ _ _ => rfl)
    obtain rfl := Option.some.inj h
    have hk : EX w0 ev 5 m_MD_plan 56 [(0, .ref 65), (1, .int (v1)), (2, .int ((v2 + (((z9.1 : Int32) <<< (v4 &&& 31)))))), (3, .int ((v3 + (z9.1)))), (4, .int (v4 + 1))] [] (z9.2.1) (z9.2.2) OUT := hk
    exact EX.pick [4, 5, 2, 1, 0] hk rfl
def f_MD_plan (N : Nat) (p1 : Int32) (hi : HI) (hl : HL) : Option (Int32 × HI × HL) :=
  (f_MD_in N ((Int32.toInt64 (p1))) (10) (13) (hi) (hl)).bind fun z1 => if (z1.1 : Int32) = 0 then (f_MD_in N ((Int32.toInt64 (p1))) (0) (1) (z1.2.1) (z1.2.2)).bind fun z3 => if (z3.1 : Int32) = 0 then some ((-1), z3.2.1, z3.2.2) else (f_MD_isPlanned N (z3.2.1) (z3.2.2)).bind fun z5 => if (z5.1 : Int32) = 0 then some ((-4), z5.2.1, z5.2.2) else (lpN (fun s => B_MD_plan_56 N (p1) s.1 s.2.1 s.2.2.1 s.2.2.2.1 s.2.2.2.2) N (0, 0, 0, z5.2.1, z5.2.2)).bind fun x10 => if (p1 : Int32) = 0 then some (x10.1, x10.2.2.1, x10.2.2.2) else some (x10.2.1, x10.2.2.1, x10.2.2.2) else (f_MD_planeOf N ((p1 - (10))) (z1.2.1) (z1.2.2)).bind fun z12 => (f_MD_frameOf N (z12.1) (z12.2.1) (z12.2.2)).bind fun z13 => some (z13.1, z13.2.1, z13.2.2)
set_option maxRecDepth 10000 in
set_option maxHeartbeats 4000000 in
theorem b_MD_plan (ev : EV) {N : Nat} {p1 : Int32} {hi : HI} {hl : HL} {o : Int32 × HI × HL} (h : f_MD_plan N p1 hi hl = some o) : EM w0 ev 6 m_MD_plan [.ref 65, .int (p1)] hi hl (oI o) := by
  unfold f_MD_plan at h
  refine EM.of rfl ?_
  show EX w0 ev 5 m_MD_plan 0 [(0, .ref 65), (1, .int (p1))] [] (hi) (hl) (oI o)
  refine EX.iload_n (x := p1) rfl (List.mem_of_getElem? (i := 1) rfl) ?_
  refine EX.go (i := .i2l) (len := 1) (pc1 := 2) (st1 := [.long ((Int32.toInt64 (p1)))]) (hi1 := hi) (hl1 := hl) rfl ?_ (fun _ _ _ => rfl)
  refine EX.go (i := .ldc2_w 199) (len := 3) (pc1 := 5) (st1 := [.long (10), .long ((Int32.toInt64 (p1)))]) (hi1 := hi) (hl1 := hl) rfl ?_ (fun _ _ _ => rfl)
  refine EX.go (i := .ldc2_w 201) (len := 3) (pc1 := 8) (st1 := [.long (13), .long (10), .long ((Int32.toInt64 (p1)))]) (hi1 := hi) (hl1 := hl) rfl ?_ (fun _ _ _ => rfl)
  obtain ⟨z1, hz1, h⟩ := bnd_some h
  refine EX.callS (as := [.long ((Int32.toInt64 (p1))), .long (10), .long (13)]) (rest := []) (r := some (.int (z1.1))) (hi1 := z1.2.1) (hl1 := z1.2.2) rfl rfl rfl rfl rfl rfl ((b_MD_in ev hz1).mono (by decide)) ?_
  show EX w0 ev 5 m_MD_plan 11 [(0, .ref 65), (1, .int (p1))] [.int (z1.1)] (z1.2.1) (z1.2.2) (oI o)
  rcases ite_some h with ⟨c2, h⟩ | ⟨c2, h⟩
  · refine EX.go (i := .ifCond .eq 16) (len := 3) (pc1 := 27) (st1 := []) (hi1 := z1.2.1) (hl1 := z1.2.2) rfl ?_ (fun _ _ _ => if_pos c2)
    refine EX.iload_n (x := p1) rfl (List.mem_of_getElem? (i := 1) rfl) ?_
    refine EX.go (i := .i2l) (len := 1) (pc1 := 29) (st1 := [.long ((Int32.toInt64 (p1)))]) (hi1 := z1.2.1) (hl1 := z1.2.2) rfl ?_ (fun _ _ _ => rfl)
    refine EX.lconst (v := 0) rfl rfl ?_
    refine EX.lconst (v := 1) rfl rfl ?_
    obtain ⟨z3, hz3, h⟩ := bnd_some h
    refine EX.callS (as := [.long ((Int32.toInt64 (p1))), .long (0), .long (1)]) (rest := []) (r := some (.int (z3.1))) (hi1 := z3.2.1) (hl1 := z3.2.2) rfl rfl rfl rfl rfl rfl ((b_MD_in ev hz3).mono (by decide)) ?_
    show EX w0 ev 5 m_MD_plan 34 [(0, .ref 65), (1, .int (p1))] [.int (z3.1)] (z3.2.1) (z3.2.2) (oI o)
    rcases ite_some h with ⟨c4, h⟩ | ⟨c4, h⟩
    · refine EX.go (i := .ifCond .ne 5) (len := 3) (pc1 := 37) (st1 := []) (hi1 := z3.2.1) (hl1 := z3.2.2) rfl ?_ (fun _ _ _ => if_pos c4)
      refine EX.iconst (v := (-1)) rfl rfl ?_
      obtain rfl := Option.some.inj h
      exact EX.iret rfl rfl
    · refine EX.go (i := .ifCond .ne 5) (len := 3) (pc1 := 39) (st1 := []) (hi1 := z3.2.1) (hl1 := z3.2.2) rfl ?_ (fun _ _ _ => if_neg c4)
      refine EX.aload_n (x := 65) rfl (List.mem_of_getElem? (i := 0) rfl) ?_
      obtain ⟨z5, hz5, h⟩ := bnd_some h
      refine EX.callV (b := 65) (as := []) (rest := []) (r := some (.int (z5.1))) (hi1 := z5.2.1) (hl1 := z5.2.2) rfl rfl rfl rfl rfl rfl ((b_MD_isPlanned ev hz5).mono (by decide)) ?_
      show EX w0 ev 5 m_MD_plan 43 [(0, .ref 65), (1, .int (p1))] [.int (z5.1)] (z5.2.1) (z5.2.2) (oI o)
      rcases ite_some h with ⟨c6, h⟩ | ⟨c6, h⟩
      · refine EX.go (i := .ifCond .ne 6) (len := 3) (pc1 := 46) (st1 := []) (hi1 := z5.2.1) (hl1 := z5.2.2) rfl ?_ (fun _ _ _ => if_pos c6)
        refine EX.bipush (v := (-4)) rfl rfl ?_
        obtain rfl := Option.some.inj h
        exact EX.iret rfl rfl
      · refine EX.go (i := .ifCond .ne 6) (len := 3) (pc1 := 49) (st1 := []) (hi1 := z5.2.1) (hl1 := z5.2.2) rfl ?_ (fun _ _ _ => if_neg c6)
        refine EX.iconst (v := 0) rfl rfl ?_
        refine EX.istore_n (req1 := [(2, .int (0)), (0, .ref 65), (1, .int (p1))]) rfl rfl rfl ?_
        refine EX.iconst (v := 0) rfl rfl ?_
        refine EX.istore_n (req1 := [(3, .int (0)), (2, .int (0)), (0, .ref 65), (1, .int (p1))]) rfl rfl rfl ?_
        refine EX.iconst (v := 0) rfl rfl ?_
        refine EX.istore (req1 := [(4, .int (0)), (3, .int (0)), (2, .int (0)), (0, .ref 65), (1, .int (p1))]) rfl rfl rfl ?_
        obtain ⟨x10, hx10, h⟩ := bnd_some h
        refine EX.pick [3, 4, 2, 1, 0] ?_ rfl
        refine lp_sound (f := fun s => B_MD_plan_56 N (p1) s.1 s.2.1 s.2.2.1 s.2.2.2.1 s.2.2.2.2) (PS := fun s => EX w0 ev 5 m_MD_plan 56 [(0, .ref 65), (1, .int (p1)), (2, .int (s.1)), (3, .int (s.2.1)), (4, .int (s.2.2.1))] [] (s.2.2.2.1) (s.2.2.2.2) (oI o)) (PX := fun x => EX w0 ev 5 m_MD_plan 93 [(1, .int (p1)), (2, .int (x.1)), (3, .int (x.2.1))] [] (x.2.2.1) (x.2.2.2) (oI o)) ?_ N _ x10 hx10 ?_
        · exact fun s z hz hk => bB_MD_plan_56 ev hz hk
        show EX w0 ev 5 m_MD_plan 93 [(1, .int (p1)), (2, .int (x10.1)), (3, .int (x10.2.1))] [] (x10.2.2.1) (x10.2.2.2) (oI o)
        refine EX.iload_n (x := p1) rfl (List.mem_of_getElem? (i := 0) rfl) ?_
        rcases ite_some h with ⟨c11, h⟩ | ⟨c11, h⟩
        · refine EX.go (i := .ifCond .ne 7) (len := 3) (pc1 := 97) (st1 := []) (hi1 := x10.2.2.1) (hl1 := x10.2.2.2) rfl ?_ (fun _ _ _ => if_pos c11)
          refine EX.iload_n (x := x10.1) rfl (List.mem_of_getElem? (i := 1) rfl) ?_
          refine EX.go (i := .goto 4) (len := 3) (pc1 := 102) (st1 := [.int (x10.1)]) (hi1 := x10.2.2.1) (hl1 := x10.2.2.2) rfl ?_ (fun _ _ _ => rfl)
          obtain rfl := Option.some.inj h
          exact EX.iret rfl rfl
        · refine EX.go (i := .ifCond .ne 7) (len := 3) (pc1 := 101) (st1 := []) (hi1 := x10.2.2.1) (hl1 := x10.2.2.2) rfl ?_ (fun _ _ _ => if_neg c11)
          refine EX.iload_n (x := x10.2.1) rfl (List.mem_of_getElem? (i := 2) rfl) ?_
          obtain rfl := Option.some.inj h
          exact EX.iret rfl rfl
  · refine EX.go (i := .ifCond .eq 16) (len := 3) (pc1 := 14) (st1 := []) (hi1 := z1.2.1) (hl1 := z1.2.2) rfl ?_ (fun _ _ _ => if_neg c2)
    refine EX.aload_n (x := 65) rfl (List.mem_of_getElem? (i := 0) rfl) ?_
    refine EX.aload_n (x := 65) rfl (List.mem_of_getElem? (i := 0) rfl) ?_
    refine EX.iload_n (x := p1) rfl (List.mem_of_getElem? (i := 1) rfl) ?_
    refine EX.bipush (v := 10) rfl rfl ?_
    refine EX.go (i := .isub) (len := 1) (pc1 := 20) (st1 := [.int ((p1 - (10))), .ref 65, .ref 65]) (hi1 := z1.2.1) (hl1 := z1.2.2) rfl ?_ (fun _ _ _ => rfl)
    obtain ⟨z12, hz12, h⟩ := bnd_some h
    refine EX.callV (b := 65) (as := [.int ((p1 - (10)))]) (rest := [.ref 65]) (r := some (.int (z12.1))) (hi1 := z12.2.1) (hl1 := z12.2.2) rfl rfl rfl rfl rfl rfl ((b_MD_planeOf ev hz12).mono (by decide)) ?_
    show EX w0 ev 5 m_MD_plan 23 [(0, .ref 65), (1, .int (p1))] [.int (z12.1), .ref 65] (z12.2.1) (z12.2.2) (oI o)
    obtain ⟨z13, hz13, h⟩ := bnd_some h
    refine EX.callV (b := 65) (as := [.int (z12.1)]) (rest := []) (r := some (.int (z13.1))) (hi1 := z13.2.1) (hl1 := z13.2.2) rfl rfl rfl rfl rfl rfl ((b_MD_frameOf ev hz13).mono (by decide)) ?_
    show EX w0 ev 5 m_MD_plan 26 [(0, .ref 65), (1, .int (p1))] [.int (z13.1)] (z13.2.1) (z13.2.2) (oI o)
    obtain rfl := Option.some.inj h
    exact EX.iret rfl rfl
def B_MD_findPlan_24 (N : Nat) (v1 : Int32) (v2 : Int32) (hi : HI) (hl : HL) : Option ((Int32 × HI × HL) ⊕ (HI × HL)) :=
  if (v1 : Int32) < 0 ∨ 4 ≤ Int32.toNatClampNeg (v1) then none else if (hi 81 (Int32.toNatClampNeg (v1)) : Int32) ≤ (v2 : Int32) then some (.inr (hi, hl)) else if (v2 : Int32) < 0 ∨ 16 ≤ Int32.toNatClampNeg (v2) then none else if (hi 79 (Int32.toNatClampNeg (v2)) : Int32) < 0 ∨ 729 ≤ Int32.toNatClampNeg (hi 79 (Int32.toNatClampNeg (v2))) then none else if (((((16 : Int32) * v1) : Int32) + v2) : Int32) < 0 ∨ 64 ≤ Int32.toNatClampNeg (((((16 : Int32) * v1) : Int32) + v2)) then none else some (.inl (v2 + 1, wr (hi) 80 (Int32.toNatClampNeg (((((16 : Int32) * v1) : Int32) + v2))) (hi 74 (Int32.toNatClampNeg (hi 79 (Int32.toNatClampNeg (v2))))), hl))
set_option maxRecDepth 10000 in
set_option maxHeartbeats 4000000 in
theorem bB_MD_findPlan_24 (ev : EV) {N : Nat} {v1 : Int32} {v2 : Int32} {hi : HI} {hl : HL} {z : (Int32 × HI × HL) ⊕ (HI × HL)} {OUT : Option Value × HI × HL} (h : B_MD_findPlan_24 N v1 v2 hi hl = some z) (hk : Sum.elim (fun s => EX w0 ev 5 m_MD_findPlan 24 [(0, .ref 65), (1, .int (v1)), (2, .int (s.1))] [] (s.2.1) (s.2.2) OUT) (fun x => EX w0 ev 5 m_MD_findPlan 62 [(0, .ref 65), (1, .int (v1))] [] (x.1) (x.2) OUT) z) : EX w0 ev 5 m_MD_findPlan 24 [(0, .ref 65), (1, .int (v1)), (2, .int (v2))] [] (hi) (hl) OUT := by
  unfold B_MD_findPlan_24 at h
  refine EX.iload_n (x := v2) rfl (List.mem_of_getElem? (i := 2) rfl) ?_
  refine EX.aload_n (x := 65) rfl (List.mem_of_getElem? (i := 0) rfl) ?_
  refine EX.go (i := .getfield 65) (len := 3) (pc1 := 29) (st1 := [.ref 81, .int (v2)]) (hi1 := hi) (hl1 := hl) rfl ?_ (fun _ _ _ => rfl)
  refine EX.iload_n (x := v1) rfl (List.mem_of_getElem? (i := 1) rfl) ?_
  obtain ⟨g5, h⟩ := grd_some h
  refine EX.iaload rfl rfl g5 ?_
  rcases ite_some h with ⟨c6, h⟩ | ⟨c6, h⟩
  · refine EX.go (i := .if_icmp .ge 31) (len := 3) (pc1 := 62) (st1 := []) (hi1 := hi) (hl1 := hl) rfl ?_ (fun _ _ _ => if_pos c6)
    obtain rfl := Option.some.inj h
    have hk : EX w0 ev 5 m_MD_findPlan 62 [(0, .ref 65), (1, .int (v1))] [] (hi) (hl) OUT := hk
    exact EX.pick [0, 1] hk rfl
  · refine EX.go (i := .if_icmp .ge 31) (len := 3) (pc1 := 34) (st1 := []) (hi1 := hi) (hl1 := hl) rfl ?_ (fun _ _ _ => if_neg c6)
    refine EX.aload_n (x := 65) rfl (List.mem_of_getElem? (i := 0) rfl) ?_
    refine EX.go (i := .getfield 62) (len := 3) (pc1 := 38) (st1 := [.ref 80]) (hi1 := hi) (hl1 := hl) rfl ?_ (fun _ _ _ => rfl)
    refine EX.bipush (v := 16) rfl rfl ?_
    refine EX.iload_n (x := v1) rfl (List.mem_of_getElem? (i := 1) rfl) ?_
    refine EX.go (i := .imul) (len := 1) (pc1 := 42) (st1 := [.int (((16 : Int32) * v1)), .ref 80]) (hi1 := hi) (hl1 := hl) rfl ?_ (fun _ _ _ => rfl)
    refine EX.iload_n (x := v2) rfl (List.mem_of_getElem? (i := 2) rfl) ?_
    refine EX.go (i := .iadd) (len := 1) (pc1 := 44) (st1 := [.int (((((16 : Int32) * v1) : Int32) + v2)), .ref 80]) (hi1 := hi) (hl1 := hl) rfl ?_ (fun _ _ _ => rfl)
    refine EX.aload_n (x := 65) rfl (List.mem_of_getElem? (i := 0) rfl) ?_
    refine EX.go (i := .getfield 41) (len := 3) (pc1 := 48) (st1 := [.ref 74, .int (((((16 : Int32) * v1) : Int32) + v2)), .ref 80]) (hi1 := hi) (hl1 := hl) rfl ?_ (fun _ _ _ => rfl)
    refine EX.aload_n (x := 65) rfl (List.mem_of_getElem? (i := 0) rfl) ?_
    refine EX.go (i := .getfield 59) (len := 3) (pc1 := 52) (st1 := [.ref 79, .ref 74, .int (((((16 : Int32) * v1) : Int32) + v2)), .ref 80]) (hi1 := hi) (hl1 := hl) rfl ?_ (fun _ _ _ => rfl)
    refine EX.iload_n (x := v2) rfl (List.mem_of_getElem? (i := 2) rfl) ?_
    obtain ⟨g7, h⟩ := grd_some h
    refine EX.iaload rfl rfl g7 ?_
    obtain ⟨g8, h⟩ := grd_some h
    refine EX.iaload rfl rfl g8 ?_
    obtain ⟨g9, h⟩ := grd_some h
    refine EX.iastore rfl rfl g9 ?_
    refine EX.iinc (x := v2) (v := v2 + 1) (req1 := [(2, .int (v2 + 1)), (0, .ref 65), (1, .int (v1))]) rfl rfl (List.mem_of_getElem? (i := 2) rfl) rfl rfl ?_
    refine EX.go (i := .goto (-35)) (len := 3) (pc1 := 24) (st1 := []) (hi1 := wr (hi) 80 (Int32.toNatClampNeg (((((16 : Int32) * v1) : Int32) + v2))) (hi 74 (Int32.toNatClampNeg (hi 79 (Int32.toNatClampNeg (v2)))))) (hl1 := hl) rfl ?_ (fun _ _ _ => rfl)
    obtain rfl := Option.some.inj h
    have hk : EX w0 ev 5 m_MD_findPlan 24 [(0, .ref 65), (1, .int (v1)), (2, .int (v2 + 1))] [] (wr (hi) 80 (Int32.toNatClampNeg (((((16 : Int32) * v1) : Int32) + v2))) (hi 74 (Int32.toNatClampNeg (hi 79 (Int32.toNatClampNeg (v2)))))) (hl) OUT := hk
    exact EX.pick [1, 2, 0] hk rfl
def B_MD_findPlan_2 (N : Nat) (v1 : Int32) (hi : HI) (hl : HL) : Option ((Int32 × HI × HL) ⊕ (HI × HL)) :=
  if (4 : Int32) ≤ (v1 : Int32) then some (.inr (hi, hl)) else (f_MD_planeOf N (v1) (hi) (hl)).bind fun z2 => (f_MD_findFrame N (z2.1) (z2.2.1) (z2.2.2)).bind fun z3 => if (v1 : Int32) < 0 ∨ 4 ≤ Int32.toNatClampNeg (v1) then none else (lpN (fun s => B_MD_findPlan_24 N (v1) s.1 s.2.1 s.2.2) N (0, wr (z3.2.1) 81 (Int32.toNatClampNeg (v1)) (z3.1), z3.2.2)).bind fun x10 => some (.inl (v1 + 1, x10.1, x10.2))
set_option maxRecDepth 10000 in
set_option maxHeartbeats 4000000 in
theorem bB_MD_findPlan_2 (ev : EV) {N : Nat} {v1 : Int32} {hi : HI} {hl : HL} {z : (Int32 × HI × HL) ⊕ (HI × HL)} {OUT : Option Value × HI × HL} (h : B_MD_findPlan_2 N v1 hi hl = some z) (hk : Sum.elim (fun s => EX w0 ev 5 m_MD_findPlan 2 [(0, .ref 65), (1, .int (s.1))] [] (s.2.1) (s.2.2) OUT) (fun x => EX w0 ev 5 m_MD_findPlan 68 [] [] (x.1) (x.2) OUT) z) : EX w0 ev 5 m_MD_findPlan 2 [(0, .ref 65), (1, .int (v1))] [] (hi) (hl) OUT := by
  unfold B_MD_findPlan_2 at h
  refine EX.iload_n (x := v1) rfl (List.mem_of_getElem? (i := 1) rfl) ?_
  refine EX.iconst (v := 4) rfl rfl ?_
  rcases ite_some h with ⟨c1, h⟩ | ⟨c1, h⟩
  · refine EX.go (i := .if_icmp .ge 64) (len := 3) (pc1 := 68) (st1 := []) (hi1 := hi) (hl1 := hl) rfl ?_ (fun _ _ _ => if_pos c1)
    obtain rfl := Option.some.inj h
    have hk : EX w0 ev 5 m_MD_findPlan 68 [] [] (hi) (hl) OUT := hk
    exact EX.pick [] hk rfl
  · refine EX.go (i := .if_icmp .ge 64) (len := 3) (pc1 := 7) (st1 := []) (hi1 := hi) (hl1 := hl) rfl ?_ (fun _ _ _ => if_neg c1)
    refine EX.aload_n (x := 65) rfl (List.mem_of_getElem? (i := 0) rfl) ?_
    refine EX.go (i := .getfield 65) (len := 3) (pc1 := 11) (st1 := [.ref 81]) (hi1 := hi) (hl1 := hl) rfl ?_ (fun _ _ _ => rfl)
    refine EX.iload_n (x := v1) rfl (List.mem_of_getElem? (i := 1) rfl) ?_
    refine EX.aload_n (x := 65) rfl (List.mem_of_getElem? (i := 0) rfl) ?_
    refine EX.aload_n (x := 65) rfl (List.mem_of_getElem? (i := 0) rfl) ?_
    refine EX.iload_n (x := v1) rfl (List.mem_of_getElem? (i := 1) rfl) ?_
    obtain ⟨z2, hz2, h⟩ := bnd_some h
    refine EX.callV (b := 65) (as := [.int (v1)]) (rest := [.ref 65, .int (v1), .ref 81]) (r := some (.int (z2.1))) (hi1 := z2.2.1) (hl1 := z2.2.2) rfl rfl rfl rfl rfl rfl ((b_MD_planeOf ev hz2).mono (by decide)) ?_
    show EX w0 ev 5 m_MD_findPlan 18 [(0, .ref 65), (1, .int (v1))] [.int (z2.1), .ref 65, .int (v1), .ref 81] (z2.2.1) (z2.2.2) OUT
    obtain ⟨z3, hz3, h⟩ := bnd_some h
    refine EX.callV (b := 65) (as := [.int (z2.1)]) (rest := [.int (v1), .ref 81]) (r := some (.int (z3.1))) (hi1 := z3.2.1) (hl1 := z3.2.2) rfl rfl rfl rfl rfl rfl ((b_MD_findFrame ev hz3).mono (by decide)) ?_
    show EX w0 ev 5 m_MD_findPlan 21 [(0, .ref 65), (1, .int (v1))] [.int (z3.1), .int (v1), .ref 81] (z3.2.1) (z3.2.2) OUT
    obtain ⟨g4, h⟩ := grd_some h
    refine EX.iastore rfl rfl g4 ?_
    refine EX.iconst (v := 0) rfl rfl ?_
    refine EX.istore_n (req1 := [(2, .int (0)), (0, .ref 65), (1, .int (v1))]) rfl rfl rfl ?_
    obtain ⟨x10, hx10, h⟩ := bnd_some h
    refine EX.pick [1, 2, 0] ?_ rfl
    refine lp_sound (f := fun s => B_MD_findPlan_24 N (v1) s.1 s.2.1 s.2.2) (PS := fun s => EX w0 ev 5 m_MD_findPlan 24 [(0, .ref 65), (1, .int (v1)), (2, .int (s.1))] [] (s.2.1) (s.2.2) OUT) (PX := fun x => EX w0 ev 5 m_MD_findPlan 62 [(0, .ref 65), (1, .int (v1))] [] (x.1) (x.2) OUT) ?_ N _ x10 hx10 ?_
    · exact fun s z hz hk => bB_MD_findPlan_24 ev hz hk
    show EX w0 ev 5 m_MD_findPlan 62 [(0, .ref 65), (1, .int (v1))] [] (x10.1) (x10.2) OUT
    refine EX.iinc (x := v1) (v := v1 + 1) (req1 := [(1, .int (v1 + 1)), (0, .ref 65)]) rfl rfl (List.mem_of_getElem? (i := 1) rfl) rfl rfl ?_
    refine EX.go (i := .goto (-63)) (len := 3) (pc1 := 2) (st1 := []) (hi1 := x10.1) (hl1 := x10.2) rfl ?_ (fun _ _ _ => rfl)
    obtain rfl := Option.some.inj h
    have hk : EX w0 ev 5 m_MD_findPlan 2 [(0, .ref 65), (1, .int (v1 + 1))] [] (x10.1) (x10.2) OUT := hk
    exact EX.pick [1, 0] hk rfl
def f_MD_findPlan (N : Nat) (hi : HI) (hl : HL) : Option (Unit × HI × HL) :=
  (lpN (fun s => B_MD_findPlan_2 N s.1 s.2.1 s.2.2) N (0, hi, hl)).bind fun x11 => some ((), x11.1, x11.2)
set_option maxRecDepth 10000 in
set_option maxHeartbeats 4000000 in
theorem b_MD_findPlan (ev : EV) {N : Nat} {hi : HI} {hl : HL} {o : Unit × HI × HL} (h : f_MD_findPlan N hi hl = some o) : EM w0 ev 6 m_MD_findPlan [.ref 65] hi hl (oV o) := by
  unfold f_MD_findPlan at h
  refine EM.of rfl ?_
  show EX w0 ev 5 m_MD_findPlan 0 [(0, .ref 65)] [] (hi) (hl) (oV o)
  refine EX.iconst (v := 0) rfl rfl ?_
  refine EX.istore_n (req1 := [(1, .int (0)), (0, .ref 65)]) rfl rfl rfl ?_
  obtain ⟨x11, hx11, h⟩ := bnd_some h
  refine EX.pick [1, 0] ?_ rfl
  refine lp_sound (f := fun s => B_MD_findPlan_2 N s.1 s.2.1 s.2.2) (PS := fun s => EX w0 ev 5 m_MD_findPlan 2 [(0, .ref 65), (1, .int (s.1))] [] (s.2.1) (s.2.2) (oV o)) (PX := fun x => EX w0 ev 5 m_MD_findPlan 68 [] [] (x.1) (x.2) (oV o)) ?_ N _ x11 hx11 ?_
  · exact fun s z hz hk => bB_MD_findPlan_2 ev hz hk
  show EX w0 ev 5 m_MD_findPlan 68 [] [] (x11.1) (x11.2) (oV o)
  obtain rfl := Option.some.inj h
  exact EX.vret rfl rfl
def J_MD_lightOf_68 (N : Nat) (v1 : Int32) (v4 : Int32) (v5 : Int32) (s0 : Int64) (s1 : Int64) (hi : HI) (hl : HL) : Option ((Int64 × Int32 × HI × HL) ⊕ (Int64 × HI × HL)) :=
  some (.inl ((s1 + s0), v5 + 1, hi, hl))
set_option maxRecDepth 10000 in
set_option maxHeartbeats 4000000 in
theorem bJ_MD_lightOf_68 (ev : EV) {N : Nat} {v1 : Int32} {v4 : Int32} {v5 : Int32} {s0 : Int64} {s1 : Int64} {hi : HI} {hl : HL} {z : (Int64 × Int32 × HI × HL) ⊕ (Int64 × HI × HL)} {OUT : Option Value × HI × HL} (h : J_MD_lightOf_68 N v1 v4 v5 s0 s1 hi hl = some z) (hk : Sum.elim (fun s => EX w0 ev 1 m_MD_lightOf 14 [(0, .ref 65), (1, .int (v1)), (2, .long (s.1)), (4, .int (v4)), (5, .int (s.2.1))] [] (s.2.2.1) (s.2.2.2) OUT) (fun x => EX w0 ev 1 m_MD_lightOf 76 [(0, .ref 65), (1, .int (v1)), (2, .long (x.1)), (4, .int (v4))] [] (x.2.1) (x.2.2) OUT) z) : EX w0 ev 1 m_MD_lightOf 68 [(0, .ref 65), (1, .int (v1)), (4, .int (v4)), (5, .int (v5))] [.long (s0), .long (s1)] (hi) (hl) OUT := by
  unfold J_MD_lightOf_68 at h
  refine EX.go (i := .ladd) (len := 1) (pc1 := 69) (st1 := [.long ((s1 + s0))]) (hi1 := hi) (hl1 := hl) rfl ?_ (fun _ _ _ => rfl)
  refine EX.lstore_n (req1 := [(2, .long ((s1 + s0))), (0, .ref 65), (1, .int (v1)), (4, .int (v4)), (5, .int (v5))]) rfl rfl rfl ?_
  refine EX.iinc (x := v5) (v := v5 + 1) (req1 := [(5, .int (v5 + 1)), (2, .long ((s1 + s0))), (0, .ref 65), (1, .int (v1)), (4, .int (v4))]) rfl rfl (List.mem_of_getElem? (i := 4) rfl) rfl rfl ?_
  refine EX.go (i := .goto (-59)) (len := 3) (pc1 := 14) (st1 := []) (hi1 := hi) (hl1 := hl) rfl ?_ (fun _ _ _ => rfl)
  obtain rfl := Option.some.inj h
  have hk : EX w0 ev 1 m_MD_lightOf 14 [(0, .ref 65), (1, .int (v1)), (2, .long ((s1 + s0))), (4, .int (v4)), (5, .int (v5 + 1))] [] (hi) (hl) OUT := hk
  exact EX.pick [2, 3, 1, 4, 0] hk rfl
def B_MD_lightOf_14 (N : Nat) (v1 : Int32) (v4 : Int32) (v2 : Int64) (v5 : Int32) (hi : HI) (hl : HL) : Option ((Int64 × Int32 × HI × HL) ⊕ (Int64 × HI × HL)) :=
  if (v4 : Int32) < 0 ∨ 4 ≤ Int32.toNatClampNeg (v4) then none else if (hi 81 (Int32.toNatClampNeg (v4)) : Int32) ≤ (v5 : Int32) then some (.inr (v2, hi, hl)) else if (((((16 : Int32) * v4) : Int32) + v5) : Int32) < 0 ∨ 64 ≤ Int32.toNatClampNeg (((((16 : Int32) * v4) : Int32) + v5)) then none else if (((((hi 80 (Int32.toNatClampNeg (((((16 : Int32) * v4) : Int32) + v5))) : Int32) >>> (v1 &&& 31)) : Int32) &&& (1)) : Int32) = (1 : Int32) then (f_MD_bits N (hi 80 (Int32.toNatClampNeg (((((16 : Int32) * v4) : Int32) + v5)))) (hi) (hl)).bind fun z6 => if (z6.1 : Int32) = 0 then none else J_MD_lightOf_68 N (v1) (v4) (v5) ((((Int32.toInt64 (((720720 : Int32) / (z6.1)))) : Int64) <<< (Int32.toInt64 v4 &&& 63))) (v2) (z6.2.1) (z6.2.2) else J_MD_lightOf_68 N (v1) (v4) (v5) (0) (v2) (hi) (hl)
set_option maxRecDepth 10000 in
set_option maxHeartbeats 4000000 in
theorem bB_MD_lightOf_14 (ev : EV) {N : Nat} {v1 : Int32} {v4 : Int32} {v2 : Int64} {v5 : Int32} {hi : HI} {hl : HL} {z : (Int64 × Int32 × HI × HL) ⊕ (Int64 × HI × HL)} {OUT : Option Value × HI × HL} (h : B_MD_lightOf_14 N v1 v4 v2 v5 hi hl = some z) (hk : Sum.elim (fun s => EX w0 ev 1 m_MD_lightOf 14 [(0, .ref 65), (1, .int (v1)), (2, .long (s.1)), (4, .int (v4)), (5, .int (s.2.1))] [] (s.2.2.1) (s.2.2.2) OUT) (fun x => EX w0 ev 1 m_MD_lightOf 76 [(0, .ref 65), (1, .int (v1)), (2, .long (x.1)), (4, .int (v4))] [] (x.2.1) (x.2.2) OUT) z) : EX w0 ev 1 m_MD_lightOf 14 [(0, .ref 65), (1, .int (v1)), (2, .long (v2)), (4, .int (v4)), (5, .int (v5))] [] (hi) (hl) OUT := by
  unfold B_MD_lightOf_14 at h
  refine EX.iload (x := v5) rfl (List.mem_of_getElem? (i := 4) rfl) ?_
  refine EX.aload_n (x := 65) rfl (List.mem_of_getElem? (i := 0) rfl) ?_
  refine EX.go (i := .getfield 65) (len := 3) (pc1 := 20) (st1 := [.ref 81, .int (v5)]) (hi1 := hi) (hl1 := hl) rfl ?_ (fun _ _ _ => rfl)
  refine EX.iload (x := v4) rfl (List.mem_of_getElem? (i := 3) rfl) ?_
  obtain ⟨g2, h⟩ := grd_some h
  refine EX.iaload rfl rfl g2 ?_
  rcases ite_some h with ⟨c3, h⟩ | ⟨c3, h⟩
  · refine EX.go (i := .if_icmp .ge 53) (len := 3) (pc1 := 76) (st1 := []) (hi1 := hi) (hl1 := hl) rfl ?_ (fun _ _ _ => if_pos c3)
    obtain rfl := Option.some.inj h
    have hk : EX w0 ev 1 m_MD_lightOf 76 [(0, .ref 65), (1, .int (v1)), (2, .long (v2)), (4, .int (v4))] [] (hi) (hl) OUT := hk
    exact EX.pick [0, 1, 2, 3] hk rfl
  · refine EX.go (i := .if_icmp .ge 53) (len := 3) (pc1 := 26) (st1 := []) (hi1 := hi) (hl1 := hl) rfl ?_ (fun _ _ _ => if_neg c3)
    refine EX.aload_n (x := 65) rfl (List.mem_of_getElem? (i := 0) rfl) ?_
    refine EX.go (i := .getfield 62) (len := 3) (pc1 := 30) (st1 := [.ref 80]) (hi1 := hi) (hl1 := hl) rfl ?_ (fun _ _ _ => rfl)
    refine EX.bipush (v := 16) rfl rfl ?_
    refine EX.iload (x := v4) rfl (List.mem_of_getElem? (i := 3) rfl) ?_
    refine EX.go (i := .imul) (len := 1) (pc1 := 35) (st1 := [.int (((16 : Int32) * v4)), .ref 80]) (hi1 := hi) (hl1 := hl) rfl ?_ (fun _ _ _ => rfl)
    refine EX.iload (x := v5) rfl (List.mem_of_getElem? (i := 4) rfl) ?_
    refine EX.go (i := .iadd) (len := 1) (pc1 := 38) (st1 := [.int (((((16 : Int32) * v4) : Int32) + v5)), .ref 80]) (hi1 := hi) (hl1 := hl) rfl ?_ (fun _ _ _ => rfl)
    obtain ⟨g4, h⟩ := grd_some h
    refine EX.iaload rfl rfl g4 ?_
    refine EX.istore (req1 := [(6, .int (hi 80 (Int32.toNatClampNeg (((((16 : Int32) * v4) : Int32) + v5))))), (0, .ref 65), (1, .int (v1)), (2, .long (v2)), (4, .int (v4)), (5, .int (v5))]) rfl rfl rfl ?_
    refine EX.lload_n (x := v2) rfl (List.mem_of_getElem? (i := 3) rfl) ?_
    refine EX.iload (x := hi 80 (Int32.toNatClampNeg (((((16 : Int32) * v4) : Int32) + v5)))) rfl (List.mem_of_getElem? (i := 0) rfl) ?_
    refine EX.iload_n (x := v1) rfl (List.mem_of_getElem? (i := 2) rfl) ?_
    refine EX.go (i := .ishr) (len := 1) (pc1 := 46) (st1 := [.int (((hi 80 (Int32.toNatClampNeg (((((16 : Int32) * v4) : Int32) + v5))) : Int32) >>> (v1 &&& 31))), .long (v2)]) (hi1 := hi) (hl1 := hl) rfl ?_ (fun _ _ _ => rfl)
    refine EX.iconst (v := 1) rfl rfl ?_
    refine EX.go (i := .iand) (len := 1) (pc1 := 48) (st1 := [.int (((((hi 80 (Int32.toNatClampNeg (((((16 : Int32) * v4) : Int32) + v5))) : Int32) >>> (v1 &&& 31)) : Int32) &&& (1))), .long (v2)]) (hi1 := hi) (hl1 := hl) rfl ?_ (fun _ _ _ => rfl)
    refine EX.iconst (v := 1) rfl rfl ?_
    rcases ite_some h with ⟨c5, h⟩ | ⟨c5, h⟩
    · refine EX.go (i := .if_icmp .ne 18) (len := 3) (pc1 := 52) (st1 := [.long (v2)]) (hi1 := hi) (hl1 := hl) rfl ?_ (fun _ _ _ => if_pos c5)
      refine EX.go (i := .ldc 207) (len := 2) (pc1 := 54) (st1 := [.int (720720), .long (v2)]) (hi1 := hi) (hl1 := hl) rfl ?_ (fun _ _ _ => rfl)
      refine EX.iload (x := hi 80 (Int32.toNatClampNeg (((((16 : Int32) * v4) : Int32) + v5)))) rfl (List.mem_of_getElem? (i := 0) rfl) ?_
      obtain ⟨z6, hz6, h⟩ := bnd_some h
      refine EX.callS (as := [.int (hi 80 (Int32.toNatClampNeg (((((16 : Int32) * v4) : Int32) + v5))))]) (rest := [.int (720720), .long (v2)]) (r := some (.int (z6.1))) (hi1 := z6.2.1) (hl1 := z6.2.2) rfl rfl rfl rfl rfl rfl ((b_MD_bits ev hz6).mono (by decide)) ?_
      show EX w0 ev 1 m_MD_lightOf 59 [(6, .int (hi 80 (Int32.toNatClampNeg (((((16 : Int32) * v4) : Int32) + v5))))), (0, .ref 65), (1, .int (v1)), (2, .long (v2)), (4, .int (v4)), (5, .int (v5))] [.int (z6.1), .int (720720), .long (v2)] (z6.2.1) (z6.2.2) OUT
      obtain ⟨g7, h⟩ := grd_some h
      refine EX.go (i := .idiv) (len := 1) (pc1 := 60) (st1 := [.int (((720720 : Int32) / (z6.1))), .long (v2)]) (hi1 := z6.2.1) (hl1 := z6.2.2) rfl ?_ (fun _ _ _ => if_neg g7)
      refine EX.go (i := .i2l) (len := 1) (pc1 := 61) (st1 := [.long ((Int32.toInt64 (((720720 : Int32) / (z6.1))))), .long (v2)]) (hi1 := z6.2.1) (hl1 := z6.2.2) rfl ?_ (fun _ _ _ => rfl)
      refine EX.iload (x := v4) rfl (List.mem_of_getElem? (i := 4) rfl) ?_
      refine EX.go (i := .lshl) (len := 1) (pc1 := 64) (st1 := [.long ((((Int32.toInt64 (((720720 : Int32) / (z6.1)))) : Int64) <<< (Int32.toInt64 v4 &&& 63))), .long (v2)]) (hi1 := z6.2.1) (hl1 := z6.2.2) rfl ?_ (fun _ _ _ => rfl)
      refine EX.go (i := .goto 4) (len := 3) (pc1 := 68) (st1 := [.long ((((Int32.toInt64 (((720720 : Int32) / (z6.1)))) : Int64) <<< (Int32.toInt64 v4 &&& 63))), .long (v2)]) (hi1 := z6.2.1) (hl1 := z6.2.2) rfl ?_ (fun _ _ _ => rfl)
      refine EX.pick [1, 2, 4, 5] ?_ rfl
      exact bJ_MD_lightOf_68 ev h hk
    · refine EX.go (i := .if_icmp .ne 18) (len := 3) (pc1 := 67) (st1 := [.long (v2)]) (hi1 := hi) (hl1 := hl) rfl ?_ (fun _ _ _ => if_neg c5)
      refine EX.lconst (v := 0) rfl rfl ?_
      refine EX.pick [1, 2, 4, 5] ?_ rfl
      exact bJ_MD_lightOf_68 ev h hk
def B_MD_lightOf_5 (N : Nat) (v1 : Int32) (v2 : Int64) (v4 : Int32) (hi : HI) (hl : HL) : Option ((Int64 × Int32 × HI × HL) ⊕ (Int64 × HI × HL)) :=
  if (4 : Int32) ≤ (v4 : Int32) then some (.inr (v2, hi, hl)) else (lpN (fun s => B_MD_lightOf_14 N (v1) (v4) s.1 s.2.1 s.2.2.1 s.2.2.2) N (v2, 0, hi, hl)).bind fun x8 => some (.inl (x8.1, v4 + 1, x8.2.1, x8.2.2))
set_option maxRecDepth 10000 in
set_option maxHeartbeats 4000000 in
theorem bB_MD_lightOf_5 (ev : EV) {N : Nat} {v1 : Int32} {v2 : Int64} {v4 : Int32} {hi : HI} {hl : HL} {z : (Int64 × Int32 × HI × HL) ⊕ (Int64 × HI × HL)} {OUT : Option Value × HI × HL} (h : B_MD_lightOf_5 N v1 v2 v4 hi hl = some z) (hk : Sum.elim (fun s => EX w0 ev 1 m_MD_lightOf 5 [(0, .ref 65), (1, .int (v1)), (2, .long (s.1)), (4, .int (s.2.1))] [] (s.2.2.1) (s.2.2.2) OUT) (fun x => EX w0 ev 1 m_MD_lightOf 82 [(2, .long (x.1))] [] (x.2.1) (x.2.2) OUT) z) : EX w0 ev 1 m_MD_lightOf 5 [(0, .ref 65), (1, .int (v1)), (2, .long (v2)), (4, .int (v4))] [] (hi) (hl) OUT := by
  unfold B_MD_lightOf_5 at h
  refine EX.iload (x := v4) rfl (List.mem_of_getElem? (i := 3) rfl) ?_
  refine EX.iconst (v := 4) rfl rfl ?_
  rcases ite_some h with ⟨c1, h⟩ | ⟨c1, h⟩
  · refine EX.go (i := .if_icmp .ge 74) (len := 3) (pc1 := 82) (st1 := []) (hi1 := hi) (hl1 := hl) rfl ?_ (fun _ _ _ => if_pos c1)
    obtain rfl := Option.some.inj h
    have hk : EX w0 ev 1 m_MD_lightOf 82 [(2, .long (v2))] [] (hi) (hl) OUT := hk
    exact EX.pick [2] hk rfl
  · refine EX.go (i := .if_icmp .ge 74) (len := 3) (pc1 := 11) (st1 := []) (hi1 := hi) (hl1 := hl) rfl ?_ (fun _ _ _ => if_neg c1)
    refine EX.iconst (v := 0) rfl rfl ?_
    refine EX.istore (req1 := [(5, .int (0)), (0, .ref 65), (1, .int (v1)), (2, .long (v2)), (4, .int (v4))]) rfl rfl rfl ?_
    obtain ⟨x8, hx8, h⟩ := bnd_some h
    refine EX.pick [1, 2, 3, 4, 0] ?_ rfl
    refine lp_sound (f := fun s => B_MD_lightOf_14 N (v1) (v4) s.1 s.2.1 s.2.2.1 s.2.2.2) (PS := fun s => EX w0 ev 1 m_MD_lightOf 14 [(0, .ref 65), (1, .int (v1)), (2, .long (s.1)), (4, .int (v4)), (5, .int (s.2.1))] [] (s.2.2.1) (s.2.2.2) OUT) (PX := fun x => EX w0 ev 1 m_MD_lightOf 76 [(0, .ref 65), (1, .int (v1)), (2, .long (x.1)), (4, .int (v4))] [] (x.2.1) (x.2.2) OUT) ?_ N _ x8 hx8 ?_
    · exact fun s z hz hk => bB_MD_lightOf_14 ev hz hk
    show EX w0 ev 1 m_MD_lightOf 76 [(0, .ref 65), (1, .int (v1)), (2, .long (x8.1)), (4, .int (v4))] [] (x8.2.1) (x8.2.2) OUT
    refine EX.iinc (x := v4) (v := v4 + 1) (req1 := [(4, .int (v4 + 1)), (0, .ref 65), (1, .int (v1)), (2, .long (x8.1))]) rfl rfl (List.mem_of_getElem? (i := 3) rfl) rfl rfl ?_
    refine EX.go (i := .goto (-74)) (len := 3) (pc1 := 5) (st1 := []) (hi1 := x8.2.1) (hl1 := x8.2.2) rfl ?_ (fun _ _ _ => rfl)
    obtain rfl := Option.some.inj h
    have hk : EX w0 ev 1 m_MD_lightOf 5 [(0, .ref 65), (1, .int (v1)), (2, .long (x8.1)), (4, .int (v4 + 1))] [] (x8.2.1) (x8.2.2) OUT := hk
    exact EX.pick [1, 2, 3, 0] hk rfl
def f_MD_lightOf (N : Nat) (p1 : Int32) (hi : HI) (hl : HL) : Option (Int64 × HI × HL) :=
  (lpN (fun s => B_MD_lightOf_5 N (p1) s.1 s.2.1 s.2.2.1 s.2.2.2) N (0, 0, hi, hl)).bind fun x9 => some (x9.1, x9.2.1, x9.2.2)
set_option maxRecDepth 10000 in
set_option maxHeartbeats 4000000 in
theorem b_MD_lightOf (ev : EV) {N : Nat} {p1 : Int32} {hi : HI} {hl : HL} {o : Int64 × HI × HL} (h : f_MD_lightOf N p1 hi hl = some o) : EM w0 ev 2 m_MD_lightOf [.ref 65, .int (p1)] hi hl (oL o) := by
  unfold f_MD_lightOf at h
  refine EM.of rfl ?_
  show EX w0 ev 1 m_MD_lightOf 0 [(0, .ref 65), (1, .int (p1))] [] (hi) (hl) (oL o)
  refine EX.lconst (v := 0) rfl rfl ?_
  refine EX.lstore_n (req1 := [(2, .long (0)), (0, .ref 65), (1, .int (p1))]) rfl rfl rfl ?_
  refine EX.iconst (v := 0) rfl rfl ?_
  refine EX.istore (req1 := [(4, .int (0)), (2, .long (0)), (0, .ref 65), (1, .int (p1))]) rfl rfl rfl ?_
  obtain ⟨x9, hx9, h⟩ := bnd_some h
  refine EX.pick [2, 3, 1, 0] ?_ rfl
  refine lp_sound (f := fun s => B_MD_lightOf_5 N (p1) s.1 s.2.1 s.2.2.1 s.2.2.2) (PS := fun s => EX w0 ev 1 m_MD_lightOf 5 [(0, .ref 65), (1, .int (p1)), (2, .long (s.1)), (4, .int (s.2.1))] [] (s.2.2.1) (s.2.2.2) (oL o)) (PX := fun x => EX w0 ev 1 m_MD_lightOf 82 [(2, .long (x.1))] [] (x.2.1) (x.2.2) (oL o)) ?_ N _ x9 hx9 ?_
  · exact fun s z hz hk => bB_MD_lightOf_5 ev hz hk
  show EX w0 ev 1 m_MD_lightOf 82 [(2, .long (x9.1))] [] (x9.2.1) (x9.2.2) (oL o)
  refine EX.lload_n (x := x9.1) rfl (List.mem_of_getElem? (i := 0) rfl) ?_
  obtain rfl := Option.some.inj h
  exact EX.lret rfl rfl
def f_MD_lowest (N : Nat) (p0 : Int64) (p2 : Int32) (hi : HI) (hl : HL) : Option (Int32 × HI × HL) :=
  (f_MD_common N (p0) (720720) (hi) (hl)).bind fun z1 => if (p2 : Int32) = 0 then if (z1.1 : Int64) = 0 then none else some ((Int64.toInt32 (((p0 : Int64) / (z1.1)))), z1.2.1, z1.2.2) else if (z1.1 : Int64) = 0 then none else some ((Int64.toInt32 (((720720 : Int64) / (z1.1)))), z1.2.1, z1.2.2)
set_option maxRecDepth 10000 in
set_option maxHeartbeats 4000000 in
theorem b_MD_lowest (ev : EV) {N : Nat} {p0 : Int64} {p2 : Int32} {hi : HI} {hl : HL} {o : Int32 × HI × HL} (h : f_MD_lowest N p0 p2 hi hl = some o) : EM w0 ev 2 m_MD_lowest [.long (p0), .int (p2)] hi hl (oI o) := by
  unfold f_MD_lowest at h
  refine EM.of rfl ?_
  show EX w0 ev 1 m_MD_lowest 0 [(0, .long (p0)), (2, .int (p2))] [] (hi) (hl) (oI o)
  refine EX.lload_n (x := p0) rfl (List.mem_of_getElem? (i := 0) rfl) ?_
  refine EX.go (i := .ldc2_w 208) (len := 3) (pc1 := 4) (st1 := [.long (720720), .long (p0)]) (hi1 := hi) (hl1 := hl) rfl ?_ (fun _ _ _ => rfl)
  obtain ⟨z1, hz1, h⟩ := bnd_some h
  refine EX.callS (as := [.long (p0), .long (720720)]) (rest := []) (r := some (.long (z1.1))) (hi1 := z1.2.1) (hl1 := z1.2.2) rfl rfl rfl rfl rfl rfl ((b_MD_common ev hz1).mono (by decide)) ?_
  show EX w0 ev 1 m_MD_lowest 7 [(0, .long (p0)), (2, .int (p2))] [.long (z1.1)] (z1.2.1) (z1.2.2) (oI o)
  refine EX.lstore_n (req1 := [(3, .long (z1.1)), (0, .long (p0)), (2, .int (p2))]) rfl rfl rfl ?_
  refine EX.iload_n (x := p2) rfl (List.mem_of_getElem? (i := 2) rfl) ?_
  rcases ite_some h with ⟨c2, h⟩ | ⟨c2, h⟩
  · refine EX.go (i := .ifCond .ne 9) (len := 3) (pc1 := 12) (st1 := []) (hi1 := z1.2.1) (hl1 := z1.2.2) rfl ?_ (fun _ _ _ => if_pos c2)
    refine EX.lload_n (x := p0) rfl (List.mem_of_getElem? (i := 1) rfl) ?_
    refine EX.lload_n (x := z1.1) rfl (List.mem_of_getElem? (i := 0) rfl) ?_
    obtain ⟨g3, h⟩ := grd_some h
    refine EX.go (i := .ldiv) (len := 1) (pc1 := 15) (st1 := [.long (((p0 : Int64) / (z1.1)))]) (hi1 := z1.2.1) (hl1 := z1.2.2) rfl ?_ (fun _ _ _ => if_neg g3)
    refine EX.go (i := .goto 8) (len := 3) (pc1 := 23) (st1 := [.long (((p0 : Int64) / (z1.1)))]) (hi1 := z1.2.1) (hl1 := z1.2.2) rfl ?_ (fun _ _ _ => rfl)
    refine EX.go (i := .l2i) (len := 1) (pc1 := 24) (st1 := [.int ((Int64.toInt32 (((p0 : Int64) / (z1.1)))))]) (hi1 := z1.2.1) (hl1 := z1.2.2) rfl ?_ (fun _ _ _ => rfl)
    obtain rfl := Option.some.inj h
    exact EX.iret rfl rfl
  · refine EX.go (i := .ifCond .ne 9) (len := 3) (pc1 := 18) (st1 := []) (hi1 := z1.2.1) (hl1 := z1.2.2) rfl ?_ (fun _ _ _ => if_neg c2)
    refine EX.go (i := .ldc2_w 208) (len := 3) (pc1 := 21) (st1 := [.long (720720)]) (hi1 := z1.2.1) (hl1 := z1.2.2) rfl ?_ (fun _ _ _ => rfl)
    refine EX.lload_n (x := z1.1) rfl (List.mem_of_getElem? (i := 0) rfl) ?_
    obtain ⟨g4, h⟩ := grd_some h
    refine EX.go (i := .ldiv) (len := 1) (pc1 := 23) (st1 := [.long (((720720 : Int64) / (z1.1)))]) (hi1 := z1.2.1) (hl1 := z1.2.2) rfl ?_ (fun _ _ _ => if_neg g4)
    refine EX.go (i := .l2i) (len := 1) (pc1 := 24) (st1 := [.int ((Int64.toInt32 (((720720 : Int64) / (z1.1)))))]) (hi1 := z1.2.1) (hl1 := z1.2.2) rfl ?_ (fun _ _ _ => rfl)
    obtain rfl := Option.some.inj h
    exact EX.iret rfl rfl
def f_MD_light (N : Nat) (p1 : Int32) (p2 : Int32) (hi : HI) (hl : HL) : Option (Int32 × HI × HL) :=
  (f_MD_isLamp N (p1) (hi) (hl)).bind fun z1 => if (z1.1 : Int32) = 0 then some ((-1), z1.2.1, z1.2.2) else (f_MD_in N ((Int32.toInt64 (p2))) (0) (1) (z1.2.1) (z1.2.2)).bind fun z3 => if (z3.1 : Int32) = 0 then some ((-1), z3.2.1, z3.2.2) else (f_MD_isPlanned N (z3.2.1) (z3.2.2)).bind fun z5 => if (z5.1 : Int32) = 0 then some ((-4), z5.2.1, z5.2.2) else (f_MD_findPlan N (z5.2.1) (z5.2.2)).bind fun z7 => (f_MD_lightOf N (p1) (z7.2.1) (z7.2.2)).bind fun z8 => (f_MD_lowest N (z8.1) (p2) (z8.2.1) (z8.2.2)).bind fun z9 => some (z9.1, z9.2.1, z9.2.2)
set_option maxRecDepth 10000 in
set_option maxHeartbeats 4000000 in
theorem b_MD_light (ev : EV) {N : Nat} {p1 : Int32} {p2 : Int32} {hi : HI} {hl : HL} {o : Int32 × HI × HL} (h : f_MD_light N p1 p2 hi hl = some o) : EM w0 ev 7 m_MD_light [.ref 65, .int (p1), .int (p2)] hi hl (oI o) := by
  unfold f_MD_light at h
  refine EM.of rfl ?_
  show EX w0 ev 6 m_MD_light 0 [(0, .ref 65), (1, .int (p1)), (2, .int (p2))] [] (hi) (hl) (oI o)
  refine EX.aload_n (x := 65) rfl (List.mem_of_getElem? (i := 0) rfl) ?_
  refine EX.iload_n (x := p1) rfl (List.mem_of_getElem? (i := 1) rfl) ?_
  obtain ⟨z1, hz1, h⟩ := bnd_some h
  refine EX.callV (b := 65) (as := [.int (p1)]) (rest := []) (r := some (.int (z1.1))) (hi1 := z1.2.1) (hl1 := z1.2.2) rfl rfl rfl rfl rfl rfl ((b_MD_isLamp ev hz1).mono (by decide)) ?_
  show EX w0 ev 6 m_MD_light 5 [(0, .ref 65), (1, .int (p1)), (2, .int (p2))] [.int (z1.1)] (z1.2.1) (z1.2.2) (oI o)
  rcases ite_some h with ⟨c2, h⟩ | ⟨c2, h⟩
  · refine EX.go (i := .ifCond .eq 13) (len := 3) (pc1 := 18) (st1 := []) (hi1 := z1.2.1) (hl1 := z1.2.2) rfl ?_ (fun _ _ _ => if_pos c2)
    refine EX.iconst (v := (-1)) rfl rfl ?_
    obtain rfl := Option.some.inj h
    exact EX.iret rfl rfl
  · refine EX.go (i := .ifCond .eq 13) (len := 3) (pc1 := 8) (st1 := []) (hi1 := z1.2.1) (hl1 := z1.2.2) rfl ?_ (fun _ _ _ => if_neg c2)
    refine EX.iload_n (x := p2) rfl (List.mem_of_getElem? (i := 2) rfl) ?_
    refine EX.go (i := .i2l) (len := 1) (pc1 := 10) (st1 := [.long ((Int32.toInt64 (p2)))]) (hi1 := z1.2.1) (hl1 := z1.2.2) rfl ?_ (fun _ _ _ => rfl)
    refine EX.lconst (v := 0) rfl rfl ?_
    refine EX.lconst (v := 1) rfl rfl ?_
    obtain ⟨z3, hz3, h⟩ := bnd_some h
    refine EX.callS (as := [.long ((Int32.toInt64 (p2))), .long (0), .long (1)]) (rest := []) (r := some (.int (z3.1))) (hi1 := z3.2.1) (hl1 := z3.2.2) rfl rfl rfl rfl rfl rfl ((b_MD_in ev hz3).mono (by decide)) ?_
    show EX w0 ev 6 m_MD_light 15 [(0, .ref 65), (1, .int (p1)), (2, .int (p2))] [.int (z3.1)] (z3.2.1) (z3.2.2) (oI o)
    rcases ite_some h with ⟨c4, h⟩ | ⟨c4, h⟩
    · refine EX.go (i := .ifCond .ne 5) (len := 3) (pc1 := 18) (st1 := []) (hi1 := z3.2.1) (hl1 := z3.2.2) rfl ?_ (fun _ _ _ => if_pos c4)
      refine EX.iconst (v := (-1)) rfl rfl ?_
      obtain rfl := Option.some.inj h
      exact EX.iret rfl rfl
    · refine EX.go (i := .ifCond .ne 5) (len := 3) (pc1 := 20) (st1 := []) (hi1 := z3.2.1) (hl1 := z3.2.2) rfl ?_ (fun _ _ _ => if_neg c4)
      refine EX.aload_n (x := 65) rfl (List.mem_of_getElem? (i := 0) rfl) ?_
      obtain ⟨z5, hz5, h⟩ := bnd_some h
      refine EX.callV (b := 65) (as := []) (rest := []) (r := some (.int (z5.1))) (hi1 := z5.2.1) (hl1 := z5.2.2) rfl rfl rfl rfl rfl rfl ((b_MD_isPlanned ev hz5).mono (by decide)) ?_
      show EX w0 ev 6 m_MD_light 24 [(0, .ref 65), (1, .int (p1)), (2, .int (p2))] [.int (z5.1)] (z5.2.1) (z5.2.2) (oI o)
      rcases ite_some h with ⟨c6, h⟩ | ⟨c6, h⟩
      · refine EX.go (i := .ifCond .ne 6) (len := 3) (pc1 := 27) (st1 := []) (hi1 := z5.2.1) (hl1 := z5.2.2) rfl ?_ (fun _ _ _ => if_pos c6)
        refine EX.bipush (v := (-4)) rfl rfl ?_
        obtain rfl := Option.some.inj h
        exact EX.iret rfl rfl
      · refine EX.go (i := .ifCond .ne 6) (len := 3) (pc1 := 30) (st1 := []) (hi1 := z5.2.1) (hl1 := z5.2.2) rfl ?_ (fun _ _ _ => if_neg c6)
        refine EX.aload_n (x := 65) rfl (List.mem_of_getElem? (i := 0) rfl) ?_
        obtain ⟨z7, hz7, h⟩ := bnd_some h
        refine EX.callV (b := 65) (as := []) (rest := []) (r := none) (hi1 := z7.2.1) (hl1 := z7.2.2) rfl rfl rfl rfl rfl rfl ((b_MD_findPlan ev hz7).mono (by decide)) ?_
        show EX w0 ev 6 m_MD_light 34 [(0, .ref 65), (1, .int (p1)), (2, .int (p2))] [] (z7.2.1) (z7.2.2) (oI o)
        refine EX.aload_n (x := 65) rfl (List.mem_of_getElem? (i := 0) rfl) ?_
        refine EX.iload_n (x := p1) rfl (List.mem_of_getElem? (i := 1) rfl) ?_
        obtain ⟨z8, hz8, h⟩ := bnd_some h
        refine EX.callV (b := 65) (as := [.int (p1)]) (rest := []) (r := some (.long (z8.1))) (hi1 := z8.2.1) (hl1 := z8.2.2) rfl rfl rfl rfl rfl rfl ((b_MD_lightOf ev hz8).mono (by decide)) ?_
        show EX w0 ev 6 m_MD_light 39 [(0, .ref 65), (1, .int (p1)), (2, .int (p2))] [.long (z8.1)] (z8.2.1) (z8.2.2) (oI o)
        refine EX.iload_n (x := p2) rfl (List.mem_of_getElem? (i := 2) rfl) ?_
        obtain ⟨z9, hz9, h⟩ := bnd_some h
        refine EX.callS (as := [.long (z8.1), .int (p2)]) (rest := []) (r := some (.int (z9.1))) (hi1 := z9.2.1) (hl1 := z9.2.2) rfl rfl rfl rfl rfl rfl ((b_MD_lowest ev hz9).mono (by decide)) ?_
        show EX w0 ev 6 m_MD_light 43 [(0, .ref 65), (1, .int (p1)), (2, .int (p2))] [.int (z9.1)] (z9.2.1) (z9.2.2) (oI o)
        obtain rfl := Option.some.inj h
        exact EX.iret rfl rfl
def J_MD_uneven_156 (N : Nat) (v1 : Int32) (v4 : Int32) (v5 : Int32) (s0 : Int64) (hi : HI) (hl : HL) : Option ((Int64 × Int32 × HI × HL) ⊕ (Int64 × HI × HL)) :=
  some (.inl (s0, v5 + 1, hi, hl))
set_option maxRecDepth 10000 in
set_option maxHeartbeats 4000000 in
theorem bJ_MD_uneven_156 (ev : EV) {N : Nat} {v1 : Int32} {v4 : Int32} {v5 : Int32} {s0 : Int64} {hi : HI} {hl : HL} {z : (Int64 × Int32 × HI × HL) ⊕ (Int64 × HI × HL)} {OUT : Option Value × HI × HL} (h : J_MD_uneven_156 N v1 v4 v5 s0 hi hl = some z) (hk : Sum.elim (fun s => EX w0 ev 6 m_MD_uneven 56 [(0, .ref 65), (1, .int (v1)), (2, .long (s.1)), (4, .int (v4)), (5, .int (s.2.1))] [] (s.2.2.1) (s.2.2.2) OUT) (fun x => EX w0 ev 6 m_MD_uneven 163 [(0, .ref 65), (1, .int (v1)), (2, .long (x.1)), (4, .int (v4))] [] (x.2.1) (x.2.2) OUT) z) : EX w0 ev 6 m_MD_uneven 156 [(0, .ref 65), (1, .int (v1)), (4, .int (v4)), (5, .int (v5))] [.long (s0)] (hi) (hl) OUT := by
  unfold J_MD_uneven_156 at h
  refine EX.lstore_n (req1 := [(2, .long (s0)), (0, .ref 65), (1, .int (v1)), (4, .int (v4)), (5, .int (v5))]) rfl rfl rfl ?_
  refine EX.iinc (x := v5) (v := v5 + 1) (req1 := [(5, .int (v5 + 1)), (2, .long (s0)), (0, .ref 65), (1, .int (v1)), (4, .int (v4))]) rfl rfl (List.mem_of_getElem? (i := 4) rfl) rfl rfl ?_
  refine EX.go (i := .goto (-104)) (len := 3) (pc1 := 56) (st1 := []) (hi1 := hi) (hl1 := hl) rfl ?_ (fun _ _ _ => rfl)
  obtain rfl := Option.some.inj h
  have hk : EX w0 ev 6 m_MD_uneven 56 [(0, .ref 65), (1, .int (v1)), (2, .long (s0)), (4, .int (v4)), (5, .int (v5 + 1))] [] (hi) (hl) OUT := hk
  exact EX.pick [2, 3, 1, 4, 0] hk rfl
def J_MD_uneven_155 (N : Nat) (v1 : Int32) (v2 : Int64) (v4 : Int32) (v5 : Int32) (hi : HI) (hl : HL) : Option ((Int64 × Int32 × HI × HL) ⊕ (Int64 × HI × HL)) :=
  J_MD_uneven_156 N (v1) (v4) (v5) (v2) (hi) (hl)
set_option maxRecDepth 10000 in
set_option maxHeartbeats 4000000 in
theorem bJ_MD_uneven_155 (ev : EV) {N : Nat} {v1 : Int32} {v2 : Int64} {v4 : Int32} {v5 : Int32} {hi : HI} {hl : HL} {z : (Int64 × Int32 × HI × HL) ⊕ (Int64 × HI × HL)} {OUT : Option Value × HI × HL} (h : J_MD_uneven_155 N v1 v2 v4 v5 hi hl = some z) (hk : Sum.elim (fun s => EX w0 ev 6 m_MD_uneven 56 [(0, .ref 65), (1, .int (v1)), (2, .long (s.1)), (4, .int (v4)), (5, .int (s.2.1))] [] (s.2.2.1) (s.2.2.2) OUT) (fun x => EX w0 ev 6 m_MD_uneven 163 [(0, .ref 65), (1, .int (v1)), (2, .long (x.1)), (4, .int (v4))] [] (x.2.1) (x.2.2) OUT) z) : EX w0 ev 6 m_MD_uneven 155 [(0, .ref 65), (1, .int (v1)), (2, .long (v2)), (4, .int (v4)), (5, .int (v5))] [] (hi) (hl) OUT := by
  unfold J_MD_uneven_155 at h
  refine EX.lload_n (x := v2) rfl (List.mem_of_getElem? (i := 2) rfl) ?_
  refine EX.pick [0, 1, 3, 4] ?_ rfl
  exact bJ_MD_uneven_156 ev h hk
def J_MD_uneven_114 (N : Nat) (v1 : Int32) (v2 : Int64) (v4 : Int32) (v5 : Int32) (s0 : Int64) (hi : HI) (hl : HL) : Option ((Int64 × Int32 × HI × HL) ⊕ (Int64 × HI × HL)) :=
  if (v4 : Int32) < 0 ∨ 16 ≤ Int32.toNatClampNeg (v4) then none else if (hi 70 (Int32.toNatClampNeg (v4)) : Int32) ≤ 0 then J_MD_uneven_155 N (v1) (v2) (v4) (v5) (hi) (hl) else if (v4 : Int32) < 0 ∨ 16 ≤ Int32.toNatClampNeg (v4) then none else if (v5 : Int32) < 0 ∨ 16 ≤ Int32.toNatClampNeg (v5) then none else if (hi 70 (Int32.toNatClampNeg (v4)) : Int32) = (hi 70 (Int32.toNatClampNeg (v5)) : Int32) then if ((lg_cmp s0 v2) : Int32) ≤ 0 then J_MD_uneven_155 N (v1) (v2) (v4) (v5) (hi) (hl) else J_MD_uneven_156 N (v1) (v4) (v5) (s0) (hi) (hl) else J_MD_uneven_155 N (v1) (v2) (v4) (v5) (hi) (hl)
set_option maxRecDepth 10000 in
set_option maxHeartbeats 4000000 in
theorem bJ_MD_uneven_114 (ev : EV) {N : Nat} {v1 : Int32} {v2 : Int64} {v4 : Int32} {v5 : Int32} {s0 : Int64} {hi : HI} {hl : HL} {z : (Int64 × Int32 × HI × HL) ⊕ (Int64 × HI × HL)} {OUT : Option Value × HI × HL} (h : J_MD_uneven_114 N v1 v2 v4 v5 s0 hi hl = some z) (hk : Sum.elim (fun s => EX w0 ev 6 m_MD_uneven 56 [(0, .ref 65), (1, .int (v1)), (2, .long (s.1)), (4, .int (v4)), (5, .int (s.2.1))] [] (s.2.2.1) (s.2.2.2) OUT) (fun x => EX w0 ev 6 m_MD_uneven 163 [(0, .ref 65), (1, .int (v1)), (2, .long (x.1)), (4, .int (v4))] [] (x.2.1) (x.2.2) OUT) z) : EX w0 ev 6 m_MD_uneven 114 [(0, .ref 65), (1, .int (v1)), (2, .long (v2)), (4, .int (v4)), (5, .int (v5))] [.long (s0)] (hi) (hl) OUT := by
  unfold J_MD_uneven_114 at h
  refine EX.lstore (req1 := [(6, .long (s0)), (0, .ref 65), (1, .int (v1)), (2, .long (v2)), (4, .int (v4)), (5, .int (v5))]) rfl rfl rfl ?_
  refine EX.aload_n (x := 65) rfl (List.mem_of_getElem? (i := 1) rfl) ?_
  refine EX.go (i := .getfield 29) (len := 3) (pc1 := 120) (st1 := [.ref 70]) (hi1 := hi) (hl1 := hl) rfl ?_ (fun _ _ _ => rfl)
  refine EX.iload (x := v4) rfl (List.mem_of_getElem? (i := 4) rfl) ?_
  obtain ⟨g15, h⟩ := grd_some h
  refine EX.iaload rfl rfl g15 ?_
  rcases ite_some h with ⟨c16, h⟩ | ⟨c16, h⟩
  · refine EX.go (i := .ifCond .le 32) (len := 3) (pc1 := 155) (st1 := []) (hi1 := hi) (hl1 := hl) rfl ?_ (fun _ _ _ => if_pos c16)
    refine EX.pick [1, 2, 3, 4, 5] ?_ rfl
    exact bJ_MD_uneven_155 ev h hk
  · refine EX.go (i := .ifCond .le 32) (len := 3) (pc1 := 126) (st1 := []) (hi1 := hi) (hl1 := hl) rfl ?_ (fun _ _ _ => if_neg c16)
    refine EX.aload_n (x := 65) rfl (List.mem_of_getElem? (i := 1) rfl) ?_
    refine EX.go (i := .getfield 29) (len := 3) (pc1 := 130) (st1 := [.ref 70]) (hi1 := hi) (hl1 := hl) rfl ?_ (fun _ _ _ => rfl)
    refine EX.iload (x := v4) rfl (List.mem_of_getElem? (i := 4) rfl) ?_
    obtain ⟨g17, h⟩ := grd_some h
    refine EX.iaload rfl rfl g17 ?_
    refine EX.aload_n (x := 65) rfl (List.mem_of_getElem? (i := 1) rfl) ?_
    refine EX.go (i := .getfield 29) (len := 3) (pc1 := 137) (st1 := [.ref 70, .int (hi 70 (Int32.toNatClampNeg (v4)))]) (hi1 := hi) (hl1 := hl) rfl ?_ (fun _ _ _ => rfl)
    refine EX.iload (x := v5) rfl (List.mem_of_getElem? (i := 5) rfl) ?_
    obtain ⟨g18, h⟩ := grd_some h
    refine EX.iaload rfl rfl g18 ?_
    rcases ite_some h with ⟨c19, h⟩ | ⟨c19, h⟩
    · refine EX.go (i := .if_icmp .ne 15) (len := 3) (pc1 := 143) (st1 := []) (hi1 := hi) (hl1 := hl) rfl ?_ (fun _ _ _ => if_pos c19)
      refine EX.lload (x := s0) rfl (List.mem_of_getElem? (i := 0) rfl) ?_
      refine EX.lload_n (x := v2) rfl (List.mem_of_getElem? (i := 3) rfl) ?_
      refine EX.go (i := .lcmp) (len := 1) (pc1 := 147) (st1 := [.int ((lg_cmp s0 v2))]) (hi1 := hi) (hl1 := hl) rfl ?_ (fun _ _ _ => rfl)
      rcases ite_some h with ⟨c20, h⟩ | ⟨c20, h⟩
      · refine EX.go (i := .ifCond .le 8) (len := 3) (pc1 := 155) (st1 := []) (hi1 := hi) (hl1 := hl) rfl ?_ (fun _ _ _ => if_pos c20)
        refine EX.pick [1, 2, 3, 4, 5] ?_ rfl
        exact bJ_MD_uneven_155 ev h hk
      · refine EX.go (i := .ifCond .le 8) (len := 3) (pc1 := 150) (st1 := []) (hi1 := hi) (hl1 := hl) rfl ?_ (fun _ _ _ => if_neg c20)
        refine EX.lload (x := s0) rfl (List.mem_of_getElem? (i := 0) rfl) ?_
        refine EX.go (i := .goto 4) (len := 3) (pc1 := 156) (st1 := [.long (s0)]) (hi1 := hi) (hl1 := hl) rfl ?_ (fun _ _ _ => rfl)
        refine EX.pick [1, 2, 4, 5] ?_ rfl
        exact bJ_MD_uneven_156 ev h hk
    · refine EX.go (i := .if_icmp .ne 15) (len := 3) (pc1 := 155) (st1 := []) (hi1 := hi) (hl1 := hl) rfl ?_ (fun _ _ _ => if_neg c19)
      refine EX.pick [1, 2, 3, 4, 5] ?_ rfl
      exact bJ_MD_uneven_155 ev h hk
def B_MD_uneven_56 (N : Nat) (v1 : Int32) (v4 : Int32) (v2 : Int64) (v5 : Int32) (hi : HI) (hl : HL) : Option ((Int64 × Int32 × HI × HL) ⊕ (Int64 × HI × HL)) :=
  if (v4 : Int32) ≤ (v5 : Int32) then some (.inr (v2, hi, hl)) else if (v4 : Int32) < 0 ∨ 16 ≤ Int32.toNatClampNeg (v4) then none else if (v5 : Int32) < 0 ∨ 16 ≤ Int32.toNatClampNeg (v5) then none else if ((lg_cmp (hl 82 (Int32.toNatClampNeg (v4)) : Int64) (hl 82 (Int32.toNatClampNeg (v5)))) : Int32) ≤ 0 then if (v5 : Int32) < 0 ∨ 16 ≤ Int32.toNatClampNeg (v5) then none else if (v4 : Int32) < 0 ∨ 16 ≤ Int32.toNatClampNeg (v4) then none else J_MD_uneven_114 N (v1) (v2) (v4) (v5) (((hl 82 (Int32.toNatClampNeg (v5)) : Int64) - (hl 82 (Int32.toNatClampNeg (v4))))) (hi) (hl) else if (v4 : Int32) < 0 ∨ 16 ≤ Int32.toNatClampNeg (v4) then none else if (v5 : Int32) < 0 ∨ 16 ≤ Int32.toNatClampNeg (v5) then none else J_MD_uneven_114 N (v1) (v2) (v4) (v5) (((hl 82 (Int32.toNatClampNeg (v4)) : Int64) - (hl 82 (Int32.toNatClampNeg (v5))))) (hi) (hl)
set_option maxRecDepth 10000 in
set_option maxHeartbeats 4000000 in
theorem bB_MD_uneven_56 (ev : EV) {N : Nat} {v1 : Int32} {v4 : Int32} {v2 : Int64} {v5 : Int32} {hi : HI} {hl : HL} {z : (Int64 × Int32 × HI × HL) ⊕ (Int64 × HI × HL)} {OUT : Option Value × HI × HL} (h : B_MD_uneven_56 N v1 v4 v2 v5 hi hl = some z) (hk : Sum.elim (fun s => EX w0 ev 6 m_MD_uneven 56 [(0, .ref 65), (1, .int (v1)), (2, .long (s.1)), (4, .int (v4)), (5, .int (s.2.1))] [] (s.2.2.1) (s.2.2.2) OUT) (fun x => EX w0 ev 6 m_MD_uneven 163 [(0, .ref 65), (1, .int (v1)), (2, .long (x.1)), (4, .int (v4))] [] (x.2.1) (x.2.2) OUT) z) : EX w0 ev 6 m_MD_uneven 56 [(0, .ref 65), (1, .int (v1)), (2, .long (v2)), (4, .int (v4)), (5, .int (v5))] [] (hi) (hl) OUT := by
  unfold B_MD_uneven_56 at h
  refine EX.iload (x := v5) rfl (List.mem_of_getElem? (i := 4) rfl) ?_
  refine EX.iload (x := v4) rfl (List.mem_of_getElem? (i := 3) rfl) ?_
  rcases ite_some h with ⟨c9, h⟩ | ⟨c9, h⟩
  · refine EX.go (i := .if_icmp .ge 103) (len := 3) (pc1 := 163) (st1 := []) (hi1 := hi) (hl1 := hl) rfl ?_ (fun _ _ _ => if_pos c9)
    obtain rfl := Option.some.inj h
    have hk : EX w0 ev 6 m_MD_uneven 163 [(0, .ref 65), (1, .int (v1)), (2, .long (v2)), (4, .int (v4))] [] (hi) (hl) OUT := hk
    exact EX.pick [0, 1, 2, 3] hk rfl
  · refine EX.go (i := .if_icmp .ge 103) (len := 3) (pc1 := 63) (st1 := []) (hi1 := hi) (hl1 := hl) rfl ?_ (fun _ _ _ => if_neg c9)
    refine EX.aload_n (x := 65) rfl (List.mem_of_getElem? (i := 0) rfl) ?_
    refine EX.go (i := .getfield 68) (len := 3) (pc1 := 67) (st1 := [.ref 82]) (hi1 := hi) (hl1 := hl) rfl ?_ (fun _ _ _ => rfl)
    refine EX.iload (x := v4) rfl (List.mem_of_getElem? (i := 3) rfl) ?_
    obtain ⟨g10, h⟩ := grd_some h
    refine EX.laload rfl rfl g10 ?_
    refine EX.aload_n (x := 65) rfl (List.mem_of_getElem? (i := 0) rfl) ?_
    refine EX.go (i := .getfield 68) (len := 3) (pc1 := 74) (st1 := [.ref 82, .long (hl 82 (Int32.toNatClampNeg (v4)))]) (hi1 := hi) (hl1 := hl) rfl ?_ (fun _ _ _ => rfl)
    refine EX.iload (x := v5) rfl (List.mem_of_getElem? (i := 4) rfl) ?_
    obtain ⟨g11, h⟩ := grd_some h
    refine EX.laload rfl rfl g11 ?_
    refine EX.go (i := .lcmp) (len := 1) (pc1 := 78) (st1 := [.int ((lg_cmp (hl 82 (Int32.toNatClampNeg (v4)) : Int64) (hl 82 (Int32.toNatClampNeg (v5)))))]) (hi1 := hi) (hl1 := hl) rfl ?_ (fun _ _ _ => rfl)
    rcases ite_some h with ⟨c12, h⟩ | ⟨c12, h⟩
    · refine EX.go (i := .ifCond .le 21) (len := 3) (pc1 := 99) (st1 := []) (hi1 := hi) (hl1 := hl) rfl ?_ (fun _ _ _ => if_pos c12)
      refine EX.aload_n (x := 65) rfl (List.mem_of_getElem? (i := 0) rfl) ?_
      refine EX.go (i := .getfield 68) (len := 3) (pc1 := 103) (st1 := [.ref 82]) (hi1 := hi) (hl1 := hl) rfl ?_ (fun _ _ _ => rfl)
      refine EX.iload (x := v5) rfl (List.mem_of_getElem? (i := 4) rfl) ?_
      obtain ⟨g13, h⟩ := grd_some h
      refine EX.laload rfl rfl g13 ?_
      refine EX.aload_n (x := 65) rfl (List.mem_of_getElem? (i := 0) rfl) ?_
      refine EX.go (i := .getfield 68) (len := 3) (pc1 := 110) (st1 := [.ref 82, .long (hl 82 (Int32.toNatClampNeg (v5)))]) (hi1 := hi) (hl1 := hl) rfl ?_ (fun _ _ _ => rfl)
      refine EX.iload (x := v4) rfl (List.mem_of_getElem? (i := 3) rfl) ?_
      obtain ⟨g14, h⟩ := grd_some h
      refine EX.laload rfl rfl g14 ?_
      refine EX.go (i := .lsub) (len := 1) (pc1 := 114) (st1 := [.long (((hl 82 (Int32.toNatClampNeg (v5)) : Int64) - (hl 82 (Int32.toNatClampNeg (v4)))))]) (hi1 := hi) (hl1 := hl) rfl ?_ (fun _ _ _ => rfl)
      refine EX.pick [0, 1, 2, 3, 4] ?_ rfl
      exact bJ_MD_uneven_114 ev h hk
    · refine EX.go (i := .ifCond .le 21) (len := 3) (pc1 := 81) (st1 := []) (hi1 := hi) (hl1 := hl) rfl ?_ (fun _ _ _ => if_neg c12)
      refine EX.aload_n (x := 65) rfl (List.mem_of_getElem? (i := 0) rfl) ?_
      refine EX.go (i := .getfield 68) (len := 3) (pc1 := 85) (st1 := [.ref 82]) (hi1 := hi) (hl1 := hl) rfl ?_ (fun _ _ _ => rfl)
      refine EX.iload (x := v4) rfl (List.mem_of_getElem? (i := 3) rfl) ?_
      obtain ⟨g21, h⟩ := grd_some h
      refine EX.laload rfl rfl g21 ?_
      refine EX.aload_n (x := 65) rfl (List.mem_of_getElem? (i := 0) rfl) ?_
      refine EX.go (i := .getfield 68) (len := 3) (pc1 := 92) (st1 := [.ref 82, .long (hl 82 (Int32.toNatClampNeg (v4)))]) (hi1 := hi) (hl1 := hl) rfl ?_ (fun _ _ _ => rfl)
      refine EX.iload (x := v5) rfl (List.mem_of_getElem? (i := 4) rfl) ?_
      obtain ⟨g22, h⟩ := grd_some h
      refine EX.laload rfl rfl g22 ?_
      refine EX.go (i := .lsub) (len := 1) (pc1 := 96) (st1 := [.long (((hl 82 (Int32.toNatClampNeg (v4)) : Int64) - (hl 82 (Int32.toNatClampNeg (v5)))))]) (hi1 := hi) (hl1 := hl) rfl ?_ (fun _ _ _ => rfl)
      refine EX.go (i := .goto 18) (len := 3) (pc1 := 114) (st1 := [.long (((hl 82 (Int32.toNatClampNeg (v4)) : Int64) - (hl 82 (Int32.toNatClampNeg (v5)))))]) (hi1 := hi) (hl1 := hl) rfl ?_ (fun _ _ _ => rfl)
      refine EX.pick [0, 1, 2, 3, 4] ?_ rfl
      exact bJ_MD_uneven_114 ev h hk
def B_MD_uneven_31 (N : Nat) (v1 : Int32) (v2 : Int64) (v4 : Int32) (hi : HI) (hl : HL) : Option ((Int64 × Int32 × HI × HL) ⊕ (Int64 × HI × HL)) :=
  if (hi 65 2 : Int32) ≤ (v4 : Int32) then some (.inr (v2, hi, hl)) else (f_MD_lightOf N (v4) (hi) (hl)).bind fun z7 => if (v4 : Int32) < 0 ∨ 16 ≤ Int32.toNatClampNeg (v4) then none else (lpN (fun s => B_MD_uneven_56 N (v1) (v4) s.1 s.2.1 s.2.2.1 s.2.2.2) N (v2, 0, z7.2.1, wrL (z7.2.2) 82 (Int32.toNatClampNeg (v4)) (z7.1))).bind fun x23 => some (.inl (x23.1, v4 + 1, x23.2.1, x23.2.2))
set_option maxRecDepth 10000 in
set_option maxHeartbeats 4000000 in
theorem bB_MD_uneven_31 (ev : EV) {N : Nat} {v1 : Int32} {v2 : Int64} {v4 : Int32} {hi : HI} {hl : HL} {z : (Int64 × Int32 × HI × HL) ⊕ (Int64 × HI × HL)} {OUT : Option Value × HI × HL} (h : B_MD_uneven_31 N v1 v2 v4 hi hl = some z) (hk : Sum.elim (fun s => EX w0 ev 6 m_MD_uneven 31 [(0, .ref 65), (1, .int (v1)), (2, .long (s.1)), (4, .int (s.2.1))] [] (s.2.2.1) (s.2.2.2) OUT) (fun x => EX w0 ev 6 m_MD_uneven 169 [(1, .int (v1)), (2, .long (x.1))] [] (x.2.1) (x.2.2) OUT) z) : EX w0 ev 6 m_MD_uneven 31 [(0, .ref 65), (1, .int (v1)), (2, .long (v2)), (4, .int (v4))] [] (hi) (hl) OUT := by
  unfold B_MD_uneven_31 at h
  refine EX.iload (x := v4) rfl (List.mem_of_getElem? (i := 3) rfl) ?_
  refine EX.aload_n (x := 65) rfl (List.mem_of_getElem? (i := 0) rfl) ?_
  refine EX.go (i := .getfield 116) (len := 3) (pc1 := 37) (st1 := [.int (hi 65 2), .int (v4)]) (hi1 := hi) (hl1 := hl) rfl ?_ (fun _ _ _ => rfl)
  rcases ite_some h with ⟨c6, h⟩ | ⟨c6, h⟩
  · refine EX.go (i := .if_icmp .ge 132) (len := 3) (pc1 := 169) (st1 := []) (hi1 := hi) (hl1 := hl) rfl ?_ (fun _ _ _ => if_pos c6)
    obtain rfl := Option.some.inj h
    have hk : EX w0 ev 6 m_MD_uneven 169 [(1, .int (v1)), (2, .long (v2))] [] (hi) (hl) OUT := hk
    exact EX.pick [1, 2] hk rfl
  · refine EX.go (i := .if_icmp .ge 132) (len := 3) (pc1 := 40) (st1 := []) (hi1 := hi) (hl1 := hl) rfl ?_ (fun _ _ _ => if_neg c6)
    refine EX.aload_n (x := 65) rfl (List.mem_of_getElem? (i := 0) rfl) ?_
    refine EX.go (i := .getfield 68) (len := 3) (pc1 := 44) (st1 := [.ref 82]) (hi1 := hi) (hl1 := hl) rfl ?_ (fun _ _ _ => rfl)
    refine EX.iload (x := v4) rfl (List.mem_of_getElem? (i := 3) rfl) ?_
    refine EX.aload_n (x := 65) rfl (List.mem_of_getElem? (i := 0) rfl) ?_
    refine EX.iload (x := v4) rfl (List.mem_of_getElem? (i := 3) rfl) ?_
    obtain ⟨z7, hz7, h⟩ := bnd_some h
    refine EX.callV (b := 65) (as := [.int (v4)]) (rest := [.int (v4), .ref 82]) (r := some (.long (z7.1))) (hi1 := z7.2.1) (hl1 := z7.2.2) rfl rfl rfl rfl rfl rfl ((b_MD_lightOf ev hz7).mono (by decide)) ?_
    show EX w0 ev 6 m_MD_uneven 52 [(0, .ref 65), (1, .int (v1)), (2, .long (v2)), (4, .int (v4))] [.long (z7.1), .int (v4), .ref 82] (z7.2.1) (z7.2.2) OUT
    obtain ⟨g8, h⟩ := grd_some h
    refine EX.lastore rfl rfl g8 ?_
    refine EX.iconst (v := 0) rfl rfl ?_
    refine EX.istore (req1 := [(5, .int (0)), (0, .ref 65), (1, .int (v1)), (2, .long (v2)), (4, .int (v4))]) rfl rfl rfl ?_
    obtain ⟨x23, hx23, h⟩ := bnd_some h
    refine EX.pick [1, 2, 3, 4, 0] ?_ rfl
    refine lp_sound (f := fun s => B_MD_uneven_56 N (v1) (v4) s.1 s.2.1 s.2.2.1 s.2.2.2) (PS := fun s => EX w0 ev 6 m_MD_uneven 56 [(0, .ref 65), (1, .int (v1)), (2, .long (s.1)), (4, .int (v4)), (5, .int (s.2.1))] [] (s.2.2.1) (s.2.2.2) OUT) (PX := fun x => EX w0 ev 6 m_MD_uneven 163 [(0, .ref 65), (1, .int (v1)), (2, .long (x.1)), (4, .int (v4))] [] (x.2.1) (x.2.2) OUT) ?_ N _ x23 hx23 ?_
    · exact fun s z hz hk => bB_MD_uneven_56 ev hz hk
    show EX w0 ev 6 m_MD_uneven 163 [(0, .ref 65), (1, .int (v1)), (2, .long (x23.1)), (4, .int (v4))] [] (x23.2.1) (x23.2.2) OUT
    refine EX.iinc (x := v4) (v := v4 + 1) (req1 := [(4, .int (v4 + 1)), (0, .ref 65), (1, .int (v1)), (2, .long (x23.1))]) rfl rfl (List.mem_of_getElem? (i := 3) rfl) rfl rfl ?_
    refine EX.go (i := .goto (-135)) (len := 3) (pc1 := 31) (st1 := []) (hi1 := x23.2.1) (hl1 := x23.2.2) rfl ?_ (fun _ _ _ => rfl)
    obtain rfl := Option.some.inj h
    have hk : EX w0 ev 6 m_MD_uneven 31 [(0, .ref 65), (1, .int (v1)), (2, .long (x23.1)), (4, .int (v4 + 1))] [] (x23.2.1) (x23.2.2) OUT := hk
    exact EX.pick [1, 2, 3, 0] hk rfl
def f_MD_uneven (N : Nat) (p1 : Int32) (hi : HI) (hl : HL) : Option (Int32 × HI × HL) :=
  (f_MD_in N ((Int32.toInt64 (p1))) (0) (1) (hi) (hl)).bind fun z1 => if (z1.1 : Int32) = 0 then some ((-1), z1.2.1, z1.2.2) else (f_MD_isPlanned N (z1.2.1) (z1.2.2)).bind fun z3 => if (z3.1 : Int32) = 0 then some ((-4), z3.2.1, z3.2.2) else (f_MD_findPlan N (z3.2.1) (z3.2.2)).bind fun z5 => (lpN (fun s => B_MD_uneven_31 N (p1) s.1 s.2.1 s.2.2.1 s.2.2.2) N (0, 0, z5.2.1, z5.2.2)).bind fun x24 => (f_MD_lowest N (x24.1) (p1) (x24.2.1) (x24.2.2)).bind fun z25 => some (z25.1, z25.2.1, z25.2.2)
set_option maxRecDepth 10000 in
set_option maxHeartbeats 4000000 in
theorem b_MD_uneven (ev : EV) {N : Nat} {p1 : Int32} {hi : HI} {hl : HL} {o : Int32 × HI × HL} (h : f_MD_uneven N p1 hi hl = some o) : EM w0 ev 7 m_MD_uneven [.ref 65, .int (p1)] hi hl (oI o) := by
  unfold f_MD_uneven at h
  refine EM.of rfl ?_
  show EX w0 ev 6 m_MD_uneven 0 [(0, .ref 65), (1, .int (p1))] [] (hi) (hl) (oI o)
  refine EX.iload_n (x := p1) rfl (List.mem_of_getElem? (i := 1) rfl) ?_
  refine EX.go (i := .i2l) (len := 1) (pc1 := 2) (st1 := [.long ((Int32.toInt64 (p1)))]) (hi1 := hi) (hl1 := hl) rfl ?_ (fun _ _ _ => rfl)
  refine EX.lconst (v := 0) rfl rfl ?_
  refine EX.lconst (v := 1) rfl rfl ?_
  obtain ⟨z1, hz1, h⟩ := bnd_some h
  refine EX.callS (as := [.long ((Int32.toInt64 (p1))), .long (0), .long (1)]) (rest := []) (r := some (.int (z1.1))) (hi1 := z1.2.1) (hl1 := z1.2.2) rfl rfl rfl rfl rfl rfl ((b_MD_in ev hz1).mono (by decide)) ?_
  show EX w0 ev 6 m_MD_uneven 7 [(0, .ref 65), (1, .int (p1))] [.int (z1.1)] (z1.2.1) (z1.2.2) (oI o)
  rcases ite_some h with ⟨c2, h⟩ | ⟨c2, h⟩
  · refine EX.go (i := .ifCond .ne 5) (len := 3) (pc1 := 10) (st1 := []) (hi1 := z1.2.1) (hl1 := z1.2.2) rfl ?_ (fun _ _ _ => if_pos c2)
    refine EX.iconst (v := (-1)) rfl rfl ?_
    obtain rfl := Option.some.inj h
    exact EX.iret rfl rfl
  · refine EX.go (i := .ifCond .ne 5) (len := 3) (pc1 := 12) (st1 := []) (hi1 := z1.2.1) (hl1 := z1.2.2) rfl ?_ (fun _ _ _ => if_neg c2)
    refine EX.aload_n (x := 65) rfl (List.mem_of_getElem? (i := 0) rfl) ?_
    obtain ⟨z3, hz3, h⟩ := bnd_some h
    refine EX.callV (b := 65) (as := []) (rest := []) (r := some (.int (z3.1))) (hi1 := z3.2.1) (hl1 := z3.2.2) rfl rfl rfl rfl rfl rfl ((b_MD_isPlanned ev hz3).mono (by decide)) ?_
    show EX w0 ev 6 m_MD_uneven 16 [(0, .ref 65), (1, .int (p1))] [.int (z3.1)] (z3.2.1) (z3.2.2) (oI o)
    rcases ite_some h with ⟨c4, h⟩ | ⟨c4, h⟩
    · refine EX.go (i := .ifCond .ne 6) (len := 3) (pc1 := 19) (st1 := []) (hi1 := z3.2.1) (hl1 := z3.2.2) rfl ?_ (fun _ _ _ => if_pos c4)
      refine EX.bipush (v := (-4)) rfl rfl ?_
      obtain rfl := Option.some.inj h
      exact EX.iret rfl rfl
    · refine EX.go (i := .ifCond .ne 6) (len := 3) (pc1 := 22) (st1 := []) (hi1 := z3.2.1) (hl1 := z3.2.2) rfl ?_ (fun _ _ _ => if_neg c4)
      refine EX.lconst (v := 0) rfl rfl ?_
      refine EX.lstore_n (req1 := [(2, .long (0)), (0, .ref 65), (1, .int (p1))]) rfl rfl rfl ?_
      refine EX.aload_n (x := 65) rfl (List.mem_of_getElem? (i := 1) rfl) ?_
      obtain ⟨z5, hz5, h⟩ := bnd_some h
      refine EX.callV (b := 65) (as := []) (rest := []) (r := none) (hi1 := z5.2.1) (hl1 := z5.2.2) rfl rfl rfl rfl rfl rfl ((b_MD_findPlan ev hz5).mono (by decide)) ?_
      show EX w0 ev 6 m_MD_uneven 28 [(2, .long (0)), (0, .ref 65), (1, .int (p1))] [] (z5.2.1) (z5.2.2) (oI o)
      refine EX.iconst (v := 0) rfl rfl ?_
      refine EX.istore (req1 := [(4, .int (0)), (2, .long (0)), (0, .ref 65), (1, .int (p1))]) rfl rfl rfl ?_
      obtain ⟨x24, hx24, h⟩ := bnd_some h
      refine EX.pick [2, 3, 1, 0] ?_ rfl
      refine lp_sound (f := fun s => B_MD_uneven_31 N (p1) s.1 s.2.1 s.2.2.1 s.2.2.2) (PS := fun s => EX w0 ev 6 m_MD_uneven 31 [(0, .ref 65), (1, .int (p1)), (2, .long (s.1)), (4, .int (s.2.1))] [] (s.2.2.1) (s.2.2.2) (oI o)) (PX := fun x => EX w0 ev 6 m_MD_uneven 169 [(1, .int (p1)), (2, .long (x.1))] [] (x.2.1) (x.2.2) (oI o)) ?_ N _ x24 hx24 ?_
      · exact fun s z hz hk => bB_MD_uneven_31 ev hz hk
      show EX w0 ev 6 m_MD_uneven 169 [(1, .int (p1)), (2, .long (x24.1))] [] (x24.2.1) (x24.2.2) (oI o)
      refine EX.lload_n (x := x24.1) rfl (List.mem_of_getElem? (i := 1) rfl) ?_
      refine EX.iload_n (x := p1) rfl (List.mem_of_getElem? (i := 0) rfl) ?_
      obtain ⟨z25, hz25, h⟩ := bnd_some h
      refine EX.callS (as := [.long (x24.1), .int (p1)]) (rest := []) (r := some (.int (z25.1))) (hi1 := z25.2.1) (hl1 := z25.2.2) rfl rfl rfl rfl rfl rfl ((b_MD_lowest ev hz25).mono (by decide)) ?_
      show EX w0 ev 6 m_MD_uneven 174 [(1, .int (p1)), (2, .long (x24.1))] [.int (z25.1)] (z25.2.1) (z25.2.2) (oI o)
      obtain rfl := Option.some.inj h
      exact EX.iret rfl rfl
def B_MD_feed_19 (N : Nat) (v1 : Int64) (v3 : Int32) (hi : HI) (hl : HL) : Option ((Int32 × HI × HL) ⊕ (HI × HL)) :=
  if (v3 : Int32) < 0 then some (.inr (hi, hl)) else if (hi 65 31 : Int32) < 0 ∨ 200 ≤ Int32.toNatClampNeg (hi 65 31) then none else some (.inl (v3 + (-8), wr (wr (hi) 88 (Int32.toNatClampNeg (hi 65 31)) ((Int64.toInt32 ((((v1 >>> (Int32.toInt64 v3 &&& 63)) : Int64) &&& (255)))))) 65 31 ((((wr (hi) 88 (Int32.toNatClampNeg (hi 65 31)) ((Int64.toInt32 ((((v1 >>> (Int32.toInt64 v3 &&& 63)) : Int64) &&& (255)))))) 65 31 : Int32) + (1))), hl))
set_option maxRecDepth 10000 in
set_option maxHeartbeats 4000000 in
theorem bB_MD_feed_19 (ev : EV) {N : Nat} {v1 : Int64} {v3 : Int32} {hi : HI} {hl : HL} {z : (Int32 × HI × HL) ⊕ (HI × HL)} {OUT : Option Value × HI × HL} (h : B_MD_feed_19 N v1 v3 hi hl = some z) (hk : Sum.elim (fun s => EX w0 ev 0 m_MD_feed 19 [(0, .ref 65), (1, .long (v1)), (3, .int (s.1))] [] (s.2.1) (s.2.2) OUT) (fun x => EX w0 ev 0 m_MD_feed 56 [(0, .ref 65)] [] (x.1) (x.2) OUT) z) : EX w0 ev 0 m_MD_feed 19 [(0, .ref 65), (1, .long (v1)), (3, .int (v3))] [] (hi) (hl) OUT := by
  unfold B_MD_feed_19 at h
  refine EX.iload_n (x := v3) rfl (List.mem_of_getElem? (i := 2) rfl) ?_
  rcases ite_some h with ⟨c2, h⟩ | ⟨c2, h⟩
  · refine EX.go (i := .ifCond .lt 36) (len := 3) (pc1 := 56) (st1 := []) (hi1 := hi) (hl1 := hl) rfl ?_ (fun _ _ _ => if_pos c2)
    obtain rfl := Option.some.inj h
    have hk : EX w0 ev 0 m_MD_feed 56 [(0, .ref 65)] [] (hi) (hl) OUT := hk
    exact EX.pick [0] hk rfl
  · refine EX.go (i := .ifCond .lt 36) (len := 3) (pc1 := 23) (st1 := []) (hi1 := hi) (hl1 := hl) rfl ?_ (fun _ _ _ => if_neg c2)
    refine EX.aload_n (x := 65) rfl (List.mem_of_getElem? (i := 0) rfl) ?_
    refine EX.go (i := .getfield 87) (len := 3) (pc1 := 27) (st1 := [.ref 88]) (hi1 := hi) (hl1 := hl) rfl ?_ (fun _ _ _ => rfl)
    refine EX.aload_n (x := 65) rfl (List.mem_of_getElem? (i := 0) rfl) ?_
    refine EX.go (i := .getfield 225) (len := 3) (pc1 := 31) (st1 := [.int (hi 65 31), .ref 88]) (hi1 := hi) (hl1 := hl) rfl ?_ (fun _ _ _ => rfl)
    refine EX.lload_n (x := v1) rfl (List.mem_of_getElem? (i := 1) rfl) ?_
    refine EX.iload_n (x := v3) rfl (List.mem_of_getElem? (i := 2) rfl) ?_
    refine EX.go (i := .lshr) (len := 1) (pc1 := 34) (st1 := [.long ((v1 >>> (Int32.toInt64 v3 &&& 63))), .int (hi 65 31), .ref 88]) (hi1 := hi) (hl1 := hl) rfl ?_ (fun _ _ _ => rfl)
    refine EX.go (i := .ldc2_w 228) (len := 3) (pc1 := 37) (st1 := [.long (255), .long ((v1 >>> (Int32.toInt64 v3 &&& 63))), .int (hi 65 31), .ref 88]) (hi1 := hi) (hl1 := hl) rfl ?_ (fun _ _ _ => rfl)
    refine EX.go (i := .land) (len := 1) (pc1 := 38) (st1 := [.long ((((v1 >>> (Int32.toInt64 v3 &&& 63)) : Int64) &&& (255))), .int (hi 65 31), .ref 88]) (hi1 := hi) (hl1 := hl) rfl ?_ (fun _ _ _ => rfl)
    refine EX.go (i := .l2i) (len := 1) (pc1 := 39) (st1 := [.int ((Int64.toInt32 ((((v1 >>> (Int32.toInt64 v3 &&& 63)) : Int64) &&& (255))))), .int (hi 65 31), .ref 88]) (hi1 := hi) (hl1 := hl) rfl ?_ (fun _ _ _ => rfl)
    obtain ⟨g3, h⟩ := grd_some h
    refine EX.iastore rfl rfl g3 ?_
    refine EX.aload_n (x := 65) rfl (List.mem_of_getElem? (i := 0) rfl) ?_
    refine EX.go (i := .dup) (len := 1) (pc1 := 42) (st1 := [.ref 65, .ref 65]) (hi1 := wr (hi) 88 (Int32.toNatClampNeg (hi 65 31)) ((Int64.toInt32 ((((v1 >>> (Int32.toInt64 v3 &&& 63)) : Int64) &&& (255)))))) (hl1 := hl) rfl ?_ (fun _ _ _ => rfl)
    refine EX.go (i := .getfield 225) (len := 3) (pc1 := 45) (st1 := [.int ((wr (hi) 88 (Int32.toNatClampNeg (hi 65 31)) ((Int64.toInt32 ((((v1 >>> (Int32.toInt64 v3 &&& 63)) : Int64) &&& (255)))))) 65 31), .ref 65]) (hi1 := wr (hi) 88 (Int32.toNatClampNeg (hi 65 31)) ((Int64.toInt32 ((((v1 >>> (Int32.toInt64 v3 &&& 63)) : Int64) &&& (255)))))) (hl1 := hl) rfl ?_ (fun _ _ _ => rfl)
    refine EX.iconst (v := 1) rfl rfl ?_
    refine EX.go (i := .iadd) (len := 1) (pc1 := 47) (st1 := [.int ((((wr (hi) 88 (Int32.toNatClampNeg (hi 65 31)) ((Int64.toInt32 ((((v1 >>> (Int32.toInt64 v3 &&& 63)) : Int64) &&& (255)))))) 65 31 : Int32) + (1))), .ref 65]) (hi1 := wr (hi) 88 (Int32.toNatClampNeg (hi 65 31)) ((Int64.toInt32 ((((v1 >>> (Int32.toInt64 v3 &&& 63)) : Int64) &&& (255)))))) (hl1 := hl) rfl ?_ (fun _ _ _ => rfl)
    refine EX.go (i := .putfield 225) (len := 3) (pc1 := 50) (st1 := []) (hi1 := wr (wr (hi) 88 (Int32.toNatClampNeg (hi 65 31)) ((Int64.toInt32 ((((v1 >>> (Int32.toInt64 v3 &&& 63)) : Int64) &&& (255)))))) 65 31 ((((wr (hi) 88 (Int32.toNatClampNeg (hi 65 31)) ((Int64.toInt32 ((((v1 >>> (Int32.toInt64 v3 &&& 63)) : Int64) &&& (255)))))) 65 31 : Int32) + (1)))) (hl1 := hl) rfl ?_ (fun _ _ _ => rfl)
    refine EX.iinc (x := v3) (v := v3 + (-8)) (req1 := [(3, .int (v3 + (-8))), (0, .ref 65), (1, .long (v1))]) rfl rfl (List.mem_of_getElem? (i := 2) rfl) rfl rfl ?_
    refine EX.go (i := .goto (-34)) (len := 3) (pc1 := 19) (st1 := []) (hi1 := wr (wr (hi) 88 (Int32.toNatClampNeg (hi 65 31)) ((Int64.toInt32 ((((v1 >>> (Int32.toInt64 v3 &&& 63)) : Int64) &&& (255)))))) 65 31 ((((wr (hi) 88 (Int32.toNatClampNeg (hi 65 31)) ((Int64.toInt32 ((((v1 >>> (Int32.toInt64 v3 &&& 63)) : Int64) &&& (255)))))) 65 31 : Int32) + (1)))) (hl1 := hl) rfl ?_ (fun _ _ _ => rfl)
    obtain rfl := Option.some.inj h
    have hk : EX w0 ev 0 m_MD_feed 19 [(0, .ref 65), (1, .long (v1)), (3, .int (v3 + (-8)))] [] (wr (wr (hi) 88 (Int32.toNatClampNeg (hi 65 31)) ((Int64.toInt32 ((((v1 >>> (Int32.toInt64 v3 &&& 63)) : Int64) &&& (255)))))) 65 31 ((((wr (hi) 88 (Int32.toNatClampNeg (hi 65 31)) ((Int64.toInt32 ((((v1 >>> (Int32.toInt64 v3 &&& 63)) : Int64) &&& (255)))))) 65 31 : Int32) + (1)))) (hl) OUT := hk
    exact EX.pick [1, 2, 0] hk rfl
def f_MD_feed (N : Nat) (p1 : Int64) (hi : HI) (hl : HL) : Option (Int32 × HI × HL) :=
  if (((hi 65 31 : Int32) + (8)) : Int32) ≤ (200 : Int32) then (lpN (fun s => B_MD_feed_19 N (p1) s.1 s.2.1 s.2.2) N (56, hi, hl)).bind fun x4 => some (x4.1 65 31, x4.1, x4.2) else some ((-3), hi, hl)
set_option maxRecDepth 10000 in
set_option maxHeartbeats 4000000 in
theorem b_MD_feed (ev : EV) {N : Nat} {p1 : Int64} {hi : HI} {hl : HL} {o : Int32 × HI × HL} (h : f_MD_feed N p1 hi hl = some o) : EM w0 ev 1 m_MD_feed [.ref 65, .long (p1)] hi hl (oI o) := by
  unfold f_MD_feed at h
  refine EM.of rfl ?_
  show EX w0 ev 0 m_MD_feed 0 [(0, .ref 65), (1, .long (p1))] [] (hi) (hl) (oI o)
  refine EX.aload_n (x := 65) rfl (List.mem_of_getElem? (i := 0) rfl) ?_
  refine EX.go (i := .getfield 225) (len := 3) (pc1 := 4) (st1 := [.int (hi 65 31)]) (hi1 := hi) (hl1 := hl) rfl ?_ (fun _ _ _ => rfl)
  refine EX.bipush (v := 8) rfl rfl ?_
  refine EX.go (i := .iadd) (len := 1) (pc1 := 7) (st1 := [.int (((hi 65 31 : Int32) + (8)))]) (hi1 := hi) (hl1 := hl) rfl ?_ (fun _ _ _ => rfl)
  refine EX.sipush (v := 200) rfl rfl ?_
  rcases ite_some h with ⟨c1, h⟩ | ⟨c1, h⟩
  · refine EX.go (i := .if_icmp .le 6) (len := 3) (pc1 := 16) (st1 := []) (hi1 := hi) (hl1 := hl) rfl ?_ (fun _ _ _ => if_pos c1)
    refine EX.bipush (v := 56) rfl rfl ?_
    refine EX.istore_n (req1 := [(3, .int (56)), (0, .ref 65), (1, .long (p1))]) rfl rfl rfl ?_
    obtain ⟨x4, hx4, h⟩ := bnd_some h
    refine EX.pick [1, 2, 0] ?_ rfl
    refine lp_sound (f := fun s => B_MD_feed_19 N (p1) s.1 s.2.1 s.2.2) (PS := fun s => EX w0 ev 0 m_MD_feed 19 [(0, .ref 65), (1, .long (p1)), (3, .int (s.1))] [] (s.2.1) (s.2.2) (oI o)) (PX := fun x => EX w0 ev 0 m_MD_feed 56 [(0, .ref 65)] [] (x.1) (x.2) (oI o)) ?_ N _ x4 hx4 ?_
    · exact fun s z hz hk => bB_MD_feed_19 ev hz hk
    show EX w0 ev 0 m_MD_feed 56 [(0, .ref 65)] [] (x4.1) (x4.2) (oI o)
    refine EX.aload_n (x := 65) rfl (List.mem_of_getElem? (i := 0) rfl) ?_
    refine EX.go (i := .getfield 225) (len := 3) (pc1 := 60) (st1 := [.int (x4.1 65 31)]) (hi1 := x4.1) (hl1 := x4.2) rfl ?_ (fun _ _ _ => rfl)
    obtain rfl := Option.some.inj h
    exact EX.iret rfl rfl
  · refine EX.go (i := .if_icmp .le 6) (len := 3) (pc1 := 13) (st1 := []) (hi1 := hi) (hl1 := hl) rfl ?_ (fun _ _ _ => if_neg c1)
    refine EX.bipush (v := (-3)) rfl rfl ?_
    obtain rfl := Option.some.inj h
    exact EX.iret rfl rfl
def f_MD_end (N : Nat) (p1 : Int32) (hi : HI) (hl : HL) : Option (Int32 × HI × HL) :=
  (f_MD_in N ((Int32.toInt64 (p1))) (0) ((Int32.toInt64 (hi 65 31))) (hi) (hl)).bind fun z1 => if (z1.1 : Int32) = 0 then some ((-1), z1.2.1, z1.2.2) else some (z1.2.1 65 31, wr (z1.2.1) 65 31 (p1), z1.2.2)
set_option maxRecDepth 10000 in
set_option maxHeartbeats 4000000 in
theorem b_MD_end (ev : EV) {N : Nat} {p1 : Int32} {hi : HI} {hl : HL} {o : Int32 × HI × HL} (h : f_MD_end N p1 hi hl = some o) : EM w0 ev 2 m_MD_end [.ref 65, .int (p1)] hi hl (oI o) := by
  unfold f_MD_end at h
  refine EM.of rfl ?_
  show EX w0 ev 1 m_MD_end 0 [(0, .ref 65), (1, .int (p1))] [] (hi) (hl) (oI o)
  refine EX.iload_n (x := p1) rfl (List.mem_of_getElem? (i := 1) rfl) ?_
  refine EX.go (i := .i2l) (len := 1) (pc1 := 2) (st1 := [.long ((Int32.toInt64 (p1)))]) (hi1 := hi) (hl1 := hl) rfl ?_ (fun _ _ _ => rfl)
  refine EX.lconst (v := 0) rfl rfl ?_
  refine EX.aload_n (x := 65) rfl (List.mem_of_getElem? (i := 0) rfl) ?_
  refine EX.go (i := .getfield 225) (len := 3) (pc1 := 7) (st1 := [.int (hi 65 31), .long (0), .long ((Int32.toInt64 (p1)))]) (hi1 := hi) (hl1 := hl) rfl ?_ (fun _ _ _ => rfl)
  refine EX.go (i := .i2l) (len := 1) (pc1 := 8) (st1 := [.long ((Int32.toInt64 (hi 65 31))), .long (0), .long ((Int32.toInt64 (p1)))]) (hi1 := hi) (hl1 := hl) rfl ?_ (fun _ _ _ => rfl)
  obtain ⟨z1, hz1, h⟩ := bnd_some h
  refine EX.callS (as := [.long ((Int32.toInt64 (p1))), .long (0), .long ((Int32.toInt64 (hi 65 31)))]) (rest := []) (r := some (.int (z1.1))) (hi1 := z1.2.1) (hl1 := z1.2.2) rfl rfl rfl rfl rfl rfl ((b_MD_in ev hz1).mono (by decide)) ?_
  show EX w0 ev 1 m_MD_end 11 [(0, .ref 65), (1, .int (p1))] [.int (z1.1)] (z1.2.1) (z1.2.2) (oI o)
  rcases ite_some h with ⟨c2, h⟩ | ⟨c2, h⟩
  · refine EX.go (i := .ifCond .ne 5) (len := 3) (pc1 := 14) (st1 := []) (hi1 := z1.2.1) (hl1 := z1.2.2) rfl ?_ (fun _ _ _ => if_pos c2)
    refine EX.iconst (v := (-1)) rfl rfl ?_
    obtain rfl := Option.some.inj h
    exact EX.iret rfl rfl
  · refine EX.go (i := .ifCond .ne 5) (len := 3) (pc1 := 16) (st1 := []) (hi1 := z1.2.1) (hl1 := z1.2.2) rfl ?_ (fun _ _ _ => if_neg c2)
    refine EX.aload_n (x := 65) rfl (List.mem_of_getElem? (i := 0) rfl) ?_
    refine EX.go (i := .getfield 225) (len := 3) (pc1 := 20) (st1 := [.int (z1.2.1 65 31)]) (hi1 := z1.2.1) (hl1 := z1.2.2) rfl ?_ (fun _ _ _ => rfl)
    refine EX.istore_n (req1 := [(2, .int (z1.2.1 65 31)), (0, .ref 65), (1, .int (p1))]) rfl rfl rfl ?_
    refine EX.aload_n (x := 65) rfl (List.mem_of_getElem? (i := 1) rfl) ?_
    refine EX.iload_n (x := p1) rfl (List.mem_of_getElem? (i := 2) rfl) ?_
    refine EX.go (i := .putfield 225) (len := 3) (pc1 := 26) (st1 := []) (hi1 := wr (z1.2.1) 65 31 (p1)) (hl1 := z1.2.2) rfl ?_ (fun _ _ _ => rfl)
    refine EX.iload_n (x := z1.2.1 65 31) rfl (List.mem_of_getElem? (i := 0) rfl) ?_
    obtain rfl := Option.some.inj h
    exact EX.iret rfl rfl
def f_MD_wants (N : Nat) (p1 : Int32) (p2 : Int32) (hi : HI) (hl : HL) : Option (Unit × HI × HL) :=
  if (p1 : Int32) = 0 then if (hi 65 36 : Int32) = 0 then some ((), wr (wr (hi) 65 36 (p2)) 65 37 ((wr (hi) 65 36 (p2)) 65 33), hl) else some ((), hi, hl) else some ((), hi, hl)
set_option maxRecDepth 10000 in
set_option maxHeartbeats 4000000 in
theorem b_MD_wants (ev : EV) {N : Nat} {p1 : Int32} {p2 : Int32} {hi : HI} {hl : HL} {o : Unit × HI × HL} (h : f_MD_wants N p1 p2 hi hl = some o) : EM w0 ev 1 m_MD_wants [.ref 65, .int (p1), .int (p2)] hi hl (oV o) := by
  unfold f_MD_wants at h
  refine EM.of rfl ?_
  show EX w0 ev 0 m_MD_wants 0 [(0, .ref 65), (1, .int (p1)), (2, .int (p2))] [] (hi) (hl) (oV o)
  refine EX.iload_n (x := p1) rfl (List.mem_of_getElem? (i := 1) rfl) ?_
  rcases ite_some h with ⟨c1, h⟩ | ⟨c1, h⟩
  · refine EX.go (i := .ifCond .ne 23) (len := 3) (pc1 := 4) (st1 := []) (hi1 := hi) (hl1 := hl) rfl ?_ (fun _ _ _ => if_pos c1)
    refine EX.aload_n (x := 65) rfl (List.mem_of_getElem? (i := 0) rfl) ?_
    refine EX.go (i := .getfield 230) (len := 3) (pc1 := 8) (st1 := [.int (hi 65 36)]) (hi1 := hi) (hl1 := hl) rfl ?_ (fun _ _ _ => rfl)
    rcases ite_some h with ⟨c2, h⟩ | ⟨c2, h⟩
    · refine EX.go (i := .ifCond .ne 16) (len := 3) (pc1 := 11) (st1 := []) (hi1 := hi) (hl1 := hl) rfl ?_ (fun _ _ _ => if_pos c2)
      refine EX.aload_n (x := 65) rfl (List.mem_of_getElem? (i := 0) rfl) ?_
      refine EX.iload_n (x := p2) rfl (List.mem_of_getElem? (i := 2) rfl) ?_
      refine EX.go (i := .putfield 230) (len := 3) (pc1 := 16) (st1 := []) (hi1 := wr (hi) 65 36 (p2)) (hl1 := hl) rfl ?_ (fun _ _ _ => rfl)
      refine EX.aload_n (x := 65) rfl (List.mem_of_getElem? (i := 0) rfl) ?_
      refine EX.aload_n (x := 65) rfl (List.mem_of_getElem? (i := 0) rfl) ?_
      refine EX.go (i := .getfield 233) (len := 3) (pc1 := 21) (st1 := [.int ((wr (hi) 65 36 (p2)) 65 33), .ref 65]) (hi1 := wr (hi) 65 36 (p2)) (hl1 := hl) rfl ?_ (fun _ _ _ => rfl)
      refine EX.go (i := .putfield 236) (len := 3) (pc1 := 24) (st1 := []) (hi1 := wr (wr (hi) 65 36 (p2)) 65 37 ((wr (hi) 65 36 (p2)) 65 33)) (hl1 := hl) rfl ?_ (fun _ _ _ => rfl)
      obtain rfl := Option.some.inj h
      exact EX.vret rfl rfl
    · refine EX.go (i := .ifCond .ne 16) (len := 3) (pc1 := 24) (st1 := []) (hi1 := hi) (hl1 := hl) rfl ?_ (fun _ _ _ => if_neg c2)
      obtain rfl := Option.some.inj h
      exact EX.vret rfl rfl
  · refine EX.go (i := .ifCond .ne 23) (len := 3) (pc1 := 24) (st1 := []) (hi1 := hi) (hl1 := hl) rfl ?_ (fun _ _ _ => if_neg c1)
    obtain rfl := Option.some.inj h
    exact EX.vret rfl rfl
def f_MD_look (N : Nat) (p1 : Int32) (hi : HI) (hl : HL) : Option (Int32 × HI × HL) :=
  if (hi 65 31 : Int32) ≤ (p1 : Int32) then some ((-1), hi, hl) else if (p1 : Int32) < 0 ∨ 200 ≤ Int32.toNatClampNeg (p1) then none else some (hi 88 (Int32.toNatClampNeg (p1)), hi, hl)
set_option maxRecDepth 10000 in
set_option maxHeartbeats 4000000 in
theorem b_MD_look (ev : EV) {N : Nat} {p1 : Int32} {hi : HI} {hl : HL} {o : Int32 × HI × HL} (h : f_MD_look N p1 hi hl = some o) : EM w0 ev 1 m_MD_look [.ref 65, .int (p1)] hi hl (oI o) := by
  unfold f_MD_look at h
  refine EM.of rfl ?_
  show EX w0 ev 0 m_MD_look 0 [(0, .ref 65), (1, .int (p1))] [] (hi) (hl) (oI o)
  refine EX.iload_n (x := p1) rfl (List.mem_of_getElem? (i := 1) rfl) ?_
  refine EX.aload_n (x := 65) rfl (List.mem_of_getElem? (i := 0) rfl) ?_
  refine EX.go (i := .getfield 225) (len := 3) (pc1 := 5) (st1 := [.int (hi 65 31), .int (p1)]) (hi1 := hi) (hl1 := hl) rfl ?_ (fun _ _ _ => rfl)
  rcases ite_some h with ⟨c1, h⟩ | ⟨c1, h⟩
  · refine EX.go (i := .if_icmp .ge 12) (len := 3) (pc1 := 17) (st1 := []) (hi1 := hi) (hl1 := hl) rfl ?_ (fun _ _ _ => if_pos c1)
    refine EX.iconst (v := (-1)) rfl rfl ?_
    obtain rfl := Option.some.inj h
    exact EX.iret rfl rfl
  · refine EX.go (i := .if_icmp .ge 12) (len := 3) (pc1 := 8) (st1 := []) (hi1 := hi) (hl1 := hl) rfl ?_ (fun _ _ _ => if_neg c1)
    refine EX.aload_n (x := 65) rfl (List.mem_of_getElem? (i := 0) rfl) ?_
    refine EX.go (i := .getfield 87) (len := 3) (pc1 := 12) (st1 := [.ref 88]) (hi1 := hi) (hl1 := hl) rfl ?_ (fun _ _ _ => rfl)
    refine EX.iload_n (x := p1) rfl (List.mem_of_getElem? (i := 1) rfl) ?_
    obtain ⟨g2, h⟩ := grd_some h
    refine EX.iaload rfl rfl g2 ?_
    refine EX.go (i := .goto 4) (len := 3) (pc1 := 18) (st1 := [.int (hi 88 (Int32.toNatClampNeg (p1)))]) (hi1 := hi) (hl1 := hl) rfl ?_ (fun _ _ _ => rfl)
    obtain rfl := Option.some.inj h
    exact EX.iret rfl rfl
def J_MD_is_74 (N : Nat) (hi : HI) (hl : HL) : Option (Int32 × HI × HL) :=
  some (1, hi, hl)
set_option maxRecDepth 10000 in
set_option maxHeartbeats 4000000 in
theorem bJ_MD_is_74 (ev : EV) {N : Nat} {hi : HI} {hl : HL} {o : Int32 × HI × HL} (h : J_MD_is_74 N hi hl = some o) : EX w0 ev 1 m_MD_is 74 [] [] (hi) (hl) (oI o) := by
  unfold J_MD_is_74 at h
  refine EX.iconst (v := 1) rfl rfl ?_
  refine EX.go (i := .goto 4) (len := 3) (pc1 := 79) (st1 := [.int (1)]) (hi1 := hi) (hl1 := hl) rfl ?_ (fun _ _ _ => rfl)
  obtain rfl := Option.some.inj h
  exact EX.zret rfl rfl (Or.inr rfl)
def J_MD_is_78 (N : Nat) (hi : HI) (hl : HL) : Option (Int32 × HI × HL) :=
  some (0, hi, hl)
set_option maxRecDepth 10000 in
set_option maxHeartbeats 4000000 in
theorem bJ_MD_is_78 (ev : EV) {N : Nat} {hi : HI} {hl : HL} {o : Int32 × HI × HL} (h : J_MD_is_78 N hi hl = some o) : EX w0 ev 1 m_MD_is 78 [] [] (hi) (hl) (oI o) := by
  unfold J_MD_is_78 at h
  refine EX.iconst (v := 0) rfl rfl ?_
  obtain rfl := Option.some.inj h
  exact EX.zret rfl rfl (Or.inl rfl)
def f_MD_is (N : Nat) (p1 : Int32) (p2 : Int32) (p3 : Int32) (p4 : Int32) (p5 : Int32) (hi : HI) (hl : HL) : Option (Int32 × HI × HL) :=
  if (((hi 65 32 : Int32) - (hi 65 33)) : Int32) = (p1 : Int32) then (f_MD_look N (hi 65 33) (hi) (hl)).bind fun z2 => if (z2.1 : Int32) = (p2 : Int32) then (f_MD_look N (((z2.2.1 65 33 : Int32) + (1))) (z2.2.1) (z2.2.2)).bind fun z4 => if (z4.1 : Int32) = (p3 : Int32) then (f_MD_look N (((z4.2.1 65 33 : Int32) + (2))) (z4.2.1) (z4.2.2)).bind fun z6 => if (z6.1 : Int32) = (p4 : Int32) then if (p1 : Int32) < (4 : Int32) then J_MD_is_74 N (z6.2.1) (z6.2.2) else (f_MD_look N (((z6.2.1 65 33 : Int32) + (3))) (z6.2.1) (z6.2.2)).bind fun z9 => if (z9.1 : Int32) = (p5 : Int32) then J_MD_is_74 N (z9.2.1) (z9.2.2) else J_MD_is_78 N (z9.2.1) (z9.2.2) else J_MD_is_78 N (z6.2.1) (z6.2.2) else J_MD_is_78 N (z4.2.1) (z4.2.2) else J_MD_is_78 N (z2.2.1) (z2.2.2) else J_MD_is_78 N (hi) (hl)
set_option maxRecDepth 10000 in
set_option maxHeartbeats 4000000 in
theorem b_MD_is (ev : EV) {N : Nat} {p1 : Int32} {p2 : Int32} {p3 : Int32} {p4 : Int32} {p5 : Int32} {hi : HI} {hl : HL} {o : Int32 × HI × HL} (h : f_MD_is N p1 p2 p3 p4 p5 hi hl = some o) : EM w0 ev 2 m_MD_is [.ref 65, .int (p1), .int (p2), .int (p3), .int (p4), .int (p5)] hi hl (oI o) := by
  unfold f_MD_is at h
  refine EM.of rfl ?_
  show EX w0 ev 1 m_MD_is 0 [(0, .ref 65), (1, .int (p1)), (2, .int (p2)), (3, .int (p3)), (4, .int (p4)), (5, .int (p5))] [] (hi) (hl) (oI o)
  refine EX.aload_n (x := 65) rfl (List.mem_of_getElem? (i := 0) rfl) ?_
  refine EX.go (i := .getfield 239) (len := 3) (pc1 := 4) (st1 := [.int (hi 65 32)]) (hi1 := hi) (hl1 := hl) rfl ?_ (fun _ _ _ => rfl)
  refine EX.aload_n (x := 65) rfl (List.mem_of_getElem? (i := 0) rfl) ?_
  refine EX.go (i := .getfield 233) (len := 3) (pc1 := 8) (st1 := [.int (hi 65 33), .int (hi 65 32)]) (hi1 := hi) (hl1 := hl) rfl ?_ (fun _ _ _ => rfl)
  refine EX.go (i := .isub) (len := 1) (pc1 := 9) (st1 := [.int (((hi 65 32 : Int32) - (hi 65 33)))]) (hi1 := hi) (hl1 := hl) rfl ?_ (fun _ _ _ => rfl)
  refine EX.iload_n (x := p1) rfl (List.mem_of_getElem? (i := 1) rfl) ?_
  rcases ite_some h with ⟨c1, h⟩ | ⟨c1, h⟩
  · refine EX.go (i := .if_icmp .ne 68) (len := 3) (pc1 := 13) (st1 := []) (hi1 := hi) (hl1 := hl) rfl ?_ (fun _ _ _ => if_pos c1)
    refine EX.aload_n (x := 65) rfl (List.mem_of_getElem? (i := 0) rfl) ?_
    refine EX.aload_n (x := 65) rfl (List.mem_of_getElem? (i := 0) rfl) ?_
    refine EX.go (i := .getfield 233) (len := 3) (pc1 := 18) (st1 := [.int (hi 65 33), .ref 65]) (hi1 := hi) (hl1 := hl) rfl ?_ (fun _ _ _ => rfl)
    obtain ⟨z2, hz2, h⟩ := bnd_some h
    refine EX.callV (b := 65) (as := [.int (hi 65 33)]) (rest := []) (r := some (.int (z2.1))) (hi1 := z2.2.1) (hl1 := z2.2.2) rfl rfl rfl rfl rfl rfl ((b_MD_look ev hz2).mono (by decide)) ?_
    show EX w0 ev 1 m_MD_is 21 [(0, .ref 65), (1, .int (p1)), (2, .int (p2)), (3, .int (p3)), (4, .int (p4)), (5, .int (p5))] [.int (z2.1)] (z2.2.1) (z2.2.2) (oI o)
    refine EX.iload_n (x := p2) rfl (List.mem_of_getElem? (i := 2) rfl) ?_
    rcases ite_some h with ⟨c3, h⟩ | ⟨c3, h⟩
    · refine EX.go (i := .if_icmp .ne 56) (len := 3) (pc1 := 25) (st1 := []) (hi1 := z2.2.1) (hl1 := z2.2.2) rfl ?_ (fun _ _ _ => if_pos c3)
      refine EX.aload_n (x := 65) rfl (List.mem_of_getElem? (i := 0) rfl) ?_
      refine EX.aload_n (x := 65) rfl (List.mem_of_getElem? (i := 0) rfl) ?_
      refine EX.go (i := .getfield 233) (len := 3) (pc1 := 30) (st1 := [.int (z2.2.1 65 33), .ref 65]) (hi1 := z2.2.1) (hl1 := z2.2.2) rfl ?_ (fun _ _ _ => rfl)
      refine EX.iconst (v := 1) rfl rfl ?_
      refine EX.go (i := .iadd) (len := 1) (pc1 := 32) (st1 := [.int (((z2.2.1 65 33 : Int32) + (1))), .ref 65]) (hi1 := z2.2.1) (hl1 := z2.2.2) rfl ?_ (fun _ _ _ => rfl)
      obtain ⟨z4, hz4, h⟩ := bnd_some h
      refine EX.callV (b := 65) (as := [.int (((z2.2.1 65 33 : Int32) + (1)))]) (rest := []) (r := some (.int (z4.1))) (hi1 := z4.2.1) (hl1 := z4.2.2) rfl rfl rfl rfl rfl rfl ((b_MD_look ev hz4).mono (by decide)) ?_
      show EX w0 ev 1 m_MD_is 35 [(0, .ref 65), (1, .int (p1)), (2, .int (p2)), (3, .int (p3)), (4, .int (p4)), (5, .int (p5))] [.int (z4.1)] (z4.2.1) (z4.2.2) (oI o)
      refine EX.iload_n (x := p3) rfl (List.mem_of_getElem? (i := 3) rfl) ?_
      rcases ite_some h with ⟨c5, h⟩ | ⟨c5, h⟩
      · refine EX.go (i := .if_icmp .ne 42) (len := 3) (pc1 := 39) (st1 := []) (hi1 := z4.2.1) (hl1 := z4.2.2) rfl ?_ (fun _ _ _ => if_pos c5)
        refine EX.aload_n (x := 65) rfl (List.mem_of_getElem? (i := 0) rfl) ?_
        refine EX.aload_n (x := 65) rfl (List.mem_of_getElem? (i := 0) rfl) ?_
        refine EX.go (i := .getfield 233) (len := 3) (pc1 := 44) (st1 := [.int (z4.2.1 65 33), .ref 65]) (hi1 := z4.2.1) (hl1 := z4.2.2) rfl ?_ (fun _ _ _ => rfl)
        refine EX.iconst (v := 2) rfl rfl ?_
        refine EX.go (i := .iadd) (len := 1) (pc1 := 46) (st1 := [.int (((z4.2.1 65 33 : Int32) + (2))), .ref 65]) (hi1 := z4.2.1) (hl1 := z4.2.2) rfl ?_ (fun _ _ _ => rfl)
        obtain ⟨z6, hz6, h⟩ := bnd_some h
        refine EX.callV (b := 65) (as := [.int (((z4.2.1 65 33 : Int32) + (2)))]) (rest := []) (r := some (.int (z6.1))) (hi1 := z6.2.1) (hl1 := z6.2.2) rfl rfl rfl rfl rfl rfl ((b_MD_look ev hz6).mono (by decide)) ?_
        show EX w0 ev 1 m_MD_is 49 [(0, .ref 65), (1, .int (p1)), (2, .int (p2)), (3, .int (p3)), (4, .int (p4)), (5, .int (p5))] [.int (z6.1)] (z6.2.1) (z6.2.2) (oI o)
        refine EX.iload (x := p4) rfl (List.mem_of_getElem? (i := 4) rfl) ?_
        rcases ite_some h with ⟨c7, h⟩ | ⟨c7, h⟩
        · refine EX.go (i := .if_icmp .ne 27) (len := 3) (pc1 := 54) (st1 := []) (hi1 := z6.2.1) (hl1 := z6.2.2) rfl ?_ (fun _ _ _ => if_pos c7)
          refine EX.iload_n (x := p1) rfl (List.mem_of_getElem? (i := 1) rfl) ?_
          refine EX.iconst (v := 4) rfl rfl ?_
          rcases ite_some h with ⟨c8, h⟩ | ⟨c8, h⟩
          · refine EX.go (i := .if_icmp .lt 18) (len := 3) (pc1 := 74) (st1 := []) (hi1 := z6.2.1) (hl1 := z6.2.2) rfl ?_ (fun _ _ _ => if_pos c8)
            refine EX.pick [] ?_ rfl
            exact bJ_MD_is_74 ev h
          · refine EX.go (i := .if_icmp .lt 18) (len := 3) (pc1 := 59) (st1 := []) (hi1 := z6.2.1) (hl1 := z6.2.2) rfl ?_ (fun _ _ _ => if_neg c8)
            refine EX.aload_n (x := 65) rfl (List.mem_of_getElem? (i := 0) rfl) ?_
            refine EX.aload_n (x := 65) rfl (List.mem_of_getElem? (i := 0) rfl) ?_
            refine EX.go (i := .getfield 233) (len := 3) (pc1 := 64) (st1 := [.int (z6.2.1 65 33), .ref 65]) (hi1 := z6.2.1) (hl1 := z6.2.2) rfl ?_ (fun _ _ _ => rfl)
            refine EX.iconst (v := 3) rfl rfl ?_
            refine EX.go (i := .iadd) (len := 1) (pc1 := 66) (st1 := [.int (((z6.2.1 65 33 : Int32) + (3))), .ref 65]) (hi1 := z6.2.1) (hl1 := z6.2.2) rfl ?_ (fun _ _ _ => rfl)
            obtain ⟨z9, hz9, h⟩ := bnd_some h
            refine EX.callV (b := 65) (as := [.int (((z6.2.1 65 33 : Int32) + (3)))]) (rest := []) (r := some (.int (z9.1))) (hi1 := z9.2.1) (hl1 := z9.2.2) rfl rfl rfl rfl rfl rfl ((b_MD_look ev hz9).mono (by decide)) ?_
            show EX w0 ev 1 m_MD_is 69 [(0, .ref 65), (1, .int (p1)), (2, .int (p2)), (3, .int (p3)), (4, .int (p4)), (5, .int (p5))] [.int (z9.1)] (z9.2.1) (z9.2.2) (oI o)
            refine EX.iload (x := p5) rfl (List.mem_of_getElem? (i := 5) rfl) ?_
            rcases ite_some h with ⟨c10, h⟩ | ⟨c10, h⟩
            · refine EX.go (i := .if_icmp .ne 7) (len := 3) (pc1 := 74) (st1 := []) (hi1 := z9.2.1) (hl1 := z9.2.2) rfl ?_ (fun _ _ _ => if_pos c10)
              refine EX.pick [] ?_ rfl
              exact bJ_MD_is_74 ev h
            · refine EX.go (i := .if_icmp .ne 7) (len := 3) (pc1 := 78) (st1 := []) (hi1 := z9.2.1) (hl1 := z9.2.2) rfl ?_ (fun _ _ _ => if_neg c10)
              refine EX.pick [] ?_ rfl
              exact bJ_MD_is_78 ev h
        · refine EX.go (i := .if_icmp .ne 27) (len := 3) (pc1 := 78) (st1 := []) (hi1 := z6.2.1) (hl1 := z6.2.2) rfl ?_ (fun _ _ _ => if_neg c7)
          refine EX.pick [] ?_ rfl
          exact bJ_MD_is_78 ev h
      · refine EX.go (i := .if_icmp .ne 42) (len := 3) (pc1 := 78) (st1 := []) (hi1 := z4.2.1) (hl1 := z4.2.2) rfl ?_ (fun _ _ _ => if_neg c5)
        refine EX.pick [] ?_ rfl
        exact bJ_MD_is_78 ev h
    · refine EX.go (i := .if_icmp .ne 56) (len := 3) (pc1 := 78) (st1 := []) (hi1 := z2.2.1) (hl1 := z2.2.2) rfl ?_ (fun _ _ _ => if_neg c3)
      refine EX.pick [] ?_ rfl
      exact bJ_MD_is_78 ev h
  · refine EX.go (i := .if_icmp .ne 68) (len := 3) (pc1 := 78) (st1 := []) (hi1 := hi) (hl1 := hl) rfl ?_ (fun _ _ _ => if_neg c1)
    refine EX.pick [] ?_ rfl
    exact bJ_MD_is_78 ev h
def B_MD_next_8 (N : Nat) (hi : HI) (hl : HL) : Option ((HI × HL) ⊕ (HI × HL)) :=
  (f_MD_look N (hi 65 32) (hi) (hl)).bind fun z2 => if (z2.1 : Int32) = (32 : Int32) then some (.inl (wr (z2.2.1) 65 32 (((z2.2.1 65 32 : Int32) + (1))), z2.2.2)) else some (.inr (z2.2.1, z2.2.2))
set_option maxRecDepth 10000 in
set_option maxHeartbeats 4000000 in
theorem bB_MD_next_8 (ev : EV) {N : Nat} {hi : HI} {hl : HL} {z : (HI × HL) ⊕ (HI × HL)} {OUT : Option Value × HI × HL} (h : B_MD_next_8 N hi hl = some z) (hk : Sum.elim (fun s => EX w0 ev 2 m_MD_next 8 [(0, .ref 65)] [] (s.1) (s.2) OUT) (fun x => EX w0 ev 2 m_MD_next 34 [(0, .ref 65)] [] (x.1) (x.2) OUT) z) : EX w0 ev 2 m_MD_next 8 [(0, .ref 65)] [] (hi) (hl) OUT := by
  unfold B_MD_next_8 at h
  refine EX.aload_n (x := 65) rfl (List.mem_of_getElem? (i := 0) rfl) ?_
  refine EX.aload_n (x := 65) rfl (List.mem_of_getElem? (i := 0) rfl) ?_
  refine EX.go (i := .getfield 239) (len := 3) (pc1 := 13) (st1 := [.int (hi 65 32), .ref 65]) (hi1 := hi) (hl1 := hl) rfl ?_ (fun _ _ _ => rfl)
  obtain ⟨z2, hz2, h⟩ := bnd_some h
  refine EX.callV (b := 65) (as := [.int (hi 65 32)]) (rest := []) (r := some (.int (z2.1))) (hi1 := z2.2.1) (hl1 := z2.2.2) rfl rfl rfl rfl rfl rfl ((b_MD_look ev hz2).mono (by decide)) ?_
  show EX w0 ev 2 m_MD_next 16 [(0, .ref 65)] [.int (z2.1)] (z2.2.1) (z2.2.2) OUT
  refine EX.bipush (v := 32) rfl rfl ?_
  rcases ite_some h with ⟨c3, h⟩ | ⟨c3, h⟩
  · refine EX.go (i := .if_icmp .ne 16) (len := 3) (pc1 := 21) (st1 := []) (hi1 := z2.2.1) (hl1 := z2.2.2) rfl ?_ (fun _ _ _ => if_pos c3)
    refine EX.aload_n (x := 65) rfl (List.mem_of_getElem? (i := 0) rfl) ?_
    refine EX.go (i := .dup) (len := 1) (pc1 := 23) (st1 := [.ref 65, .ref 65]) (hi1 := z2.2.1) (hl1 := z2.2.2) rfl ?_ (fun _ _ _ => rfl)
    refine EX.go (i := .getfield 239) (len := 3) (pc1 := 26) (st1 := [.int (z2.2.1 65 32), .ref 65]) (hi1 := z2.2.1) (hl1 := z2.2.2) rfl ?_ (fun _ _ _ => rfl)
    refine EX.iconst (v := 1) rfl rfl ?_
    refine EX.go (i := .iadd) (len := 1) (pc1 := 28) (st1 := [.int (((z2.2.1 65 32 : Int32) + (1))), .ref 65]) (hi1 := z2.2.1) (hl1 := z2.2.2) rfl ?_ (fun _ _ _ => rfl)
    refine EX.go (i := .putfield 239) (len := 3) (pc1 := 31) (st1 := []) (hi1 := wr (z2.2.1) 65 32 (((z2.2.1 65 32 : Int32) + (1)))) (hl1 := z2.2.2) rfl ?_ (fun _ _ _ => rfl)
    refine EX.go (i := .goto (-23)) (len := 3) (pc1 := 8) (st1 := []) (hi1 := wr (z2.2.1) 65 32 (((z2.2.1 65 32 : Int32) + (1)))) (hl1 := z2.2.2) rfl ?_ (fun _ _ _ => rfl)
    obtain rfl := Option.some.inj h
    have hk : EX w0 ev 2 m_MD_next 8 [(0, .ref 65)] [] (wr (z2.2.1) 65 32 (((z2.2.1 65 32 : Int32) + (1)))) (z2.2.2) OUT := hk
    exact EX.pick [0] hk rfl
  · refine EX.go (i := .if_icmp .ne 16) (len := 3) (pc1 := 34) (st1 := []) (hi1 := z2.2.1) (hl1 := z2.2.2) rfl ?_ (fun _ _ _ => if_neg c3)
    obtain rfl := Option.some.inj h
    have hk : EX w0 ev 2 m_MD_next 34 [(0, .ref 65)] [] (z2.2.1) (z2.2.2) OUT := hk
    exact EX.pick [0] hk rfl
def J_MD_next_366 (N : Nat) (s0 : Int32) (hi : HI) (hl : HL) : Option (Unit × HI × HL) :=
  (f_MD_wants N (s0) (1) (hi) (hl)).bind fun z12 => some ((), wr (z12.2.1) 65 32 (((z12.2.1 65 32 : Int32) + (1))), z12.2.2)
set_option maxRecDepth 10000 in
set_option maxHeartbeats 4000000 in
theorem bJ_MD_next_366 (ev : EV) {N : Nat} {s0 : Int32} {hi : HI} {hl : HL} {o : Unit × HI × HL} (h : J_MD_next_366 N s0 hi hl = some o) : EX w0 ev 2 m_MD_next 366 [(0, .ref 65)] [.int (s0), .ref 65] (hi) (hl) (oV o) := by
  unfold J_MD_next_366 at h
  refine EX.iconst (v := 1) rfl rfl ?_
  obtain ⟨z12, hz12, h⟩ := bnd_some h
  refine EX.callV (b := 65) (as := [.int (s0), .int (1)]) (rest := []) (r := none) (hi1 := z12.2.1) (hl1 := z12.2.2) rfl rfl rfl rfl rfl rfl ((b_MD_wants ev hz12).mono (by decide)) ?_
  show EX w0 ev 2 m_MD_next 370 [(0, .ref 65)] [] (z12.2.1) (z12.2.2) (oV o)
  refine EX.aload_n (x := 65) rfl (List.mem_of_getElem? (i := 0) rfl) ?_
  refine EX.go (i := .dup) (len := 1) (pc1 := 372) (st1 := [.ref 65, .ref 65]) (hi1 := z12.2.1) (hl1 := z12.2.2) rfl ?_ (fun _ _ _ => rfl)
  refine EX.go (i := .getfield 239) (len := 3) (pc1 := 375) (st1 := [.int (z12.2.1 65 32), .ref 65]) (hi1 := z12.2.1) (hl1 := z12.2.2) rfl ?_ (fun _ _ _ => rfl)
  refine EX.iconst (v := 1) rfl rfl ?_
  refine EX.go (i := .iadd) (len := 1) (pc1 := 377) (st1 := [.int (((z12.2.1 65 32 : Int32) + (1))), .ref 65]) (hi1 := z12.2.1) (hl1 := z12.2.2) rfl ?_ (fun _ _ _ => rfl)
  refine EX.go (i := .putfield 239) (len := 3) (pc1 := 380) (st1 := []) (hi1 := wr (z12.2.1) 65 32 (((z12.2.1 65 32 : Int32) + (1)))) (hl1 := z12.2.2) rfl ?_ (fun _ _ _ => rfl)
  obtain rfl := Option.some.inj h
  exact EX.vret rfl rfl
def J_MD_next_307 (N : Nat) (s0 : Int32) (hi : HI) (hl : HL) : Option ((HI × HL) ⊕ (HI × HL)) :=
  some (.inl (wr (wr (hi) 65 35 (s0)) 65 32 ((((wr (hi) 65 35 (s0)) 65 32 : Int32) + (1))), hl))
set_option maxRecDepth 10000 in
set_option maxHeartbeats 4000000 in
theorem bJ_MD_next_307 (ev : EV) {N : Nat} {s0 : Int32} {hi : HI} {hl : HL} {z : (HI × HL) ⊕ (HI × HL)} {OUT : Option Value × HI × HL} (h : J_MD_next_307 N s0 hi hl = some z) (hk : Sum.elim (fun s => EX w0 ev 2 m_MD_next 246 [(0, .ref 65)] [] (s.1) (s.2) OUT) (fun x => EX w0 ev 2 m_MD_next 323 [(0, .ref 65)] [] (x.1) (x.2) OUT) z) : EX w0 ev 2 m_MD_next 307 [(0, .ref 65)] [.int (s0), .ref 65] (hi) (hl) OUT := by
  unfold J_MD_next_307 at h
  refine EX.go (i := .putfield 256) (len := 3) (pc1 := 310) (st1 := []) (hi1 := wr (hi) 65 35 (s0)) (hl1 := hl) rfl ?_ (fun _ _ _ => rfl)
  refine EX.aload_n (x := 65) rfl (List.mem_of_getElem? (i := 0) rfl) ?_
  refine EX.go (i := .dup) (len := 1) (pc1 := 312) (st1 := [.ref 65, .ref 65]) (hi1 := wr (hi) 65 35 (s0)) (hl1 := hl) rfl ?_ (fun _ _ _ => rfl)
  refine EX.go (i := .getfield 239) (len := 3) (pc1 := 315) (st1 := [.int ((wr (hi) 65 35 (s0)) 65 32), .ref 65]) (hi1 := wr (hi) 65 35 (s0)) (hl1 := hl) rfl ?_ (fun _ _ _ => rfl)
  refine EX.iconst (v := 1) rfl rfl ?_
  refine EX.go (i := .iadd) (len := 1) (pc1 := 317) (st1 := [.int ((((wr (hi) 65 35 (s0)) 65 32 : Int32) + (1))), .ref 65]) (hi1 := wr (hi) 65 35 (s0)) (hl1 := hl) rfl ?_ (fun _ _ _ => rfl)
  refine EX.go (i := .putfield 239) (len := 3) (pc1 := 320) (st1 := []) (hi1 := wr (wr (hi) 65 35 (s0)) 65 32 ((((wr (hi) 65 35 (s0)) 65 32 : Int32) + (1)))) (hl1 := hl) rfl ?_ (fun _ _ _ => rfl)
  refine EX.go (i := .goto (-74)) (len := 3) (pc1 := 246) (st1 := []) (hi1 := wr (wr (hi) 65 35 (s0)) 65 32 ((((wr (hi) 65 35 (s0)) 65 32 : Int32) + (1)))) (hl1 := hl) rfl ?_ (fun _ _ _ => rfl)
  obtain rfl := Option.some.inj h
  have hk : EX w0 ev 2 m_MD_next 246 [(0, .ref 65)] [] (wr (wr (hi) 65 35 (s0)) 65 32 ((((wr (hi) 65 35 (s0)) 65 32 : Int32) + (1)))) (hl) OUT := hk
  exact EX.pick [0] hk rfl
def B_MD_next_246 (N : Nat) (hi : HI) (hl : HL) : Option ((HI × HL) ⊕ (HI × HL)) :=
  (f_MD_look N (hi 65 32) (hi) (hl)).bind fun z13 => (f_MD_in N ((Int32.toInt64 (z13.1))) (48) (57) (z13.2.1) (z13.2.2)).bind fun z14 => if (z14.1 : Int32) = 0 then some (.inr (z14.2.1, z14.2.2)) else if (2 : Int32) ≤ (((z14.2.1 65 32 : Int32) - (z14.2.1 65 33)) : Int32) then J_MD_next_307 N (z14.2.1 65 35) (z14.2.1) (z14.2.2) else (f_MD_look N (z14.2.1 65 32) (z14.2.1) (z14.2.2)).bind fun z17 => J_MD_next_307 N (((((((10 : Int32) * (z14.2.1 65 35)) : Int32) + (z17.1)) : Int32) - (48))) (z17.2.1) (z17.2.2)
set_option maxRecDepth 10000 in
set_option maxHeartbeats 4000000 in
theorem bB_MD_next_246 (ev : EV) {N : Nat} {hi : HI} {hl : HL} {z : (HI × HL) ⊕ (HI × HL)} {OUT : Option Value × HI × HL} (h : B_MD_next_246 N hi hl = some z) (hk : Sum.elim (fun s => EX w0 ev 2 m_MD_next 246 [(0, .ref 65)] [] (s.1) (s.2) OUT) (fun x => EX w0 ev 2 m_MD_next 323 [(0, .ref 65)] [] (x.1) (x.2) OUT) z) : EX w0 ev 2 m_MD_next 246 [(0, .ref 65)] [] (hi) (hl) OUT := by
  unfold B_MD_next_246 at h
  refine EX.aload_n (x := 65) rfl (List.mem_of_getElem? (i := 0) rfl) ?_
  refine EX.aload_n (x := 65) rfl (List.mem_of_getElem? (i := 0) rfl) ?_
  refine EX.go (i := .getfield 239) (len := 3) (pc1 := 251) (st1 := [.int (hi 65 32), .ref 65]) (hi1 := hi) (hl1 := hl) rfl ?_ (fun _ _ _ => rfl)
  obtain ⟨z13, hz13, h⟩ := bnd_some h
  refine EX.callV (b := 65) (as := [.int (hi 65 32)]) (rest := []) (r := some (.int (z13.1))) (hi1 := z13.2.1) (hl1 := z13.2.2) rfl rfl rfl rfl rfl rfl ((b_MD_look ev hz13).mono (by decide)) ?_
  show EX w0 ev 2 m_MD_next 254 [(0, .ref 65)] [.int (z13.1)] (z13.2.1) (z13.2.2) OUT
  refine EX.go (i := .i2l) (len := 1) (pc1 := 255) (st1 := [.long ((Int32.toInt64 (z13.1)))]) (hi1 := z13.2.1) (hl1 := z13.2.2) rfl ?_ (fun _ _ _ => rfl)
  refine EX.go (i := .ldc2_w 263) (len := 3) (pc1 := 258) (st1 := [.long (48), .long ((Int32.toInt64 (z13.1)))]) (hi1 := z13.2.1) (hl1 := z13.2.2) rfl ?_ (fun _ _ _ => rfl)
  refine EX.go (i := .ldc2_w 265) (len := 3) (pc1 := 261) (st1 := [.long (57), .long (48), .long ((Int32.toInt64 (z13.1)))]) (hi1 := z13.2.1) (hl1 := z13.2.2) rfl ?_ (fun _ _ _ => rfl)
  obtain ⟨z14, hz14, h⟩ := bnd_some h
  refine EX.callS (as := [.long ((Int32.toInt64 (z13.1))), .long (48), .long (57)]) (rest := []) (r := some (.int (z14.1))) (hi1 := z14.2.1) (hl1 := z14.2.2) rfl rfl rfl rfl rfl rfl ((b_MD_in ev hz14).mono (by decide)) ?_
  show EX w0 ev 2 m_MD_next 264 [(0, .ref 65)] [.int (z14.1)] (z14.2.1) (z14.2.2) OUT
  rcases ite_some h with ⟨c15, h⟩ | ⟨c15, h⟩
  · refine EX.go (i := .ifCond .eq 59) (len := 3) (pc1 := 323) (st1 := []) (hi1 := z14.2.1) (hl1 := z14.2.2) rfl ?_ (fun _ _ _ => if_pos c15)
    obtain rfl := Option.some.inj h
    have hk : EX w0 ev 2 m_MD_next 323 [(0, .ref 65)] [] (z14.2.1) (z14.2.2) OUT := hk
    exact EX.pick [0] hk rfl
  · refine EX.go (i := .ifCond .eq 59) (len := 3) (pc1 := 267) (st1 := []) (hi1 := z14.2.1) (hl1 := z14.2.2) rfl ?_ (fun _ _ _ => if_neg c15)
    refine EX.aload_n (x := 65) rfl (List.mem_of_getElem? (i := 0) rfl) ?_
    refine EX.aload_n (x := 65) rfl (List.mem_of_getElem? (i := 0) rfl) ?_
    refine EX.go (i := .getfield 239) (len := 3) (pc1 := 272) (st1 := [.int (z14.2.1 65 32), .ref 65]) (hi1 := z14.2.1) (hl1 := z14.2.2) rfl ?_ (fun _ _ _ => rfl)
    refine EX.aload_n (x := 65) rfl (List.mem_of_getElem? (i := 0) rfl) ?_
    refine EX.go (i := .getfield 233) (len := 3) (pc1 := 276) (st1 := [.int (z14.2.1 65 33), .int (z14.2.1 65 32), .ref 65]) (hi1 := z14.2.1) (hl1 := z14.2.2) rfl ?_ (fun _ _ _ => rfl)
    refine EX.go (i := .isub) (len := 1) (pc1 := 277) (st1 := [.int (((z14.2.1 65 32 : Int32) - (z14.2.1 65 33))), .ref 65]) (hi1 := z14.2.1) (hl1 := z14.2.2) rfl ?_ (fun _ _ _ => rfl)
    refine EX.iconst (v := 2) rfl rfl ?_
    rcases ite_some h with ⟨c16, h⟩ | ⟨c16, h⟩
    · refine EX.go (i := .if_icmp .ge 25) (len := 3) (pc1 := 303) (st1 := [.ref 65]) (hi1 := z14.2.1) (hl1 := z14.2.2) rfl ?_ (fun _ _ _ => if_pos c16)
      refine EX.aload_n (x := 65) rfl (List.mem_of_getElem? (i := 0) rfl) ?_
      refine EX.go (i := .getfield 256) (len := 3) (pc1 := 307) (st1 := [.int (z14.2.1 65 35), .ref 65]) (hi1 := z14.2.1) (hl1 := z14.2.2) rfl ?_ (fun _ _ _ => rfl)
      refine EX.pick [0] ?_ rfl
      exact bJ_MD_next_307 ev h hk
    · refine EX.go (i := .if_icmp .ge 25) (len := 3) (pc1 := 281) (st1 := [.ref 65]) (hi1 := z14.2.1) (hl1 := z14.2.2) rfl ?_ (fun _ _ _ => if_neg c16)
      refine EX.bipush (v := 10) rfl rfl ?_
      refine EX.aload_n (x := 65) rfl (List.mem_of_getElem? (i := 0) rfl) ?_
      refine EX.go (i := .getfield 256) (len := 3) (pc1 := 287) (st1 := [.int (z14.2.1 65 35), .int (10), .ref 65]) (hi1 := z14.2.1) (hl1 := z14.2.2) rfl ?_ (fun _ _ _ => rfl)
      refine EX.go (i := .imul) (len := 1) (pc1 := 288) (st1 := [.int (((10 : Int32) * (z14.2.1 65 35))), .ref 65]) (hi1 := z14.2.1) (hl1 := z14.2.2) rfl ?_ (fun _ _ _ => rfl)
      refine EX.aload_n (x := 65) rfl (List.mem_of_getElem? (i := 0) rfl) ?_
      refine EX.aload_n (x := 65) rfl (List.mem_of_getElem? (i := 0) rfl) ?_
      refine EX.go (i := .getfield 239) (len := 3) (pc1 := 293) (st1 := [.int (z14.2.1 65 32), .ref 65, .int (((10 : Int32) * (z14.2.1 65 35))), .ref 65]) (hi1 := z14.2.1) (hl1 := z14.2.2) rfl ?_ (fun _ _ _ => rfl)
      obtain ⟨z17, hz17, h⟩ := bnd_some h
      refine EX.callV (b := 65) (as := [.int (z14.2.1 65 32)]) (rest := [.int (((10 : Int32) * (z14.2.1 65 35))), .ref 65]) (r := some (.int (z17.1))) (hi1 := z17.2.1) (hl1 := z17.2.2) rfl rfl rfl rfl rfl rfl ((b_MD_look ev hz17).mono (by decide)) ?_
      show EX w0 ev 2 m_MD_next 296 [(0, .ref 65)] [.int (z17.1), .int (((10 : Int32) * (z14.2.1 65 35))), .ref 65] (z17.2.1) (z17.2.2) OUT
      refine EX.go (i := .iadd) (len := 1) (pc1 := 297) (st1 := [.int (((((10 : Int32) * (z14.2.1 65 35)) : Int32) + (z17.1))), .ref 65]) (hi1 := z17.2.1) (hl1 := z17.2.2) rfl ?_ (fun _ _ _ => rfl)
      refine EX.bipush (v := 48) rfl rfl ?_
      refine EX.go (i := .isub) (len := 1) (pc1 := 300) (st1 := [.int (((((((10 : Int32) * (z14.2.1 65 35)) : Int32) + (z17.1)) : Int32) - (48))), .ref 65]) (hi1 := z17.2.1) (hl1 := z17.2.2) rfl ?_ (fun _ _ _ => rfl)
      refine EX.go (i := .goto 7) (len := 3) (pc1 := 307) (st1 := [.int (((((((10 : Int32) * (z14.2.1 65 35)) : Int32) + (z17.1)) : Int32) - (48))), .ref 65]) (hi1 := z17.2.1) (hl1 := z17.2.2) rfl ?_ (fun _ _ _ => rfl)
      refine EX.pick [0] ?_ rfl
      exact bJ_MD_next_307 ev h hk
def J_MD_next_342 (N : Nat) (s0 : Int32) (hi : HI) (hl : HL) : Option (Unit × HI × HL) :=
  (f_MD_wants N (s0) (1) (hi) (hl)).bind fun z20 => some ((), z20.2.1, z20.2.2)
set_option maxRecDepth 10000 in
set_option maxHeartbeats 4000000 in
theorem bJ_MD_next_342 (ev : EV) {N : Nat} {s0 : Int32} {hi : HI} {hl : HL} {o : Unit × HI × HL} (h : J_MD_next_342 N s0 hi hl = some o) : EX w0 ev 2 m_MD_next 342 [] [.int (s0), .ref 65] (hi) (hl) (oV o) := by
  unfold J_MD_next_342 at h
  refine EX.iconst (v := 1) rfl rfl ?_
  obtain ⟨z20, hz20, h⟩ := bnd_some h
  refine EX.callV (b := 65) (as := [.int (s0), .int (1)]) (rest := []) (r := none) (hi1 := z20.2.1) (hl1 := z20.2.2) rfl rfl rfl rfl rfl rfl ((b_MD_wants ev hz20).mono (by decide)) ?_
  show EX w0 ev 2 m_MD_next 346 [] [] (z20.2.1) (z20.2.2) (oV o)
  refine EX.go (i := .goto 34) (len := 3) (pc1 := 380) (st1 := []) (hi1 := z20.2.1) (hl1 := z20.2.2) rfl ?_ (fun _ _ _ => rfl)
  obtain rfl := Option.some.inj h
  exact EX.vret rfl rfl
def B_MD_next_82 (N : Nat) (hi : HI) (hl : HL) : Option ((HI × HL) ⊕ (HI × HL)) :=
  (f_MD_look N (hi 65 32) (hi) (hl)).bind fun z21 => (f_MD_in N ((Int32.toInt64 (z21.1))) (97) (122) (z21.2.1) (z21.2.2)).bind fun z22 => if (z22.1 : Int32) = 0 then some (.inr (z22.2.1, z22.2.2)) else some (.inl (wr (z22.2.1) 65 32 (((z22.2.1 65 32 : Int32) + (1))), z22.2.2))
set_option maxRecDepth 10000 in
set_option maxHeartbeats 4000000 in
theorem bB_MD_next_82 (ev : EV) {N : Nat} {hi : HI} {hl : HL} {z : (HI × HL) ⊕ (HI × HL)} {OUT : Option Value × HI × HL} (h : B_MD_next_82 N hi hl = some z) (hk : Sum.elim (fun s => EX w0 ev 2 m_MD_next 82 [(0, .ref 65)] [] (s.1) (s.2) OUT) (fun x => EX w0 ev 2 m_MD_next 116 [(0, .ref 65)] [] (x.1) (x.2) OUT) z) : EX w0 ev 2 m_MD_next 82 [(0, .ref 65)] [] (hi) (hl) OUT := by
  unfold B_MD_next_82 at h
  refine EX.aload_n (x := 65) rfl (List.mem_of_getElem? (i := 0) rfl) ?_
  refine EX.aload_n (x := 65) rfl (List.mem_of_getElem? (i := 0) rfl) ?_
  refine EX.go (i := .getfield 239) (len := 3) (pc1 := 87) (st1 := [.int (hi 65 32), .ref 65]) (hi1 := hi) (hl1 := hl) rfl ?_ (fun _ _ _ => rfl)
  obtain ⟨z21, hz21, h⟩ := bnd_some h
  refine EX.callV (b := 65) (as := [.int (hi 65 32)]) (rest := []) (r := some (.int (z21.1))) (hi1 := z21.2.1) (hl1 := z21.2.2) rfl rfl rfl rfl rfl rfl ((b_MD_look ev hz21).mono (by decide)) ?_
  show EX w0 ev 2 m_MD_next 90 [(0, .ref 65)] [.int (z21.1)] (z21.2.1) (z21.2.2) OUT
  refine EX.go (i := .i2l) (len := 1) (pc1 := 91) (st1 := [.long ((Int32.toInt64 (z21.1)))]) (hi1 := z21.2.1) (hl1 := z21.2.2) rfl ?_ (fun _ _ _ => rfl)
  refine EX.go (i := .ldc2_w 248) (len := 3) (pc1 := 94) (st1 := [.long (97), .long ((Int32.toInt64 (z21.1)))]) (hi1 := z21.2.1) (hl1 := z21.2.2) rfl ?_ (fun _ _ _ => rfl)
  refine EX.go (i := .ldc2_w 250) (len := 3) (pc1 := 97) (st1 := [.long (122), .long (97), .long ((Int32.toInt64 (z21.1)))]) (hi1 := z21.2.1) (hl1 := z21.2.2) rfl ?_ (fun _ _ _ => rfl)
  obtain ⟨z22, hz22, h⟩ := bnd_some h
  refine EX.callS (as := [.long ((Int32.toInt64 (z21.1))), .long (97), .long (122)]) (rest := []) (r := some (.int (z22.1))) (hi1 := z22.2.1) (hl1 := z22.2.2) rfl rfl rfl rfl rfl rfl ((b_MD_in ev hz22).mono (by decide)) ?_
  show EX w0 ev 2 m_MD_next 100 [(0, .ref 65)] [.int (z22.1)] (z22.2.1) (z22.2.2) OUT
  rcases ite_some h with ⟨c23, h⟩ | ⟨c23, h⟩
  · refine EX.go (i := .ifCond .eq 16) (len := 3) (pc1 := 116) (st1 := []) (hi1 := z22.2.1) (hl1 := z22.2.2) rfl ?_ (fun _ _ _ => if_pos c23)
    obtain rfl := Option.some.inj h
    have hk : EX w0 ev 2 m_MD_next 116 [(0, .ref 65)] [] (z22.2.1) (z22.2.2) OUT := hk
    exact EX.pick [0] hk rfl
  · refine EX.go (i := .ifCond .eq 16) (len := 3) (pc1 := 103) (st1 := []) (hi1 := z22.2.1) (hl1 := z22.2.2) rfl ?_ (fun _ _ _ => if_neg c23)
    refine EX.aload_n (x := 65) rfl (List.mem_of_getElem? (i := 0) rfl) ?_
    refine EX.go (i := .dup) (len := 1) (pc1 := 105) (st1 := [.ref 65, .ref 65]) (hi1 := z22.2.1) (hl1 := z22.2.2) rfl ?_ (fun _ _ _ => rfl)
    refine EX.go (i := .getfield 239) (len := 3) (pc1 := 108) (st1 := [.int (z22.2.1 65 32), .ref 65]) (hi1 := z22.2.1) (hl1 := z22.2.2) rfl ?_ (fun _ _ _ => rfl)
    refine EX.iconst (v := 1) rfl rfl ?_
    refine EX.go (i := .iadd) (len := 1) (pc1 := 110) (st1 := [.int (((z22.2.1 65 32 : Int32) + (1))), .ref 65]) (hi1 := z22.2.1) (hl1 := z22.2.2) rfl ?_ (fun _ _ _ => rfl)
    refine EX.go (i := .putfield 239) (len := 3) (pc1 := 113) (st1 := []) (hi1 := wr (z22.2.1) 65 32 (((z22.2.1 65 32 : Int32) + (1)))) (hl1 := z22.2.2) rfl ?_ (fun _ _ _ => rfl)
    refine EX.go (i := .goto (-31)) (len := 3) (pc1 := 82) (st1 := []) (hi1 := wr (z22.2.1) 65 32 (((z22.2.1 65 32 : Int32) + (1)))) (hl1 := z22.2.2) rfl ?_ (fun _ _ _ => rfl)
    obtain rfl := Option.some.inj h
    have hk : EX w0 ev 2 m_MD_next 82 [(0, .ref 65)] [] (wr (z22.2.1) 65 32 (((z22.2.1 65 32 : Int32) + (1)))) (z22.2.2) OUT := hk
    exact EX.pick [0] hk rfl
def J_MD_next_215 (N : Nat) (s0 : Int32) (hi : HI) (hl : HL) : Option (Unit × HI × HL) :=
  (f_MD_wants N (s0) (1) (hi) (hl)).bind fun z34 => some ((), z34.2.1, z34.2.2)
set_option maxRecDepth 10000 in
set_option maxHeartbeats 4000000 in
theorem bJ_MD_next_215 (ev : EV) {N : Nat} {s0 : Int32} {hi : HI} {hl : HL} {o : Unit × HI × HL} (h : J_MD_next_215 N s0 hi hl = some o) : EX w0 ev 2 m_MD_next 215 [] [.int (s0), .ref 65] (hi) (hl) (oV o) := by
  unfold J_MD_next_215 at h
  refine EX.iconst (v := 1) rfl rfl ?_
  obtain ⟨z34, hz34, h⟩ := bnd_some h
  refine EX.callV (b := 65) (as := [.int (s0), .int (1)]) (rest := []) (r := none) (hi1 := z34.2.1) (hl1 := z34.2.2) rfl rfl rfl rfl rfl rfl ((b_MD_wants ev hz34).mono (by decide)) ?_
  show EX w0 ev 2 m_MD_next 219 [] [] (z34.2.1) (z34.2.2) (oV o)
  refine EX.go (i := .goto 161) (len := 3) (pc1 := 380) (st1 := []) (hi1 := z34.2.1) (hl1 := z34.2.2) rfl ?_ (fun _ _ _ => rfl)
  obtain rfl := Option.some.inj h
  exact EX.vret rfl rfl
def J_MD_next_197 (N : Nat) (s0 : Int32) (hi : HI) (hl : HL) : Option (Unit × HI × HL) :=
  if ((wr (hi) 65 35 (s0)) 65 35 : Int32) = ((-4) : Int32) then J_MD_next_215 N (0) (wr (hi) 65 35 (s0)) (hl) else J_MD_next_215 N (1) (wr (hi) 65 35 (s0)) (hl)
set_option maxRecDepth 10000 in
set_option maxHeartbeats 4000000 in
theorem bJ_MD_next_197 (ev : EV) {N : Nat} {s0 : Int32} {hi : HI} {hl : HL} {o : Unit × HI × HL} (h : J_MD_next_197 N s0 hi hl = some o) : EX w0 ev 2 m_MD_next 197 [(0, .ref 65)] [.int (s0), .ref 65] (hi) (hl) (oV o) := by
  unfold J_MD_next_197 at h
  refine EX.go (i := .putfield 256) (len := 3) (pc1 := 200) (st1 := []) (hi1 := wr (hi) 65 35 (s0)) (hl1 := hl) rfl ?_ (fun _ _ _ => rfl)
  refine EX.aload_n (x := 65) rfl (List.mem_of_getElem? (i := 0) rfl) ?_
  refine EX.aload_n (x := 65) rfl (List.mem_of_getElem? (i := 0) rfl) ?_
  refine EX.go (i := .getfield 256) (len := 3) (pc1 := 205) (st1 := [.int ((wr (hi) 65 35 (s0)) 65 35), .ref 65]) (hi1 := wr (hi) 65 35 (s0)) (hl1 := hl) rfl ?_ (fun _ _ _ => rfl)
  refine EX.bipush (v := (-4)) rfl rfl ?_
  rcases ite_some h with ⟨c33, h⟩ | ⟨c33, h⟩
  · refine EX.go (i := .if_icmp .eq 7) (len := 3) (pc1 := 214) (st1 := [.ref 65]) (hi1 := wr (hi) 65 35 (s0)) (hl1 := hl) rfl ?_ (fun _ _ _ => if_pos c33)
    refine EX.iconst (v := 0) rfl rfl ?_
    refine EX.pick [] ?_ rfl
    exact bJ_MD_next_215 ev h
  · refine EX.go (i := .if_icmp .eq 7) (len := 3) (pc1 := 210) (st1 := [.ref 65]) (hi1 := wr (hi) 65 35 (s0)) (hl1 := hl) rfl ?_ (fun _ _ _ => if_neg c33)
    refine EX.iconst (v := 1) rfl rfl ?_
    refine EX.go (i := .goto 4) (len := 3) (pc1 := 215) (st1 := [.int (1), .ref 65]) (hi1 := wr (hi) 65 35 (s0)) (hl1 := hl) rfl ?_ (fun _ _ _ => rfl)
    refine EX.pick [] ?_ rfl
    exact bJ_MD_next_215 ev h
def f_MD_next (N : Nat) (hi : HI) (hl : HL) : Option (Unit × HI × HL) :=
  if (hi 65 36 : Int32) ≤ 0 then (lpN (fun s => B_MD_next_8 N s.1 s.2) N (hi, hl)).bind fun x4 => (f_MD_look N ((wr (x4.1) 65 33 (x4.1 65 32)) 65 32) (wr (x4.1) 65 33 (x4.1 65 32)) (x4.2)).bind fun z5 => if 0 ≤ (z5.1 : Int32) then (f_MD_in N ((Int32.toInt64 (z5.1))) (97) (122) (z5.2.1) (z5.2.2)).bind fun z7 => if (z7.1 : Int32) = 0 then (f_MD_in N ((Int32.toInt64 (z5.1))) (48) (57) (z7.2.1) (z7.2.2)).bind fun z9 => if (z9.1 : Int32) = 0 then if (z5.1 : Int32) = (59 : Int32) then J_MD_next_366 N (1) (wr (z9.2.1) 65 34 (3)) (z9.2.2) else J_MD_next_366 N (0) (wr (z9.2.1) 65 34 (3)) (z9.2.2) else (lpN (fun s => B_MD_next_246 N s.1 s.2) N (wr (wr (z9.2.1) 65 34 (2)) 65 35 (0), z9.2.2)).bind fun x18 => if (2 : Int32) < (((x18.1 65 32 : Int32) - (x18.1 65 33)) : Int32) then J_MD_next_342 N (0) (x18.1) (x18.2) else J_MD_next_342 N (1) (x18.1) (x18.2) else (lpN (fun s => B_MD_next_82 N s.1 s.2) N (wr (z7.2.1) 65 34 (1), z7.2.2)).bind fun x24 => (f_MD_is N (4) (104) (105) (103) (104) (x24.1) (x24.2)).bind fun z25 => if (z25.1 : Int32) = 0 then (f_MD_is N (3) (108) (111) (119) (0) (z25.2.1) (z25.2.2)).bind fun z27 => if (z27.1 : Int32) = 0 then (f_MD_is N (3) (102) (111) (114) (0) (z27.2.1) (z27.2.2)).bind fun z29 => if (z29.1 : Int32) = 0 then (f_MD_is N (4) (100) (97) (114) (107) (z29.2.1) (z29.2.2)).bind fun z31 => if (z31.1 : Int32) = 0 then J_MD_next_197 N ((-4)) (z31.2.1) (z31.2.2) else J_MD_next_197 N (4) (z31.2.1) (z31.2.2) else J_MD_next_197 N (3) (z29.2.1) (z29.2.2) else J_MD_next_197 N (2) (z27.2.1) (z27.2.2) else J_MD_next_197 N (1) (z25.2.1) (z25.2.2) else some ((), wr (z5.2.1) 65 34 (0), z5.2.2) else some ((), hi, hl)
set_option maxRecDepth 10000 in
set_option maxHeartbeats 4000000 in
theorem b_MD_next (ev : EV) {N : Nat} {hi : HI} {hl : HL} {o : Unit × HI × HL} (h : f_MD_next N hi hl = some o) : EM w0 ev 3 m_MD_next [.ref 65] hi hl (oV o) := by
  unfold f_MD_next at h
  refine EM.of rfl ?_
  show EX w0 ev 2 m_MD_next 0 [(0, .ref 65)] [] (hi) (hl) (oV o)
  refine EX.aload_n (x := 65) rfl (List.mem_of_getElem? (i := 0) rfl) ?_
  refine EX.go (i := .getfield 230) (len := 3) (pc1 := 4) (st1 := [.int (hi 65 36)]) (hi1 := hi) (hl1 := hl) rfl ?_ (fun _ _ _ => rfl)
  rcases ite_some h with ⟨c1, h⟩ | ⟨c1, h⟩
  · refine EX.go (i := .ifCond .le 4) (len := 3) (pc1 := 8) (st1 := []) (hi1 := hi) (hl1 := hl) rfl ?_ (fun _ _ _ => if_pos c1)
    obtain ⟨x4, hx4, h⟩ := bnd_some h
    refine EX.pick [0] ?_ rfl
    refine lp_sound (f := fun s => B_MD_next_8 N s.1 s.2) (PS := fun s => EX w0 ev 2 m_MD_next 8 [(0, .ref 65)] [] (s.1) (s.2) (oV o)) (PX := fun x => EX w0 ev 2 m_MD_next 34 [(0, .ref 65)] [] (x.1) (x.2) (oV o)) ?_ N _ x4 hx4 ?_
    · exact fun s z hz hk => bB_MD_next_8 ev hz hk
    show EX w0 ev 2 m_MD_next 34 [(0, .ref 65)] [] (x4.1) (x4.2) (oV o)
    refine EX.aload_n (x := 65) rfl (List.mem_of_getElem? (i := 0) rfl) ?_
    refine EX.aload_n (x := 65) rfl (List.mem_of_getElem? (i := 0) rfl) ?_
    refine EX.go (i := .getfield 239) (len := 3) (pc1 := 39) (st1 := [.int (x4.1 65 32), .ref 65]) (hi1 := x4.1) (hl1 := x4.2) rfl ?_ (fun _ _ _ => rfl)
    refine EX.go (i := .putfield 233) (len := 3) (pc1 := 42) (st1 := []) (hi1 := wr (x4.1) 65 33 (x4.1 65 32)) (hl1 := x4.2) rfl ?_ (fun _ _ _ => rfl)
    refine EX.aload_n (x := 65) rfl (List.mem_of_getElem? (i := 0) rfl) ?_
    refine EX.aload_n (x := 65) rfl (List.mem_of_getElem? (i := 0) rfl) ?_
    refine EX.go (i := .getfield 239) (len := 3) (pc1 := 47) (st1 := [.int ((wr (x4.1) 65 33 (x4.1 65 32)) 65 32), .ref 65]) (hi1 := wr (x4.1) 65 33 (x4.1 65 32)) (hl1 := x4.2) rfl ?_ (fun _ _ _ => rfl)
    obtain ⟨z5, hz5, h⟩ := bnd_some h
    refine EX.callV (b := 65) (as := [.int ((wr (x4.1) 65 33 (x4.1 65 32)) 65 32)]) (rest := []) (r := some (.int (z5.1))) (hi1 := z5.2.1) (hl1 := z5.2.2) rfl rfl rfl rfl rfl rfl ((b_MD_look ev hz5).mono (by decide)) ?_
    show EX w0 ev 2 m_MD_next 50 [(0, .ref 65)] [.int (z5.1)] (z5.2.1) (z5.2.2) (oV o)
    refine EX.istore_n (req1 := [(1, .int (z5.1)), (0, .ref 65)]) rfl rfl rfl ?_
    refine EX.iload_n (x := z5.1) rfl (List.mem_of_getElem? (i := 0) rfl) ?_
    rcases ite_some h with ⟨c6, h⟩ | ⟨c6, h⟩
    · refine EX.go (i := .ifCond .ge 11) (len := 3) (pc1 := 63) (st1 := []) (hi1 := z5.2.1) (hl1 := z5.2.2) rfl ?_ (fun _ _ _ => if_pos c6)
      refine EX.iload_n (x := z5.1) rfl (List.mem_of_getElem? (i := 0) rfl) ?_
      refine EX.go (i := .i2l) (len := 1) (pc1 := 65) (st1 := [.long ((Int32.toInt64 (z5.1)))]) (hi1 := z5.2.1) (hl1 := z5.2.2) rfl ?_ (fun _ _ _ => rfl)
      refine EX.go (i := .ldc2_w 248) (len := 3) (pc1 := 68) (st1 := [.long (97), .long ((Int32.toInt64 (z5.1)))]) (hi1 := z5.2.1) (hl1 := z5.2.2) rfl ?_ (fun _ _ _ => rfl)
      refine EX.go (i := .ldc2_w 250) (len := 3) (pc1 := 71) (st1 := [.long (122), .long (97), .long ((Int32.toInt64 (z5.1)))]) (hi1 := z5.2.1) (hl1 := z5.2.2) rfl ?_ (fun _ _ _ => rfl)
      obtain ⟨z7, hz7, h⟩ := bnd_some h
      refine EX.callS (as := [.long ((Int32.toInt64 (z5.1))), .long (97), .long (122)]) (rest := []) (r := some (.int (z7.1))) (hi1 := z7.2.1) (hl1 := z7.2.2) rfl rfl rfl rfl rfl rfl ((b_MD_in ev hz7).mono (by decide)) ?_
      show EX w0 ev 2 m_MD_next 74 [(1, .int (z5.1)), (0, .ref 65)] [.int (z7.1)] (z7.2.1) (z7.2.2) (oV o)
      rcases ite_some h with ⟨c8, h⟩ | ⟨c8, h⟩
      · refine EX.go (i := .ifCond .eq 148) (len := 3) (pc1 := 222) (st1 := []) (hi1 := z7.2.1) (hl1 := z7.2.2) rfl ?_ (fun _ _ _ => if_pos c8)
        refine EX.iload_n (x := z5.1) rfl (List.mem_of_getElem? (i := 0) rfl) ?_
        refine EX.go (i := .i2l) (len := 1) (pc1 := 224) (st1 := [.long ((Int32.toInt64 (z5.1)))]) (hi1 := z7.2.1) (hl1 := z7.2.2) rfl ?_ (fun _ _ _ => rfl)
        refine EX.go (i := .ldc2_w 263) (len := 3) (pc1 := 227) (st1 := [.long (48), .long ((Int32.toInt64 (z5.1)))]) (hi1 := z7.2.1) (hl1 := z7.2.2) rfl ?_ (fun _ _ _ => rfl)
        refine EX.go (i := .ldc2_w 265) (len := 3) (pc1 := 230) (st1 := [.long (57), .long (48), .long ((Int32.toInt64 (z5.1)))]) (hi1 := z7.2.1) (hl1 := z7.2.2) rfl ?_ (fun _ _ _ => rfl)
        obtain ⟨z9, hz9, h⟩ := bnd_some h
        refine EX.callS (as := [.long ((Int32.toInt64 (z5.1))), .long (48), .long (57)]) (rest := []) (r := some (.int (z9.1))) (hi1 := z9.2.1) (hl1 := z9.2.2) rfl rfl rfl rfl rfl rfl ((b_MD_in ev hz9).mono (by decide)) ?_
        show EX w0 ev 2 m_MD_next 233 [(1, .int (z5.1)), (0, .ref 65)] [.int (z9.1)] (z9.2.1) (z9.2.2) (oV o)
        rcases ite_some h with ⟨c10, h⟩ | ⟨c10, h⟩
        · refine EX.go (i := .ifCond .eq 116) (len := 3) (pc1 := 349) (st1 := []) (hi1 := z9.2.1) (hl1 := z9.2.2) rfl ?_ (fun _ _ _ => if_pos c10)
          refine EX.aload_n (x := 65) rfl (List.mem_of_getElem? (i := 1) rfl) ?_
          refine EX.iconst (v := 3) rfl rfl ?_
          refine EX.go (i := .putfield 245) (len := 3) (pc1 := 354) (st1 := []) (hi1 := wr (z9.2.1) 65 34 (3)) (hl1 := z9.2.2) rfl ?_ (fun _ _ _ => rfl)
          refine EX.aload_n (x := 65) rfl (List.mem_of_getElem? (i := 1) rfl) ?_
          refine EX.iload_n (x := z5.1) rfl (List.mem_of_getElem? (i := 0) rfl) ?_
          refine EX.bipush (v := 59) rfl rfl ?_
          rcases ite_some h with ⟨c11, h⟩ | ⟨c11, h⟩
          · refine EX.go (i := .if_icmp .ne 7) (len := 3) (pc1 := 361) (st1 := [.ref 65]) (hi1 := wr (z9.2.1) 65 34 (3)) (hl1 := z9.2.2) rfl ?_ (fun _ _ _ => if_pos c11)
            refine EX.iconst (v := 1) rfl rfl ?_
            refine EX.go (i := .goto 4) (len := 3) (pc1 := 366) (st1 := [.int (1), .ref 65]) (hi1 := wr (z9.2.1) 65 34 (3)) (hl1 := z9.2.2) rfl ?_ (fun _ _ _ => rfl)
            refine EX.pick [1] ?_ rfl
            exact bJ_MD_next_366 ev h
          · refine EX.go (i := .if_icmp .ne 7) (len := 3) (pc1 := 365) (st1 := [.ref 65]) (hi1 := wr (z9.2.1) 65 34 (3)) (hl1 := z9.2.2) rfl ?_ (fun _ _ _ => if_neg c11)
            refine EX.iconst (v := 0) rfl rfl ?_
            refine EX.pick [1] ?_ rfl
            exact bJ_MD_next_366 ev h
        · refine EX.go (i := .ifCond .eq 116) (len := 3) (pc1 := 236) (st1 := []) (hi1 := z9.2.1) (hl1 := z9.2.2) rfl ?_ (fun _ _ _ => if_neg c10)
          refine EX.aload_n (x := 65) rfl (List.mem_of_getElem? (i := 1) rfl) ?_
          refine EX.iconst (v := 2) rfl rfl ?_
          refine EX.go (i := .putfield 245) (len := 3) (pc1 := 241) (st1 := []) (hi1 := wr (z9.2.1) 65 34 (2)) (hl1 := z9.2.2) rfl ?_ (fun _ _ _ => rfl)
          refine EX.aload_n (x := 65) rfl (List.mem_of_getElem? (i := 1) rfl) ?_
          refine EX.iconst (v := 0) rfl rfl ?_
          refine EX.go (i := .putfield 256) (len := 3) (pc1 := 246) (st1 := []) (hi1 := wr (wr (z9.2.1) 65 34 (2)) 65 35 (0)) (hl1 := z9.2.2) rfl ?_ (fun _ _ _ => rfl)
          obtain ⟨x18, hx18, h⟩ := bnd_some h
          refine EX.pick [1] ?_ rfl
          refine lp_sound (f := fun s => B_MD_next_246 N s.1 s.2) (PS := fun s => EX w0 ev 2 m_MD_next 246 [(0, .ref 65)] [] (s.1) (s.2) (oV o)) (PX := fun x => EX w0 ev 2 m_MD_next 323 [(0, .ref 65)] [] (x.1) (x.2) (oV o)) ?_ N _ x18 hx18 ?_
          · exact fun s z hz hk => bB_MD_next_246 ev hz hk
          show EX w0 ev 2 m_MD_next 323 [(0, .ref 65)] [] (x18.1) (x18.2) (oV o)
          refine EX.aload_n (x := 65) rfl (List.mem_of_getElem? (i := 0) rfl) ?_
          refine EX.aload_n (x := 65) rfl (List.mem_of_getElem? (i := 0) rfl) ?_
          refine EX.go (i := .getfield 239) (len := 3) (pc1 := 328) (st1 := [.int (x18.1 65 32), .ref 65]) (hi1 := x18.1) (hl1 := x18.2) rfl ?_ (fun _ _ _ => rfl)
          refine EX.aload_n (x := 65) rfl (List.mem_of_getElem? (i := 0) rfl) ?_
          refine EX.go (i := .getfield 233) (len := 3) (pc1 := 332) (st1 := [.int (x18.1 65 33), .int (x18.1 65 32), .ref 65]) (hi1 := x18.1) (hl1 := x18.2) rfl ?_ (fun _ _ _ => rfl)
          refine EX.go (i := .isub) (len := 1) (pc1 := 333) (st1 := [.int (((x18.1 65 32 : Int32) - (x18.1 65 33))), .ref 65]) (hi1 := x18.1) (hl1 := x18.2) rfl ?_ (fun _ _ _ => rfl)
          refine EX.iconst (v := 2) rfl rfl ?_
          rcases ite_some h with ⟨c19, h⟩ | ⟨c19, h⟩
          · refine EX.go (i := .if_icmp .gt 7) (len := 3) (pc1 := 341) (st1 := [.ref 65]) (hi1 := x18.1) (hl1 := x18.2) rfl ?_ (fun _ _ _ => if_pos c19)
            refine EX.iconst (v := 0) rfl rfl ?_
            refine EX.pick [] ?_ rfl
            exact bJ_MD_next_342 ev h
          · refine EX.go (i := .if_icmp .gt 7) (len := 3) (pc1 := 337) (st1 := [.ref 65]) (hi1 := x18.1) (hl1 := x18.2) rfl ?_ (fun _ _ _ => if_neg c19)
            refine EX.iconst (v := 1) rfl rfl ?_
            refine EX.go (i := .goto 4) (len := 3) (pc1 := 342) (st1 := [.int (1), .ref 65]) (hi1 := x18.1) (hl1 := x18.2) rfl ?_ (fun _ _ _ => rfl)
            refine EX.pick [] ?_ rfl
            exact bJ_MD_next_342 ev h
      · refine EX.go (i := .ifCond .eq 148) (len := 3) (pc1 := 77) (st1 := []) (hi1 := z7.2.1) (hl1 := z7.2.2) rfl ?_ (fun _ _ _ => if_neg c8)
        refine EX.aload_n (x := 65) rfl (List.mem_of_getElem? (i := 1) rfl) ?_
        refine EX.iconst (v := 1) rfl rfl ?_
        refine EX.go (i := .putfield 245) (len := 3) (pc1 := 82) (st1 := []) (hi1 := wr (z7.2.1) 65 34 (1)) (hl1 := z7.2.2) rfl ?_ (fun _ _ _ => rfl)
        obtain ⟨x24, hx24, h⟩ := bnd_some h
        refine EX.pick [1] ?_ rfl
        refine lp_sound (f := fun s => B_MD_next_82 N s.1 s.2) (PS := fun s => EX w0 ev 2 m_MD_next 82 [(0, .ref 65)] [] (s.1) (s.2) (oV o)) (PX := fun x => EX w0 ev 2 m_MD_next 116 [(0, .ref 65)] [] (x.1) (x.2) (oV o)) ?_ N _ x24 hx24 ?_
        · exact fun s z hz hk => bB_MD_next_82 ev hz hk
        show EX w0 ev 2 m_MD_next 116 [(0, .ref 65)] [] (x24.1) (x24.2) (oV o)
        refine EX.aload_n (x := 65) rfl (List.mem_of_getElem? (i := 0) rfl) ?_
        refine EX.aload_n (x := 65) rfl (List.mem_of_getElem? (i := 0) rfl) ?_
        refine EX.iconst (v := 4) rfl rfl ?_
        refine EX.bipush (v := 104) rfl rfl ?_
        refine EX.bipush (v := 105) rfl rfl ?_
        refine EX.bipush (v := 103) rfl rfl ?_
        refine EX.bipush (v := 104) rfl rfl ?_
        obtain ⟨z25, hz25, h⟩ := bnd_some h
        refine EX.callV (b := 65) (as := [.int (4), .int (104), .int (105), .int (103), .int (104)]) (rest := [.ref 65]) (r := some (.int (z25.1))) (hi1 := z25.2.1) (hl1 := z25.2.2) rfl rfl rfl rfl rfl rfl ((b_MD_is ev hz25).mono (by decide)) ?_
        show EX w0 ev 2 m_MD_next 130 [(0, .ref 65)] [.int (z25.1), .ref 65] (z25.2.1) (z25.2.2) (oV o)
        rcases ite_some h with ⟨c26, h⟩ | ⟨c26, h⟩
        · refine EX.go (i := .ifCond .eq 7) (len := 3) (pc1 := 137) (st1 := [.ref 65]) (hi1 := z25.2.1) (hl1 := z25.2.2) rfl ?_ (fun _ _ _ => if_pos c26)
          refine EX.aload_n (x := 65) rfl (List.mem_of_getElem? (i := 0) rfl) ?_
          refine EX.iconst (v := 3) rfl rfl ?_
          refine EX.bipush (v := 108) rfl rfl ?_
          refine EX.bipush (v := 111) rfl rfl ?_
          refine EX.bipush (v := 119) rfl rfl ?_
          refine EX.iconst (v := 0) rfl rfl ?_
          obtain ⟨z27, hz27, h⟩ := bnd_some h
          refine EX.callV (b := 65) (as := [.int (3), .int (108), .int (111), .int (119), .int (0)]) (rest := [.ref 65]) (r := some (.int (z27.1))) (hi1 := z27.2.1) (hl1 := z27.2.2) rfl rfl rfl rfl rfl rfl ((b_MD_is ev hz27).mono (by decide)) ?_
          show EX w0 ev 2 m_MD_next 149 [(0, .ref 65)] [.int (z27.1), .ref 65] (z27.2.1) (z27.2.2) (oV o)
          rcases ite_some h with ⟨c28, h⟩ | ⟨c28, h⟩
          · refine EX.go (i := .ifCond .eq 7) (len := 3) (pc1 := 156) (st1 := [.ref 65]) (hi1 := z27.2.1) (hl1 := z27.2.2) rfl ?_ (fun _ _ _ => if_pos c28)
            refine EX.aload_n (x := 65) rfl (List.mem_of_getElem? (i := 0) rfl) ?_
            refine EX.iconst (v := 3) rfl rfl ?_
            refine EX.bipush (v := 102) rfl rfl ?_
            refine EX.bipush (v := 111) rfl rfl ?_
            refine EX.bipush (v := 114) rfl rfl ?_
            refine EX.iconst (v := 0) rfl rfl ?_
            obtain ⟨z29, hz29, h⟩ := bnd_some h
            refine EX.callV (b := 65) (as := [.int (3), .int (102), .int (111), .int (114), .int (0)]) (rest := [.ref 65]) (r := some (.int (z29.1))) (hi1 := z29.2.1) (hl1 := z29.2.2) rfl rfl rfl rfl rfl rfl ((b_MD_is ev hz29).mono (by decide)) ?_
            show EX w0 ev 2 m_MD_next 168 [(0, .ref 65)] [.int (z29.1), .ref 65] (z29.2.1) (z29.2.2) (oV o)
            rcases ite_some h with ⟨c30, h⟩ | ⟨c30, h⟩
            · refine EX.go (i := .ifCond .eq 7) (len := 3) (pc1 := 175) (st1 := [.ref 65]) (hi1 := z29.2.1) (hl1 := z29.2.2) rfl ?_ (fun _ _ _ => if_pos c30)
              refine EX.aload_n (x := 65) rfl (List.mem_of_getElem? (i := 0) rfl) ?_
              refine EX.iconst (v := 4) rfl rfl ?_
              refine EX.bipush (v := 100) rfl rfl ?_
              refine EX.bipush (v := 97) rfl rfl ?_
              refine EX.bipush (v := 114) rfl rfl ?_
              refine EX.bipush (v := 107) rfl rfl ?_
              obtain ⟨z31, hz31, h⟩ := bnd_some h
              refine EX.callV (b := 65) (as := [.int (4), .int (100), .int (97), .int (114), .int (107)]) (rest := [.ref 65]) (r := some (.int (z31.1))) (hi1 := z31.2.1) (hl1 := z31.2.2) rfl rfl rfl rfl rfl rfl ((b_MD_is ev hz31).mono (by decide)) ?_
              show EX w0 ev 2 m_MD_next 188 [(0, .ref 65)] [.int (z31.1), .ref 65] (z31.2.1) (z31.2.2) (oV o)
              rcases ite_some h with ⟨c32, h⟩ | ⟨c32, h⟩
              · refine EX.go (i := .ifCond .eq 7) (len := 3) (pc1 := 195) (st1 := [.ref 65]) (hi1 := z31.2.1) (hl1 := z31.2.2) rfl ?_ (fun _ _ _ => if_pos c32)
                refine EX.bipush (v := (-4)) rfl rfl ?_
                refine EX.pick [0] ?_ rfl
                exact bJ_MD_next_197 ev h
              · refine EX.go (i := .ifCond .eq 7) (len := 3) (pc1 := 191) (st1 := [.ref 65]) (hi1 := z31.2.1) (hl1 := z31.2.2) rfl ?_ (fun _ _ _ => if_neg c32)
                refine EX.iconst (v := 4) rfl rfl ?_
                refine EX.go (i := .goto 5) (len := 3) (pc1 := 197) (st1 := [.int (4), .ref 65]) (hi1 := z31.2.1) (hl1 := z31.2.2) rfl ?_ (fun _ _ _ => rfl)
                refine EX.pick [0] ?_ rfl
                exact bJ_MD_next_197 ev h
            · refine EX.go (i := .ifCond .eq 7) (len := 3) (pc1 := 171) (st1 := [.ref 65]) (hi1 := z29.2.1) (hl1 := z29.2.2) rfl ?_ (fun _ _ _ => if_neg c30)
              refine EX.iconst (v := 3) rfl rfl ?_
              refine EX.go (i := .goto 25) (len := 3) (pc1 := 197) (st1 := [.int (3), .ref 65]) (hi1 := z29.2.1) (hl1 := z29.2.2) rfl ?_ (fun _ _ _ => rfl)
              refine EX.pick [0] ?_ rfl
              exact bJ_MD_next_197 ev h
          · refine EX.go (i := .ifCond .eq 7) (len := 3) (pc1 := 152) (st1 := [.ref 65]) (hi1 := z27.2.1) (hl1 := z27.2.2) rfl ?_ (fun _ _ _ => if_neg c28)
            refine EX.iconst (v := 2) rfl rfl ?_
            refine EX.go (i := .goto 44) (len := 3) (pc1 := 197) (st1 := [.int (2), .ref 65]) (hi1 := z27.2.1) (hl1 := z27.2.2) rfl ?_ (fun _ _ _ => rfl)
            refine EX.pick [0] ?_ rfl
            exact bJ_MD_next_197 ev h
        · refine EX.go (i := .ifCond .eq 7) (len := 3) (pc1 := 133) (st1 := [.ref 65]) (hi1 := z25.2.1) (hl1 := z25.2.2) rfl ?_ (fun _ _ _ => if_neg c26)
          refine EX.iconst (v := 1) rfl rfl ?_
          refine EX.go (i := .goto 63) (len := 3) (pc1 := 197) (st1 := [.int (1), .ref 65]) (hi1 := z25.2.1) (hl1 := z25.2.2) rfl ?_ (fun _ _ _ => rfl)
          refine EX.pick [0] ?_ rfl
          exact bJ_MD_next_197 ev h
    · refine EX.go (i := .ifCond .ge 11) (len := 3) (pc1 := 55) (st1 := []) (hi1 := z5.2.1) (hl1 := z5.2.2) rfl ?_ (fun _ _ _ => if_neg c6)
      refine EX.aload_n (x := 65) rfl (List.mem_of_getElem? (i := 1) rfl) ?_
      refine EX.iconst (v := 0) rfl rfl ?_
      refine EX.go (i := .putfield 245) (len := 3) (pc1 := 60) (st1 := []) (hi1 := wr (z5.2.1) 65 34 (0)) (hl1 := z5.2.2) rfl ?_ (fun _ _ _ => rfl)
      refine EX.go (i := .goto 320) (len := 3) (pc1 := 380) (st1 := []) (hi1 := wr (z5.2.1) 65 34 (0)) (hl1 := z5.2.2) rfl ?_ (fun _ _ _ => rfl)
      obtain rfl := Option.some.inj h
      exact EX.vret rfl rfl
  · refine EX.go (i := .ifCond .le 4) (len := 3) (pc1 := 7) (st1 := []) (hi1 := hi) (hl1 := hl) rfl ?_ (fun _ _ _ => if_neg c1)
    obtain rfl := Option.some.inj h
    exact EX.vret rfl rfl
def B_MD_power_4 (N : Nat) (v0 : Int32) (v1 : Int32) (v2 : Int32) (hi : HI) (hl : HL) : Option ((Int32 × Int32 × HI × HL) ⊕ (Int32 × HI × HL)) :=
  if (v0 : Int32) ≤ (v2 : Int32) then some (.inr (v1, hi, hl)) else some (.inl ((v1 * (3)), v2 + 1, hi, hl))
set_option maxRecDepth 10000 in
set_option maxHeartbeats 4000000 in
theorem bB_MD_power_4 (ev : EV) {N : Nat} {v0 : Int32} {v1 : Int32} {v2 : Int32} {hi : HI} {hl : HL} {z : (Int32 × Int32 × HI × HL) ⊕ (Int32 × HI × HL)} {OUT : Option Value × HI × HL} (h : B_MD_power_4 N v0 v1 v2 hi hl = some z) (hk : Sum.elim (fun s => EX w0 ev 0 m_MD_power 4 [(0, .int (v0)), (1, .int (s.1)), (2, .int (s.2.1))] [] (s.2.2.1) (s.2.2.2) OUT) (fun x => EX w0 ev 0 m_MD_power 19 [(1, .int (x.1))] [] (x.2.1) (x.2.2) OUT) z) : EX w0 ev 0 m_MD_power 4 [(0, .int (v0)), (1, .int (v1)), (2, .int (v2))] [] (hi) (hl) OUT := by
  unfold B_MD_power_4 at h
  refine EX.iload_n (x := v2) rfl (List.mem_of_getElem? (i := 2) rfl) ?_
  refine EX.iload_n (x := v0) rfl (List.mem_of_getElem? (i := 0) rfl) ?_
  rcases ite_some h with ⟨c1, h⟩ | ⟨c1, h⟩
  · refine EX.go (i := .if_icmp .ge 13) (len := 3) (pc1 := 19) (st1 := []) (hi1 := hi) (hl1 := hl) rfl ?_ (fun _ _ _ => if_pos c1)
    obtain rfl := Option.some.inj h
    have hk : EX w0 ev 0 m_MD_power 19 [(1, .int (v1))] [] (hi) (hl) OUT := hk
    exact EX.pick [1] hk rfl
  · refine EX.go (i := .if_icmp .ge 13) (len := 3) (pc1 := 9) (st1 := []) (hi1 := hi) (hl1 := hl) rfl ?_ (fun _ _ _ => if_neg c1)
    refine EX.iload_n (x := v1) rfl (List.mem_of_getElem? (i := 1) rfl) ?_
    refine EX.iconst (v := 3) rfl rfl ?_
    refine EX.go (i := .imul) (len := 1) (pc1 := 12) (st1 := [.int ((v1 * (3)))]) (hi1 := hi) (hl1 := hl) rfl ?_ (fun _ _ _ => rfl)
    refine EX.istore_n (req1 := [(1, .int ((v1 * (3)))), (0, .int (v0)), (2, .int (v2))]) rfl rfl rfl ?_
    refine EX.iinc (x := v2) (v := v2 + 1) (req1 := [(2, .int (v2 + 1)), (1, .int ((v1 * (3)))), (0, .int (v0))]) rfl rfl (List.mem_of_getElem? (i := 2) rfl) rfl rfl ?_
    refine EX.go (i := .goto (-12)) (len := 3) (pc1 := 4) (st1 := []) (hi1 := hi) (hl1 := hl) rfl ?_ (fun _ _ _ => rfl)
    obtain rfl := Option.some.inj h
    have hk : EX w0 ev 0 m_MD_power 4 [(0, .int (v0)), (1, .int ((v1 * (3)))), (2, .int (v2 + 1))] [] (hi) (hl) OUT := hk
    exact EX.pick [2, 1, 0] hk rfl
def f_MD_power (N : Nat) (p0 : Int32) (hi : HI) (hl : HL) : Option (Int32 × HI × HL) :=
  (lpN (fun s => B_MD_power_4 N (p0) s.1 s.2.1 s.2.2.1 s.2.2.2) N (1, 0, hi, hl)).bind fun x2 => some (x2.1, x2.2.1, x2.2.2)
set_option maxRecDepth 10000 in
set_option maxHeartbeats 4000000 in
theorem b_MD_power (ev : EV) {N : Nat} {p0 : Int32} {hi : HI} {hl : HL} {o : Int32 × HI × HL} (h : f_MD_power N p0 hi hl = some o) : EM w0 ev 1 m_MD_power [.int (p0)] hi hl (oI o) := by
  unfold f_MD_power at h
  refine EM.of rfl ?_
  show EX w0 ev 0 m_MD_power 0 [(0, .int (p0))] [] (hi) (hl) (oI o)
  refine EX.iconst (v := 1) rfl rfl ?_
  refine EX.istore_n (req1 := [(1, .int (1)), (0, .int (p0))]) rfl rfl rfl ?_
  refine EX.iconst (v := 0) rfl rfl ?_
  refine EX.istore_n (req1 := [(2, .int (0)), (1, .int (1)), (0, .int (p0))]) rfl rfl rfl ?_
  obtain ⟨x2, hx2, h⟩ := bnd_some h
  refine EX.pick [2, 1, 0] ?_ rfl
  refine lp_sound (f := fun s => B_MD_power_4 N (p0) s.1 s.2.1 s.2.2.1 s.2.2.2) (PS := fun s => EX w0 ev 0 m_MD_power 4 [(0, .int (p0)), (1, .int (s.1)), (2, .int (s.2.1))] [] (s.2.2.1) (s.2.2.2) (oI o)) (PX := fun x => EX w0 ev 0 m_MD_power 19 [(1, .int (x.1))] [] (x.2.1) (x.2.2) (oI o)) ?_ N _ x2 hx2 ?_
  · exact fun s z hz hk => bB_MD_power_4 ev hz hk
  show EX w0 ev 0 m_MD_power 19 [(1, .int (x2.1))] [] (x2.2.1) (x2.2.2) (oI o)
  refine EX.iload_n (x := x2.1) rfl (List.mem_of_getElem? (i := 0) rfl) ?_
  obtain rfl := Option.some.inj h
  exact EX.iret rfl rfl
def J_MD_isName_20 (N : Nat) (hi : HI) (hl : HL) : Option (Int32 × HI × HL) :=
  some (0, hi, hl)
set_option maxRecDepth 10000 in
set_option maxHeartbeats 4000000 in
theorem bJ_MD_isName_20 (ev : EV) {N : Nat} {hi : HI} {hl : HL} {o : Int32 × HI × HL} (h : J_MD_isName_20 N hi hl = some o) : EX w0 ev 0 m_MD_isName 20 [] [] (hi) (hl) (oI o) := by
  unfold J_MD_isName_20 at h
  refine EX.iconst (v := 0) rfl rfl ?_
  obtain rfl := Option.some.inj h
  exact EX.zret rfl rfl (Or.inl rfl)
def f_MD_isName (N : Nat) (p1 : Int32) (hi : HI) (hl : HL) : Option (Int32 × HI × HL) :=
  if (hi 65 34 : Int32) = (1 : Int32) then if (hi 65 35 : Int32) = (p1 : Int32) then some (1, hi, hl) else J_MD_isName_20 N (hi) (hl) else J_MD_isName_20 N (hi) (hl)
set_option maxRecDepth 10000 in
set_option maxHeartbeats 4000000 in
theorem b_MD_isName (ev : EV) {N : Nat} {p1 : Int32} {hi : HI} {hl : HL} {o : Int32 × HI × HL} (h : f_MD_isName N p1 hi hl = some o) : EM w0 ev 1 m_MD_isName [.ref 65, .int (p1)] hi hl (oI o) := by
  unfold f_MD_isName at h
  refine EM.of rfl ?_
  show EX w0 ev 0 m_MD_isName 0 [(0, .ref 65), (1, .int (p1))] [] (hi) (hl) (oI o)
  refine EX.aload_n (x := 65) rfl (List.mem_of_getElem? (i := 0) rfl) ?_
  refine EX.go (i := .getfield 245) (len := 3) (pc1 := 4) (st1 := [.int (hi 65 34)]) (hi1 := hi) (hl1 := hl) rfl ?_ (fun _ _ _ => rfl)
  refine EX.iconst (v := 1) rfl rfl ?_
  rcases ite_some h with ⟨c1, h⟩ | ⟨c1, h⟩
  · refine EX.go (i := .if_icmp .ne 15) (len := 3) (pc1 := 8) (st1 := []) (hi1 := hi) (hl1 := hl) rfl ?_ (fun _ _ _ => if_pos c1)
    refine EX.aload_n (x := 65) rfl (List.mem_of_getElem? (i := 0) rfl) ?_
    refine EX.go (i := .getfield 256) (len := 3) (pc1 := 12) (st1 := [.int (hi 65 35)]) (hi1 := hi) (hl1 := hl) rfl ?_ (fun _ _ _ => rfl)
    refine EX.iload_n (x := p1) rfl (List.mem_of_getElem? (i := 1) rfl) ?_
    rcases ite_some h with ⟨c2, h⟩ | ⟨c2, h⟩
    · refine EX.go (i := .if_icmp .ne 7) (len := 3) (pc1 := 16) (st1 := []) (hi1 := hi) (hl1 := hl) rfl ?_ (fun _ _ _ => if_pos c2)
      refine EX.iconst (v := 1) rfl rfl ?_
      refine EX.go (i := .goto 4) (len := 3) (pc1 := 21) (st1 := [.int (1)]) (hi1 := hi) (hl1 := hl) rfl ?_ (fun _ _ _ => rfl)
      obtain rfl := Option.some.inj h
      exact EX.zret rfl rfl (Or.inr rfl)
    · refine EX.go (i := .if_icmp .ne 7) (len := 3) (pc1 := 20) (st1 := []) (hi1 := hi) (hl1 := hl) rfl ?_ (fun _ _ _ => if_neg c2)
      refine EX.pick [] ?_ rfl
      exact bJ_MD_isName_20 ev h
  · refine EX.go (i := .if_icmp .ne 15) (len := 3) (pc1 := 20) (st1 := []) (hi1 := hi) (hl1 := hl) rfl ?_ (fun _ _ _ => if_neg c1)
    refine EX.pick [] ?_ rfl
    exact bJ_MD_isName_20 ev h
def J_MD_readWires_131 (N : Nat) (v2 : Int32) (v3 : Int32) (s0 : Int32) (hi : HI) (hl : HL) : Option ((Int32 × Int32 × HI × HL) ⊕ (Int32 × HI × HL)) :=
  some (.inl (v3, s0, hi, hl))
set_option maxRecDepth 10000 in
set_option maxHeartbeats 4000000 in
theorem bJ_MD_readWires_131 (ev : EV) {N : Nat} {v2 : Int32} {v3 : Int32} {s0 : Int32} {hi : HI} {hl : HL} {z : (Int32 × Int32 × HI × HL) ⊕ (Int32 × HI × HL)} {OUT : Option Value × HI × HL} (h : J_MD_readWires_131 N v2 v3 s0 hi hl = some z) (hk : Sum.elim (fun s => EX w0 ev 3 m_MD_readWires 5 [(0, .ref 65), (2, .int (v2)), (3, .int (s.1)), (4, .int (s.2.1))] [] (s.2.2.1) (s.2.2.2) OUT) (fun x => EX w0 ev 3 m_MD_readWires 136 [(3, .int (x.1))] [] (x.2.1) (x.2.2) OUT) z) : EX w0 ev 3 m_MD_readWires 131 [(0, .ref 65), (2, .int (v2)), (3, .int (v3))] [.int (s0)] (hi) (hl) OUT := by
  unfold J_MD_readWires_131 at h
  refine EX.istore (req1 := [(4, .int (s0)), (0, .ref 65), (2, .int (v2)), (3, .int (v3))]) rfl rfl rfl ?_
  refine EX.go (i := .goto (-128)) (len := 3) (pc1 := 5) (st1 := []) (hi1 := hi) (hl1 := hl) rfl ?_ (fun _ _ _ => rfl)
  obtain rfl := Option.some.inj h
  have hk : EX w0 ev 3 m_MD_readWires 5 [(0, .ref 65), (2, .int (v2)), (3, .int (v3)), (4, .int (s0))] [] (hi) (hl) OUT := hk
  exact EX.pick [1, 2, 3, 0] hk rfl
def J_MD_readWires_112 (N : Nat) (v2 : Int32) (s0 : Int32) (s1 : Int32) (hi : HI) (hl : HL) : Option ((Int32 × Int32 × HI × HL) ⊕ (Int32 × HI × HL)) :=
  (f_MD_next N (hi) (hl)).bind fun z14 => if (z14.2.1 65 34 : Int32) = (2 : Int32) then J_MD_readWires_131 N (v2) ((s1 + s0)) (1) (z14.2.1) (z14.2.2) else J_MD_readWires_131 N (v2) ((s1 + s0)) (0) (z14.2.1) (z14.2.2)
set_option maxRecDepth 10000 in
set_option maxHeartbeats 4000000 in
theorem bJ_MD_readWires_112 (ev : EV) {N : Nat} {v2 : Int32} {s0 : Int32} {s1 : Int32} {hi : HI} {hl : HL} {z : (Int32 × Int32 × HI × HL) ⊕ (Int32 × HI × HL)} {OUT : Option Value × HI × HL} (h : J_MD_readWires_112 N v2 s0 s1 hi hl = some z) (hk : Sum.elim (fun s => EX w0 ev 3 m_MD_readWires 5 [(0, .ref 65), (2, .int (v2)), (3, .int (s.1)), (4, .int (s.2.1))] [] (s.2.2.1) (s.2.2.2) OUT) (fun x => EX w0 ev 3 m_MD_readWires 136 [(3, .int (x.1))] [] (x.2.1) (x.2.2) OUT) z) : EX w0 ev 3 m_MD_readWires 112 [(0, .ref 65), (2, .int (v2))] [.int (s0), .int (s1)] (hi) (hl) OUT := by
  unfold J_MD_readWires_112 at h
  refine EX.go (i := .iadd) (len := 1) (pc1 := 113) (st1 := [.int ((s1 + s0))]) (hi1 := hi) (hl1 := hl) rfl ?_ (fun _ _ _ => rfl)
  refine EX.istore_n (req1 := [(3, .int ((s1 + s0))), (0, .ref 65), (2, .int (v2))]) rfl rfl rfl ?_
  refine EX.aload_n (x := 65) rfl (List.mem_of_getElem? (i := 1) rfl) ?_
  obtain ⟨z14, hz14, h⟩ := bnd_some h
  refine EX.callV (b := 65) (as := []) (rest := []) (r := none) (hi1 := z14.2.1) (hl1 := z14.2.2) rfl rfl rfl rfl rfl rfl ((b_MD_next ev hz14).mono (by decide)) ?_
  show EX w0 ev 3 m_MD_readWires 118 [(3, .int ((s1 + s0))), (0, .ref 65), (2, .int (v2))] [] (z14.2.1) (z14.2.2) OUT
  refine EX.aload_n (x := 65) rfl (List.mem_of_getElem? (i := 1) rfl) ?_
  refine EX.go (i := .getfield 245) (len := 3) (pc1 := 122) (st1 := [.int (z14.2.1 65 34)]) (hi1 := z14.2.1) (hl1 := z14.2.2) rfl ?_ (fun _ _ _ => rfl)
  refine EX.iconst (v := 2) rfl rfl ?_
  rcases ite_some h with ⟨c15, h⟩ | ⟨c15, h⟩
  · refine EX.go (i := .if_icmp .ne 7) (len := 3) (pc1 := 126) (st1 := []) (hi1 := z14.2.1) (hl1 := z14.2.2) rfl ?_ (fun _ _ _ => if_pos c15)
    refine EX.iconst (v := 1) rfl rfl ?_
    refine EX.go (i := .goto 4) (len := 3) (pc1 := 131) (st1 := [.int (1)]) (hi1 := z14.2.1) (hl1 := z14.2.2) rfl ?_ (fun _ _ _ => rfl)
    refine EX.pick [1, 2, 0] ?_ rfl
    exact bJ_MD_readWires_131 ev h hk
  · refine EX.go (i := .if_icmp .ne 7) (len := 3) (pc1 := 130) (st1 := []) (hi1 := z14.2.1) (hl1 := z14.2.2) rfl ?_ (fun _ _ _ => if_neg c15)
    refine EX.iconst (v := 0) rfl rfl ?_
    refine EX.pick [1, 2, 0] ?_ rfl
    exact bJ_MD_readWires_131 ev h hk
def J_MD_readWires_91 (N : Nat) (v2 : Int32) (v3 : Int32) (hi : HI) (hl : HL) : Option ((Int32 × Int32 × HI × HL) ⊕ (Int32 × HI × HL)) :=
  if (hi 65 36 : Int32) = 0 then (f_MD_power N (hi 65 35) (hi) (hl)).bind fun z13 => J_MD_readWires_112 N (v2) ((v2 * (z13.1))) (v3) (z13.2.1) (z13.2.2) else J_MD_readWires_112 N (v2) (0) (v3) (hi) (hl)
set_option maxRecDepth 10000 in
set_option maxHeartbeats 4000000 in
theorem bJ_MD_readWires_91 (ev : EV) {N : Nat} {v2 : Int32} {v3 : Int32} {hi : HI} {hl : HL} {z : (Int32 × Int32 × HI × HL) ⊕ (Int32 × HI × HL)} {OUT : Option Value × HI × HL} (h : J_MD_readWires_91 N v2 v3 hi hl = some z) (hk : Sum.elim (fun s => EX w0 ev 3 m_MD_readWires 5 [(0, .ref 65), (2, .int (v2)), (3, .int (s.1)), (4, .int (s.2.1))] [] (s.2.2.1) (s.2.2.2) OUT) (fun x => EX w0 ev 3 m_MD_readWires 136 [(3, .int (x.1))] [] (x.2.1) (x.2.2) OUT) z) : EX w0 ev 3 m_MD_readWires 91 [(0, .ref 65), (2, .int (v2)), (3, .int (v3))] [] (hi) (hl) OUT := by
  unfold J_MD_readWires_91 at h
  refine EX.iload_n (x := v3) rfl (List.mem_of_getElem? (i := 2) rfl) ?_
  refine EX.aload_n (x := 65) rfl (List.mem_of_getElem? (i := 0) rfl) ?_
  refine EX.go (i := .getfield 230) (len := 3) (pc1 := 96) (st1 := [.int (hi 65 36), .int (v3)]) (hi1 := hi) (hl1 := hl) rfl ?_ (fun _ _ _ => rfl)
  rcases ite_some h with ⟨c12, h⟩ | ⟨c12, h⟩
  · refine EX.go (i := .ifCond .ne 15) (len := 3) (pc1 := 99) (st1 := [.int (v3)]) (hi1 := hi) (hl1 := hl) rfl ?_ (fun _ _ _ => if_pos c12)
    refine EX.iload_n (x := v2) rfl (List.mem_of_getElem? (i := 1) rfl) ?_
    refine EX.aload_n (x := 65) rfl (List.mem_of_getElem? (i := 0) rfl) ?_
    refine EX.go (i := .getfield 256) (len := 3) (pc1 := 104) (st1 := [.int (hi 65 35), .int (v2), .int (v3)]) (hi1 := hi) (hl1 := hl) rfl ?_ (fun _ _ _ => rfl)
    obtain ⟨z13, hz13, h⟩ := bnd_some h
    refine EX.callS (as := [.int (hi 65 35)]) (rest := [.int (v2), .int (v3)]) (r := some (.int (z13.1))) (hi1 := z13.2.1) (hl1 := z13.2.2) rfl rfl rfl rfl rfl rfl ((b_MD_power ev hz13).mono (by decide)) ?_
    show EX w0 ev 3 m_MD_readWires 107 [(0, .ref 65), (2, .int (v2)), (3, .int (v3))] [.int (z13.1), .int (v2), .int (v3)] (z13.2.1) (z13.2.2) OUT
    refine EX.go (i := .imul) (len := 1) (pc1 := 108) (st1 := [.int ((v2 * (z13.1))), .int (v3)]) (hi1 := z13.2.1) (hl1 := z13.2.2) rfl ?_ (fun _ _ _ => rfl)
    refine EX.go (i := .goto 4) (len := 3) (pc1 := 112) (st1 := [.int ((v2 * (z13.1))), .int (v3)]) (hi1 := z13.2.1) (hl1 := z13.2.2) rfl ?_ (fun _ _ _ => rfl)
    refine EX.pick [0, 1] ?_ rfl
    exact bJ_MD_readWires_112 ev h hk
  · refine EX.go (i := .ifCond .ne 15) (len := 3) (pc1 := 111) (st1 := [.int (v3)]) (hi1 := hi) (hl1 := hl) rfl ?_ (fun _ _ _ => if_neg c12)
    refine EX.iconst (v := 0) rfl rfl ?_
    refine EX.pick [0, 1] ?_ rfl
    exact bJ_MD_readWires_112 ev h hk
def J_MD_readWires_87 (N : Nat) (v2 : Int32) (v3 : Int32) (s0 : Int32) (hi : HI) (hl : HL) : Option ((Int32 × Int32 × HI × HL) ⊕ (Int32 × HI × HL)) :=
  (f_MD_wants N (s0) (4) (hi) (hl)).bind fun z11 => J_MD_readWires_91 N (v2) (v3) (z11.2.1) (z11.2.2)
set_option maxRecDepth 10000 in
set_option maxHeartbeats 4000000 in
theorem bJ_MD_readWires_87 (ev : EV) {N : Nat} {v2 : Int32} {v3 : Int32} {s0 : Int32} {hi : HI} {hl : HL} {z : (Int32 × Int32 × HI × HL) ⊕ (Int32 × HI × HL)} {OUT : Option Value × HI × HL} (h : J_MD_readWires_87 N v2 v3 s0 hi hl = some z) (hk : Sum.elim (fun s => EX w0 ev 3 m_MD_readWires 5 [(0, .ref 65), (2, .int (v2)), (3, .int (s.1)), (4, .int (s.2.1))] [] (s.2.2.1) (s.2.2.2) OUT) (fun x => EX w0 ev 3 m_MD_readWires 136 [(3, .int (x.1))] [] (x.2.1) (x.2.2) OUT) z) : EX w0 ev 3 m_MD_readWires 87 [(0, .ref 65), (2, .int (v2)), (3, .int (v3))] [.int (s0), .ref 65] (hi) (hl) OUT := by
  unfold J_MD_readWires_87 at h
  refine EX.iconst (v := 4) rfl rfl ?_
  obtain ⟨z11, hz11, h⟩ := bnd_some h
  refine EX.callV (b := 65) (as := [.int (s0), .int (4)]) (rest := []) (r := none) (hi1 := z11.2.1) (hl1 := z11.2.2) rfl rfl rfl rfl rfl rfl ((b_MD_wants ev hz11).mono (by decide)) ?_
  show EX w0 ev 3 m_MD_readWires 91 [(0, .ref 65), (2, .int (v2)), (3, .int (v3))] [] (z11.2.1) (z11.2.2) OUT
  refine EX.pick [0, 1, 2] ?_ rfl
  exact bJ_MD_readWires_91 ev h hk
def J_MD_readWires_63 (N : Nat) (v2 : Int32) (v3 : Int32) (hi : HI) (hl : HL) : Option ((Int32 × Int32 × HI × HL) ⊕ (Int32 × HI × HL)) :=
  if (hi 65 36 : Int32) = 0 then (f_MD_driven N (v3) (hi 65 35) (hi) (hl)).bind fun z9 => if (z9.1 : Int32) = 0 then J_MD_readWires_87 N (v2) (v3) (1) (z9.2.1) (z9.2.2) else J_MD_readWires_87 N (v2) (v3) (0) (z9.2.1) (z9.2.2) else J_MD_readWires_91 N (v2) (v3) (hi) (hl)
set_option maxRecDepth 10000 in
set_option maxHeartbeats 4000000 in
theorem bJ_MD_readWires_63 (ev : EV) {N : Nat} {v2 : Int32} {v3 : Int32} {hi : HI} {hl : HL} {z : (Int32 × Int32 × HI × HL) ⊕ (Int32 × HI × HL)} {OUT : Option Value × HI × HL} (h : J_MD_readWires_63 N v2 v3 hi hl = some z) (hk : Sum.elim (fun s => EX w0 ev 3 m_MD_readWires 5 [(0, .ref 65), (2, .int (v2)), (3, .int (s.1)), (4, .int (s.2.1))] [] (s.2.2.1) (s.2.2.2) OUT) (fun x => EX w0 ev 3 m_MD_readWires 136 [(3, .int (x.1))] [] (x.2.1) (x.2.2) OUT) z) : EX w0 ev 3 m_MD_readWires 63 [(0, .ref 65), (2, .int (v2)), (3, .int (v3))] [] (hi) (hl) OUT := by
  unfold J_MD_readWires_63 at h
  refine EX.aload_n (x := 65) rfl (List.mem_of_getElem? (i := 0) rfl) ?_
  refine EX.go (i := .getfield 230) (len := 3) (pc1 := 67) (st1 := [.int (hi 65 36)]) (hi1 := hi) (hl1 := hl) rfl ?_ (fun _ _ _ => rfl)
  rcases ite_some h with ⟨c8, h⟩ | ⟨c8, h⟩
  · refine EX.go (i := .ifCond .ne 24) (len := 3) (pc1 := 70) (st1 := []) (hi1 := hi) (hl1 := hl) rfl ?_ (fun _ _ _ => if_pos c8)
    refine EX.aload_n (x := 65) rfl (List.mem_of_getElem? (i := 0) rfl) ?_
    refine EX.iload_n (x := v3) rfl (List.mem_of_getElem? (i := 2) rfl) ?_
    refine EX.aload_n (x := 65) rfl (List.mem_of_getElem? (i := 0) rfl) ?_
    refine EX.go (i := .getfield 256) (len := 3) (pc1 := 76) (st1 := [.int (hi 65 35), .int (v3), .ref 65]) (hi1 := hi) (hl1 := hl) rfl ?_ (fun _ _ _ => rfl)
    obtain ⟨z9, hz9, h⟩ := bnd_some h
    refine EX.callS (as := [.int (v3), .int (hi 65 35)]) (rest := [.ref 65]) (r := some (.int (z9.1))) (hi1 := z9.2.1) (hl1 := z9.2.2) rfl rfl rfl rfl rfl rfl ((b_MD_driven ev hz9).mono (by decide)) ?_
    show EX w0 ev 3 m_MD_readWires 79 [(0, .ref 65), (2, .int (v2)), (3, .int (v3))] [.int (z9.1), .ref 65] (z9.2.1) (z9.2.2) OUT
    rcases ite_some h with ⟨c10, h⟩ | ⟨c10, h⟩
    · refine EX.go (i := .ifCond .ne 7) (len := 3) (pc1 := 82) (st1 := [.ref 65]) (hi1 := z9.2.1) (hl1 := z9.2.2) rfl ?_ (fun _ _ _ => if_pos c10)
      refine EX.iconst (v := 1) rfl rfl ?_
      refine EX.go (i := .goto 4) (len := 3) (pc1 := 87) (st1 := [.int (1), .ref 65]) (hi1 := z9.2.1) (hl1 := z9.2.2) rfl ?_ (fun _ _ _ => rfl)
      refine EX.pick [0, 1, 2] ?_ rfl
      exact bJ_MD_readWires_87 ev h hk
    · refine EX.go (i := .ifCond .ne 7) (len := 3) (pc1 := 86) (st1 := [.ref 65]) (hi1 := z9.2.1) (hl1 := z9.2.2) rfl ?_ (fun _ _ _ => if_neg c10)
      refine EX.iconst (v := 0) rfl rfl ?_
      refine EX.pick [0, 1, 2] ?_ rfl
      exact bJ_MD_readWires_87 ev h hk
  · refine EX.go (i := .ifCond .ne 24) (len := 3) (pc1 := 91) (st1 := []) (hi1 := hi) (hl1 := hl) rfl ?_ (fun _ _ _ => if_neg c8)
    refine EX.pick [0, 1, 2] ?_ rfl
    exact bJ_MD_readWires_91 ev h hk
def J_MD_readWires_59 (N : Nat) (v2 : Int32) (v3 : Int32) (s0 : Int32) (hi : HI) (hl : HL) : Option ((Int32 × Int32 × HI × HL) ⊕ (Int32 × HI × HL)) :=
  (f_MD_wants N (s0) (3) (hi) (hl)).bind fun z7 => J_MD_readWires_63 N (v2) (v3) (z7.2.1) (z7.2.2)
set_option maxRecDepth 10000 in
set_option maxHeartbeats 4000000 in
theorem bJ_MD_readWires_59 (ev : EV) {N : Nat} {v2 : Int32} {v3 : Int32} {s0 : Int32} {hi : HI} {hl : HL} {z : (Int32 × Int32 × HI × HL) ⊕ (Int32 × HI × HL)} {OUT : Option Value × HI × HL} (h : J_MD_readWires_59 N v2 v3 s0 hi hl = some z) (hk : Sum.elim (fun s => EX w0 ev 3 m_MD_readWires 5 [(0, .ref 65), (2, .int (v2)), (3, .int (s.1)), (4, .int (s.2.1))] [] (s.2.2.1) (s.2.2.2) OUT) (fun x => EX w0 ev 3 m_MD_readWires 136 [(3, .int (x.1))] [] (x.2.1) (x.2.2) OUT) z) : EX w0 ev 3 m_MD_readWires 59 [(0, .ref 65), (2, .int (v2)), (3, .int (v3))] [.int (s0), .ref 65] (hi) (hl) OUT := by
  unfold J_MD_readWires_59 at h
  refine EX.iconst (v := 3) rfl rfl ?_
  obtain ⟨z7, hz7, h⟩ := bnd_some h
  refine EX.callV (b := 65) (as := [.int (s0), .int (3)]) (rest := []) (r := none) (hi1 := z7.2.1) (hl1 := z7.2.2) rfl rfl rfl rfl rfl rfl ((b_MD_wants ev hz7).mono (by decide)) ?_
  show EX w0 ev 3 m_MD_readWires 63 [(0, .ref 65), (2, .int (v2)), (3, .int (v3))] [] (z7.2.1) (z7.2.2) OUT
  refine EX.pick [0, 1, 2] ?_ rfl
  exact bJ_MD_readWires_63 ev h hk
def J_MD_readWires_31 (N : Nat) (v2 : Int32) (v3 : Int32) (s0 : Int32) (hi : HI) (hl : HL) : Option ((Int32 × Int32 × HI × HL) ⊕ (Int32 × HI × HL)) :=
  (f_MD_wants N (s0) (2) (hi) (hl)).bind fun z4 => if (z4.2.1 65 36 : Int32) = 0 then if (z4.2.1 65 0 : Int32) ≤ (z4.2.1 65 35 : Int32) then J_MD_readWires_59 N (v2) (v3) (0) (z4.2.1) (z4.2.2) else J_MD_readWires_59 N (v2) (v3) (1) (z4.2.1) (z4.2.2) else J_MD_readWires_63 N (v2) (v3) (z4.2.1) (z4.2.2)
set_option maxRecDepth 10000 in
set_option maxHeartbeats 4000000 in
theorem bJ_MD_readWires_31 (ev : EV) {N : Nat} {v2 : Int32} {v3 : Int32} {s0 : Int32} {hi : HI} {hl : HL} {z : (Int32 × Int32 × HI × HL) ⊕ (Int32 × HI × HL)} {OUT : Option Value × HI × HL} (h : J_MD_readWires_31 N v2 v3 s0 hi hl = some z) (hk : Sum.elim (fun s => EX w0 ev 3 m_MD_readWires 5 [(0, .ref 65), (2, .int (v2)), (3, .int (s.1)), (4, .int (s.2.1))] [] (s.2.2.1) (s.2.2.2) OUT) (fun x => EX w0 ev 3 m_MD_readWires 136 [(3, .int (x.1))] [] (x.2.1) (x.2.2) OUT) z) : EX w0 ev 3 m_MD_readWires 31 [(0, .ref 65), (2, .int (v2)), (3, .int (v3))] [.int (s0), .ref 65] (hi) (hl) OUT := by
  unfold J_MD_readWires_31 at h
  refine EX.iconst (v := 2) rfl rfl ?_
  obtain ⟨z4, hz4, h⟩ := bnd_some h
  refine EX.callV (b := 65) (as := [.int (s0), .int (2)]) (rest := []) (r := none) (hi1 := z4.2.1) (hl1 := z4.2.2) rfl rfl rfl rfl rfl rfl ((b_MD_wants ev hz4).mono (by decide)) ?_
  show EX w0 ev 3 m_MD_readWires 35 [(0, .ref 65), (2, .int (v2)), (3, .int (v3))] [] (z4.2.1) (z4.2.2) OUT
  refine EX.aload_n (x := 65) rfl (List.mem_of_getElem? (i := 0) rfl) ?_
  refine EX.go (i := .getfield 230) (len := 3) (pc1 := 39) (st1 := [.int (z4.2.1 65 36)]) (hi1 := z4.2.1) (hl1 := z4.2.2) rfl ?_ (fun _ _ _ => rfl)
  rcases ite_some h with ⟨c5, h⟩ | ⟨c5, h⟩
  · refine EX.go (i := .ifCond .ne 24) (len := 3) (pc1 := 42) (st1 := []) (hi1 := z4.2.1) (hl1 := z4.2.2) rfl ?_ (fun _ _ _ => if_pos c5)
    refine EX.aload_n (x := 65) rfl (List.mem_of_getElem? (i := 0) rfl) ?_
    refine EX.aload_n (x := 65) rfl (List.mem_of_getElem? (i := 0) rfl) ?_
    refine EX.go (i := .getfield 256) (len := 3) (pc1 := 47) (st1 := [.int (z4.2.1 65 35), .ref 65]) (hi1 := z4.2.1) (hl1 := z4.2.2) rfl ?_ (fun _ _ _ => rfl)
    refine EX.aload_n (x := 65) rfl (List.mem_of_getElem? (i := 0) rfl) ?_
    refine EX.go (i := .getfield 7) (len := 3) (pc1 := 51) (st1 := [.int (z4.2.1 65 0), .int (z4.2.1 65 35), .ref 65]) (hi1 := z4.2.1) (hl1 := z4.2.2) rfl ?_ (fun _ _ _ => rfl)
    rcases ite_some h with ⟨c6, h⟩ | ⟨c6, h⟩
    · refine EX.go (i := .if_icmp .ge 7) (len := 3) (pc1 := 58) (st1 := [.ref 65]) (hi1 := z4.2.1) (hl1 := z4.2.2) rfl ?_ (fun _ _ _ => if_pos c6)
      refine EX.iconst (v := 0) rfl rfl ?_
      refine EX.pick [0, 1, 2] ?_ rfl
      exact bJ_MD_readWires_59 ev h hk
    · refine EX.go (i := .if_icmp .ge 7) (len := 3) (pc1 := 54) (st1 := [.ref 65]) (hi1 := z4.2.1) (hl1 := z4.2.2) rfl ?_ (fun _ _ _ => if_neg c6)
      refine EX.iconst (v := 1) rfl rfl ?_
      refine EX.go (i := .goto 4) (len := 3) (pc1 := 59) (st1 := [.int (1), .ref 65]) (hi1 := z4.2.1) (hl1 := z4.2.2) rfl ?_ (fun _ _ _ => rfl)
      refine EX.pick [0, 1, 2] ?_ rfl
      exact bJ_MD_readWires_59 ev h hk
  · refine EX.go (i := .ifCond .ne 24) (len := 3) (pc1 := 63) (st1 := []) (hi1 := z4.2.1) (hl1 := z4.2.2) rfl ?_ (fun _ _ _ => if_neg c5)
    refine EX.pick [0, 1, 2] ?_ rfl
    exact bJ_MD_readWires_63 ev h hk
def B_MD_readWires_5 (N : Nat) (v2 : Int32) (v3 : Int32) (v4 : Int32) (hi : HI) (hl : HL) : Option ((Int32 × Int32 × HI × HL) ⊕ (Int32 × HI × HL)) :=
  if (v4 : Int32) = 0 then some (.inr (v3, hi, hl)) else if (hi 65 36 : Int32) = 0 then if (hi 65 34 : Int32) = (2 : Int32) then J_MD_readWires_31 N (v2) (v3) (1) (hi) (hl) else J_MD_readWires_31 N (v2) (v3) (0) (hi) (hl) else some (.inr (v3, hi, hl))
set_option maxRecDepth 10000 in
set_option maxHeartbeats 4000000 in
theorem bB_MD_readWires_5 (ev : EV) {N : Nat} {v2 : Int32} {v3 : Int32} {v4 : Int32} {hi : HI} {hl : HL} {z : (Int32 × Int32 × HI × HL) ⊕ (Int32 × HI × HL)} {OUT : Option Value × HI × HL} (h : B_MD_readWires_5 N v2 v3 v4 hi hl = some z) (hk : Sum.elim (fun s => EX w0 ev 3 m_MD_readWires 5 [(0, .ref 65), (2, .int (v2)), (3, .int (s.1)), (4, .int (s.2.1))] [] (s.2.2.1) (s.2.2.2) OUT) (fun x => EX w0 ev 3 m_MD_readWires 136 [(3, .int (x.1))] [] (x.2.1) (x.2.2) OUT) z) : EX w0 ev 3 m_MD_readWires 5 [(0, .ref 65), (2, .int (v2)), (3, .int (v3)), (4, .int (v4))] [] (hi) (hl) OUT := by
  unfold B_MD_readWires_5 at h
  refine EX.iload (x := v4) rfl (List.mem_of_getElem? (i := 3) rfl) ?_
  rcases ite_some h with ⟨c1, h⟩ | ⟨c1, h⟩
  · refine EX.go (i := .ifCond .eq 129) (len := 3) (pc1 := 136) (st1 := []) (hi1 := hi) (hl1 := hl) rfl ?_ (fun _ _ _ => if_pos c1)
    obtain rfl := Option.some.inj h
    have hk : EX w0 ev 3 m_MD_readWires 136 [(3, .int (v3))] [] (hi) (hl) OUT := hk
    exact EX.pick [2] hk rfl
  · refine EX.go (i := .ifCond .eq 129) (len := 3) (pc1 := 10) (st1 := []) (hi1 := hi) (hl1 := hl) rfl ?_ (fun _ _ _ => if_neg c1)
    refine EX.aload_n (x := 65) rfl (List.mem_of_getElem? (i := 0) rfl) ?_
    refine EX.go (i := .getfield 230) (len := 3) (pc1 := 14) (st1 := [.int (hi 65 36)]) (hi1 := hi) (hl1 := hl) rfl ?_ (fun _ _ _ => rfl)
    rcases ite_some h with ⟨c2, h⟩ | ⟨c2, h⟩
    · refine EX.go (i := .ifCond .ne 122) (len := 3) (pc1 := 17) (st1 := []) (hi1 := hi) (hl1 := hl) rfl ?_ (fun _ _ _ => if_pos c2)
      refine EX.aload_n (x := 65) rfl (List.mem_of_getElem? (i := 0) rfl) ?_
      refine EX.aload_n (x := 65) rfl (List.mem_of_getElem? (i := 0) rfl) ?_
      refine EX.go (i := .getfield 245) (len := 3) (pc1 := 22) (st1 := [.int (hi 65 34), .ref 65]) (hi1 := hi) (hl1 := hl) rfl ?_ (fun _ _ _ => rfl)
      refine EX.iconst (v := 2) rfl rfl ?_
      rcases ite_some h with ⟨c3, h⟩ | ⟨c3, h⟩
      · refine EX.go (i := .if_icmp .ne 7) (len := 3) (pc1 := 26) (st1 := [.ref 65]) (hi1 := hi) (hl1 := hl) rfl ?_ (fun _ _ _ => if_pos c3)
        refine EX.iconst (v := 1) rfl rfl ?_
        refine EX.go (i := .goto 4) (len := 3) (pc1 := 31) (st1 := [.int (1), .ref 65]) (hi1 := hi) (hl1 := hl) rfl ?_ (fun _ _ _ => rfl)
        refine EX.pick [0, 1, 2] ?_ rfl
        exact bJ_MD_readWires_31 ev h hk
      · refine EX.go (i := .if_icmp .ne 7) (len := 3) (pc1 := 30) (st1 := [.ref 65]) (hi1 := hi) (hl1 := hl) rfl ?_ (fun _ _ _ => if_neg c3)
        refine EX.iconst (v := 0) rfl rfl ?_
        refine EX.pick [0, 1, 2] ?_ rfl
        exact bJ_MD_readWires_31 ev h hk
    · refine EX.go (i := .ifCond .ne 122) (len := 3) (pc1 := 136) (st1 := []) (hi1 := hi) (hl1 := hl) rfl ?_ (fun _ _ _ => if_neg c2)
      obtain rfl := Option.some.inj h
      have hk : EX w0 ev 3 m_MD_readWires 136 [(3, .int (v3))] [] (hi) (hl) OUT := hk
      exact EX.pick [2] hk rfl
def f_MD_readWires (N : Nat) (p1 : Int32) (p2 : Int32) (hi : HI) (hl : HL) : Option (Int32 × HI × HL) :=
  (lpN (fun s => B_MD_readWires_5 N (p2) s.1 s.2.1 s.2.2.1 s.2.2.2) N (p1, 1, hi, hl)).bind fun x16 => some (x16.1, x16.2.1, x16.2.2)
set_option maxRecDepth 10000 in
set_option maxHeartbeats 4000000 in
theorem b_MD_readWires (ev : EV) {N : Nat} {p1 : Int32} {p2 : Int32} {hi : HI} {hl : HL} {o : Int32 × HI × HL} (h : f_MD_readWires N p1 p2 hi hl = some o) : EM w0 ev 4 m_MD_readWires [.ref 65, .int (p1), .int (p2)] hi hl (oI o) := by
  unfold f_MD_readWires at h
  refine EM.of rfl ?_
  show EX w0 ev 3 m_MD_readWires 0 [(0, .ref 65), (1, .int (p1)), (2, .int (p2))] [] (hi) (hl) (oI o)
  refine EX.iload_n (x := p1) rfl (List.mem_of_getElem? (i := 1) rfl) ?_
  refine EX.istore_n (req1 := [(3, .int (p1)), (0, .ref 65), (1, .int (p1)), (2, .int (p2))]) rfl rfl rfl ?_
  refine EX.iconst (v := 1) rfl rfl ?_
  refine EX.istore (req1 := [(4, .int (1)), (3, .int (p1)), (0, .ref 65), (1, .int (p1)), (2, .int (p2))]) rfl rfl rfl ?_
  obtain ⟨x16, hx16, h⟩ := bnd_some h
  refine EX.pick [2, 4, 1, 0] ?_ rfl
  refine lp_sound (f := fun s => B_MD_readWires_5 N (p2) s.1 s.2.1 s.2.2.1 s.2.2.2) (PS := fun s => EX w0 ev 3 m_MD_readWires 5 [(0, .ref 65), (2, .int (p2)), (3, .int (s.1)), (4, .int (s.2.1))] [] (s.2.2.1) (s.2.2.2) (oI o)) (PX := fun x => EX w0 ev 3 m_MD_readWires 136 [(3, .int (x.1))] [] (x.2.1) (x.2.2) (oI o)) ?_ N _ x16 hx16 ?_
  · exact fun s z hz hk => bB_MD_readWires_5 ev hz hk
  show EX w0 ev 3 m_MD_readWires 136 [(3, .int (x16.1))] [] (x16.2.1) (x16.2.2) (oI o)
  refine EX.iload_n (x := x16.1) rfl (List.mem_of_getElem? (i := 0) rfl) ?_
  obtain rfl := Option.some.inj h
  exact EX.iret rfl rfl
