/-! methods as functions -/
def f_MD_glow (N : Nat) (p1 : Int32) (p2 : Int32) (hi : HI) (hl : HL) : Option (Int32 × HI × HL) :=
  (f_MD_isTurn N (p1) (hi) (hl)).bind fun z1 => if (z1.1 : Int32) = 0 then some ((-1), z1.2.1, z1.2.2) else (f_MD_in N ((Int32.toInt64 (p2))) (0) (2) (z1.2.1) (z1.2.2)).bind fun z3 => if (z3.1 : Int32) = 0 then some ((-1), z3.2.1, z3.2.2) else (f_MD_glows N (p1) (69) (z3.2.1) (z3.2.2)).bind fun z5 => if (p2 : Int32) = 0 then some (z5.1, z5.2.1, z5.2.2) else if (p2 : Int32) = (2 : Int32) then (f_MD_bits N (z5.1) (z5.2.1) (z5.2.2)).bind fun z8 => some (z8.1, z8.2.1, z8.2.2) else if (z5.2.1 65 12 : Int32) = (10000 : Int32) then some ((-4), z5.2.1, z5.2.2) else some (z5.2.1 65 12, z5.2.1, z5.2.2)
set_option maxRecDepth 10000 in
set_option maxHeartbeats 4000000 in
theorem b_MD_glow (ev : EV) {N : Nat} {p1 : Int32} {p2 : Int32} {hi : HI} {hl : HL} {o : Int32 × HI × HL} (h : f_MD_glow N p1 p2 hi hl = some o) : EM w0 ev 3 m_MD_glow [.ref 65, .int (p1), .int (p2)] hi hl (oI o) := by
  unfold f_MD_glow at h
  refine EM.of rfl ?_
  show EX w0 ev 2 m_MD_glow 0 [(0, .ref 65), (1, .int (p1)), (2, .int (p2))] [] (hi) (hl) (oI o)
  refine EX.aload_n (x := 65) rfl (List.mem_of_getElem? (i := 0) rfl) ?_
  refine EX.iload_n (x := p1) rfl (List.mem_of_getElem? (i := 1) rfl) ?_
  obtain ⟨z1, hz1, h⟩ := bnd_some h
  refine EX.callV (b := 65) (as := [.int (p1)]) (rest := []) (r := some (.int (z1.1))) (hi1 := z1.2.1) (hl1 := z1.2.2) rfl rfl rfl rfl rfl rfl ((b_MD_isTurn ev hz1).mono (by decide)) ?_
  show EX w0 ev 2 m_MD_glow 5 [(0, .ref 65), (1, .int (p1)), (2, .int (p2))] [.int (z1.1)] (z1.2.1) (z1.2.2) (oI o)
  rcases ite_some h with ⟨c2, h⟩ | ⟨c2, h⟩
  · refine EX.go (i := .ifCond .eq 15) (len := 3) (pc1 := 20) (st1 := []) (hi1 := z1.2.1) (hl1 := z1.2.2) rfl ?_ (fun _ _ _ => if_pos c2)
    refine EX.iconst (v := (-1)) rfl rfl ?_
    obtain rfl := Option.some.inj h
    exact EX.iret rfl rfl
  · refine EX.go (i := .ifCond .eq 15) (len := 3) (pc1 := 8) (st1 := []) (hi1 := z1.2.1) (hl1 := z1.2.2) rfl ?_ (fun _ _ _ => if_neg c2)
    refine EX.iload_n (x := p2) rfl (List.mem_of_getElem? (i := 2) rfl) ?_
    refine EX.go (i := .i2l) (len := 1) (pc1 := 10) (st1 := [.long ((Int32.toInt64 (p2)))]) (hi1 := z1.2.1) (hl1 := z1.2.2) rfl ?_ (fun _ _ _ => rfl)
    refine EX.lconst (v := 0) rfl rfl ?_
    refine EX.go (i := .ldc2_w 108) (len := 3) (pc1 := 14) (st1 := [.long (2), .long (0), .long ((Int32.toInt64 (p2)))]) (hi1 := z1.2.1) (hl1 := z1.2.2) rfl ?_ (fun _ _ _ => rfl)
    obtain ⟨z3, hz3, h⟩ := bnd_some h
    refine EX.callS (as := [.long ((Int32.toInt64 (p2))), .long (0), .long (2)]) (rest := []) (r := some (.int (z3.1))) (hi1 := z3.2.1) (hl1 := z3.2.2) rfl rfl rfl rfl rfl rfl ((b_MD_in ev hz3).mono (by decide)) ?_
    show EX w0 ev 2 m_MD_glow 17 [(0, .ref 65), (1, .int (p1)), (2, .int (p2))] [.int (z3.1)] (z3.2.1) (z3.2.2) (oI o)
    rcases ite_some h with ⟨c4, h⟩ | ⟨c4, h⟩
    · refine EX.go (i := .ifCond .ne 5) (len := 3) (pc1 := 20) (st1 := []) (hi1 := z3.2.1) (hl1 := z3.2.2) rfl ?_ (fun _ _ _ => if_pos c4)
      refine EX.iconst (v := (-1)) rfl rfl ?_
      obtain rfl := Option.some.inj h
      exact EX.iret rfl rfl
    · refine EX.go (i := .ifCond .ne 5) (len := 3) (pc1 := 22) (st1 := []) (hi1 := z3.2.1) (hl1 := z3.2.2) rfl ?_ (fun _ _ _ => if_neg c4)
      refine EX.aload_n (x := 65) rfl (List.mem_of_getElem? (i := 0) rfl) ?_
      refine EX.iload_n (x := p1) rfl (List.mem_of_getElem? (i := 1) rfl) ?_
      refine EX.aload_n (x := 65) rfl (List.mem_of_getElem? (i := 0) rfl) ?_
      refine EX.go (i := .getfield 26) (len := 3) (pc1 := 28) (st1 := [.ref 69, .int (p1), .ref 65]) (hi1 := z3.2.1) (hl1 := z3.2.2) rfl ?_ (fun _ _ _ => rfl)
      obtain ⟨z5, hz5, h⟩ := bnd_some h
      refine EX.callV (b := 65) (as := [.int (p1), .ref 69]) (rest := []) (r := some (.int (z5.1))) (hi1 := z5.2.1) (hl1 := z5.2.2) rfl rfl rfl rfl rfl rfl ((b_MD_glows ev hz5).mono (by decide)) ?_
      show EX w0 ev 2 m_MD_glow 31 [(0, .ref 65), (1, .int (p1)), (2, .int (p2))] [.int (z5.1)] (z5.2.1) (z5.2.2) (oI o)
      refine EX.istore_n (req1 := [(3, .int (z5.1)), (0, .ref 65), (1, .int (p1)), (2, .int (p2))]) rfl rfl rfl ?_
      refine EX.iload_n (x := p2) rfl (List.mem_of_getElem? (i := 3) rfl) ?_
      rcases ite_some h with ⟨c6, h⟩ | ⟨c6, h⟩
      · refine EX.go (i := .ifCond .ne 7) (len := 3) (pc1 := 36) (st1 := []) (hi1 := z5.2.1) (hl1 := z5.2.2) rfl ?_ (fun _ _ _ => if_pos c6)
        refine EX.iload_n (x := z5.1) rfl (List.mem_of_getElem? (i := 0) rfl) ?_
        refine EX.go (i := .goto 34) (len := 3) (pc1 := 71) (st1 := [.int (z5.1)]) (hi1 := z5.2.1) (hl1 := z5.2.2) rfl ?_ (fun _ _ _ => rfl)
        obtain rfl := Option.some.inj h
        exact EX.iret rfl rfl
      · refine EX.go (i := .ifCond .ne 7) (len := 3) (pc1 := 40) (st1 := []) (hi1 := z5.2.1) (hl1 := z5.2.2) rfl ?_ (fun _ _ _ => if_neg c6)
        refine EX.iload_n (x := p2) rfl (List.mem_of_getElem? (i := 3) rfl) ?_
        refine EX.iconst (v := 2) rfl rfl ?_
        rcases ite_some h with ⟨c7, h⟩ | ⟨c7, h⟩
        · refine EX.go (i := .if_icmp .ne 10) (len := 3) (pc1 := 45) (st1 := []) (hi1 := z5.2.1) (hl1 := z5.2.2) rfl ?_ (fun _ _ _ => if_pos c7)
          refine EX.iload_n (x := z5.1) rfl (List.mem_of_getElem? (i := 0) rfl) ?_
          obtain ⟨z8, hz8, h⟩ := bnd_some h
          refine EX.callS (as := [.int (z5.1)]) (rest := []) (r := some (.int (z8.1))) (hi1 := z8.2.1) (hl1 := z8.2.2) rfl rfl rfl rfl rfl rfl ((b_MD_bits ev hz8).mono (by decide)) ?_
          show EX w0 ev 2 m_MD_glow 49 [(3, .int (z5.1)), (0, .ref 65), (1, .int (p1)), (2, .int (p2))] [.int (z8.1)] (z8.2.1) (z8.2.2) (oI o)
          refine EX.go (i := .goto 22) (len := 3) (pc1 := 71) (st1 := [.int (z8.1)]) (hi1 := z8.2.1) (hl1 := z8.2.2) rfl ?_ (fun _ _ _ => rfl)
          obtain rfl := Option.some.inj h
          exact EX.iret rfl rfl
        · refine EX.go (i := .if_icmp .ne 10) (len := 3) (pc1 := 52) (st1 := []) (hi1 := z5.2.1) (hl1 := z5.2.2) rfl ?_ (fun _ _ _ => if_neg c7)
          refine EX.aload_n (x := 65) rfl (List.mem_of_getElem? (i := 1) rfl) ?_
          refine EX.go (i := .getfield 151) (len := 3) (pc1 := 56) (st1 := [.int (z5.2.1 65 12)]) (hi1 := z5.2.1) (hl1 := z5.2.2) rfl ?_ (fun _ _ _ => rfl)
          refine EX.sipush (v := 10000) rfl rfl ?_
          rcases ite_some h with ⟨c9, h⟩ | ⟨c9, h⟩
          · refine EX.go (i := .if_icmp .ne 8) (len := 3) (pc1 := 62) (st1 := []) (hi1 := z5.2.1) (hl1 := z5.2.2) rfl ?_ (fun _ _ _ => if_pos c9)
            refine EX.bipush (v := (-4)) rfl rfl ?_
            refine EX.go (i := .goto 7) (len := 3) (pc1 := 71) (st1 := [.int ((-4))]) (hi1 := z5.2.1) (hl1 := z5.2.2) rfl ?_ (fun _ _ _ => rfl)
            obtain rfl := Option.some.inj h
            exact EX.iret rfl rfl
          · refine EX.go (i := .if_icmp .ne 8) (len := 3) (pc1 := 67) (st1 := []) (hi1 := z5.2.1) (hl1 := z5.2.2) rfl ?_ (fun _ _ _ => if_neg c9)
            refine EX.aload_n (x := 65) rfl (List.mem_of_getElem? (i := 1) rfl) ?_
            refine EX.go (i := .getfield 151) (len := 3) (pc1 := 71) (st1 := [.int (z5.2.1 65 12)]) (hi1 := z5.2.1) (hl1 := z5.2.2) rfl ?_ (fun _ _ _ => rfl)
            obtain rfl := Option.some.inj h
            exact EX.iret rfl rfl
def J_MD_isNewSet_31 (N : Nat) (v1 : Int32) (v3 : Int32) (s0 : Int32) (hi : HI) (hl : HL) : Option ((Int32 × Int32 × HI × HL) ⊕ (Int32 × HI × HL)) :=
  some (.inl (s0, v3 + 1, hi, hl))
set_option maxRecDepth 10000 in
set_option maxHeartbeats 4000000 in
theorem bJ_MD_isNewSet_31 (ev : EV) {N : Nat} {v1 : Int32} {v3 : Int32} {s0 : Int32} {hi : HI} {hl : HL} {z : (Int32 × Int32 × HI × HL) ⊕ (Int32 × HI × HL)} {OUT : Option Value × HI × HL} (h : J_MD_isNewSet_31 N v1 v3 s0 hi hl = some z) (hk : Sum.elim (fun s => EX w0 ev 0 m_MD_isNewSet 4 [(0, .ref 65), (1, .int (v1)), (2, .int (s.1)), (3, .int (s.2.1))] [] (s.2.2.1) (s.2.2.2) OUT) (fun x => EX w0 ev 0 m_MD_isNewSet 38 [(2, .int (x.1))] [] (x.2.1) (x.2.2) OUT) z) : EX w0 ev 0 m_MD_isNewSet 31 [(0, .ref 65), (1, .int (v1)), (3, .int (v3))] [.int (s0)] (hi) (hl) OUT := by
  unfold J_MD_isNewSet_31 at h
  refine EX.istore_n (req1 := [(2, .int (s0)), (0, .ref 65), (1, .int (v1)), (3, .int (v3))]) rfl rfl rfl ?_
  refine EX.iinc (x := v3) (v := v3 + 1) (req1 := [(3, .int (v3 + 1)), (2, .int (s0)), (0, .ref 65), (1, .int (v1))]) rfl rfl (List.mem_of_getElem? (i := 3) rfl) rfl rfl ?_
  refine EX.go (i := .goto (-31)) (len := 3) (pc1 := 4) (st1 := []) (hi1 := hi) (hl1 := hl) rfl ?_ (fun _ _ _ => rfl)
  obtain rfl := Option.some.inj h
  have hk : EX w0 ev 0 m_MD_isNewSet 4 [(0, .ref 65), (1, .int (v1)), (2, .int (s0)), (3, .int (v3 + 1))] [] (hi) (hl) OUT := hk
  exact EX.pick [2, 3, 1, 0] hk rfl
def J_MD_isNewSet_30 (N : Nat) (v1 : Int32) (v3 : Int32) (hi : HI) (hl : HL) : Option ((Int32 × Int32 × HI × HL) ⊕ (Int32 × HI × HL)) :=
  J_MD_isNewSet_31 N (v1) (v3) (0) (hi) (hl)
set_option maxRecDepth 10000 in
set_option maxHeartbeats 4000000 in
theorem bJ_MD_isNewSet_30 (ev : EV) {N : Nat} {v1 : Int32} {v3 : Int32} {hi : HI} {hl : HL} {z : (Int32 × Int32 × HI × HL) ⊕ (Int32 × HI × HL)} {OUT : Option Value × HI × HL} (h : J_MD_isNewSet_30 N v1 v3 hi hl = some z) (hk : Sum.elim (fun s => EX w0 ev 0 m_MD_isNewSet 4 [(0, .ref 65), (1, .int (v1)), (2, .int (s.1)), (3, .int (s.2.1))] [] (s.2.2.1) (s.2.2.2) OUT) (fun x => EX w0 ev 0 m_MD_isNewSet 38 [(2, .int (x.1))] [] (x.2.1) (x.2.2) OUT) z) : EX w0 ev 0 m_MD_isNewSet 30 [(0, .ref 65), (1, .int (v1)), (3, .int (v3))] [] (hi) (hl) OUT := by
  unfold J_MD_isNewSet_30 at h
  refine EX.iconst (v := 0) rfl rfl ?_
  refine EX.pick [0, 1, 2] ?_ rfl
  exact bJ_MD_isNewSet_31 ev h hk
def B_MD_isNewSet_4 (N : Nat) (v1 : Int32) (v2 : Int32) (v3 : Int32) (hi : HI) (hl : HL) : Option ((Int32 × Int32 × HI × HL) ⊕ (Int32 × HI × HL)) :=
  if (hi 65 15 : Int32) ≤ (v3 : Int32) then some (.inr (v2, hi, hl)) else if (v2 : Int32) = 0 then J_MD_isNewSet_30 N (v1) (v3) (hi) (hl) else if (v3 : Int32) < 0 ∨ 729 ≤ Int32.toNatClampNeg (v3) then none else if (hi 76 (Int32.toNatClampNeg (v3)) : Int32) = (v1 : Int32) then J_MD_isNewSet_30 N (v1) (v3) (hi) (hl) else J_MD_isNewSet_31 N (v1) (v3) (1) (hi) (hl)
set_option maxRecDepth 10000 in
set_option maxHeartbeats 4000000 in
theorem bB_MD_isNewSet_4 (ev : EV) {N : Nat} {v1 : Int32} {v2 : Int32} {v3 : Int32} {hi : HI} {hl : HL} {z : (Int32 × Int32 × HI × HL) ⊕ (Int32 × HI × HL)} {OUT : Option Value × HI × HL} (h : B_MD_isNewSet_4 N v1 v2 v3 hi hl = some z) (hk : Sum.elim (fun s => EX w0 ev 0 m_MD_isNewSet 4 [(0, .ref 65), (1, .int (v1)), (2, .int (s.1)), (3, .int (s.2.1))] [] (s.2.2.1) (s.2.2.2) OUT) (fun x => EX w0 ev 0 m_MD_isNewSet 38 [(2, .int (x.1))] [] (x.2.1) (x.2.2) OUT) z) : EX w0 ev 0 m_MD_isNewSet 4 [(0, .ref 65), (1, .int (v1)), (2, .int (v2)), (3, .int (v3))] [] (hi) (hl) OUT := by
  unfold B_MD_isNewSet_4 at h
  refine EX.iload_n (x := v3) rfl (List.mem_of_getElem? (i := 3) rfl) ?_
  refine EX.aload_n (x := 65) rfl (List.mem_of_getElem? (i := 0) rfl) ?_
  refine EX.go (i := .getfield 165) (len := 3) (pc1 := 9) (st1 := [.int (hi 65 15), .int (v3)]) (hi1 := hi) (hl1 := hl) rfl ?_ (fun _ _ _ => rfl)
  rcases ite_some h with ⟨c1, h⟩ | ⟨c1, h⟩
  · refine EX.go (i := .if_icmp .ge 29) (len := 3) (pc1 := 38) (st1 := []) (hi1 := hi) (hl1 := hl) rfl ?_ (fun _ _ _ => if_pos c1)
    obtain rfl := Option.some.inj h
    have hk : EX w0 ev 0 m_MD_isNewSet 38 [(2, .int (v2))] [] (hi) (hl) OUT := hk
    exact EX.pick [2] hk rfl
  · refine EX.go (i := .if_icmp .ge 29) (len := 3) (pc1 := 12) (st1 := []) (hi1 := hi) (hl1 := hl) rfl ?_ (fun _ _ _ => if_neg c1)
    refine EX.iload_n (x := v2) rfl (List.mem_of_getElem? (i := 2) rfl) ?_
    rcases ite_some h with ⟨c2, h⟩ | ⟨c2, h⟩
    · refine EX.go (i := .ifCond .eq 17) (len := 3) (pc1 := 30) (st1 := []) (hi1 := hi) (hl1 := hl) rfl ?_ (fun _ _ _ => if_pos c2)
      refine EX.pick [0, 1, 3] ?_ rfl
      exact bJ_MD_isNewSet_30 ev h hk
    · refine EX.go (i := .ifCond .eq 17) (len := 3) (pc1 := 16) (st1 := []) (hi1 := hi) (hl1 := hl) rfl ?_ (fun _ _ _ => if_neg c2)
      refine EX.aload_n (x := 65) rfl (List.mem_of_getElem? (i := 0) rfl) ?_
      refine EX.go (i := .getfield 48) (len := 3) (pc1 := 20) (st1 := [.ref 76]) (hi1 := hi) (hl1 := hl) rfl ?_ (fun _ _ _ => rfl)
      refine EX.iload_n (x := v3) rfl (List.mem_of_getElem? (i := 3) rfl) ?_
      obtain ⟨g3, h⟩ := grd_some h
      refine EX.iaload rfl rfl g3 ?_
      refine EX.iload_n (x := v1) rfl (List.mem_of_getElem? (i := 1) rfl) ?_
      rcases ite_some h with ⟨c4, h⟩ | ⟨c4, h⟩
      · refine EX.go (i := .if_icmp .eq 7) (len := 3) (pc1 := 30) (st1 := []) (hi1 := hi) (hl1 := hl) rfl ?_ (fun _ _ _ => if_pos c4)
        refine EX.pick [0, 1, 3] ?_ rfl
        exact bJ_MD_isNewSet_30 ev h hk
      · refine EX.go (i := .if_icmp .eq 7) (len := 3) (pc1 := 26) (st1 := []) (hi1 := hi) (hl1 := hl) rfl ?_ (fun _ _ _ => if_neg c4)
        refine EX.iconst (v := 1) rfl rfl ?_
        refine EX.go (i := .goto 4) (len := 3) (pc1 := 31) (st1 := [.int (1)]) (hi1 := hi) (hl1 := hl) rfl ?_ (fun _ _ _ => rfl)
        refine EX.pick [0, 1, 3] ?_ rfl
        exact bJ_MD_isNewSet_31 ev h hk
def f_MD_isNewSet (N : Nat) (p1 : Int32) (hi : HI) (hl : HL) : Option (Int32 × HI × HL) :=
  (lpN (fun s => B_MD_isNewSet_4 N (p1) s.1 s.2.1 s.2.2.1 s.2.2.2) N (1, 0, hi, hl)).bind fun x5 => if (x5.1 : Int32) = 0 ∨ (x5.1 : Int32) = 1 then some (x5.1, x5.2.1, x5.2.2) else none
set_option maxRecDepth 10000 in
set_option maxHeartbeats 4000000 in
theorem b_MD_isNewSet (ev : EV) {N : Nat} {p1 : Int32} {hi : HI} {hl : HL} {o : Int32 × HI × HL} (h : f_MD_isNewSet N p1 hi hl = some o) : EM w0 ev 1 m_MD_isNewSet [.ref 65, .int (p1)] hi hl (oI o) := by
  unfold f_MD_isNewSet at h
  refine EM.of rfl ?_
  show EX w0 ev 0 m_MD_isNewSet 0 [(0, .ref 65), (1, .int (p1))] [] (hi) (hl) (oI o)
  refine EX.iconst (v := 1) rfl rfl ?_
  refine EX.istore_n (req1 := [(2, .int (1)), (0, .ref 65), (1, .int (p1))]) rfl rfl rfl ?_
  refine EX.iconst (v := 0) rfl rfl ?_
  refine EX.istore_n (req1 := [(3, .int (0)), (2, .int (1)), (0, .ref 65), (1, .int (p1))]) rfl rfl rfl ?_
  obtain ⟨x5, hx5, h⟩ := bnd_some h
  refine EX.pick [2, 3, 1, 0] ?_ rfl
  refine lp_sound (f := fun s => B_MD_isNewSet_4 N (p1) s.1 s.2.1 s.2.2.1 s.2.2.2) (PS := fun s => EX w0 ev 0 m_MD_isNewSet 4 [(0, .ref 65), (1, .int (p1)), (2, .int (s.1)), (3, .int (s.2.1))] [] (s.2.2.1) (s.2.2.2) (oI o)) (PX := fun x => EX w0 ev 0 m_MD_isNewSet 38 [(2, .int (x.1))] [] (x.2.1) (x.2.2) (oI o)) ?_ N _ x5 hx5 ?_
  · exact fun s z hz hk => bB_MD_isNewSet_4 ev hz hk
  show EX w0 ev 0 m_MD_isNewSet 38 [(2, .int (x5.1))] [] (x5.2.1) (x5.2.2) (oI o)
  refine EX.iload_n (x := x5.1) rfl (List.mem_of_getElem? (i := 0) rfl) ?_
  obtain ⟨g6, h⟩ := grp_some h
  obtain rfl := Option.some.inj h
  exact EX.zret rfl rfl g6
def J_MD_freshens_99 (N : Nat) (v1 : Int32) (hi : HI) (hl : HL) : Option ((Int32 × HI × HL) ⊕ (HI × HL)) :=
  some (.inl (v1 + 1, hi, hl))
set_option maxRecDepth 10000 in
set_option maxHeartbeats 4000000 in
theorem bJ_MD_freshens_99 (ev : EV) {N : Nat} {v1 : Int32} {hi : HI} {hl : HL} {z : (Int32 × HI × HL) ⊕ (HI × HL)} {OUT : Option Value × HI × HL} (h : J_MD_freshens_99 N v1 hi hl = some z) (hk : Sum.elim (fun s => EX w0 ev 2 m_MD_freshens 20 [(0, .ref 65), (1, .int (s.1))] [] (s.2.1) (s.2.2) OUT) (fun x => EX w0 ev 2 m_MD_freshens 105 [(0, .ref 65)] [] (x.1) (x.2) OUT) z) : EX w0 ev 2 m_MD_freshens 99 [(0, .ref 65), (1, .int (v1))] [] (hi) (hl) OUT := by
  unfold J_MD_freshens_99 at h
  refine EX.iinc (x := v1) (v := v1 + 1) (req1 := [(1, .int (v1 + 1)), (0, .ref 65)]) rfl rfl (List.mem_of_getElem? (i := 1) rfl) rfl rfl ?_
  refine EX.go (i := .goto (-82)) (len := 3) (pc1 := 20) (st1 := []) (hi1 := hi) (hl1 := hl) rfl ?_ (fun _ _ _ => rfl)
  obtain rfl := Option.some.inj h
  have hk : EX w0 ev 2 m_MD_freshens 20 [(0, .ref 65), (1, .int (v1 + 1))] [] (hi) (hl) OUT := hk
  exact EX.pick [1, 0] hk rfl
def J_MD_freshens_60 (N : Nat) (v1 : Int32) (s0 : Int32) (s1 : Int32) (hi : HI) (hl : HL) : Option ((Int32 × HI × HL) ⊕ (HI × HL)) :=
  if (s1 : Int32) < 0 ∨ 729 ≤ Int32.toNatClampNeg (s1) then none else if (v1 : Int32) < 0 ∨ 729 ≤ Int32.toNatClampNeg (v1) then none else (f_MD_isNewSet N ((wr (hi) 75 (Int32.toNatClampNeg (s1)) ((s0 : Int32) &&& 1)) 74 (Int32.toNatClampNeg (v1))) (wr (hi) 75 (Int32.toNatClampNeg (s1)) ((s0 : Int32) &&& 1)) (hl)).bind fun z9 => if (z9.1 : Int32) = 0 then J_MD_freshens_99 N (v1) (z9.2.1) (z9.2.2) else if (v1 : Int32) < 0 ∨ 729 ≤ Int32.toNatClampNeg (v1) then none else if (z9.2.1 65 15 : Int32) < 0 ∨ 729 ≤ Int32.toNatClampNeg (z9.2.1 65 15) then none else J_MD_freshens_99 N (v1) (wr (wr (z9.2.1) 76 (Int32.toNatClampNeg (z9.2.1 65 15)) (z9.2.1 74 (Int32.toNatClampNeg (v1)))) 65 15 ((((wr (z9.2.1) 76 (Int32.toNatClampNeg (z9.2.1 65 15)) (z9.2.1 74 (Int32.toNatClampNeg (v1)))) 65 15 : Int32) + (1)))) (z9.2.2)
set_option maxRecDepth 10000 in
set_option maxHeartbeats 4000000 in
theorem bJ_MD_freshens_60 (ev : EV) {N : Nat} {v1 : Int32} {s0 : Int32} {s1 : Int32} {hi : HI} {hl : HL} {z : (Int32 × HI × HL) ⊕ (HI × HL)} {OUT : Option Value × HI × HL} (h : J_MD_freshens_60 N v1 s0 s1 hi hl = some z) (hk : Sum.elim (fun s => EX w0 ev 2 m_MD_freshens 20 [(0, .ref 65), (1, .int (s.1))] [] (s.2.1) (s.2.2) OUT) (fun x => EX w0 ev 2 m_MD_freshens 105 [(0, .ref 65)] [] (x.1) (x.2) OUT) z) : EX w0 ev 2 m_MD_freshens 60 [(0, .ref 65), (1, .int (v1))] [.int (s0), .int (s1), .ref 75] (hi) (hl) OUT := by
  unfold J_MD_freshens_60 at h
  obtain ⟨g7, h⟩ := grd_some h
  refine EX.zastore rfl rfl g7 ?_
  refine EX.aload_n (x := 65) rfl (List.mem_of_getElem? (i := 0) rfl) ?_
  refine EX.aload_n (x := 65) rfl (List.mem_of_getElem? (i := 0) rfl) ?_
  refine EX.go (i := .getfield 41) (len := 3) (pc1 := 66) (st1 := [.ref 74, .ref 65]) (hi1 := wr (hi) 75 (Int32.toNatClampNeg (s1)) ((s0 : Int32) &&& 1)) (hl1 := hl) rfl ?_ (fun _ _ _ => rfl)
  refine EX.iload_n (x := v1) rfl (List.mem_of_getElem? (i := 1) rfl) ?_
  obtain ⟨g8, h⟩ := grd_some h
  refine EX.iaload rfl rfl g8 ?_
  obtain ⟨z9, hz9, h⟩ := bnd_some h
  refine EX.callV (b := 65) (as := [.int ((wr (hi) 75 (Int32.toNatClampNeg (s1)) ((s0 : Int32) &&& 1)) 74 (Int32.toNatClampNeg (v1)))]) (rest := []) (r := some (.int (z9.1))) (hi1 := z9.2.1) (hl1 := z9.2.2) rfl rfl rfl rfl rfl rfl ((b_MD_isNewSet ev hz9).mono (by decide)) ?_
  show EX w0 ev 2 m_MD_freshens 71 [(0, .ref 65), (1, .int (v1))] [.int (z9.1)] (z9.2.1) (z9.2.2) OUT
  rcases ite_some h with ⟨c10, h⟩ | ⟨c10, h⟩
  · refine EX.go (i := .ifCond .eq 28) (len := 3) (pc1 := 99) (st1 := []) (hi1 := z9.2.1) (hl1 := z9.2.2) rfl ?_ (fun _ _ _ => if_pos c10)
    refine EX.pick [0, 1] ?_ rfl
    exact bJ_MD_freshens_99 ev h hk
  · refine EX.go (i := .ifCond .eq 28) (len := 3) (pc1 := 74) (st1 := []) (hi1 := z9.2.1) (hl1 := z9.2.2) rfl ?_ (fun _ _ _ => if_neg c10)
    refine EX.aload_n (x := 65) rfl (List.mem_of_getElem? (i := 0) rfl) ?_
    refine EX.go (i := .getfield 48) (len := 3) (pc1 := 78) (st1 := [.ref 76]) (hi1 := z9.2.1) (hl1 := z9.2.2) rfl ?_ (fun _ _ _ => rfl)
    refine EX.aload_n (x := 65) rfl (List.mem_of_getElem? (i := 0) rfl) ?_
    refine EX.go (i := .getfield 165) (len := 3) (pc1 := 82) (st1 := [.int (z9.2.1 65 15), .ref 76]) (hi1 := z9.2.1) (hl1 := z9.2.2) rfl ?_ (fun _ _ _ => rfl)
    refine EX.aload_n (x := 65) rfl (List.mem_of_getElem? (i := 0) rfl) ?_
    refine EX.go (i := .getfield 41) (len := 3) (pc1 := 86) (st1 := [.ref 74, .int (z9.2.1 65 15), .ref 76]) (hi1 := z9.2.1) (hl1 := z9.2.2) rfl ?_ (fun _ _ _ => rfl)
    refine EX.iload_n (x := v1) rfl (List.mem_of_getElem? (i := 1) rfl) ?_
    obtain ⟨g11, h⟩ := grd_some h
    refine EX.iaload rfl rfl g11 ?_
    obtain ⟨g12, h⟩ := grd_some h
    refine EX.iastore rfl rfl g12 ?_
    refine EX.aload_n (x := 65) rfl (List.mem_of_getElem? (i := 0) rfl) ?_
    refine EX.go (i := .dup) (len := 1) (pc1 := 91) (st1 := [.ref 65, .ref 65]) (hi1 := wr (z9.2.1) 76 (Int32.toNatClampNeg (z9.2.1 65 15)) (z9.2.1 74 (Int32.toNatClampNeg (v1)))) (hl1 := z9.2.2) rfl ?_ (fun _ _ _ => rfl)
    refine EX.go (i := .getfield 165) (len := 3) (pc1 := 94) (st1 := [.int ((wr (z9.2.1) 76 (Int32.toNatClampNeg (z9.2.1 65 15)) (z9.2.1 74 (Int32.toNatClampNeg (v1)))) 65 15), .ref 65]) (hi1 := wr (z9.2.1) 76 (Int32.toNatClampNeg (z9.2.1 65 15)) (z9.2.1 74 (Int32.toNatClampNeg (v1)))) (hl1 := z9.2.2) rfl ?_ (fun _ _ _ => rfl)
    refine EX.iconst (v := 1) rfl rfl ?_
    refine EX.go (i := .iadd) (len := 1) (pc1 := 96) (st1 := [.int ((((wr (z9.2.1) 76 (Int32.toNatClampNeg (z9.2.1 65 15)) (z9.2.1 74 (Int32.toNatClampNeg (v1)))) 65 15 : Int32) + (1))), .ref 65]) (hi1 := wr (z9.2.1) 76 (Int32.toNatClampNeg (z9.2.1 65 15)) (z9.2.1 74 (Int32.toNatClampNeg (v1)))) (hl1 := z9.2.2) rfl ?_ (fun _ _ _ => rfl)
    refine EX.go (i := .putfield 165) (len := 3) (pc1 := 99) (st1 := []) (hi1 := wr (wr (z9.2.1) 76 (Int32.toNatClampNeg (z9.2.1 65 15)) (z9.2.1 74 (Int32.toNatClampNeg (v1)))) 65 15 ((((wr (z9.2.1) 76 (Int32.toNatClampNeg (z9.2.1 65 15)) (z9.2.1 74 (Int32.toNatClampNeg (v1)))) 65 15 : Int32) + (1)))) (hl1 := z9.2.2) rfl ?_ (fun _ _ _ => rfl)
    refine EX.pick [0, 1] ?_ rfl
    exact bJ_MD_freshens_99 ev h hk
def B_MD_freshens_20 (N : Nat) (v1 : Int32) (hi : HI) (hl : HL) : Option ((Int32 × HI × HL) ⊕ (HI × HL)) :=
  (f_MD_turnsOf N (hi) (hl)).bind fun z2 => if (z2.1 : Int32) ≤ (v1 : Int32) then some (.inr (z2.2.1, z2.2.2)) else (f_MD_glows N (v1) (69) (z2.2.1) (z2.2.2)).bind fun z4 => if (v1 : Int32) < 0 ∨ 729 ≤ Int32.toNatClampNeg (v1) then none else if ((wr (z4.2.1) 74 (Int32.toNatClampNeg (v1)) (z4.1)) 65 12 : Int32) = 0 then J_MD_freshens_60 N (v1) (1) (v1) (wr (z4.2.1) 74 (Int32.toNatClampNeg (v1)) (z4.1)) (z4.2.2) else J_MD_freshens_60 N (v1) (0) (v1) (wr (z4.2.1) 74 (Int32.toNatClampNeg (v1)) (z4.1)) (z4.2.2)
set_option maxRecDepth 10000 in
set_option maxHeartbeats 4000000 in
theorem bB_MD_freshens_20 (ev : EV) {N : Nat} {v1 : Int32} {hi : HI} {hl : HL} {z : (Int32 × HI × HL) ⊕ (HI × HL)} {OUT : Option Value × HI × HL} (h : B_MD_freshens_20 N v1 hi hl = some z) (hk : Sum.elim (fun s => EX w0 ev 2 m_MD_freshens 20 [(0, .ref 65), (1, .int (s.1))] [] (s.2.1) (s.2.2) OUT) (fun x => EX w0 ev 2 m_MD_freshens 105 [(0, .ref 65)] [] (x.1) (x.2) OUT) z) : EX w0 ev 2 m_MD_freshens 20 [(0, .ref 65), (1, .int (v1))] [] (hi) (hl) OUT := by
  unfold B_MD_freshens_20 at h
  refine EX.iload_n (x := v1) rfl (List.mem_of_getElem? (i := 1) rfl) ?_
  refine EX.aload_n (x := 65) rfl (List.mem_of_getElem? (i := 0) rfl) ?_
  obtain ⟨z2, hz2, h⟩ := bnd_some h
  refine EX.callV (b := 65) (as := []) (rest := [.int (v1)]) (r := some (.int (z2.1))) (hi1 := z2.2.1) (hl1 := z2.2.2) rfl rfl rfl rfl rfl rfl ((b_MD_turnsOf ev hz2).mono (by decide)) ?_
  show EX w0 ev 2 m_MD_freshens 25 [(0, .ref 65), (1, .int (v1))] [.int (z2.1), .int (v1)] (z2.2.1) (z2.2.2) OUT
  rcases ite_some h with ⟨c3, h⟩ | ⟨c3, h⟩
  · refine EX.go (i := .if_icmp .ge 80) (len := 3) (pc1 := 105) (st1 := []) (hi1 := z2.2.1) (hl1 := z2.2.2) rfl ?_ (fun _ _ _ => if_pos c3)
    obtain rfl := Option.some.inj h
    have hk : EX w0 ev 2 m_MD_freshens 105 [(0, .ref 65)] [] (z2.2.1) (z2.2.2) OUT := hk
    exact EX.pick [0] hk rfl
  · refine EX.go (i := .if_icmp .ge 80) (len := 3) (pc1 := 28) (st1 := []) (hi1 := z2.2.1) (hl1 := z2.2.2) rfl ?_ (fun _ _ _ => if_neg c3)
    refine EX.aload_n (x := 65) rfl (List.mem_of_getElem? (i := 0) rfl) ?_
    refine EX.go (i := .getfield 41) (len := 3) (pc1 := 32) (st1 := [.ref 74]) (hi1 := z2.2.1) (hl1 := z2.2.2) rfl ?_ (fun _ _ _ => rfl)
    refine EX.iload_n (x := v1) rfl (List.mem_of_getElem? (i := 1) rfl) ?_
    refine EX.aload_n (x := 65) rfl (List.mem_of_getElem? (i := 0) rfl) ?_
    refine EX.iload_n (x := v1) rfl (List.mem_of_getElem? (i := 1) rfl) ?_
    refine EX.aload_n (x := 65) rfl (List.mem_of_getElem? (i := 0) rfl) ?_
    refine EX.go (i := .getfield 26) (len := 3) (pc1 := 39) (st1 := [.ref 69, .int (v1), .ref 65, .int (v1), .ref 74]) (hi1 := z2.2.1) (hl1 := z2.2.2) rfl ?_ (fun _ _ _ => rfl)
    obtain ⟨z4, hz4, h⟩ := bnd_some h
    refine EX.callV (b := 65) (as := [.int (v1), .ref 69]) (rest := [.int (v1), .ref 74]) (r := some (.int (z4.1))) (hi1 := z4.2.1) (hl1 := z4.2.2) rfl rfl rfl rfl rfl rfl ((b_MD_glows ev hz4).mono (by decide)) ?_
    show EX w0 ev 2 m_MD_freshens 42 [(0, .ref 65), (1, .int (v1))] [.int (z4.1), .int (v1), .ref 74] (z4.2.1) (z4.2.2) OUT
    obtain ⟨g5, h⟩ := grd_some h
    refine EX.iastore rfl rfl g5 ?_
    refine EX.aload_n (x := 65) rfl (List.mem_of_getElem? (i := 0) rfl) ?_
    refine EX.go (i := .getfield 44) (len := 3) (pc1 := 47) (st1 := [.ref 75]) (hi1 := wr (z4.2.1) 74 (Int32.toNatClampNeg (v1)) (z4.1)) (hl1 := z4.2.2) rfl ?_ (fun _ _ _ => rfl)
    refine EX.iload_n (x := v1) rfl (List.mem_of_getElem? (i := 1) rfl) ?_
    refine EX.aload_n (x := 65) rfl (List.mem_of_getElem? (i := 0) rfl) ?_
    refine EX.go (i := .getfield 151) (len := 3) (pc1 := 52) (st1 := [.int ((wr (z4.2.1) 74 (Int32.toNatClampNeg (v1)) (z4.1)) 65 12), .int (v1), .ref 75]) (hi1 := wr (z4.2.1) 74 (Int32.toNatClampNeg (v1)) (z4.1)) (hl1 := z4.2.2) rfl ?_ (fun _ _ _ => rfl)
    rcases ite_some h with ⟨c6, h⟩ | ⟨c6, h⟩
    · refine EX.go (i := .ifCond .ne 7) (len := 3) (pc1 := 55) (st1 := [.int (v1), .ref 75]) (hi1 := wr (z4.2.1) 74 (Int32.toNatClampNeg (v1)) (z4.1)) (hl1 := z4.2.2) rfl ?_ (fun _ _ _ => if_pos c6)
      refine EX.iconst (v := 1) rfl rfl ?_
      refine EX.go (i := .goto 4) (len := 3) (pc1 := 60) (st1 := [.int (1), .int (v1), .ref 75]) (hi1 := wr (z4.2.1) 74 (Int32.toNatClampNeg (v1)) (z4.1)) (hl1 := z4.2.2) rfl ?_ (fun _ _ _ => rfl)
      refine EX.pick [0, 1] ?_ rfl
      exact bJ_MD_freshens_60 ev h hk
    · refine EX.go (i := .ifCond .ne 7) (len := 3) (pc1 := 59) (st1 := [.int (v1), .ref 75]) (hi1 := wr (z4.2.1) 74 (Int32.toNatClampNeg (v1)) (z4.1)) (hl1 := z4.2.2) rfl ?_ (fun _ _ _ => if_neg c6)
      refine EX.iconst (v := 0) rfl rfl ?_
      refine EX.pick [0, 1] ?_ rfl
      exact bJ_MD_freshens_60 ev h hk
def J_MD_freshens_132 (N : Nat) (v1 : Int32) (s0 : Int32) (s1 : Int32) (hi : HI) (hl : HL) : Option ((Int32 × HI × HL) ⊕ (HI × HL)) :=
  if (s1 : Int32) < 0 ∨ 65536 ≤ Int32.toNatClampNeg (s1) then none else some (.inl (v1 + 1, wr (hi) 77 (Int32.toNatClampNeg (s1)) (Int32.toInt8 ((Int32.toInt8 (s0)).toInt32)).toInt32, hl))
set_option maxRecDepth 10000 in
set_option maxHeartbeats 4000000 in
theorem bJ_MD_freshens_132 (ev : EV) {N : Nat} {v1 : Int32} {s0 : Int32} {s1 : Int32} {hi : HI} {hl : HL} {z : (Int32 × HI × HL) ⊕ (HI × HL)} {OUT : Option Value × HI × HL} (h : J_MD_freshens_132 N v1 s0 s1 hi hl = some z) (hk : Sum.elim (fun s => EX w0 ev 2 m_MD_freshens 107 [(0, .ref 65), (1, .int (s.1))] [] (s.2.1) (s.2.2) OUT) (fun x => EX w0 ev 2 m_MD_freshens 140 [(0, .ref 65)] [] (x.1) (x.2) OUT) z) : EX w0 ev 2 m_MD_freshens 132 [(0, .ref 65), (1, .int (v1))] [.int (s0), .int (s1), .ref 77] (hi) (hl) OUT := by
  unfold J_MD_freshens_132 at h
  refine EX.go (i := .i2b) (len := 1) (pc1 := 133) (st1 := [.int ((Int32.toInt8 (s0)).toInt32), .int (s1), .ref 77]) (hi1 := hi) (hl1 := hl) rfl ?_ (fun _ _ _ => rfl)
  obtain ⟨g16, h⟩ := grd_some h
  refine EX.bastore rfl rfl g16 ?_
  refine EX.iinc (x := v1) (v := v1 + 1) (req1 := [(1, .int (v1 + 1)), (0, .ref 65)]) rfl rfl (List.mem_of_getElem? (i := 1) rfl) rfl rfl ?_
  refine EX.go (i := .goto (-30)) (len := 3) (pc1 := 107) (st1 := []) (hi1 := wr (hi) 77 (Int32.toNatClampNeg (s1)) (Int32.toInt8 ((Int32.toInt8 (s0)).toInt32)).toInt32) (hl1 := hl) rfl ?_ (fun _ _ _ => rfl)
  obtain rfl := Option.some.inj h
  have hk : EX w0 ev 2 m_MD_freshens 107 [(0, .ref 65), (1, .int (v1 + 1))] [] (wr (hi) 77 (Int32.toNatClampNeg (s1)) (Int32.toInt8 ((Int32.toInt8 (s0)).toInt32)).toInt32) (hl) OUT := hk
  exact EX.pick [1, 0] hk rfl
def B_MD_freshens_107 (N : Nat) (v1 : Int32) (hi : HI) (hl : HL) : Option ((Int32 × HI × HL) ⊕ (HI × HL)) :=
  if (((1 : Int32) <<< ((hi 65 2) &&& 31)) : Int32) ≤ (v1 : Int32) then some (.inr (hi, hl)) else if (v1 : Int32) = 0 then J_MD_freshens_132 N (v1) (0) (v1) (hi) (hl) else J_MD_freshens_132 N (v1) (100) (v1) (hi) (hl)
set_option maxRecDepth 10000 in
set_option maxHeartbeats 4000000 in
theorem bB_MD_freshens_107 (ev : EV) {N : Nat} {v1 : Int32} {hi : HI} {hl : HL} {z : (Int32 × HI × HL) ⊕ (HI × HL)} {OUT : Option Value × HI × HL} (h : B_MD_freshens_107 N v1 hi hl = some z) (hk : Sum.elim (fun s => EX w0 ev 2 m_MD_freshens 107 [(0, .ref 65), (1, .int (s.1))] [] (s.2.1) (s.2.2) OUT) (fun x => EX w0 ev 2 m_MD_freshens 140 [(0, .ref 65)] [] (x.1) (x.2) OUT) z) : EX w0 ev 2 m_MD_freshens 107 [(0, .ref 65), (1, .int (v1))] [] (hi) (hl) OUT := by
  unfold B_MD_freshens_107 at h
  refine EX.iload_n (x := v1) rfl (List.mem_of_getElem? (i := 1) rfl) ?_
  refine EX.iconst (v := 1) rfl rfl ?_
  refine EX.aload_n (x := 65) rfl (List.mem_of_getElem? (i := 0) rfl) ?_
  refine EX.go (i := .getfield 116) (len := 3) (pc1 := 113) (st1 := [.int (hi 65 2), .int (1), .int (v1)]) (hi1 := hi) (hl1 := hl) rfl ?_ (fun _ _ _ => rfl)
  refine EX.go (i := .ishl) (len := 1) (pc1 := 114) (st1 := [.int (((1 : Int32) <<< ((hi 65 2) &&& 31))), .int (v1)]) (hi1 := hi) (hl1 := hl) rfl ?_ (fun _ _ _ => rfl)
  rcases ite_some h with ⟨c14, h⟩ | ⟨c14, h⟩
  · refine EX.go (i := .if_icmp .ge 26) (len := 3) (pc1 := 140) (st1 := []) (hi1 := hi) (hl1 := hl) rfl ?_ (fun _ _ _ => if_pos c14)
    obtain rfl := Option.some.inj h
    have hk : EX w0 ev 2 m_MD_freshens 140 [(0, .ref 65)] [] (hi) (hl) OUT := hk
    exact EX.pick [0] hk rfl
  · refine EX.go (i := .if_icmp .ge 26) (len := 3) (pc1 := 117) (st1 := []) (hi1 := hi) (hl1 := hl) rfl ?_ (fun _ _ _ => if_neg c14)
    refine EX.aload_n (x := 65) rfl (List.mem_of_getElem? (i := 0) rfl) ?_
    refine EX.go (i := .getfield 52) (len := 3) (pc1 := 121) (st1 := [.ref 77]) (hi1 := hi) (hl1 := hl) rfl ?_ (fun _ _ _ => rfl)
    refine EX.iload_n (x := v1) rfl (List.mem_of_getElem? (i := 1) rfl) ?_
    refine EX.iload_n (x := v1) rfl (List.mem_of_getElem? (i := 1) rfl) ?_
    rcases ite_some h with ⟨c15, h⟩ | ⟨c15, h⟩
    · refine EX.go (i := .ifCond .ne 7) (len := 3) (pc1 := 126) (st1 := [.int (v1), .ref 77]) (hi1 := hi) (hl1 := hl) rfl ?_ (fun _ _ _ => if_pos c15)
      refine EX.iconst (v := 0) rfl rfl ?_
      refine EX.go (i := .goto 5) (len := 3) (pc1 := 132) (st1 := [.int (0), .int (v1), .ref 77]) (hi1 := hi) (hl1 := hl) rfl ?_ (fun _ _ _ => rfl)
      refine EX.pick [0, 1] ?_ rfl
      exact bJ_MD_freshens_132 ev h hk
    · refine EX.go (i := .ifCond .ne 7) (len := 3) (pc1 := 130) (st1 := [.int (v1), .ref 77]) (hi1 := hi) (hl1 := hl) rfl ?_ (fun _ _ _ => if_neg c15)
      refine EX.bipush (v := 100) rfl rfl ?_
      refine EX.pick [0, 1] ?_ rfl
      exact bJ_MD_freshens_132 ev h hk
def J_MD_freshens_225 (N : Nat) (v1 : Int32) (v2 : Int32) (v3 : Int32) (s0 : Int32) (s1 : Int32) (hi : HI) (hl : HL) : Option ((Int32 × HI × HL) ⊕ (HI × HL)) :=
  if (s1 : Int32) < 0 ∨ 65536 ≤ Int32.toNatClampNeg (s1) then none else some (.inl (v3 + 1, wr (hi) 77 (Int32.toNatClampNeg (s1)) (Int32.toInt8 (s0)).toInt32, hl))
set_option maxRecDepth 10000 in
set_option maxHeartbeats 4000000 in
theorem bJ_MD_freshens_225 (ev : EV) {N : Nat} {v1 : Int32} {v2 : Int32} {v3 : Int32} {s0 : Int32} {s1 : Int32} {hi : HI} {hl : HL} {z : (Int32 × HI × HL) ⊕ (HI × HL)} {OUT : Option Value × HI × HL} (h : J_MD_freshens_225 N v1 v2 v3 s0 s1 hi hl = some z) (hk : Sum.elim (fun s => EX w0 ev 2 m_MD_freshens 164 [(0, .ref 65), (1, .int (v1)), (2, .int (v2)), (3, .int (s.1))] [] (s.2.1) (s.2.2) OUT) (fun x => EX w0 ev 2 m_MD_freshens 232 [(0, .ref 65), (1, .int (v1)), (2, .int (v2))] [] (x.1) (x.2) OUT) z) : EX w0 ev 2 m_MD_freshens 225 [(0, .ref 65), (1, .int (v1)), (2, .int (v2)), (3, .int (v3))] [.int (s0), .int (s1), .ref 77] (hi) (hl) OUT := by
  unfold J_MD_freshens_225 at h
  obtain ⟨g27, h⟩ := grd_some h
  refine EX.bastore rfl rfl g27 ?_
  refine EX.iinc (x := v3) (v := v3 + 1) (req1 := [(3, .int (v3 + 1)), (0, .ref 65), (1, .int (v1)), (2, .int (v2))]) rfl rfl (List.mem_of_getElem? (i := 3) rfl) rfl rfl ?_
  refine EX.go (i := .goto (-65)) (len := 3) (pc1 := 164) (st1 := []) (hi1 := wr (hi) 77 (Int32.toNatClampNeg (s1)) (Int32.toInt8 (s0)).toInt32) (hl1 := hl) rfl ?_ (fun _ _ _ => rfl)
  obtain rfl := Option.some.inj h
  have hk : EX w0 ev 2 m_MD_freshens 164 [(0, .ref 65), (1, .int (v1)), (2, .int (v2)), (3, .int (v3 + 1))] [] (wr (hi) 77 (Int32.toNatClampNeg (s1)) (Int32.toInt8 (s0)).toInt32) (hl) OUT := hk
  exact EX.pick [1, 2, 3, 0] hk rfl
def B_MD_freshens_164 (N : Nat) (v1 : Int32) (v2 : Int32) (v3 : Int32) (hi : HI) (hl : HL) : Option ((Int32 × HI × HL) ⊕ (HI × HL)) :=
  if (hi 65 15 : Int32) ≤ (v3 : Int32) then some (.inr (hi, hl)) else if (v2 : Int32) < 0 ∨ 65536 ≤ Int32.toNatClampNeg (v2) then none else if (hi 77 (Int32.toNatClampNeg (v2)) : Int32) = (v1 : Int32) then if (v3 : Int32) < 0 ∨ 729 ≤ Int32.toNatClampNeg (v3) then none else if ((v2 ||| (hi 76 (Int32.toNatClampNeg (v3)))) : Int32) < 0 ∨ 65536 ≤ Int32.toNatClampNeg ((v2 ||| (hi 76 (Int32.toNatClampNeg (v3))))) then none else if (hi 77 (Int32.toNatClampNeg ((v2 ||| (hi 76 (Int32.toNatClampNeg (v3)))))) : Int32) ≤ ((v1 + (1)) : Int32) then if ((v2 ||| (hi 76 (Int32.toNatClampNeg (v3)))) : Int32) < 0 ∨ 65536 ≤ Int32.toNatClampNeg ((v2 ||| (hi 76 (Int32.toNatClampNeg (v3))))) then none else J_MD_freshens_225 N (v1) (v2) (v3) (hi 77 (Int32.toNatClampNeg ((v2 ||| (hi 76 (Int32.toNatClampNeg (v3))))))) ((v2 ||| (hi 76 (Int32.toNatClampNeg (v3))))) (hi) (hl) else J_MD_freshens_225 N (v1) (v2) (v3) ((Int32.toInt8 ((v1 + (1)))).toInt32) ((v2 ||| (hi 76 (Int32.toNatClampNeg (v3))))) (hi) (hl) else some (.inr (hi, hl))
set_option maxRecDepth 10000 in
set_option maxHeartbeats 4000000 in
theorem bB_MD_freshens_164 (ev : EV) {N : Nat} {v1 : Int32} {v2 : Int32} {v3 : Int32} {hi : HI} {hl : HL} {z : (Int32 × HI × HL) ⊕ (HI × HL)} {OUT : Option Value × HI × HL} (h : B_MD_freshens_164 N v1 v2 v3 hi hl = some z) (hk : Sum.elim (fun s => EX w0 ev 2 m_MD_freshens 164 [(0, .ref 65), (1, .int (v1)), (2, .int (v2)), (3, .int (s.1))] [] (s.2.1) (s.2.2) OUT) (fun x => EX w0 ev 2 m_MD_freshens 232 [(0, .ref 65), (1, .int (v1)), (2, .int (v2))] [] (x.1) (x.2) OUT) z) : EX w0 ev 2 m_MD_freshens 164 [(0, .ref 65), (1, .int (v1)), (2, .int (v2)), (3, .int (v3))] [] (hi) (hl) OUT := by
  unfold B_MD_freshens_164 at h
  refine EX.iload_n (x := v3) rfl (List.mem_of_getElem? (i := 3) rfl) ?_
  refine EX.aload_n (x := 65) rfl (List.mem_of_getElem? (i := 0) rfl) ?_
  refine EX.go (i := .getfield 165) (len := 3) (pc1 := 169) (st1 := [.int (hi 65 15), .int (v3)]) (hi1 := hi) (hl1 := hl) rfl ?_ (fun _ _ _ => rfl)
  rcases ite_some h with ⟨c20, h⟩ | ⟨c20, h⟩
  · refine EX.go (i := .if_icmp .ge 63) (len := 3) (pc1 := 232) (st1 := []) (hi1 := hi) (hl1 := hl) rfl ?_ (fun _ _ _ => if_pos c20)
    obtain rfl := Option.some.inj h
    have hk : EX w0 ev 2 m_MD_freshens 232 [(0, .ref 65), (1, .int (v1)), (2, .int (v2))] [] (hi) (hl) OUT := hk
    exact EX.pick [0, 1, 2] hk rfl
  · refine EX.go (i := .if_icmp .ge 63) (len := 3) (pc1 := 172) (st1 := []) (hi1 := hi) (hl1 := hl) rfl ?_ (fun _ _ _ => if_neg c20)
    refine EX.aload_n (x := 65) rfl (List.mem_of_getElem? (i := 0) rfl) ?_
    refine EX.go (i := .getfield 52) (len := 3) (pc1 := 176) (st1 := [.ref 77]) (hi1 := hi) (hl1 := hl) rfl ?_ (fun _ _ _ => rfl)
    refine EX.iload_n (x := v2) rfl (List.mem_of_getElem? (i := 2) rfl) ?_
    obtain ⟨g21, h⟩ := grd_some h
    refine EX.baload rfl rfl g21 ?_
    refine EX.iload_n (x := v1) rfl (List.mem_of_getElem? (i := 1) rfl) ?_
    rcases ite_some h with ⟨c22, h⟩ | ⟨c22, h⟩
    · refine EX.go (i := .if_icmp .ne 53) (len := 3) (pc1 := 182) (st1 := []) (hi1 := hi) (hl1 := hl) rfl ?_ (fun _ _ _ => if_pos c22)
      refine EX.iload_n (x := v2) rfl (List.mem_of_getElem? (i := 2) rfl) ?_
      refine EX.aload_n (x := 65) rfl (List.mem_of_getElem? (i := 0) rfl) ?_
      refine EX.go (i := .getfield 48) (len := 3) (pc1 := 187) (st1 := [.ref 76, .int (v2)]) (hi1 := hi) (hl1 := hl) rfl ?_ (fun _ _ _ => rfl)
      refine EX.iload_n (x := v3) rfl (List.mem_of_getElem? (i := 3) rfl) ?_
      obtain ⟨g23, h⟩ := grd_some h
      refine EX.iaload rfl rfl g23 ?_
      refine EX.go (i := .ior) (len := 1) (pc1 := 190) (st1 := [.int ((v2 ||| (hi 76 (Int32.toNatClampNeg (v3)))))]) (hi1 := hi) (hl1 := hl) rfl ?_ (fun _ _ _ => rfl)
      refine EX.istore (req1 := [(4, .int ((v2 ||| (hi 76 (Int32.toNatClampNeg (v3)))))), (0, .ref 65), (1, .int (v1)), (2, .int (v2)), (3, .int (v3))]) rfl rfl rfl ?_
      refine EX.aload_n (x := 65) rfl (List.mem_of_getElem? (i := 1) rfl) ?_
      refine EX.go (i := .getfield 52) (len := 3) (pc1 := 196) (st1 := [.ref 77]) (hi1 := hi) (hl1 := hl) rfl ?_ (fun _ _ _ => rfl)
      refine EX.iload (x := (v2 ||| (hi 76 (Int32.toNatClampNeg (v3))))) rfl (List.mem_of_getElem? (i := 0) rfl) ?_
      refine EX.aload_n (x := 65) rfl (List.mem_of_getElem? (i := 1) rfl) ?_
      refine EX.go (i := .getfield 52) (len := 3) (pc1 := 202) (st1 := [.ref 77, .int ((v2 ||| (hi 76 (Int32.toNatClampNeg (v3))))), .ref 77]) (hi1 := hi) (hl1 := hl) rfl ?_ (fun _ _ _ => rfl)
      refine EX.iload (x := (v2 ||| (hi 76 (Int32.toNatClampNeg (v3))))) rfl (List.mem_of_getElem? (i := 0) rfl) ?_
      obtain ⟨g24, h⟩ := grd_some h
      refine EX.baload rfl rfl g24 ?_
      refine EX.iload_n (x := v1) rfl (List.mem_of_getElem? (i := 2) rfl) ?_
      refine EX.iconst (v := 1) rfl rfl ?_
      refine EX.go (i := .iadd) (len := 1) (pc1 := 208) (st1 := [.int ((v1 + (1))), .int (hi 77 (Int32.toNatClampNeg ((v2 ||| (hi 76 (Int32.toNatClampNeg (v3))))))), .int ((v2 ||| (hi 76 (Int32.toNatClampNeg (v3))))), .ref 77]) (hi1 := hi) (hl1 := hl) rfl ?_ (fun _ _ _ => rfl)
      rcases ite_some h with ⟨c25, h⟩ | ⟨c25, h⟩
      · refine EX.go (i := .if_icmp .le 10) (len := 3) (pc1 := 218) (st1 := [.int ((v2 ||| (hi 76 (Int32.toNatClampNeg (v3))))), .ref 77]) (hi1 := hi) (hl1 := hl) rfl ?_ (fun _ _ _ => if_pos c25)
        refine EX.aload_n (x := 65) rfl (List.mem_of_getElem? (i := 1) rfl) ?_
        refine EX.go (i := .getfield 52) (len := 3) (pc1 := 222) (st1 := [.ref 77, .int ((v2 ||| (hi 76 (Int32.toNatClampNeg (v3))))), .ref 77]) (hi1 := hi) (hl1 := hl) rfl ?_ (fun _ _ _ => rfl)
        refine EX.iload (x := (v2 ||| (hi 76 (Int32.toNatClampNeg (v3))))) rfl (List.mem_of_getElem? (i := 0) rfl) ?_
        obtain ⟨g26, h⟩ := grd_some h
        refine EX.baload rfl rfl g26 ?_
        refine EX.pick [1, 2, 3, 4] ?_ rfl
        exact bJ_MD_freshens_225 ev h hk
      · refine EX.go (i := .if_icmp .le 10) (len := 3) (pc1 := 211) (st1 := [.int ((v2 ||| (hi 76 (Int32.toNatClampNeg (v3))))), .ref 77]) (hi1 := hi) (hl1 := hl) rfl ?_ (fun _ _ _ => if_neg c25)
        refine EX.iload_n (x := v1) rfl (List.mem_of_getElem? (i := 2) rfl) ?_
        refine EX.iconst (v := 1) rfl rfl ?_
        refine EX.go (i := .iadd) (len := 1) (pc1 := 214) (st1 := [.int ((v1 + (1))), .int ((v2 ||| (hi 76 (Int32.toNatClampNeg (v3))))), .ref 77]) (hi1 := hi) (hl1 := hl) rfl ?_ (fun _ _ _ => rfl)
        refine EX.go (i := .i2b) (len := 1) (pc1 := 215) (st1 := [.int ((Int32.toInt8 ((v1 + (1)))).toInt32), .int ((v2 ||| (hi 76 (Int32.toNatClampNeg (v3))))), .ref 77]) (hi1 := hi) (hl1 := hl) rfl ?_ (fun _ _ _ => rfl)
        refine EX.go (i := .goto 10) (len := 3) (pc1 := 225) (st1 := [.int ((Int32.toInt8 ((v1 + (1)))).toInt32), .int ((v2 ||| (hi 76 (Int32.toNatClampNeg (v3))))), .ref 77]) (hi1 := hi) (hl1 := hl) rfl ?_ (fun _ _ _ => rfl)
        refine EX.pick [1, 2, 3, 4] ?_ rfl
        exact bJ_MD_freshens_225 ev h hk
    · refine EX.go (i := .if_icmp .ne 53) (len := 3) (pc1 := 232) (st1 := []) (hi1 := hi) (hl1 := hl) rfl ?_ (fun _ _ _ => if_neg c22)
      obtain rfl := Option.some.inj h
      have hk : EX w0 ev 2 m_MD_freshens 232 [(0, .ref 65), (1, .int (v1)), (2, .int (v2))] [] (hi) (hl) OUT := hk
      exact EX.pick [0, 1, 2] hk rfl
def J_MD_freshens_232 (N : Nat) (v1 : Int32) (v2 : Int32) (hi : HI) (hl : HL) : Option ((Int32 × HI × HL) ⊕ (HI × HL)) :=
  some (.inl (v2 + 1, hi, hl))
set_option maxRecDepth 10000 in
set_option maxHeartbeats 4000000 in
theorem bJ_MD_freshens_232 (ev : EV) {N : Nat} {v1 : Int32} {v2 : Int32} {hi : HI} {hl : HL} {z : (Int32 × HI × HL) ⊕ (HI × HL)} {OUT : Option Value × HI × HL} (h : J_MD_freshens_232 N v1 v2 hi hl = some z) (hk : Sum.elim (fun s => EX w0 ev 2 m_MD_freshens 152 [(0, .ref 65), (1, .int (v1)), (2, .int (s.1))] [] (s.2.1) (s.2.2) OUT) (fun x => EX w0 ev 2 m_MD_freshens 238 [(0, .ref 65), (1, .int (v1))] [] (x.1) (x.2) OUT) z) : EX w0 ev 2 m_MD_freshens 232 [(0, .ref 65), (1, .int (v1)), (2, .int (v2))] [] (hi) (hl) OUT := by
  unfold J_MD_freshens_232 at h
  refine EX.iinc (x := v2) (v := v2 + 1) (req1 := [(2, .int (v2 + 1)), (0, .ref 65), (1, .int (v1))]) rfl rfl (List.mem_of_getElem? (i := 2) rfl) rfl rfl ?_
  refine EX.go (i := .goto (-83)) (len := 3) (pc1 := 152) (st1 := []) (hi1 := hi) (hl1 := hl) rfl ?_ (fun _ _ _ => rfl)
  obtain rfl := Option.some.inj h
  have hk : EX w0 ev 2 m_MD_freshens 152 [(0, .ref 65), (1, .int (v1)), (2, .int (v2 + 1))] [] (hi) (hl) OUT := hk
  exact EX.pick [1, 2, 0] hk rfl
def B_MD_freshens_152 (N : Nat) (v1 : Int32) (v2 : Int32) (hi : HI) (hl : HL) : Option ((Int32 × HI × HL) ⊕ (HI × HL)) :=
  if (((1 : Int32) <<< ((hi 65 2) &&& 31)) : Int32) ≤ (v2 : Int32) then some (.inr (hi, hl)) else (lpN (fun s => B_MD_freshens_164 N (v1) (v2) s.1 s.2.1 s.2.2) N (0, hi, hl)).bind fun x28 => J_MD_freshens_232 N (v1) (v2) (x28.1) (x28.2)
set_option maxRecDepth 10000 in
set_option maxHeartbeats 4000000 in
theorem bB_MD_freshens_152 (ev : EV) {N : Nat} {v1 : Int32} {v2 : Int32} {hi : HI} {hl : HL} {z : (Int32 × HI × HL) ⊕ (HI × HL)} {OUT : Option Value × HI × HL} (h : B_MD_freshens_152 N v1 v2 hi hl = some z) (hk : Sum.elim (fun s => EX w0 ev 2 m_MD_freshens 152 [(0, .ref 65), (1, .int (v1)), (2, .int (s.1))] [] (s.2.1) (s.2.2) OUT) (fun x => EX w0 ev 2 m_MD_freshens 238 [(0, .ref 65), (1, .int (v1))] [] (x.1) (x.2) OUT) z) : EX w0 ev 2 m_MD_freshens 152 [(0, .ref 65), (1, .int (v1)), (2, .int (v2))] [] (hi) (hl) OUT := by
  unfold B_MD_freshens_152 at h
  refine EX.iload_n (x := v2) rfl (List.mem_of_getElem? (i := 2) rfl) ?_
  refine EX.iconst (v := 1) rfl rfl ?_
  refine EX.aload_n (x := 65) rfl (List.mem_of_getElem? (i := 0) rfl) ?_
  refine EX.go (i := .getfield 116) (len := 3) (pc1 := 158) (st1 := [.int (hi 65 2), .int (1), .int (v2)]) (hi1 := hi) (hl1 := hl) rfl ?_ (fun _ _ _ => rfl)
  refine EX.go (i := .ishl) (len := 1) (pc1 := 159) (st1 := [.int (((1 : Int32) <<< ((hi 65 2) &&& 31))), .int (v2)]) (hi1 := hi) (hl1 := hl) rfl ?_ (fun _ _ _ => rfl)
  rcases ite_some h with ⟨c19, h⟩ | ⟨c19, h⟩
  · refine EX.go (i := .if_icmp .ge 79) (len := 3) (pc1 := 238) (st1 := []) (hi1 := hi) (hl1 := hl) rfl ?_ (fun _ _ _ => if_pos c19)
    obtain rfl := Option.some.inj h
    have hk : EX w0 ev 2 m_MD_freshens 238 [(0, .ref 65), (1, .int (v1))] [] (hi) (hl) OUT := hk
    exact EX.pick [0, 1] hk rfl
  · refine EX.go (i := .if_icmp .ge 79) (len := 3) (pc1 := 162) (st1 := []) (hi1 := hi) (hl1 := hl) rfl ?_ (fun _ _ _ => if_neg c19)
    refine EX.iconst (v := 0) rfl rfl ?_
    refine EX.istore_n (req1 := [(3, .int (0)), (0, .ref 65), (1, .int (v1)), (2, .int (v2))]) rfl rfl rfl ?_
    obtain ⟨x28, hx28, h⟩ := bnd_some h
    refine EX.pick [1, 2, 3, 0] ?_ rfl
    refine lp_sound (f := fun s => B_MD_freshens_164 N (v1) (v2) s.1 s.2.1 s.2.2) (PS := fun s => EX w0 ev 2 m_MD_freshens 164 [(0, .ref 65), (1, .int (v1)), (2, .int (v2)), (3, .int (s.1))] [] (s.2.1) (s.2.2) OUT) (PX := fun x => EX w0 ev 2 m_MD_freshens 232 [(0, .ref 65), (1, .int (v1)), (2, .int (v2))] [] (x.1) (x.2) OUT) ?_ N _ x28 hx28 ?_
    · exact fun s z hz hk => bB_MD_freshens_164 ev hz hk
    show EX w0 ev 2 m_MD_freshens 232 [(0, .ref 65), (1, .int (v1)), (2, .int (v2))] [] (x28.1) (x28.2) OUT
    refine EX.pick [0, 1, 2] ?_ rfl
    exact bJ_MD_freshens_232 ev h hk
def B_MD_freshens_142 (N : Nat) (v1 : Int32) (hi : HI) (hl : HL) : Option ((Int32 × HI × HL) ⊕ (HI × HL)) :=
  if (hi 65 2 : Int32) ≤ (v1 : Int32) then some (.inr (hi, hl)) else (lpN (fun s => B_MD_freshens_152 N (v1) s.1 s.2.1 s.2.2) N (0, hi, hl)).bind fun x29 => some (.inl (v1 + 1, x29.1, x29.2))
set_option maxRecDepth 10000 in
set_option maxHeartbeats 4000000 in
theorem bB_MD_freshens_142 (ev : EV) {N : Nat} {v1 : Int32} {hi : HI} {hl : HL} {z : (Int32 × HI × HL) ⊕ (HI × HL)} {OUT : Option Value × HI × HL} (h : B_MD_freshens_142 N v1 hi hl = some z) (hk : Sum.elim (fun s => EX w0 ev 2 m_MD_freshens 142 [(0, .ref 65), (1, .int (s.1))] [] (s.2.1) (s.2.2) OUT) (fun x => EX w0 ev 2 m_MD_freshens 244 [] [] (x.1) (x.2) OUT) z) : EX w0 ev 2 m_MD_freshens 142 [(0, .ref 65), (1, .int (v1))] [] (hi) (hl) OUT := by
  unfold B_MD_freshens_142 at h
  refine EX.iload_n (x := v1) rfl (List.mem_of_getElem? (i := 1) rfl) ?_
  refine EX.aload_n (x := 65) rfl (List.mem_of_getElem? (i := 0) rfl) ?_
  refine EX.go (i := .getfield 116) (len := 3) (pc1 := 147) (st1 := [.int (hi 65 2), .int (v1)]) (hi1 := hi) (hl1 := hl) rfl ?_ (fun _ _ _ => rfl)
  rcases ite_some h with ⟨c18, h⟩ | ⟨c18, h⟩
  · refine EX.go (i := .if_icmp .ge 97) (len := 3) (pc1 := 244) (st1 := []) (hi1 := hi) (hl1 := hl) rfl ?_ (fun _ _ _ => if_pos c18)
    obtain rfl := Option.some.inj h
    have hk : EX w0 ev 2 m_MD_freshens 244 [] [] (hi) (hl) OUT := hk
    exact EX.pick [] hk rfl
  · refine EX.go (i := .if_icmp .ge 97) (len := 3) (pc1 := 150) (st1 := []) (hi1 := hi) (hl1 := hl) rfl ?_ (fun _ _ _ => if_neg c18)
    refine EX.iconst (v := 0) rfl rfl ?_
    refine EX.istore_n (req1 := [(2, .int (0)), (0, .ref 65), (1, .int (v1))]) rfl rfl rfl ?_
    obtain ⟨x29, hx29, h⟩ := bnd_some h
    refine EX.pick [1, 2, 0] ?_ rfl
    refine lp_sound (f := fun s => B_MD_freshens_152 N (v1) s.1 s.2.1 s.2.2) (PS := fun s => EX w0 ev 2 m_MD_freshens 152 [(0, .ref 65), (1, .int (v1)), (2, .int (s.1))] [] (s.2.1) (s.2.2) OUT) (PX := fun x => EX w0 ev 2 m_MD_freshens 238 [(0, .ref 65), (1, .int (v1))] [] (x.1) (x.2) OUT) ?_ N _ x29 hx29 ?_
    · exact fun s z hz hk => bB_MD_freshens_152 ev hz hk
    show EX w0 ev 2 m_MD_freshens 238 [(0, .ref 65), (1, .int (v1))] [] (x29.1) (x29.2) OUT
    refine EX.iinc (x := v1) (v := v1 + 1) (req1 := [(1, .int (v1 + 1)), (0, .ref 65)]) rfl rfl (List.mem_of_getElem? (i := 1) rfl) rfl rfl ?_
    refine EX.go (i := .goto (-99)) (len := 3) (pc1 := 142) (st1 := []) (hi1 := x29.1) (hl1 := x29.2) rfl ?_ (fun _ _ _ => rfl)
    obtain rfl := Option.some.inj h
    have hk : EX w0 ev 2 m_MD_freshens 142 [(0, .ref 65), (1, .int (v1 + 1))] [] (x29.1) (x29.2) OUT := hk
    exact EX.pick [1, 0] hk rfl
def f_MD_freshens (N : Nat) (hi : HI) (hl : HL) : Option (Unit × HI × HL) :=
  if (hi 65 8 : Int32) = 0 then (lpN (fun s => B_MD_freshens_20 N s.1 s.2.1 s.2.2) N (0, wr (wr (hi) 65 8 (1)) 65 15 (0), hl)).bind fun x13 => (lpN (fun s => B_MD_freshens_107 N s.1 s.2.1 s.2.2) N (0, x13.1, x13.2)).bind fun x17 => (lpN (fun s => B_MD_freshens_142 N s.1 s.2.1 s.2.2) N (0, x17.1, x17.2)).bind fun x30 => some ((), x30.1, x30.2) else some ((), hi, hl)
set_option maxRecDepth 10000 in
set_option maxHeartbeats 4000000 in
theorem b_MD_freshens (ev : EV) {N : Nat} {hi : HI} {hl : HL} {o : Unit × HI × HL} (h : f_MD_freshens N hi hl = some o) : EM w0 ev 3 m_MD_freshens [.ref 65] hi hl (oV o) := by
  unfold f_MD_freshens at h
  refine EM.of rfl ?_
  show EX w0 ev 2 m_MD_freshens 0 [(0, .ref 65)] [] (hi) (hl) (oV o)
  refine EX.aload_n (x := 65) rfl (List.mem_of_getElem? (i := 0) rfl) ?_
  refine EX.go (i := .getfield 122) (len := 3) (pc1 := 4) (st1 := [.int (hi 65 8)]) (hi1 := hi) (hl1 := hl) rfl ?_ (fun _ _ _ => rfl)
  rcases ite_some h with ⟨c1, h⟩ | ⟨c1, h⟩
  · refine EX.go (i := .ifCond .eq 4) (len := 3) (pc1 := 8) (st1 := []) (hi1 := hi) (hl1 := hl) rfl ?_ (fun _ _ _ => if_pos c1)
    refine EX.aload_n (x := 65) rfl (List.mem_of_getElem? (i := 0) rfl) ?_
    refine EX.iconst (v := 1) rfl rfl ?_
    refine EX.go (i := .putfield 122) (len := 3) (pc1 := 13) (st1 := []) (hi1 := wr (hi) 65 8 (1)) (hl1 := hl) rfl ?_ (fun _ _ _ => rfl)
    refine EX.aload_n (x := 65) rfl (List.mem_of_getElem? (i := 0) rfl) ?_
    refine EX.iconst (v := 0) rfl rfl ?_
    refine EX.go (i := .putfield 165) (len := 3) (pc1 := 18) (st1 := []) (hi1 := wr (wr (hi) 65 8 (1)) 65 15 (0)) (hl1 := hl) rfl ?_ (fun _ _ _ => rfl)
    refine EX.iconst (v := 0) rfl rfl ?_
    refine EX.istore_n (req1 := [(1, .int (0)), (0, .ref 65)]) rfl rfl rfl ?_
    obtain ⟨x13, hx13, h⟩ := bnd_some h
    refine EX.pick [1, 0] ?_ rfl
    refine lp_sound (f := fun s => B_MD_freshens_20 N s.1 s.2.1 s.2.2) (PS := fun s => EX w0 ev 2 m_MD_freshens 20 [(0, .ref 65), (1, .int (s.1))] [] (s.2.1) (s.2.2) (oV o)) (PX := fun x => EX w0 ev 2 m_MD_freshens 105 [(0, .ref 65)] [] (x.1) (x.2) (oV o)) ?_ N _ x13 hx13 ?_
    · exact fun s z hz hk => bB_MD_freshens_20 ev hz hk
    show EX w0 ev 2 m_MD_freshens 105 [(0, .ref 65)] [] (x13.1) (x13.2) (oV o)
    refine EX.iconst (v := 0) rfl rfl ?_
    refine EX.istore_n (req1 := [(1, .int (0)), (0, .ref 65)]) rfl rfl rfl ?_
    obtain ⟨x17, hx17, h⟩ := bnd_some h
    refine EX.pick [1, 0] ?_ rfl
    refine lp_sound (f := fun s => B_MD_freshens_107 N s.1 s.2.1 s.2.2) (PS := fun s => EX w0 ev 2 m_MD_freshens 107 [(0, .ref 65), (1, .int (s.1))] [] (s.2.1) (s.2.2) (oV o)) (PX := fun x => EX w0 ev 2 m_MD_freshens 140 [(0, .ref 65)] [] (x.1) (x.2) (oV o)) ?_ N _ x17 hx17 ?_
    · exact fun s z hz hk => bB_MD_freshens_107 ev hz hk
    show EX w0 ev 2 m_MD_freshens 140 [(0, .ref 65)] [] (x17.1) (x17.2) (oV o)
    refine EX.iconst (v := 0) rfl rfl ?_
    refine EX.istore_n (req1 := [(1, .int (0)), (0, .ref 65)]) rfl rfl rfl ?_
    obtain ⟨x30, hx30, h⟩ := bnd_some h
    refine EX.pick [1, 0] ?_ rfl
    refine lp_sound (f := fun s => B_MD_freshens_142 N s.1 s.2.1 s.2.2) (PS := fun s => EX w0 ev 2 m_MD_freshens 142 [(0, .ref 65), (1, .int (s.1))] [] (s.2.1) (s.2.2) (oV o)) (PX := fun x => EX w0 ev 2 m_MD_freshens 244 [] [] (x.1) (x.2) (oV o)) ?_ N _ x30 hx30 ?_
    · exact fun s z hz hk => bB_MD_freshens_142 ev hz hk
    show EX w0 ev 2 m_MD_freshens 244 [] [] (x30.1) (x30.2) (oV o)
    obtain rfl := Option.some.inj h
    exact EX.vret rfl rfl
  · refine EX.go (i := .ifCond .eq 4) (len := 3) (pc1 := 7) (st1 := []) (hi1 := hi) (hl1 := hl) rfl ?_ (fun _ _ _ => if_neg c1)
    obtain rfl := Option.some.inj h
    exact EX.vret rfl rfl
def J_MD_turns_113 (N : Nat) (v1 : Int32) (v2 : Int32) (v3 : Int32) (v5 : Int32) (v6 : Int32) (s0 : Int32) (hi : HI) (hl : HL) : Option ((Int32 × Int32 × Int32 × Int32 × Int32 × HI × HL) ⊕ (Int32 × Int32 × Int32 × Int32 × HI × HL)) :=
  some (.inl (v2, v3, s0, v5, v6 + 1, hi, hl))
set_option maxRecDepth 10000 in
set_option maxHeartbeats 4000000 in
theorem bJ_MD_turns_113 (ev : EV) {N : Nat} {v1 : Int32} {v2 : Int32} {v3 : Int32} {v5 : Int32} {v6 : Int32} {s0 : Int32} {hi : HI} {hl : HL} {z : (Int32 × Int32 × Int32 × Int32 × Int32 × HI × HL) ⊕ (Int32 × Int32 × Int32 × Int32 × HI × HL)} {OUT : Option Value × HI × HL} (h : J_MD_turns_113 N v1 v2 v3 v5 v6 s0 hi hl = some z) (hk : Sum.elim (fun s => EX w0 ev 3 m_MD_turns 31 [(0, .ref 65), (1, .int (v1)), (2, .int (s.1)), (3, .int (s.2.1)), (4, .int (s.2.2.1)), (5, .int (s.2.2.2.1)), (6, .int (s.2.2.2.2.1))] [] (s.2.2.2.2.2.1) (s.2.2.2.2.2.2) OUT) (fun x => EX w0 ev 3 m_MD_turns 121 [(1, .int (v1)), (2, .int (x.1)), (3, .int (x.2.1)), (4, .int (x.2.2.1)), (5, .int (x.2.2.2.1))] [] (x.2.2.2.2.1) (x.2.2.2.2.2) OUT) z) : EX w0 ev 3 m_MD_turns 113 [(0, .ref 65), (1, .int (v1)), (2, .int (v2)), (3, .int (v3)), (5, .int (v5)), (6, .int (v6))] [.int (s0)] (hi) (hl) OUT := by
  unfold J_MD_turns_113 at h
  refine EX.istore (req1 := [(4, .int (s0)), (0, .ref 65), (1, .int (v1)), (2, .int (v2)), (3, .int (v3)), (5, .int (v5)), (6, .int (v6))]) rfl rfl rfl ?_
  refine EX.iinc (x := v6) (v := v6 + 1) (req1 := [(6, .int (v6 + 1)), (4, .int (s0)), (0, .ref 65), (1, .int (v1)), (2, .int (v2)), (3, .int (v3)), (5, .int (v5))]) rfl rfl (List.mem_of_getElem? (i := 6) rfl) rfl rfl ?_
  refine EX.go (i := .goto (-87)) (len := 3) (pc1 := 31) (st1 := []) (hi1 := hi) (hl1 := hl) rfl ?_ (fun _ _ _ => rfl)
  obtain rfl := Option.some.inj h
  have hk : EX w0 ev 3 m_MD_turns 31 [(0, .ref 65), (1, .int (v1)), (2, .int (v2)), (3, .int (v3)), (4, .int (s0)), (5, .int (v5)), (6, .int (v6 + 1))] [] (hi) (hl) OUT := hk
  exact EX.pick [2, 3, 4, 5, 1, 6, 0] hk rfl
def J_MD_turns_97 (N : Nat) (v1 : Int32) (v2 : Int32) (v3 : Int32) (v4 : Int32) (v6 : Int32) (v7 : Int32) (s0 : Int32) (hi : HI) (hl : HL) : Option ((Int32 × Int32 × Int32 × Int32 × Int32 × HI × HL) ⊕ (Int32 × Int32 × Int32 × Int32 × HI × HL)) :=
  if (v7 : Int32) ≤ (v4 : Int32) then J_MD_turns_113 N (v1) (v2) (v3) (s0) (v6) (v4) (hi) (hl) else J_MD_turns_113 N (v1) (v2) (v3) (s0) (v6) (v7) (hi) (hl)
set_option maxRecDepth 10000 in
set_option maxHeartbeats 4000000 in
theorem bJ_MD_turns_97 (ev : EV) {N : Nat} {v1 : Int32} {v2 : Int32} {v3 : Int32} {v4 : Int32} {v6 : Int32} {v7 : Int32} {s0 : Int32} {hi : HI} {hl : HL} {z : (Int32 × Int32 × Int32 × Int32 × Int32 × HI × HL) ⊕ (Int32 × Int32 × Int32 × Int32 × HI × HL)} {OUT : Option Value × HI × HL} (h : J_MD_turns_97 N v1 v2 v3 v4 v6 v7 s0 hi hl = some z) (hk : Sum.elim (fun s => EX w0 ev 3 m_MD_turns 31 [(0, .ref 65), (1, .int (v1)), (2, .int (s.1)), (3, .int (s.2.1)), (4, .int (s.2.2.1)), (5, .int (s.2.2.2.1)), (6, .int (s.2.2.2.2.1))] [] (s.2.2.2.2.2.1) (s.2.2.2.2.2.2) OUT) (fun x => EX w0 ev 3 m_MD_turns 121 [(1, .int (v1)), (2, .int (x.1)), (3, .int (x.2.1)), (4, .int (x.2.2.1)), (5, .int (x.2.2.2.1))] [] (x.2.2.2.2.1) (x.2.2.2.2.2) OUT) z) : EX w0 ev 3 m_MD_turns 97 [(0, .ref 65), (1, .int (v1)), (2, .int (v2)), (3, .int (v3)), (4, .int (v4)), (6, .int (v6)), (7, .int (v7))] [.int (s0)] (hi) (hl) OUT := by
  unfold J_MD_turns_97 at h
  refine EX.istore (req1 := [(5, .int (s0)), (0, .ref 65), (1, .int (v1)), (2, .int (v2)), (3, .int (v3)), (4, .int (v4)), (6, .int (v6)), (7, .int (v7))]) rfl rfl rfl ?_
  refine EX.iload (x := v7) rfl (List.mem_of_getElem? (i := 7) rfl) ?_
  refine EX.iload (x := v4) rfl (List.mem_of_getElem? (i := 5) rfl) ?_
  rcases ite_some h with ⟨c12, h⟩ | ⟨c12, h⟩
  · refine EX.go (i := .if_icmp .le 8) (len := 3) (pc1 := 111) (st1 := []) (hi1 := hi) (hl1 := hl) rfl ?_ (fun _ _ _ => if_pos c12)
    refine EX.iload (x := v4) rfl (List.mem_of_getElem? (i := 5) rfl) ?_
    refine EX.pick [1, 2, 3, 4, 0, 6] ?_ rfl
    exact bJ_MD_turns_113 ev h hk
  · refine EX.go (i := .if_icmp .le 8) (len := 3) (pc1 := 106) (st1 := []) (hi1 := hi) (hl1 := hl) rfl ?_ (fun _ _ _ => if_neg c12)
    refine EX.iload (x := v7) rfl (List.mem_of_getElem? (i := 7) rfl) ?_
    refine EX.go (i := .goto 5) (len := 3) (pc1 := 113) (st1 := [.int (v7)]) (hi1 := hi) (hl1 := hl) rfl ?_ (fun _ _ _ => rfl)
    refine EX.pick [1, 2, 3, 4, 0, 6] ?_ rfl
    exact bJ_MD_turns_113 ev h hk
def J_MD_turns_81 (N : Nat) (v1 : Int32) (v2 : Int32) (v4 : Int32) (v5 : Int32) (v6 : Int32) (v7 : Int32) (s0 : Int32) (s1 : Int32) (hi : HI) (hl : HL) : Option ((Int32 × Int32 × Int32 × Int32 × Int32 × HI × HL) ⊕ (Int32 × Int32 × Int32 × Int32 × HI × HL)) :=
  if (v7 : Int32) ≤ (v4 : Int32) then J_MD_turns_97 N (v1) (v2) ((s1 + s0)) (v4) (v6) (v7) (v5) (hi) (hl) else J_MD_turns_97 N (v1) (v2) ((s1 + s0)) (v4) (v6) (v7) (v6) (hi) (hl)
set_option maxRecDepth 10000 in
set_option maxHeartbeats 4000000 in
theorem bJ_MD_turns_81 (ev : EV) {N : Nat} {v1 : Int32} {v2 : Int32} {v4 : Int32} {v5 : Int32} {v6 : Int32} {v7 : Int32} {s0 : Int32} {s1 : Int32} {hi : HI} {hl : HL} {z : (Int32 × Int32 × Int32 × Int32 × Int32 × HI × HL) ⊕ (Int32 × Int32 × Int32 × Int32 × HI × HL)} {OUT : Option Value × HI × HL} (h : J_MD_turns_81 N v1 v2 v4 v5 v6 v7 s0 s1 hi hl = some z) (hk : Sum.elim (fun s => EX w0 ev 3 m_MD_turns 31 [(0, .ref 65), (1, .int (v1)), (2, .int (s.1)), (3, .int (s.2.1)), (4, .int (s.2.2.1)), (5, .int (s.2.2.2.1)), (6, .int (s.2.2.2.2.1))] [] (s.2.2.2.2.2.1) (s.2.2.2.2.2.2) OUT) (fun x => EX w0 ev 3 m_MD_turns 121 [(1, .int (v1)), (2, .int (x.1)), (3, .int (x.2.1)), (4, .int (x.2.2.1)), (5, .int (x.2.2.2.1))] [] (x.2.2.2.2.1) (x.2.2.2.2.2) OUT) z) : EX w0 ev 3 m_MD_turns 81 [(0, .ref 65), (1, .int (v1)), (2, .int (v2)), (4, .int (v4)), (5, .int (v5)), (6, .int (v6)), (7, .int (v7))] [.int (s0), .int (s1)] (hi) (hl) OUT := by
  unfold J_MD_turns_81 at h
  refine EX.go (i := .iadd) (len := 1) (pc1 := 82) (st1 := [.int ((s1 + s0))]) (hi1 := hi) (hl1 := hl) rfl ?_ (fun _ _ _ => rfl)
  refine EX.istore_n (req1 := [(3, .int ((s1 + s0))), (0, .ref 65), (1, .int (v1)), (2, .int (v2)), (4, .int (v4)), (5, .int (v5)), (6, .int (v6)), (7, .int (v7))]) rfl rfl rfl ?_
  refine EX.iload (x := v7) rfl (List.mem_of_getElem? (i := 7) rfl) ?_
  refine EX.iload (x := v4) rfl (List.mem_of_getElem? (i := 4) rfl) ?_
  rcases ite_some h with ⟨c11, h⟩ | ⟨c11, h⟩
  · refine EX.go (i := .if_icmp .le 8) (len := 3) (pc1 := 95) (st1 := []) (hi1 := hi) (hl1 := hl) rfl ?_ (fun _ _ _ => if_pos c11)
    refine EX.iload (x := v5) rfl (List.mem_of_getElem? (i := 5) rfl) ?_
    refine EX.pick [1, 2, 3, 0, 4, 6, 7] ?_ rfl
    exact bJ_MD_turns_97 ev h hk
  · refine EX.go (i := .if_icmp .le 8) (len := 3) (pc1 := 90) (st1 := []) (hi1 := hi) (hl1 := hl) rfl ?_ (fun _ _ _ => if_neg c11)
    refine EX.iload (x := v6) rfl (List.mem_of_getElem? (i := 6) rfl) ?_
    refine EX.go (i := .goto 5) (len := 3) (pc1 := 97) (st1 := [.int (v6)]) (hi1 := hi) (hl1 := hl) rfl ?_ (fun _ _ _ => rfl)
    refine EX.pick [1, 2, 3, 0, 4, 6, 7] ?_ rfl
    exact bJ_MD_turns_97 ev h hk
def J_MD_turns_68 (N : Nat) (v1 : Int32) (v3 : Int32) (v4 : Int32) (v5 : Int32) (v6 : Int32) (v7 : Int32) (s0 : Int32) (s1 : Int32) (hi : HI) (hl : HL) : Option ((Int32 × Int32 × Int32 × Int32 × Int32 × HI × HL) ⊕ (Int32 × Int32 × Int32 × Int32 × HI × HL)) :=
  if (v7 : Int32) ≤ 0 then J_MD_turns_81 N (v1) ((s1 + s0)) (v4) (v5) (v6) (v7) (0) (v3) (hi) (hl) else J_MD_turns_81 N (v1) ((s1 + s0)) (v4) (v5) (v6) (v7) (1) (v3) (hi) (hl)
set_option maxRecDepth 10000 in
set_option maxHeartbeats 4000000 in
theorem bJ_MD_turns_68 (ev : EV) {N : Nat} {v1 : Int32} {v3 : Int32} {v4 : Int32} {v5 : Int32} {v6 : Int32} {v7 : Int32} {s0 : Int32} {s1 : Int32} {hi : HI} {hl : HL} {z : (Int32 × Int32 × Int32 × Int32 × Int32 × HI × HL) ⊕ (Int32 × Int32 × Int32 × Int32 × HI × HL)} {OUT : Option Value × HI × HL} (h : J_MD_turns_68 N v1 v3 v4 v5 v6 v7 s0 s1 hi hl = some z) (hk : Sum.elim (fun s => EX w0 ev 3 m_MD_turns 31 [(0, .ref 65), (1, .int (v1)), (2, .int (s.1)), (3, .int (s.2.1)), (4, .int (s.2.2.1)), (5, .int (s.2.2.2.1)), (6, .int (s.2.2.2.2.1))] [] (s.2.2.2.2.2.1) (s.2.2.2.2.2.2) OUT) (fun x => EX w0 ev 3 m_MD_turns 121 [(1, .int (v1)), (2, .int (x.1)), (3, .int (x.2.1)), (4, .int (x.2.2.1)), (5, .int (x.2.2.2.1))] [] (x.2.2.2.2.1) (x.2.2.2.2.2) OUT) z) : EX w0 ev 3 m_MD_turns 68 [(0, .ref 65), (1, .int (v1)), (3, .int (v3)), (4, .int (v4)), (5, .int (v5)), (6, .int (v6)), (7, .int (v7))] [.int (s0), .int (s1)] (hi) (hl) OUT := by
  unfold J_MD_turns_68 at h
  refine EX.go (i := .iadd) (len := 1) (pc1 := 69) (st1 := [.int ((s1 + s0))]) (hi1 := hi) (hl1 := hl) rfl ?_ (fun _ _ _ => rfl)
  refine EX.istore_n (req1 := [(2, .int ((s1 + s0))), (0, .ref 65), (1, .int (v1)), (3, .int (v3)), (4, .int (v4)), (5, .int (v5)), (6, .int (v6)), (7, .int (v7))]) rfl rfl rfl ?_
  refine EX.iload_n (x := v3) rfl (List.mem_of_getElem? (i := 3) rfl) ?_
  refine EX.iload (x := v7) rfl (List.mem_of_getElem? (i := 7) rfl) ?_
  rcases ite_some h with ⟨c10, h⟩ | ⟨c10, h⟩
  · refine EX.go (i := .ifCond .le 7) (len := 3) (pc1 := 80) (st1 := [.int (v3)]) (hi1 := hi) (hl1 := hl) rfl ?_ (fun _ _ _ => if_pos c10)
    refine EX.iconst (v := 0) rfl rfl ?_
    refine EX.pick [1, 2, 0, 4, 5, 6, 7] ?_ rfl
    exact bJ_MD_turns_81 ev h hk
  · refine EX.go (i := .ifCond .le 7) (len := 3) (pc1 := 76) (st1 := [.int (v3)]) (hi1 := hi) (hl1 := hl) rfl ?_ (fun _ _ _ => if_neg c10)
    refine EX.iconst (v := 1) rfl rfl ?_
    refine EX.go (i := .goto 4) (len := 3) (pc1 := 81) (st1 := [.int (1), .int (v3)]) (hi1 := hi) (hl1 := hl) rfl ?_ (fun _ _ _ => rfl)
    refine EX.pick [1, 2, 0, 4, 5, 6, 7] ?_ rfl
    exact bJ_MD_turns_81 ev h hk
def B_MD_turns_31 (N : Nat) (v1 : Int32) (v2 : Int32) (v3 : Int32) (v4 : Int32) (v5 : Int32) (v6 : Int32) (hi : HI) (hl : HL) : Option ((Int32 × Int32 × Int32 × Int32 × Int32 × HI × HL) ⊕ (Int32 × Int32 × Int32 × Int32 × HI × HL)) :=
  (f_MD_turnsOf N (hi) (hl)).bind fun z4 => if (z4.1 : Int32) ≤ (v6 : Int32) then some (.inr (v2, v3, v4, v5, z4.2.1, z4.2.2)) else if (v6 : Int32) < 0 ∨ 729 ≤ Int32.toNatClampNeg (v6) then none else (f_MD_bits N (z4.2.1 74 (Int32.toNatClampNeg (v6))) (z4.2.1) (z4.2.2)).bind fun z7 => if (v6 : Int32) < 0 ∨ 729 ≤ Int32.toNatClampNeg (v6) then none else if (z7.2.1 75 (Int32.toNatClampNeg (v6)) : Int32) = 0 then J_MD_turns_68 N (v1) (v3) (v4) (v5) (v6) (z7.1) (0) (v2) (z7.2.1) (z7.2.2) else J_MD_turns_68 N (v1) (v3) (v4) (v5) (v6) (z7.1) (1) (v2) (z7.2.1) (z7.2.2)
set_option maxRecDepth 10000 in
set_option maxHeartbeats 4000000 in
theorem bB_MD_turns_31 (ev : EV) {N : Nat} {v1 : Int32} {v2 : Int32} {v3 : Int32} {v4 : Int32} {v5 : Int32} {v6 : Int32} {hi : HI} {hl : HL} {z : (Int32 × Int32 × Int32 × Int32 × Int32 × HI × HL) ⊕ (Int32 × Int32 × Int32 × Int32 × HI × HL)} {OUT : Option Value × HI × HL} (h : B_MD_turns_31 N v1 v2 v3 v4 v5 v6 hi hl = some z) (hk : Sum.elim (fun s => EX w0 ev 3 m_MD_turns 31 [(0, .ref 65), (1, .int (v1)), (2, .int (s.1)), (3, .int (s.2.1)), (4, .int (s.2.2.1)), (5, .int (s.2.2.2.1)), (6, .int (s.2.2.2.2.1))] [] (s.2.2.2.2.2.1) (s.2.2.2.2.2.2) OUT) (fun x => EX w0 ev 3 m_MD_turns 121 [(1, .int (v1)), (2, .int (x.1)), (3, .int (x.2.1)), (4, .int (x.2.2.1)), (5, .int (x.2.2.2.1))] [] (x.2.2.2.2.1) (x.2.2.2.2.2) OUT) z) : EX w0 ev 3 m_MD_turns 31 [(0, .ref 65), (1, .int (v1)), (2, .int (v2)), (3, .int (v3)), (4, .int (v4)), (5, .int (v5)), (6, .int (v6))] [] (hi) (hl) OUT := by
  unfold B_MD_turns_31 at h
  refine EX.iload (x := v6) rfl (List.mem_of_getElem? (i := 6) rfl) ?_
  refine EX.aload_n (x := 65) rfl (List.mem_of_getElem? (i := 0) rfl) ?_
  obtain ⟨z4, hz4, h⟩ := bnd_some h
  refine EX.callV (b := 65) (as := []) (rest := [.int (v6)]) (r := some (.int (z4.1))) (hi1 := z4.2.1) (hl1 := z4.2.2) rfl rfl rfl rfl rfl rfl ((b_MD_turnsOf ev hz4).mono (by decide)) ?_
  show EX w0 ev 3 m_MD_turns 37 [(0, .ref 65), (1, .int (v1)), (2, .int (v2)), (3, .int (v3)), (4, .int (v4)), (5, .int (v5)), (6, .int (v6))] [.int (z4.1), .int (v6)] (z4.2.1) (z4.2.2) OUT
  rcases ite_some h with ⟨c5, h⟩ | ⟨c5, h⟩
  · refine EX.go (i := .if_icmp .ge 84) (len := 3) (pc1 := 121) (st1 := []) (hi1 := z4.2.1) (hl1 := z4.2.2) rfl ?_ (fun _ _ _ => if_pos c5)
    obtain rfl := Option.some.inj h
    have hk : EX w0 ev 3 m_MD_turns 121 [(1, .int (v1)), (2, .int (v2)), (3, .int (v3)), (4, .int (v4)), (5, .int (v5))] [] (z4.2.1) (z4.2.2) OUT := hk
    exact EX.pick [1, 2, 3, 4, 5] hk rfl
  · refine EX.go (i := .if_icmp .ge 84) (len := 3) (pc1 := 40) (st1 := []) (hi1 := z4.2.1) (hl1 := z4.2.2) rfl ?_ (fun _ _ _ => if_neg c5)
    refine EX.aload_n (x := 65) rfl (List.mem_of_getElem? (i := 0) rfl) ?_
    refine EX.go (i := .getfield 41) (len := 3) (pc1 := 44) (st1 := [.ref 74]) (hi1 := z4.2.1) (hl1 := z4.2.2) rfl ?_ (fun _ _ _ => rfl)
    refine EX.iload (x := v6) rfl (List.mem_of_getElem? (i := 6) rfl) ?_
    obtain ⟨g6, h⟩ := grd_some h
    refine EX.iaload rfl rfl g6 ?_
    obtain ⟨z7, hz7, h⟩ := bnd_some h
    refine EX.callS (as := [.int (z4.2.1 74 (Int32.toNatClampNeg (v6)))]) (rest := []) (r := some (.int (z7.1))) (hi1 := z7.2.1) (hl1 := z7.2.2) rfl rfl rfl rfl rfl rfl ((b_MD_bits ev hz7).mono (by decide)) ?_
    show EX w0 ev 3 m_MD_turns 50 [(0, .ref 65), (1, .int (v1)), (2, .int (v2)), (3, .int (v3)), (4, .int (v4)), (5, .int (v5)), (6, .int (v6))] [.int (z7.1)] (z7.2.1) (z7.2.2) OUT
    refine EX.istore (req1 := [(7, .int (z7.1)), (0, .ref 65), (1, .int (v1)), (2, .int (v2)), (3, .int (v3)), (4, .int (v4)), (5, .int (v5)), (6, .int (v6))]) rfl rfl rfl ?_
    refine EX.iload_n (x := v2) rfl (List.mem_of_getElem? (i := 3) rfl) ?_
    refine EX.aload_n (x := 65) rfl (List.mem_of_getElem? (i := 1) rfl) ?_
    refine EX.go (i := .getfield 44) (len := 3) (pc1 := 57) (st1 := [.ref 75, .int (v2)]) (hi1 := z7.2.1) (hl1 := z7.2.2) rfl ?_ (fun _ _ _ => rfl)
    refine EX.iload (x := v6) rfl (List.mem_of_getElem? (i := 7) rfl) ?_
    obtain ⟨g8, h⟩ := grd_some h
    refine EX.zaload rfl rfl g8 ?_
    rcases ite_some h with ⟨c9, h⟩ | ⟨c9, h⟩
    · refine EX.go (i := .ifCond .eq 7) (len := 3) (pc1 := 67) (st1 := [.int (v2)]) (hi1 := z7.2.1) (hl1 := z7.2.2) rfl ?_ (fun _ _ _ => if_pos c9)
      refine EX.iconst (v := 0) rfl rfl ?_
      refine EX.pick [1, 2, 4, 5, 6, 7, 0] ?_ rfl
      exact bJ_MD_turns_68 ev h hk
    · refine EX.go (i := .ifCond .eq 7) (len := 3) (pc1 := 63) (st1 := [.int (v2)]) (hi1 := z7.2.1) (hl1 := z7.2.2) rfl ?_ (fun _ _ _ => if_neg c9)
      refine EX.iconst (v := 1) rfl rfl ?_
      refine EX.go (i := .goto 4) (len := 3) (pc1 := 68) (st1 := [.int (1), .int (v2)]) (hi1 := z7.2.1) (hl1 := z7.2.2) rfl ?_ (fun _ _ _ => rfl)
      refine EX.pick [1, 2, 4, 5, 6, 7, 0] ?_ rfl
      exact bJ_MD_turns_68 ev h hk
def f_MD_turns (N : Nat) (p1 : Int32) (hi : HI) (hl : HL) : Option (Int32 × HI × HL) :=
  (f_MD_in N ((Int32.toInt64 (p1))) (0) (3) (hi) (hl)).bind fun z1 => if (z1.1 : Int32) = 0 then some ((-1), z1.2.1, z1.2.2) else (f_MD_freshens N (z1.2.1) (z1.2.2)).bind fun z3 => (lpN (fun s => B_MD_turns_31 N (p1) s.1 s.2.1 s.2.2.1 s.2.2.2.1 s.2.2.2.2.1 s.2.2.2.2.2.1 s.2.2.2.2.2.2) N (0, 0, 0, 0, 0, z3.2.1, z3.2.2)).bind fun x13 => if (p1 : Int32) = 0 then some (x13.1, x13.2.2.2.2.1, x13.2.2.2.2.2) else if (p1 : Int32) = (1 : Int32) then some (x13.2.1, x13.2.2.2.2.1, x13.2.2.2.2.2) else if (p1 : Int32) = (2 : Int32) then some (x13.2.2.1, x13.2.2.2.2.1, x13.2.2.2.2.2) else some (x13.2.2.2.1, x13.2.2.2.2.1, x13.2.2.2.2.2)
set_option maxRecDepth 10000 in
set_option maxHeartbeats 4000000 in
theorem b_MD_turns (ev : EV) {N : Nat} {p1 : Int32} {hi : HI} {hl : HL} {o : Int32 × HI × HL} (h : f_MD_turns N p1 hi hl = some o) : EM w0 ev 4 m_MD_turns [.ref 65, .int (p1)] hi hl (oI o) := by
  unfold f_MD_turns at h
  refine EM.of rfl ?_
  show EX w0 ev 3 m_MD_turns 0 [(0, .ref 65), (1, .int (p1))] [] (hi) (hl) (oI o)
  refine EX.iload_n (x := p1) rfl (List.mem_of_getElem? (i := 1) rfl) ?_
  refine EX.go (i := .i2l) (len := 1) (pc1 := 2) (st1 := [.long ((Int32.toInt64 (p1)))]) (hi1 := hi) (hl1 := hl) rfl ?_ (fun _ _ _ => rfl)
  refine EX.lconst (v := 0) rfl rfl ?_
  refine EX.go (i := .ldc2_w 171) (len := 3) (pc1 := 6) (st1 := [.long (3), .long (0), .long ((Int32.toInt64 (p1)))]) (hi1 := hi) (hl1 := hl) rfl ?_ (fun _ _ _ => rfl)
  obtain ⟨z1, hz1, h⟩ := bnd_some h
  refine EX.callS (as := [.long ((Int32.toInt64 (p1))), .long (0), .long (3)]) (rest := []) (r := some (.int (z1.1))) (hi1 := z1.2.1) (hl1 := z1.2.2) rfl rfl rfl rfl rfl rfl ((b_MD_in ev hz1).mono (by decide)) ?_
  show EX w0 ev 3 m_MD_turns 9 [(0, .ref 65), (1, .int (p1))] [.int (z1.1)] (z1.2.1) (z1.2.2) (oI o)
  rcases ite_some h with ⟨c2, h⟩ | ⟨c2, h⟩
  · refine EX.go (i := .ifCond .ne 5) (len := 3) (pc1 := 12) (st1 := []) (hi1 := z1.2.1) (hl1 := z1.2.2) rfl ?_ (fun _ _ _ => if_pos c2)
    refine EX.iconst (v := (-1)) rfl rfl ?_
    obtain rfl := Option.some.inj h
    exact EX.iret rfl rfl
  · refine EX.go (i := .ifCond .ne 5) (len := 3) (pc1 := 14) (st1 := []) (hi1 := z1.2.1) (hl1 := z1.2.2) rfl ?_ (fun _ _ _ => if_neg c2)
    refine EX.aload_n (x := 65) rfl (List.mem_of_getElem? (i := 0) rfl) ?_
    obtain ⟨z3, hz3, h⟩ := bnd_some h
    refine EX.callV (b := 65) (as := []) (rest := []) (r := none) (hi1 := z3.2.1) (hl1 := z3.2.2) rfl rfl rfl rfl rfl rfl ((b_MD_freshens ev hz3).mono (by decide)) ?_
    show EX w0 ev 3 m_MD_turns 18 [(0, .ref 65), (1, .int (p1))] [] (z3.2.1) (z3.2.2) (oI o)
    refine EX.iconst (v := 0) rfl rfl ?_
    refine EX.istore_n (req1 := [(2, .int (0)), (0, .ref 65), (1, .int (p1))]) rfl rfl rfl ?_
    refine EX.iconst (v := 0) rfl rfl ?_
    refine EX.istore_n (req1 := [(3, .int (0)), (2, .int (0)), (0, .ref 65), (1, .int (p1))]) rfl rfl rfl ?_
    refine EX.iconst (v := 0) rfl rfl ?_
    refine EX.istore (req1 := [(4, .int (0)), (3, .int (0)), (2, .int (0)), (0, .ref 65), (1, .int (p1))]) rfl rfl rfl ?_
    refine EX.iconst (v := 0) rfl rfl ?_
    refine EX.istore (req1 := [(5, .int (0)), (4, .int (0)), (3, .int (0)), (2, .int (0)), (0, .ref 65), (1, .int (p1))]) rfl rfl rfl ?_
    refine EX.iconst (v := 0) rfl rfl ?_
    refine EX.istore (req1 := [(6, .int (0)), (5, .int (0)), (4, .int (0)), (3, .int (0)), (2, .int (0)), (0, .ref 65), (1, .int (p1))]) rfl rfl rfl ?_
    obtain ⟨x13, hx13, h⟩ := bnd_some h
    refine EX.pick [5, 6, 4, 3, 2, 1, 0] ?_ rfl
    refine lp_sound (f := fun s => B_MD_turns_31 N (p1) s.1 s.2.1 s.2.2.1 s.2.2.2.1 s.2.2.2.2.1 s.2.2.2.2.2.1 s.2.2.2.2.2.2) (PS := fun s => EX w0 ev 3 m_MD_turns 31 [(0, .ref 65), (1, .int (p1)), (2, .int (s.1)), (3, .int (s.2.1)), (4, .int (s.2.2.1)), (5, .int (s.2.2.2.1)), (6, .int (s.2.2.2.2.1))] [] (s.2.2.2.2.2.1) (s.2.2.2.2.2.2) (oI o)) (PX := fun x => EX w0 ev 3 m_MD_turns 121 [(1, .int (p1)), (2, .int (x.1)), (3, .int (x.2.1)), (4, .int (x.2.2.1)), (5, .int (x.2.2.2.1))] [] (x.2.2.2.2.1) (x.2.2.2.2.2) (oI o)) ?_ N _ x13 hx13 ?_
    · exact fun s z hz hk => bB_MD_turns_31 ev hz hk
    show EX w0 ev 3 m_MD_turns 121 [(1, .int (p1)), (2, .int (x13.1)), (3, .int (x13.2.1)), (4, .int (x13.2.2.1)), (5, .int (x13.2.2.2.1))] [] (x13.2.2.2.2.1) (x13.2.2.2.2.2) (oI o)
    refine EX.iload_n (x := p1) rfl (List.mem_of_getElem? (i := 0) rfl) ?_
    rcases ite_some h with ⟨c14, h⟩ | ⟨c14, h⟩
    · refine EX.go (i := .ifCond .ne 7) (len := 3) (pc1 := 125) (st1 := []) (hi1 := x13.2.2.2.2.1) (hl1 := x13.2.2.2.2.2) rfl ?_ (fun _ _ _ => if_pos c14)
      refine EX.iload_n (x := x13.1) rfl (List.mem_of_getElem? (i := 1) rfl) ?_
      refine EX.go (i := .goto 24) (len := 3) (pc1 := 150) (st1 := [.int (x13.1)]) (hi1 := x13.2.2.2.2.1) (hl1 := x13.2.2.2.2.2) rfl ?_ (fun _ _ _ => rfl)
      obtain rfl := Option.some.inj h
      exact EX.iret rfl rfl
    · refine EX.go (i := .ifCond .ne 7) (len := 3) (pc1 := 129) (st1 := []) (hi1 := x13.2.2.2.2.1) (hl1 := x13.2.2.2.2.2) rfl ?_ (fun _ _ _ => if_neg c14)
      refine EX.iload_n (x := p1) rfl (List.mem_of_getElem? (i := 0) rfl) ?_
      refine EX.iconst (v := 1) rfl rfl ?_
      rcases ite_some h with ⟨c15, h⟩ | ⟨c15, h⟩
      · refine EX.go (i := .if_icmp .ne 7) (len := 3) (pc1 := 134) (st1 := []) (hi1 := x13.2.2.2.2.1) (hl1 := x13.2.2.2.2.2) rfl ?_ (fun _ _ _ => if_pos c15)
        refine EX.iload_n (x := x13.2.1) rfl (List.mem_of_getElem? (i := 2) rfl) ?_
        refine EX.go (i := .goto 15) (len := 3) (pc1 := 150) (st1 := [.int (x13.2.1)]) (hi1 := x13.2.2.2.2.1) (hl1 := x13.2.2.2.2.2) rfl ?_ (fun _ _ _ => rfl)
        obtain rfl := Option.some.inj h
        exact EX.iret rfl rfl
      · refine EX.go (i := .if_icmp .ne 7) (len := 3) (pc1 := 138) (st1 := []) (hi1 := x13.2.2.2.2.1) (hl1 := x13.2.2.2.2.2) rfl ?_ (fun _ _ _ => if_neg c15)
        refine EX.iload_n (x := p1) rfl (List.mem_of_getElem? (i := 0) rfl) ?_
        refine EX.iconst (v := 2) rfl rfl ?_
        rcases ite_some h with ⟨c16, h⟩ | ⟨c16, h⟩
        · refine EX.go (i := .if_icmp .ne 8) (len := 3) (pc1 := 143) (st1 := []) (hi1 := x13.2.2.2.2.1) (hl1 := x13.2.2.2.2.2) rfl ?_ (fun _ _ _ => if_pos c16)
          refine EX.iload (x := x13.2.2.1) rfl (List.mem_of_getElem? (i := 3) rfl) ?_
          refine EX.go (i := .goto 5) (len := 3) (pc1 := 150) (st1 := [.int (x13.2.2.1)]) (hi1 := x13.2.2.2.2.1) (hl1 := x13.2.2.2.2.2) rfl ?_ (fun _ _ _ => rfl)
          obtain rfl := Option.some.inj h
          exact EX.iret rfl rfl
        · refine EX.go (i := .if_icmp .ne 8) (len := 3) (pc1 := 148) (st1 := []) (hi1 := x13.2.2.2.2.1) (hl1 := x13.2.2.2.2.2) rfl ?_ (fun _ _ _ => if_neg c16)
          refine EX.iload (x := x13.2.2.2.1) rfl (List.mem_of_getElem? (i := 4) rfl) ?_
          obtain rfl := Option.some.inj h
          exact EX.iret rfl rfl
def B_MD_alone_16 (N : Nat) (v1 : Int32) (v2 : Int32) (hi : HI) (hl : HL) : Option ((Int32 × HI × HL) ⊕ (Nat × Int32 × HI × HL)) :=
  (f_MD_turnsOf N (hi) (hl)).bind fun z4 => if (z4.1 : Int32) ≤ (v2 : Int32) then some (.inr (0, v2, z4.2.1, z4.2.2)) else if (v2 : Int32) < 0 ∨ 729 ≤ Int32.toNatClampNeg (v2) then none else if (z4.2.1 74 (Int32.toNatClampNeg (v2)) : Int32) = (((1 : Int32) <<< (v1 &&& 31)) : Int32) then some (.inr (1, v2, z4.2.1, z4.2.2)) else some (.inl (v2 + 1, z4.2.1, z4.2.2))
set_option maxRecDepth 10000 in
set_option maxHeartbeats 4000000 in
theorem bB_MD_alone_16 (ev : EV) {N : Nat} {v1 : Int32} {v2 : Int32} {hi : HI} {hl : HL} {z : (Int32 × HI × HL) ⊕ (Nat × Int32 × HI × HL)} {OUT : Option Value × HI × HL} (h : B_MD_alone_16 N v1 v2 hi hl = some z) (hk : Sum.elim (fun s => EX w0 ev 3 m_MD_alone 16 [(0, .ref 65), (1, .int (v1)), (2, .int (s.1))] [] (s.2.1) (s.2.2) OUT) (fun x => (x.1 = 0 → EX w0 ev 3 m_MD_alone 44 [] [] (x.2.2.1) (x.2.2.2) OUT) ∧ (x.1 = 1 → EX w0 ev 3 m_MD_alone 36 [(2, .int (x.2.1))] [] (x.2.2.1) (x.2.2.2) OUT)) z) : EX w0 ev 3 m_MD_alone 16 [(0, .ref 65), (1, .int (v1)), (2, .int (v2))] [] (hi) (hl) OUT := by
  unfold B_MD_alone_16 at h
  refine EX.iload_n (x := v2) rfl (List.mem_of_getElem? (i := 2) rfl) ?_
  refine EX.aload_n (x := 65) rfl (List.mem_of_getElem? (i := 0) rfl) ?_
  obtain ⟨z4, hz4, h⟩ := bnd_some h
  refine EX.callV (b := 65) (as := []) (rest := [.int (v2)]) (r := some (.int (z4.1))) (hi1 := z4.2.1) (hl1 := z4.2.2) rfl rfl rfl rfl rfl rfl ((b_MD_turnsOf ev hz4).mono (by decide)) ?_
  show EX w0 ev 3 m_MD_alone 21 [(0, .ref 65), (1, .int (v1)), (2, .int (v2))] [.int (z4.1), .int (v2)] (z4.2.1) (z4.2.2) OUT
  rcases ite_some h with ⟨c5, h⟩ | ⟨c5, h⟩
  · refine EX.go (i := .if_icmp .ge 23) (len := 3) (pc1 := 44) (st1 := []) (hi1 := z4.2.1) (hl1 := z4.2.2) rfl ?_ (fun _ _ _ => if_pos c5)
    obtain rfl := Option.some.inj h
    have hk := hk.1 rfl
    have hk : EX w0 ev 3 m_MD_alone 44 [] [] (z4.2.1) (z4.2.2) OUT := hk
    exact EX.pick [] hk rfl
  · refine EX.go (i := .if_icmp .ge 23) (len := 3) (pc1 := 24) (st1 := []) (hi1 := z4.2.1) (hl1 := z4.2.2) rfl ?_ (fun _ _ _ => if_neg c5)
    refine EX.aload_n (x := 65) rfl (List.mem_of_getElem? (i := 0) rfl) ?_
    refine EX.go (i := .getfield 41) (len := 3) (pc1 := 28) (st1 := [.ref 74]) (hi1 := z4.2.1) (hl1 := z4.2.2) rfl ?_ (fun _ _ _ => rfl)
    refine EX.iload_n (x := v2) rfl (List.mem_of_getElem? (i := 2) rfl) ?_
    obtain ⟨g6, h⟩ := grd_some h
    refine EX.iaload rfl rfl g6 ?_
    refine EX.iconst (v := 1) rfl rfl ?_
    refine EX.iload_n (x := v1) rfl (List.mem_of_getElem? (i := 1) rfl) ?_
    refine EX.go (i := .ishl) (len := 1) (pc1 := 33) (st1 := [.int (((1 : Int32) <<< (v1 &&& 31))), .int (z4.2.1 74 (Int32.toNatClampNeg (v2)))]) (hi1 := z4.2.1) (hl1 := z4.2.2) rfl ?_ (fun _ _ _ => rfl)
    rcases ite_some h with ⟨c7, h⟩ | ⟨c7, h⟩
    · refine EX.go (i := .if_icmp .ne 5) (len := 3) (pc1 := 36) (st1 := []) (hi1 := z4.2.1) (hl1 := z4.2.2) rfl ?_ (fun _ _ _ => if_pos c7)
      obtain rfl := Option.some.inj h
      have hk := hk.2 rfl
      have hk : EX w0 ev 3 m_MD_alone 36 [(2, .int (v2))] [] (z4.2.1) (z4.2.2) OUT := hk
      exact EX.pick [2] hk rfl
    · refine EX.go (i := .if_icmp .ne 5) (len := 3) (pc1 := 38) (st1 := []) (hi1 := z4.2.1) (hl1 := z4.2.2) rfl ?_ (fun _ _ _ => if_neg c7)
      refine EX.iinc (x := v2) (v := v2 + 1) (req1 := [(2, .int (v2 + 1)), (0, .ref 65), (1, .int (v1))]) rfl rfl (List.mem_of_getElem? (i := 2) rfl) rfl rfl ?_
      refine EX.go (i := .goto (-25)) (len := 3) (pc1 := 16) (st1 := []) (hi1 := z4.2.1) (hl1 := z4.2.2) rfl ?_ (fun _ _ _ => rfl)
      obtain rfl := Option.some.inj h
      have hk : EX w0 ev 3 m_MD_alone 16 [(0, .ref 65), (1, .int (v1)), (2, .int (v2 + 1))] [] (z4.2.1) (z4.2.2) OUT := hk
      exact EX.pick [1, 2, 0] hk rfl
def f_MD_alone (N : Nat) (p1 : Int32) (hi : HI) (hl : HL) : Option (Int32 × HI × HL) :=
  (f_MD_isLamp N (p1) (hi) (hl)).bind fun z1 => if (z1.1 : Int32) = 0 then some ((-1), z1.2.1, z1.2.2) else (f_MD_freshens N (z1.2.1) (z1.2.2)).bind fun z3 => (lpN (fun s => B_MD_alone_16 N (p1) s.1 s.2.1 s.2.2) N (0, z3.2.1, z3.2.2)).bind fun x8 => if x8.1 = 0 then some ((-4), x8.2.2.1, x8.2.2.2) else some (x8.2.1, x8.2.2.1, x8.2.2.2)
set_option maxRecDepth 10000 in
set_option maxHeartbeats 4000000 in
theorem b_MD_alone (ev : EV) {N : Nat} {p1 : Int32} {hi : HI} {hl : HL} {o : Int32 × HI × HL} (h : f_MD_alone N p1 hi hl = some o) : EM w0 ev 4 m_MD_alone [.ref 65, .int (p1)] hi hl (oI o) := by
  unfold f_MD_alone at h
  refine EM.of rfl ?_
  show EX w0 ev 3 m_MD_alone 0 [(0, .ref 65), (1, .int (p1))] [] (hi) (hl) (oI o)
  refine EX.aload_n (x := 65) rfl (List.mem_of_getElem? (i := 0) rfl) ?_
  refine EX.iload_n (x := p1) rfl (List.mem_of_getElem? (i := 1) rfl) ?_
  obtain ⟨z1, hz1, h⟩ := bnd_some h
  refine EX.callV (b := 65) (as := [.int (p1)]) (rest := []) (r := some (.int (z1.1))) (hi1 := z1.2.1) (hl1 := z1.2.2) rfl rfl rfl rfl rfl rfl ((b_MD_isLamp ev hz1).mono (by decide)) ?_
  show EX w0 ev 3 m_MD_alone 5 [(0, .ref 65), (1, .int (p1))] [.int (z1.1)] (z1.2.1) (z1.2.2) (oI o)
  rcases ite_some h with ⟨c2, h⟩ | ⟨c2, h⟩
  · refine EX.go (i := .ifCond .ne 5) (len := 3) (pc1 := 8) (st1 := []) (hi1 := z1.2.1) (hl1 := z1.2.2) rfl ?_ (fun _ _ _ => if_pos c2)
    refine EX.iconst (v := (-1)) rfl rfl ?_
    obtain rfl := Option.some.inj h
    exact EX.iret rfl rfl
  · refine EX.go (i := .ifCond .ne 5) (len := 3) (pc1 := 10) (st1 := []) (hi1 := z1.2.1) (hl1 := z1.2.2) rfl ?_ (fun _ _ _ => if_neg c2)
    refine EX.aload_n (x := 65) rfl (List.mem_of_getElem? (i := 0) rfl) ?_
    obtain ⟨z3, hz3, h⟩ := bnd_some h
    refine EX.callV (b := 65) (as := []) (rest := []) (r := none) (hi1 := z3.2.1) (hl1 := z3.2.2) rfl rfl rfl rfl rfl rfl ((b_MD_freshens ev hz3).mono (by decide)) ?_
    show EX w0 ev 3 m_MD_alone 14 [(0, .ref 65), (1, .int (p1))] [] (z3.2.1) (z3.2.2) (oI o)
    refine EX.iconst (v := 0) rfl rfl ?_
    refine EX.istore_n (req1 := [(2, .int (0)), (0, .ref 65), (1, .int (p1))]) rfl rfl rfl ?_
    obtain ⟨x8, hx8, h⟩ := bnd_some h
    refine EX.pick [1, 2, 0] ?_ rfl
    refine lp_sound (f := fun s => B_MD_alone_16 N (p1) s.1 s.2.1 s.2.2) (PS := fun s => EX w0 ev 3 m_MD_alone 16 [(0, .ref 65), (1, .int (p1)), (2, .int (s.1))] [] (s.2.1) (s.2.2) (oI o)) (PX := fun x => (x.1 = 0 → EX w0 ev 3 m_MD_alone 44 [] [] (x.2.2.1) (x.2.2.2) (oI o)) ∧ (x.1 = 1 → EX w0 ev 3 m_MD_alone 36 [(2, .int (x.2.1))] [] (x.2.2.1) (x.2.2.2) (oI o))) ?_ N _ x8 hx8 ?_
    · exact fun s z hz hk => bB_MD_alone_16 ev hz hk
    rcases ite_some h with ⟨c9, h⟩ | ⟨c9, h⟩
    · refine ⟨fun _ => ?_, fun e9 => absurd (c9.symm.trans e9) (by decide)⟩
      show EX w0 ev 3 m_MD_alone 44 [] [] (x8.2.2.1) (x8.2.2.2) (oI o)
      refine EX.bipush (v := (-4)) rfl rfl ?_
      obtain rfl := Option.some.inj h
      exact EX.iret rfl rfl
    · refine ⟨fun e9 => absurd e9 c9, fun _ => ?_⟩
      show EX w0 ev 3 m_MD_alone 36 [(2, .int (x8.2.1))] [] (x8.2.2.1) (x8.2.2.2) (oI o)
      refine EX.iload_n (x := x8.2.1) rfl (List.mem_of_getElem? (i := 0) rfl) ?_
      obtain rfl := Option.some.inj h
      exact EX.iret rfl rfl
def B_MD_driven_4 (N : Nat) (v1 : Int32) (v2 : Int32) (v3 : Int32) (hi : HI) (hl : HL) : Option ((Int32 × Int32 × HI × HL) ⊕ (Int32 × HI × HL)) :=
  if (v1 : Int32) ≤ (v3 : Int32) then some (.inr (v2, hi, hl)) else some (.inl (((v2 : Int32) / (3)), v3 + 1, hi, hl))
set_option maxRecDepth 10000 in
set_option maxHeartbeats 4000000 in
theorem bB_MD_driven_4 (ev : EV) {N : Nat} {v1 : Int32} {v2 : Int32} {v3 : Int32} {hi : HI} {hl : HL} {z : (Int32 × Int32 × HI × HL) ⊕ (Int32 × HI × HL)} {OUT : Option Value × HI × HL} (h : B_MD_driven_4 N v1 v2 v3 hi hl = some z) (hk : Sum.elim (fun s => EX w0 ev 0 m_MD_driven 4 [(1, .int (v1)), (2, .int (s.1)), (3, .int (s.2.1))] [] (s.2.2.1) (s.2.2.2) OUT) (fun x => EX w0 ev 0 m_MD_driven 19 [(2, .int (x.1))] [] (x.2.1) (x.2.2) OUT) z) : EX w0 ev 0 m_MD_driven 4 [(1, .int (v1)), (2, .int (v2)), (3, .int (v3))] [] (hi) (hl) OUT := by
  unfold B_MD_driven_4 at h
  refine EX.iload_n (x := v3) rfl (List.mem_of_getElem? (i := 2) rfl) ?_
  refine EX.iload_n (x := v1) rfl (List.mem_of_getElem? (i := 0) rfl) ?_
  rcases ite_some h with ⟨c1, h⟩ | ⟨c1, h⟩
  · refine EX.go (i := .if_icmp .ge 13) (len := 3) (pc1 := 19) (st1 := []) (hi1 := hi) (hl1 := hl) rfl ?_ (fun _ _ _ => if_pos c1)
    obtain rfl := Option.some.inj h
    have hk : EX w0 ev 0 m_MD_driven 19 [(2, .int (v2))] [] (hi) (hl) OUT := hk
    exact EX.pick [1] hk rfl
  · refine EX.go (i := .if_icmp .ge 13) (len := 3) (pc1 := 9) (st1 := []) (hi1 := hi) (hl1 := hl) rfl ?_ (fun _ _ _ => if_neg c1)
    refine EX.iload_n (x := v2) rfl (List.mem_of_getElem? (i := 1) rfl) ?_
    refine EX.iconst (v := 3) rfl rfl ?_
    refine EX.go (i := .idiv) (len := 1) (pc1 := 12) (st1 := [.int (((v2 : Int32) / (3)))]) (hi1 := hi) (hl1 := hl) rfl ?_ (fun _ _ _ => rfl)
    refine EX.istore_n (req1 := [(2, .int (((v2 : Int32) / (3)))), (1, .int (v1)), (3, .int (v3))]) rfl rfl rfl ?_
    refine EX.iinc (x := v3) (v := v3 + 1) (req1 := [(3, .int (v3 + 1)), (2, .int (((v2 : Int32) / (3)))), (1, .int (v1))]) rfl rfl (List.mem_of_getElem? (i := 2) rfl) rfl rfl ?_
    refine EX.go (i := .goto (-12)) (len := 3) (pc1 := 4) (st1 := []) (hi1 := hi) (hl1 := hl) rfl ?_ (fun _ _ _ => rfl)
    obtain rfl := Option.some.inj h
    have hk : EX w0 ev 0 m_MD_driven 4 [(1, .int (v1)), (2, .int (((v2 : Int32) / (3)))), (3, .int (v3 + 1))] [] (hi) (hl) OUT := hk
    exact EX.pick [2, 1, 0] hk rfl
def f_MD_driven (N : Nat) (p0 : Int32) (p1 : Int32) (hi : HI) (hl : HL) : Option (Int32 × HI × HL) :=
  (lpN (fun s => B_MD_driven_4 N (p1) s.1 s.2.1 s.2.2.1 s.2.2.2) N (p0, 0, hi, hl)).bind fun x2 => some (((x2.1 : Int32) - (x2.1 : Int32) / (3) * (3)), x2.2.1, x2.2.2)
set_option maxRecDepth 10000 in
set_option maxHeartbeats 4000000 in
theorem b_MD_driven (ev : EV) {N : Nat} {p0 : Int32} {p1 : Int32} {hi : HI} {hl : HL} {o : Int32 × HI × HL} (h : f_MD_driven N p0 p1 hi hl = some o) : EM w0 ev 1 m_MD_driven [.int (p0), .int (p1)] hi hl (oI o) := by
  unfold f_MD_driven at h
  refine EM.of rfl ?_
  show EX w0 ev 0 m_MD_driven 0 [(0, .int (p0)), (1, .int (p1))] [] (hi) (hl) (oI o)
  refine EX.iload_n (x := p0) rfl (List.mem_of_getElem? (i := 0) rfl) ?_
  refine EX.istore_n (req1 := [(2, .int (p0)), (0, .int (p0)), (1, .int (p1))]) rfl rfl rfl ?_
  refine EX.iconst (v := 0) rfl rfl ?_
  refine EX.istore_n (req1 := [(3, .int (0)), (2, .int (p0)), (0, .int (p0)), (1, .int (p1))]) rfl rfl rfl ?_
  obtain ⟨x2, hx2, h⟩ := bnd_some h
  refine EX.pick [3, 1, 0] ?_ rfl
  refine lp_sound (f := fun s => B_MD_driven_4 N (p1) s.1 s.2.1 s.2.2.1 s.2.2.2) (PS := fun s => EX w0 ev 0 m_MD_driven 4 [(1, .int (p1)), (2, .int (s.1)), (3, .int (s.2.1))] [] (s.2.2.1) (s.2.2.2) (oI o)) (PX := fun x => EX w0 ev 0 m_MD_driven 19 [(2, .int (x.1))] [] (x.2.1) (x.2.2) (oI o)) ?_ N _ x2 hx2 ?_
  · exact fun s z hz hk => bB_MD_driven_4 ev hz hk
  show EX w0 ev 0 m_MD_driven 19 [(2, .int (x2.1))] [] (x2.2.1) (x2.2.2) (oI o)
  refine EX.iload_n (x := x2.1) rfl (List.mem_of_getElem? (i := 0) rfl) ?_
  refine EX.iconst (v := 3) rfl rfl ?_
  refine EX.go (i := .irem) (len := 1) (pc1 := 22) (st1 := [.int (((x2.1 : Int32) - (x2.1 : Int32) / (3) * (3)))]) (hi1 := x2.2.1) (hl1 := x2.2.2) rfl ?_ (fun _ _ _ => rfl)
  obtain rfl := Option.some.inj h
  exact EX.iret rfl rfl
def J_MD_astray_66 (N : Nat) (v1 : Int32) (v2 : Int32) (hi : HI) (hl : HL) : Option ((Int32 × HI × HL) ⊕ (Nat × Int32 × HI × HL)) :=
  some (.inl (v2 + 1, hi, hl))
set_option maxRecDepth 10000 in
set_option maxHeartbeats 4000000 in
theorem bJ_MD_astray_66 (ev : EV) {N : Nat} {v1 : Int32} {v2 : Int32} {hi : HI} {hl : HL} {z : (Int32 × HI × HL) ⊕ (Nat × Int32 × HI × HL)} {OUT : Option Value × HI × HL} (h : J_MD_astray_66 N v1 v2 hi hl = some z) (hk : Sum.elim (fun s => EX w0 ev 3 m_MD_astray 16 [(0, .ref 65), (1, .int (v1)), (2, .int (s.1))] [] (s.2.1) (s.2.2) OUT) (fun x => (x.1 = 0 → EX w0 ev 3 m_MD_astray 72 [] [] (x.2.2.1) (x.2.2.2) OUT) ∧ (x.1 = 1 → EX w0 ev 3 m_MD_astray 64 [(2, .int (x.2.1))] [] (x.2.2.1) (x.2.2.2) OUT)) z) : EX w0 ev 3 m_MD_astray 66 [(0, .ref 65), (1, .int (v1)), (2, .int (v2))] [] (hi) (hl) OUT := by
  unfold J_MD_astray_66 at h
  refine EX.iinc (x := v2) (v := v2 + 1) (req1 := [(2, .int (v2 + 1)), (0, .ref 65), (1, .int (v1))]) rfl rfl (List.mem_of_getElem? (i := 2) rfl) rfl rfl ?_
  refine EX.go (i := .goto (-53)) (len := 3) (pc1 := 16) (st1 := []) (hi1 := hi) (hl1 := hl) rfl ?_ (fun _ _ _ => rfl)
  obtain rfl := Option.some.inj h
  have hk : EX w0 ev 3 m_MD_astray 16 [(0, .ref 65), (1, .int (v1)), (2, .int (v2 + 1))] [] (hi) (hl) OUT := hk
  exact EX.pick [1, 2, 0] hk rfl
def B_MD_astray_16 (N : Nat) (v1 : Int32) (v2 : Int32) (hi : HI) (hl : HL) : Option ((Int32 × HI × HL) ⊕ (Nat × Int32 × HI × HL)) :=
  (f_MD_turnsOf N (hi) (hl)).bind fun z4 => if (z4.1 : Int32) ≤ (v2 : Int32) then some (.inr (0, v2, z4.2.1, z4.2.2)) else if (v2 : Int32) < 0 ∨ 729 ≤ Int32.toNatClampNeg (v2) then none else if (((((z4.2.1 74 (Int32.toNatClampNeg (v2)) : Int32) >>> (v1 &&& 31)) : Int32) &&& (1)) : Int32) = (1 : Int32) then if (v1 : Int32) < 0 ∨ 16 ≤ Int32.toNatClampNeg (v1) then none else (f_MD_driven N (v2) (z4.2.1 66 (Int32.toNatClampNeg (v1))) (z4.2.1) (z4.2.2)).bind fun z9 => if (z9.1 : Int32) = 0 then some (.inr (1, v2, z9.2.1, z9.2.2)) else if (v1 : Int32) < 0 ∨ 16 ≤ Int32.toNatClampNeg (v1) then none else (f_MD_driven N (v2) (z9.2.1 67 (Int32.toNatClampNeg (v1))) (z9.2.1) (z9.2.2)).bind fun z12 => if (z12.1 : Int32) = 0 then some (.inr (1, v2, z12.2.1, z12.2.2)) else J_MD_astray_66 N (v1) (v2) (z12.2.1) (z12.2.2) else J_MD_astray_66 N (v1) (v2) (z4.2.1) (z4.2.2)
set_option maxRecDepth 10000 in
set_option maxHeartbeats 4000000 in
theorem bB_MD_astray_16 (ev : EV) {N : Nat} {v1 : Int32} {v2 : Int32} {hi : HI} {hl : HL} {z : (Int32 × HI × HL) ⊕ (Nat × Int32 × HI × HL)} {OUT : Option Value × HI × HL} (h : B_MD_astray_16 N v1 v2 hi hl = some z) (hk : Sum.elim (fun s => EX w0 ev 3 m_MD_astray 16 [(0, .ref 65), (1, .int (v1)), (2, .int (s.1))] [] (s.2.1) (s.2.2) OUT) (fun x => (x.1 = 0 → EX w0 ev 3 m_MD_astray 72 [] [] (x.2.2.1) (x.2.2.2) OUT) ∧ (x.1 = 1 → EX w0 ev 3 m_MD_astray 64 [(2, .int (x.2.1))] [] (x.2.2.1) (x.2.2.2) OUT)) z) : EX w0 ev 3 m_MD_astray 16 [(0, .ref 65), (1, .int (v1)), (2, .int (v2))] [] (hi) (hl) OUT := by
  unfold B_MD_astray_16 at h
  refine EX.iload_n (x := v2) rfl (List.mem_of_getElem? (i := 2) rfl) ?_
  refine EX.aload_n (x := 65) rfl (List.mem_of_getElem? (i := 0) rfl) ?_
  obtain ⟨z4, hz4, h⟩ := bnd_some h
  refine EX.callV (b := 65) (as := []) (rest := [.int (v2)]) (r := some (.int (z4.1))) (hi1 := z4.2.1) (hl1 := z4.2.2) rfl rfl rfl rfl rfl rfl ((b_MD_turnsOf ev hz4).mono (by decide)) ?_
  show EX w0 ev 3 m_MD_astray 21 [(0, .ref 65), (1, .int (v1)), (2, .int (v2))] [.int (z4.1), .int (v2)] (z4.2.1) (z4.2.2) OUT
  rcases ite_some h with ⟨c5, h⟩ | ⟨c5, h⟩
  · refine EX.go (i := .if_icmp .ge 51) (len := 3) (pc1 := 72) (st1 := []) (hi1 := z4.2.1) (hl1 := z4.2.2) rfl ?_ (fun _ _ _ => if_pos c5)
    obtain rfl := Option.some.inj h
    have hk := hk.1 rfl
    have hk : EX w0 ev 3 m_MD_astray 72 [] [] (z4.2.1) (z4.2.2) OUT := hk
    exact EX.pick [] hk rfl
  · refine EX.go (i := .if_icmp .ge 51) (len := 3) (pc1 := 24) (st1 := []) (hi1 := z4.2.1) (hl1 := z4.2.2) rfl ?_ (fun _ _ _ => if_neg c5)
    refine EX.aload_n (x := 65) rfl (List.mem_of_getElem? (i := 0) rfl) ?_
    refine EX.go (i := .getfield 41) (len := 3) (pc1 := 28) (st1 := [.ref 74]) (hi1 := z4.2.1) (hl1 := z4.2.2) rfl ?_ (fun _ _ _ => rfl)
    refine EX.iload_n (x := v2) rfl (List.mem_of_getElem? (i := 2) rfl) ?_
    obtain ⟨g6, h⟩ := grd_some h
    refine EX.iaload rfl rfl g6 ?_
    refine EX.iload_n (x := v1) rfl (List.mem_of_getElem? (i := 1) rfl) ?_
    refine EX.go (i := .ishr) (len := 1) (pc1 := 32) (st1 := [.int (((z4.2.1 74 (Int32.toNatClampNeg (v2)) : Int32) >>> (v1 &&& 31)))]) (hi1 := z4.2.1) (hl1 := z4.2.2) rfl ?_ (fun _ _ _ => rfl)
    refine EX.iconst (v := 1) rfl rfl ?_
    refine EX.go (i := .iand) (len := 1) (pc1 := 34) (st1 := [.int (((((z4.2.1 74 (Int32.toNatClampNeg (v2)) : Int32) >>> (v1 &&& 31)) : Int32) &&& (1)))]) (hi1 := z4.2.1) (hl1 := z4.2.2) rfl ?_ (fun _ _ _ => rfl)
    refine EX.iconst (v := 1) rfl rfl ?_
    rcases ite_some h with ⟨c7, h⟩ | ⟨c7, h⟩
    · refine EX.go (i := .if_icmp .ne 31) (len := 3) (pc1 := 38) (st1 := []) (hi1 := z4.2.1) (hl1 := z4.2.2) rfl ?_ (fun _ _ _ => if_pos c7)
      refine EX.iload_n (x := v2) rfl (List.mem_of_getElem? (i := 2) rfl) ?_
      refine EX.aload_n (x := 65) rfl (List.mem_of_getElem? (i := 0) rfl) ?_
      refine EX.go (i := .getfield 16) (len := 3) (pc1 := 43) (st1 := [.ref 66, .int (v2)]) (hi1 := z4.2.1) (hl1 := z4.2.2) rfl ?_ (fun _ _ _ => rfl)
      refine EX.iload_n (x := v1) rfl (List.mem_of_getElem? (i := 1) rfl) ?_
      obtain ⟨g8, h⟩ := grd_some h
      refine EX.iaload rfl rfl g8 ?_
      obtain ⟨z9, hz9, h⟩ := bnd_some h
      refine EX.callS (as := [.int (v2), .int (z4.2.1 66 (Int32.toNatClampNeg (v1)))]) (rest := []) (r := some (.int (z9.1))) (hi1 := z9.2.1) (hl1 := z9.2.2) rfl rfl rfl rfl rfl rfl ((b_MD_driven ev hz9).mono (by decide)) ?_
      show EX w0 ev 3 m_MD_astray 48 [(0, .ref 65), (1, .int (v1)), (2, .int (v2))] [.int (z9.1)] (z9.2.1) (z9.2.2) OUT
      rcases ite_some h with ⟨c10, h⟩ | ⟨c10, h⟩
      · refine EX.go (i := .ifCond .eq 16) (len := 3) (pc1 := 64) (st1 := []) (hi1 := z9.2.1) (hl1 := z9.2.2) rfl ?_ (fun _ _ _ => if_pos c10)
        obtain rfl := Option.some.inj h
        have hk := hk.2 rfl
        have hk : EX w0 ev 3 m_MD_astray 64 [(2, .int (v2))] [] (z9.2.1) (z9.2.2) OUT := hk
        exact EX.pick [2] hk rfl
      · refine EX.go (i := .ifCond .eq 16) (len := 3) (pc1 := 51) (st1 := []) (hi1 := z9.2.1) (hl1 := z9.2.2) rfl ?_ (fun _ _ _ => if_neg c10)
        refine EX.iload_n (x := v2) rfl (List.mem_of_getElem? (i := 2) rfl) ?_
        refine EX.aload_n (x := 65) rfl (List.mem_of_getElem? (i := 0) rfl) ?_
        refine EX.go (i := .getfield 20) (len := 3) (pc1 := 56) (st1 := [.ref 67, .int (v2)]) (hi1 := z9.2.1) (hl1 := z9.2.2) rfl ?_ (fun _ _ _ => rfl)
        refine EX.iload_n (x := v1) rfl (List.mem_of_getElem? (i := 1) rfl) ?_
        obtain ⟨g11, h⟩ := grd_some h
        refine EX.iaload rfl rfl g11 ?_
        obtain ⟨z12, hz12, h⟩ := bnd_some h
        refine EX.callS (as := [.int (v2), .int (z9.2.1 67 (Int32.toNatClampNeg (v1)))]) (rest := []) (r := some (.int (z12.1))) (hi1 := z12.2.1) (hl1 := z12.2.2) rfl rfl rfl rfl rfl rfl ((b_MD_driven ev hz12).mono (by decide)) ?_
        show EX w0 ev 3 m_MD_astray 61 [(0, .ref 65), (1, .int (v1)), (2, .int (v2))] [.int (z12.1)] (z12.2.1) (z12.2.2) OUT
        rcases ite_some h with ⟨c13, h⟩ | ⟨c13, h⟩
        · refine EX.go (i := .ifCond .ne 5) (len := 3) (pc1 := 64) (st1 := []) (hi1 := z12.2.1) (hl1 := z12.2.2) rfl ?_ (fun _ _ _ => if_pos c13)
          obtain rfl := Option.some.inj h
          have hk := hk.2 rfl
          have hk : EX w0 ev 3 m_MD_astray 64 [(2, .int (v2))] [] (z12.2.1) (z12.2.2) OUT := hk
          exact EX.pick [2] hk rfl
        · refine EX.go (i := .ifCond .ne 5) (len := 3) (pc1 := 66) (st1 := []) (hi1 := z12.2.1) (hl1 := z12.2.2) rfl ?_ (fun _ _ _ => if_neg c13)
          refine EX.pick [0, 1, 2] ?_ rfl
          exact bJ_MD_astray_66 ev h hk
    · refine EX.go (i := .if_icmp .ne 31) (len := 3) (pc1 := 66) (st1 := []) (hi1 := z4.2.1) (hl1 := z4.2.2) rfl ?_ (fun _ _ _ => if_neg c7)
      refine EX.pick [0, 1, 2] ?_ rfl
      exact bJ_MD_astray_66 ev h hk
def f_MD_astray (N : Nat) (p1 : Int32) (hi : HI) (hl : HL) : Option (Int32 × HI × HL) :=
  (f_MD_isLamp N (p1) (hi) (hl)).bind fun z1 => if (z1.1 : Int32) = 0 then some ((-1), z1.2.1, z1.2.2) else (f_MD_freshens N (z1.2.1) (z1.2.2)).bind fun z3 => (lpN (fun s => B_MD_astray_16 N (p1) s.1 s.2.1 s.2.2) N (0, z3.2.1, z3.2.2)).bind fun x14 => if x14.1 = 0 then some ((-4), x14.2.2.1, x14.2.2.2) else some (x14.2.1, x14.2.2.1, x14.2.2.2)
set_option maxRecDepth 10000 in
set_option maxHeartbeats 4000000 in
theorem b_MD_astray (ev : EV) {N : Nat} {p1 : Int32} {hi : HI} {hl : HL} {o : Int32 × HI × HL} (h : f_MD_astray N p1 hi hl = some o) : EM w0 ev 4 m_MD_astray [.ref 65, .int (p1)] hi hl (oI o) := by
  unfold f_MD_astray at h
  refine EM.of rfl ?_
  show EX w0 ev 3 m_MD_astray 0 [(0, .ref 65), (1, .int (p1))] [] (hi) (hl) (oI o)
  refine EX.aload_n (x := 65) rfl (List.mem_of_getElem? (i := 0) rfl) ?_
  refine EX.iload_n (x := p1) rfl (List.mem_of_getElem? (i := 1) rfl) ?_
  obtain ⟨z1, hz1, h⟩ := bnd_some h
  refine EX.callV (b := 65) (as := [.int (p1)]) (rest := []) (r := some (.int (z1.1))) (hi1 := z1.2.1) (hl1 := z1.2.2) rfl rfl rfl rfl rfl rfl ((b_MD_isLamp ev hz1).mono (by decide)) ?_
  show EX w0 ev 3 m_MD_astray 5 [(0, .ref 65), (1, .int (p1))] [.int (z1.1)] (z1.2.1) (z1.2.2) (oI o)
  rcases ite_some h with ⟨c2, h⟩ | ⟨c2, h⟩
  · refine EX.go (i := .ifCond .ne 5) (len := 3) (pc1 := 8) (st1 := []) (hi1 := z1.2.1) (hl1 := z1.2.2) rfl ?_ (fun _ _ _ => if_pos c2)
    refine EX.iconst (v := (-1)) rfl rfl ?_
    obtain rfl := Option.some.inj h
    exact EX.iret rfl rfl
  · refine EX.go (i := .ifCond .ne 5) (len := 3) (pc1 := 10) (st1 := []) (hi1 := z1.2.1) (hl1 := z1.2.2) rfl ?_ (fun _ _ _ => if_neg c2)
    refine EX.aload_n (x := 65) rfl (List.mem_of_getElem? (i := 0) rfl) ?_
    obtain ⟨z3, hz3, h⟩ := bnd_some h
    refine EX.callV (b := 65) (as := []) (rest := []) (r := none) (hi1 := z3.2.1) (hl1 := z3.2.2) rfl rfl rfl rfl rfl rfl ((b_MD_freshens ev hz3).mono (by decide)) ?_
    show EX w0 ev 3 m_MD_astray 14 [(0, .ref 65), (1, .int (p1))] [] (z3.2.1) (z3.2.2) (oI o)
    refine EX.iconst (v := 0) rfl rfl ?_
    refine EX.istore_n (req1 := [(2, .int (0)), (0, .ref 65), (1, .int (p1))]) rfl rfl rfl ?_
    obtain ⟨x14, hx14, h⟩ := bnd_some h
    refine EX.pick [1, 2, 0] ?_ rfl
    refine lp_sound (f := fun s => B_MD_astray_16 N (p1) s.1 s.2.1 s.2.2) (PS := fun s => EX w0 ev 3 m_MD_astray 16 [(0, .ref 65), (1, .int (p1)), (2, .int (s.1))] [] (s.2.1) (s.2.2) (oI o)) (PX := fun x => (x.1 = 0 → EX w0 ev 3 m_MD_astray 72 [] [] (x.2.2.1) (x.2.2.2) (oI o)) ∧ (x.1 = 1 → EX w0 ev 3 m_MD_astray 64 [(2, .int (x.2.1))] [] (x.2.2.1) (x.2.2.2) (oI o))) ?_ N _ x14 hx14 ?_
    · exact fun s z hz hk => bB_MD_astray_16 ev hz hk
    rcases ite_some h with ⟨c15, h⟩ | ⟨c15, h⟩
    · refine ⟨fun _ => ?_, fun e9 => absurd (c15.symm.trans e9) (by decide)⟩
      show EX w0 ev 3 m_MD_astray 72 [] [] (x14.2.2.1) (x14.2.2.2) (oI o)
      refine EX.bipush (v := (-4)) rfl rfl ?_
      obtain rfl := Option.some.inj h
      exact EX.iret rfl rfl
    · refine ⟨fun e9 => absurd e9 c15, fun _ => ?_⟩
      show EX w0 ev 3 m_MD_astray 64 [(2, .int (x14.2.1))] [] (x14.2.2.1) (x14.2.2.2) (oI o)
      refine EX.iload_n (x := x14.2.1) rfl (List.mem_of_getElem? (i := 0) rfl) ?_
      obtain rfl := Option.some.inj h
      exact EX.iret rfl rfl
def f_MD_isPicture (N : Nat) (p1 : Int32) (hi : HI) (hl : HL) : Option (Int32 × HI × HL) :=
  (f_MD_in N ((Int32.toInt64 (p1))) (0) ((Int32.toInt64 (((((1 : Int32) <<< ((hi 65 2) &&& 31)) : Int32) - (1))))) (hi) (hl)).bind fun z1 => if (z1.1 : Int32) = 0 ∨ (z1.1 : Int32) = 1 then some (z1.1, z1.2.1, z1.2.2) else none
set_option maxRecDepth 10000 in
set_option maxHeartbeats 4000000 in
theorem b_MD_isPicture (ev : EV) {N : Nat} {p1 : Int32} {hi : HI} {hl : HL} {o : Int32 × HI × HL} (h : f_MD_isPicture N p1 hi hl = some o) : EM w0 ev 2 m_MD_isPicture [.ref 65, .int (p1)] hi hl (oI o) := by
  unfold f_MD_isPicture at h
  refine EM.of rfl ?_
  show EX w0 ev 1 m_MD_isPicture 0 [(0, .ref 65), (1, .int (p1))] [] (hi) (hl) (oI o)
  refine EX.iload_n (x := p1) rfl (List.mem_of_getElem? (i := 1) rfl) ?_
  refine EX.go (i := .i2l) (len := 1) (pc1 := 2) (st1 := [.long ((Int32.toInt64 (p1)))]) (hi1 := hi) (hl1 := hl) rfl ?_ (fun _ _ _ => rfl)
  refine EX.lconst (v := 0) rfl rfl ?_
  refine EX.iconst (v := 1) rfl rfl ?_
  refine EX.aload_n (x := 65) rfl (List.mem_of_getElem? (i := 0) rfl) ?_
  refine EX.go (i := .getfield 116) (len := 3) (pc1 := 8) (st1 := [.int (hi 65 2), .int (1), .long (0), .long ((Int32.toInt64 (p1)))]) (hi1 := hi) (hl1 := hl) rfl ?_ (fun _ _ _ => rfl)
  refine EX.go (i := .ishl) (len := 1) (pc1 := 9) (st1 := [.int (((1 : Int32) <<< ((hi 65 2) &&& 31))), .long (0), .long ((Int32.toInt64 (p1)))]) (hi1 := hi) (hl1 := hl) rfl ?_ (fun _ _ _ => rfl)
  refine EX.iconst (v := 1) rfl rfl ?_
  refine EX.go (i := .isub) (len := 1) (pc1 := 11) (st1 := [.int (((((1 : Int32) <<< ((hi 65 2) &&& 31)) : Int32) - (1))), .long (0), .long ((Int32.toInt64 (p1)))]) (hi1 := hi) (hl1 := hl) rfl ?_ (fun _ _ _ => rfl)
  refine EX.go (i := .i2l) (len := 1) (pc1 := 12) (st1 := [.long ((Int32.toInt64 (((((1 : Int32) <<< ((hi 65 2) &&& 31)) : Int32) - (1))))), .long (0), .long ((Int32.toInt64 (p1)))]) (hi1 := hi) (hl1 := hl) rfl ?_ (fun _ _ _ => rfl)
  obtain ⟨z1, hz1, h⟩ := bnd_some h
  refine EX.callS (as := [.long ((Int32.toInt64 (p1))), .long (0), .long ((Int32.toInt64 (((((1 : Int32) <<< ((hi 65 2) &&& 31)) : Int32) - (1)))))]) (rest := []) (r := some (.int (z1.1))) (hi1 := z1.2.1) (hl1 := z1.2.2) rfl rfl rfl rfl rfl rfl ((b_MD_in ev hz1).mono (by decide)) ?_
  show EX w0 ev 1 m_MD_isPicture 15 [(0, .ref 65), (1, .int (p1))] [.int (z1.1)] (z1.2.1) (z1.2.2) (oI o)
  obtain ⟨g2, h⟩ := grp_some h
  obtain rfl := Option.some.inj h
  exact EX.zret rfl rfl g2
def f_MD_frameOf (N : Nat) (p1 : Int32) (hi : HI) (hl : HL) : Option (Int32 × HI × HL) :=
  (f_MD_freshens N (hi) (hl)).bind fun z1 => if (p1 : Int32) < 0 ∨ 65536 ≤ Int32.toNatClampNeg (p1) then none else if (z1.2.1 77 (Int32.toNatClampNeg (p1)) : Int32) = (100 : Int32) then some ((-4), z1.2.1, z1.2.2) else if (p1 : Int32) < 0 ∨ 65536 ≤ Int32.toNatClampNeg (p1) then none else some (z1.2.1 77 (Int32.toNatClampNeg (p1)), z1.2.1, z1.2.2)
set_option maxRecDepth 10000 in
set_option maxHeartbeats 4000000 in
theorem b_MD_frameOf (ev : EV) {N : Nat} {p1 : Int32} {hi : HI} {hl : HL} {o : Int32 × HI × HL} (h : f_MD_frameOf N p1 hi hl = some o) : EM w0 ev 4 m_MD_frameOf [.ref 65, .int (p1)] hi hl (oI o) := by
  unfold f_MD_frameOf at h
  refine EM.of rfl ?_
  show EX w0 ev 3 m_MD_frameOf 0 [(0, .ref 65), (1, .int (p1))] [] (hi) (hl) (oI o)
  refine EX.aload_n (x := 65) rfl (List.mem_of_getElem? (i := 0) rfl) ?_
  obtain ⟨z1, hz1, h⟩ := bnd_some h
  refine EX.callV (b := 65) (as := []) (rest := []) (r := none) (hi1 := z1.2.1) (hl1 := z1.2.2) rfl rfl rfl rfl rfl rfl ((b_MD_freshens ev hz1).mono (by decide)) ?_
  show EX w0 ev 3 m_MD_frameOf 4 [(0, .ref 65), (1, .int (p1))] [] (z1.2.1) (z1.2.2) (oI o)
  refine EX.aload_n (x := 65) rfl (List.mem_of_getElem? (i := 0) rfl) ?_
  refine EX.go (i := .getfield 52) (len := 3) (pc1 := 8) (st1 := [.ref 77]) (hi1 := z1.2.1) (hl1 := z1.2.2) rfl ?_ (fun _ _ _ => rfl)
  refine EX.iload_n (x := p1) rfl (List.mem_of_getElem? (i := 1) rfl) ?_
  obtain ⟨g2, h⟩ := grd_some h
  refine EX.baload rfl rfl g2 ?_
  refine EX.bipush (v := 100) rfl rfl ?_
  rcases ite_some h with ⟨c3, h⟩ | ⟨c3, h⟩
  · refine EX.go (i := .if_icmp .ne 8) (len := 3) (pc1 := 15) (st1 := []) (hi1 := z1.2.1) (hl1 := z1.2.2) rfl ?_ (fun _ _ _ => if_pos c3)
    refine EX.bipush (v := (-4)) rfl rfl ?_
    refine EX.go (i := .goto 9) (len := 3) (pc1 := 26) (st1 := [.int ((-4))]) (hi1 := z1.2.1) (hl1 := z1.2.2) rfl ?_ (fun _ _ _ => rfl)
    obtain rfl := Option.some.inj h
    exact EX.iret rfl rfl
  · refine EX.go (i := .if_icmp .ne 8) (len := 3) (pc1 := 20) (st1 := []) (hi1 := z1.2.1) (hl1 := z1.2.2) rfl ?_ (fun _ _ _ => if_neg c3)
    refine EX.aload_n (x := 65) rfl (List.mem_of_getElem? (i := 0) rfl) ?_
    refine EX.go (i := .getfield 52) (len := 3) (pc1 := 24) (st1 := [.ref 77]) (hi1 := z1.2.1) (hl1 := z1.2.2) rfl ?_ (fun _ _ _ => rfl)
    refine EX.iload_n (x := p1) rfl (List.mem_of_getElem? (i := 1) rfl) ?_
    obtain ⟨g4, h⟩ := grd_some h
    refine EX.baload rfl rfl g4 ?_
    obtain rfl := Option.some.inj h
    exact EX.iret rfl rfl
def f_MD_frame (N : Nat) (p1 : Int32) (hi : HI) (hl : HL) : Option (Int32 × HI × HL) :=
  (f_MD_isPicture N (p1) (hi) (hl)).bind fun z1 => if (z1.1 : Int32) = 0 then some ((-1), z1.2.1, z1.2.2) else (f_MD_frameOf N (p1) (z1.2.1) (z1.2.2)).bind fun z3 => some (z3.1, z3.2.1, z3.2.2)
set_option maxRecDepth 10000 in
set_option maxHeartbeats 4000000 in
theorem b_MD_frame (ev : EV) {N : Nat} {p1 : Int32} {hi : HI} {hl : HL} {o : Int32 × HI × HL} (h : f_MD_frame N p1 hi hl = some o) : EM w0 ev 5 m_MD_frame [.ref 65, .int (p1)] hi hl (oI o) := by
  unfold f_MD_frame at h
  refine EM.of rfl ?_
  show EX w0 ev 4 m_MD_frame 0 [(0, .ref 65), (1, .int (p1))] [] (hi) (hl) (oI o)
  refine EX.aload_n (x := 65) rfl (List.mem_of_getElem? (i := 0) rfl) ?_
  refine EX.iload_n (x := p1) rfl (List.mem_of_getElem? (i := 1) rfl) ?_
  obtain ⟨z1, hz1, h⟩ := bnd_some h
  refine EX.callV (b := 65) (as := [.int (p1)]) (rest := []) (r := some (.int (z1.1))) (hi1 := z1.2.1) (hl1 := z1.2.2) rfl rfl rfl rfl rfl rfl ((b_MD_isPicture ev hz1).mono (by decide)) ?_
  show EX w0 ev 4 m_MD_frame 5 [(0, .ref 65), (1, .int (p1))] [.int (z1.1)] (z1.2.1) (z1.2.2) (oI o)
  rcases ite_some h with ⟨c2, h⟩ | ⟨c2, h⟩
  · refine EX.go (i := .ifCond .eq 11) (len := 3) (pc1 := 16) (st1 := []) (hi1 := z1.2.1) (hl1 := z1.2.2) rfl ?_ (fun _ _ _ => if_pos c2)
    refine EX.iconst (v := (-1)) rfl rfl ?_
    obtain rfl := Option.some.inj h
    exact EX.iret rfl rfl
  · refine EX.go (i := .ifCond .eq 11) (len := 3) (pc1 := 8) (st1 := []) (hi1 := z1.2.1) (hl1 := z1.2.2) rfl ?_ (fun _ _ _ => if_neg c2)
    refine EX.aload_n (x := 65) rfl (List.mem_of_getElem? (i := 0) rfl) ?_
    refine EX.iload_n (x := p1) rfl (List.mem_of_getElem? (i := 1) rfl) ?_
    obtain ⟨z3, hz3, h⟩ := bnd_some h
    refine EX.callV (b := 65) (as := [.int (p1)]) (rest := []) (r := some (.int (z3.1))) (hi1 := z3.2.1) (hl1 := z3.2.2) rfl rfl rfl rfl rfl rfl ((b_MD_frameOf ev hz3).mono (by decide)) ?_
    show EX w0 ev 4 m_MD_frame 13 [(0, .ref 65), (1, .int (p1))] [.int (z3.1)] (z3.2.1) (z3.2.2) (oI o)
    refine EX.go (i := .goto 4) (len := 3) (pc1 := 17) (st1 := [.int (z3.1)]) (hi1 := z3.2.1) (hl1 := z3.2.2) rfl ?_ (fun _ _ _ => rfl)
    obtain rfl := Option.some.inj h
    exact EX.iret rfl rfl
def J_MD_findMore_44 (N : Nat) (v1 : Int32) (v2 : Int32) (v3 : Int32) (v4 : Int32) (hi : HI) (hl : HL) : Option ((Int32 × HI × HL) ⊕ (Int32 × HI × HL)) :=
  some (.inl (v4 + 1, hi, hl))
set_option maxRecDepth 10000 in
set_option maxHeartbeats 4000000 in
theorem bJ_MD_findMore_44 (ev : EV) {N : Nat} {v1 : Int32} {v2 : Int32} {v3 : Int32} {v4 : Int32} {hi : HI} {hl : HL} {z : (Int32 × HI × HL) ⊕ (Int32 × HI × HL)} {OUT : Option Value × HI × HL} (h : J_MD_findMore_44 N v1 v2 v3 v4 hi hl = some z) (hk : Sum.elim (fun s => EX w0 ev 0 m_MD_findMore 25 [(0, .ref 65), (1, .int (v1)), (2, .int (v2)), (3, .int (v3)), (4, .int (s.1))] [] (s.2.1) (s.2.2) OUT) (fun x => EX w0 ev 0 m_MD_findMore 50 [(0, .ref 65), (1, .int (v1)), (2, .int (v2)), (3, .int (v3)), (4, .int (x.1))] [] (x.2.1) (x.2.2) OUT) z) : EX w0 ev 0 m_MD_findMore 44 [(0, .ref 65), (1, .int (v1)), (2, .int (v2)), (3, .int (v3)), (4, .int (v4))] [] (hi) (hl) OUT := by
  unfold J_MD_findMore_44 at h
  refine EX.iinc (x := v4) (v := v4 + 1) (req1 := [(4, .int (v4 + 1)), (0, .ref 65), (1, .int (v1)), (2, .int (v2)), (3, .int (v3))]) rfl rfl (List.mem_of_getElem? (i := 4) rfl) rfl rfl ?_
  refine EX.go (i := .goto (-22)) (len := 3) (pc1 := 25) (st1 := []) (hi1 := hi) (hl1 := hl) rfl ?_ (fun _ _ _ => rfl)
  obtain rfl := Option.some.inj h
  have hk : EX w0 ev 0 m_MD_findMore 25 [(0, .ref 65), (1, .int (v1)), (2, .int (v2)), (3, .int (v3)), (4, .int (v4 + 1))] [] (hi) (hl) OUT := hk
  exact EX.pick [1, 2, 3, 4, 0] hk rfl
def B_MD_findMore_25 (N : Nat) (v1 : Int32) (v2 : Int32) (v3 : Int32) (v4 : Int32) (hi : HI) (hl : HL) : Option ((Int32 × HI × HL) ⊕ (Int32 × HI × HL)) :=
  if ((((v1 >>> (v4 &&& 31)) : Int32) &&& (1)) : Int32) = 0 then J_MD_findMore_44 N (v1) (v2) (v3) (v4) (hi) (hl) else if ((((v2 >>> (v4 &&& 31)) : Int32) &&& (1)) : Int32) = (1 : Int32) then J_MD_findMore_44 N (v1) (v2) (v3) (v4) (hi) (hl) else some (.inr (v4, hi, hl))
set_option maxRecDepth 10000 in
set_option maxHeartbeats 4000000 in
theorem bB_MD_findMore_25 (ev : EV) {N : Nat} {v1 : Int32} {v2 : Int32} {v3 : Int32} {v4 : Int32} {hi : HI} {hl : HL} {z : (Int32 × HI × HL) ⊕ (Int32 × HI × HL)} {OUT : Option Value × HI × HL} (h : B_MD_findMore_25 N v1 v2 v3 v4 hi hl = some z) (hk : Sum.elim (fun s => EX w0 ev 0 m_MD_findMore 25 [(0, .ref 65), (1, .int (v1)), (2, .int (v2)), (3, .int (v3)), (4, .int (s.1))] [] (s.2.1) (s.2.2) OUT) (fun x => EX w0 ev 0 m_MD_findMore 50 [(0, .ref 65), (1, .int (v1)), (2, .int (v2)), (3, .int (v3)), (4, .int (x.1))] [] (x.2.1) (x.2.2) OUT) z) : EX w0 ev 0 m_MD_findMore 25 [(0, .ref 65), (1, .int (v1)), (2, .int (v2)), (3, .int (v3)), (4, .int (v4))] [] (hi) (hl) OUT := by
  unfold B_MD_findMore_25 at h
  refine EX.iload_n (x := v1) rfl (List.mem_of_getElem? (i := 1) rfl) ?_
  refine EX.iload (x := v4) rfl (List.mem_of_getElem? (i := 4) rfl) ?_
  refine EX.go (i := .ishr) (len := 1) (pc1 := 29) (st1 := [.int ((v1 >>> (v4 &&& 31)))]) (hi1 := hi) (hl1 := hl) rfl ?_ (fun _ _ _ => rfl)
  refine EX.iconst (v := 1) rfl rfl ?_
  refine EX.go (i := .iand) (len := 1) (pc1 := 31) (st1 := [.int ((((v1 >>> (v4 &&& 31)) : Int32) &&& (1)))]) (hi1 := hi) (hl1 := hl) rfl ?_ (fun _ _ _ => rfl)
  rcases ite_some h with ⟨c3, h⟩ | ⟨c3, h⟩
  · refine EX.go (i := .ifCond .eq 13) (len := 3) (pc1 := 44) (st1 := []) (hi1 := hi) (hl1 := hl) rfl ?_ (fun _ _ _ => if_pos c3)
    refine EX.pick [0, 1, 2, 3, 4] ?_ rfl
    exact bJ_MD_findMore_44 ev h hk
  · refine EX.go (i := .ifCond .eq 13) (len := 3) (pc1 := 34) (st1 := []) (hi1 := hi) (hl1 := hl) rfl ?_ (fun _ _ _ => if_neg c3)
    refine EX.iload_n (x := v2) rfl (List.mem_of_getElem? (i := 2) rfl) ?_
    refine EX.iload (x := v4) rfl (List.mem_of_getElem? (i := 4) rfl) ?_
    refine EX.go (i := .ishr) (len := 1) (pc1 := 38) (st1 := [.int ((v2 >>> (v4 &&& 31)))]) (hi1 := hi) (hl1 := hl) rfl ?_ (fun _ _ _ => rfl)
    refine EX.iconst (v := 1) rfl rfl ?_
    refine EX.go (i := .iand) (len := 1) (pc1 := 40) (st1 := [.int ((((v2 >>> (v4 &&& 31)) : Int32) &&& (1)))]) (hi1 := hi) (hl1 := hl) rfl ?_ (fun _ _ _ => rfl)
    refine EX.iconst (v := 1) rfl rfl ?_
    rcases ite_some h with ⟨c4, h⟩ | ⟨c4, h⟩
    · refine EX.go (i := .if_icmp .ne 9) (len := 3) (pc1 := 44) (st1 := []) (hi1 := hi) (hl1 := hl) rfl ?_ (fun _ _ _ => if_pos c4)
      refine EX.pick [0, 1, 2, 3, 4] ?_ rfl
      exact bJ_MD_findMore_44 ev h hk
    · refine EX.go (i := .if_icmp .ne 9) (len := 3) (pc1 := 50) (st1 := []) (hi1 := hi) (hl1 := hl) rfl ?_ (fun _ _ _ => if_neg c4)
      obtain rfl := Option.some.inj h
      have hk : EX w0 ev 0 m_MD_findMore 50 [(0, .ref 65), (1, .int (v1)), (2, .int (v2)), (3, .int (v3)), (4, .int (v4))] [] (hi) (hl) OUT := hk
      exact EX.pick [0, 1, 2, 3, 4] hk rfl
def J_MD_findMore_122 (N : Nat) (v1 : Int32) (v2 : Int32) (v3 : Int32) (v4 : Int32) (v5 : Int32) (hi : HI) (hl : HL) : Option ((Int32 × Int32 × HI × HL) ⊕ (Int32 × HI × HL)) :=
  some (.inl (v3, v5 + 1, hi, hl))
set_option maxRecDepth 10000 in
set_option maxHeartbeats 4000000 in
theorem bJ_MD_findMore_122 (ev : EV) {N : Nat} {v1 : Int32} {v2 : Int32} {v3 : Int32} {v4 : Int32} {v5 : Int32} {hi : HI} {hl : HL} {z : (Int32 × Int32 × HI × HL) ⊕ (Int32 × HI × HL)} {OUT : Option Value × HI × HL} (h : J_MD_findMore_122 N v1 v2 v3 v4 v5 hi hl = some z) (hk : Sum.elim (fun s => EX w0 ev 0 m_MD_findMore 53 [(0, .ref 65), (1, .int (v1)), (2, .int (v2)), (3, .int (s.1)), (4, .int (v4)), (5, .int (s.2.1))] [] (s.2.2.1) (s.2.2.2) OUT) (fun x => EX w0 ev 0 m_MD_findMore 128 [(0, .ref 65), (1, .int (v1)), (2, .int (v2)), (3, .int (x.1))] [] (x.2.1) (x.2.2) OUT) z) : EX w0 ev 0 m_MD_findMore 122 [(0, .ref 65), (1, .int (v1)), (2, .int (v2)), (3, .int (v3)), (4, .int (v4)), (5, .int (v5))] [] (hi) (hl) OUT := by
  unfold J_MD_findMore_122 at h
  refine EX.iinc (x := v5) (v := v5 + 1) (req1 := [(5, .int (v5 + 1)), (0, .ref 65), (1, .int (v1)), (2, .int (v2)), (3, .int (v3)), (4, .int (v4))]) rfl rfl (List.mem_of_getElem? (i := 5) rfl) rfl rfl ?_
  refine EX.go (i := .goto (-72)) (len := 3) (pc1 := 53) (st1 := []) (hi1 := hi) (hl1 := hl) rfl ?_ (fun _ _ _ => rfl)
  obtain rfl := Option.some.inj h
  have hk : EX w0 ev 0 m_MD_findMore 53 [(0, .ref 65), (1, .int (v1)), (2, .int (v2)), (3, .int (v3)), (4, .int (v4)), (5, .int (v5 + 1))] [] (hi) (hl) OUT := hk
  exact EX.pick [1, 2, 3, 4, 5, 0] hk rfl
def J_MD_findMore_121 (N : Nat) (v1 : Int32) (v2 : Int32) (v4 : Int32) (v5 : Int32) (s0 : Int32) (hi : HI) (hl : HL) : Option ((Int32 × Int32 × HI × HL) ⊕ (Int32 × HI × HL)) :=
  J_MD_findMore_122 N (v1) (v2) (s0) (v4) (v5) (hi) (hl)
set_option maxRecDepth 10000 in
set_option maxHeartbeats 4000000 in
theorem bJ_MD_findMore_121 (ev : EV) {N : Nat} {v1 : Int32} {v2 : Int32} {v4 : Int32} {v5 : Int32} {s0 : Int32} {hi : HI} {hl : HL} {z : (Int32 × Int32 × HI × HL) ⊕ (Int32 × HI × HL)} {OUT : Option Value × HI × HL} (h : J_MD_findMore_121 N v1 v2 v4 v5 s0 hi hl = some z) (hk : Sum.elim (fun s => EX w0 ev 0 m_MD_findMore 53 [(0, .ref 65), (1, .int (v1)), (2, .int (v2)), (3, .int (s.1)), (4, .int (v4)), (5, .int (s.2.1))] [] (s.2.2.1) (s.2.2.2) OUT) (fun x => EX w0 ev 0 m_MD_findMore 128 [(0, .ref 65), (1, .int (v1)), (2, .int (v2)), (3, .int (x.1))] [] (x.2.1) (x.2.2) OUT) z) : EX w0 ev 0 m_MD_findMore 121 [(0, .ref 65), (1, .int (v1)), (2, .int (v2)), (4, .int (v4)), (5, .int (v5))] [.int (s0)] (hi) (hl) OUT := by
  unfold J_MD_findMore_121 at h
  refine EX.istore_n (req1 := [(3, .int (s0)), (0, .ref 65), (1, .int (v1)), (2, .int (v2)), (4, .int (v4)), (5, .int (v5))]) rfl rfl rfl ?_
  refine EX.pick [1, 2, 3, 0, 4, 5] ?_ rfl
  exact bJ_MD_findMore_122 ev h hk
def B_MD_findMore_53 (N : Nat) (v1 : Int32) (v2 : Int32) (v4 : Int32) (v3 : Int32) (v5 : Int32) (hi : HI) (hl : HL) : Option ((Int32 × Int32 × HI × HL) ⊕ (Int32 × HI × HL)) :=
  if (hi 65 15 : Int32) ≤ (v5 : Int32) then some (.inr (v3, hi, hl)) else if (v5 : Int32) < 0 ∨ 729 ≤ Int32.toNatClampNeg (v5) then none else if (((((hi 76 (Int32.toNatClampNeg (v5)) : Int32) >>> (v4 &&& 31)) : Int32) &&& (1)) : Int32) = (1 : Int32) then if (v5 : Int32) < 0 ∨ 729 ≤ Int32.toNatClampNeg (v5) then none else if (((hi 76 (Int32.toNatClampNeg (v5)) : Int32) ||| v1) : Int32) = (v1 : Int32) then if (v5 : Int32) < 0 ∨ 729 ≤ Int32.toNatClampNeg (v5) then none else if ((v2 ||| (hi 76 (Int32.toNatClampNeg (v5)))) : Int32) < 0 ∨ 65536 ≤ Int32.toNatClampNeg ((v2 ||| (hi 76 (Int32.toNatClampNeg (v5))))) then none else if (v3 : Int32) ≤ (((1 : Int32) + (hi 78 (Int32.toNatClampNeg ((v2 ||| (hi 76 (Int32.toNatClampNeg (v5)))))))) : Int32) then J_MD_findMore_121 N (v1) (v2) (v4) (v5) (v3) (hi) (hl) else J_MD_findMore_121 N (v1) (v2) (v4) (v5) (((1 : Int32) + (hi 78 (Int32.toNatClampNeg ((v2 ||| (hi 76 (Int32.toNatClampNeg (v5))))))))) (hi) (hl) else J_MD_findMore_122 N (v1) (v2) (v3) (v4) (v5) (hi) (hl) else J_MD_findMore_122 N (v1) (v2) (v3) (v4) (v5) (hi) (hl)
set_option maxRecDepth 10000 in
set_option maxHeartbeats 4000000 in
theorem bB_MD_findMore_53 (ev : EV) {N : Nat} {v1 : Int32} {v2 : Int32} {v4 : Int32} {v3 : Int32} {v5 : Int32} {hi : HI} {hl : HL} {z : (Int32 × Int32 × HI × HL) ⊕ (Int32 × HI × HL)} {OUT : Option Value × HI × HL} (h : B_MD_findMore_53 N v1 v2 v4 v3 v5 hi hl = some z) (hk : Sum.elim (fun s => EX w0 ev 0 m_MD_findMore 53 [(0, .ref 65), (1, .int (v1)), (2, .int (v2)), (3, .int (s.1)), (4, .int (v4)), (5, .int (s.2.1))] [] (s.2.2.1) (s.2.2.2) OUT) (fun x => EX w0 ev 0 m_MD_findMore 128 [(0, .ref 65), (1, .int (v1)), (2, .int (v2)), (3, .int (x.1))] [] (x.2.1) (x.2.2) OUT) z) : EX w0 ev 0 m_MD_findMore 53 [(0, .ref 65), (1, .int (v1)), (2, .int (v2)), (3, .int (v3)), (4, .int (v4)), (5, .int (v5))] [] (hi) (hl) OUT := by
  unfold B_MD_findMore_53 at h
  refine EX.iload (x := v5) rfl (List.mem_of_getElem? (i := 5) rfl) ?_
  refine EX.aload_n (x := 65) rfl (List.mem_of_getElem? (i := 0) rfl) ?_
  refine EX.go (i := .getfield 165) (len := 3) (pc1 := 59) (st1 := [.int (hi 65 15), .int (v5)]) (hi1 := hi) (hl1 := hl) rfl ?_ (fun _ _ _ => rfl)
  rcases ite_some h with ⟨c6, h⟩ | ⟨c6, h⟩
  · refine EX.go (i := .if_icmp .ge 69) (len := 3) (pc1 := 128) (st1 := []) (hi1 := hi) (hl1 := hl) rfl ?_ (fun _ _ _ => if_pos c6)
    obtain rfl := Option.some.inj h
    have hk : EX w0 ev 0 m_MD_findMore 128 [(0, .ref 65), (1, .int (v1)), (2, .int (v2)), (3, .int (v3))] [] (hi) (hl) OUT := hk
    exact EX.pick [0, 1, 2, 3] hk rfl
  · refine EX.go (i := .if_icmp .ge 69) (len := 3) (pc1 := 62) (st1 := []) (hi1 := hi) (hl1 := hl) rfl ?_ (fun _ _ _ => if_neg c6)
    refine EX.aload_n (x := 65) rfl (List.mem_of_getElem? (i := 0) rfl) ?_
    refine EX.go (i := .getfield 48) (len := 3) (pc1 := 66) (st1 := [.ref 76]) (hi1 := hi) (hl1 := hl) rfl ?_ (fun _ _ _ => rfl)
    refine EX.iload (x := v5) rfl (List.mem_of_getElem? (i := 5) rfl) ?_
    obtain ⟨g7, h⟩ := grd_some h
    refine EX.iaload rfl rfl g7 ?_
    refine EX.iload (x := v4) rfl (List.mem_of_getElem? (i := 4) rfl) ?_
    refine EX.go (i := .ishr) (len := 1) (pc1 := 72) (st1 := [.int (((hi 76 (Int32.toNatClampNeg (v5)) : Int32) >>> (v4 &&& 31)))]) (hi1 := hi) (hl1 := hl) rfl ?_ (fun _ _ _ => rfl)
    refine EX.iconst (v := 1) rfl rfl ?_
    refine EX.go (i := .iand) (len := 1) (pc1 := 74) (st1 := [.int (((((hi 76 (Int32.toNatClampNeg (v5)) : Int32) >>> (v4 &&& 31)) : Int32) &&& (1)))]) (hi1 := hi) (hl1 := hl) rfl ?_ (fun _ _ _ => rfl)
    refine EX.iconst (v := 1) rfl rfl ?_
    rcases ite_some h with ⟨c8, h⟩ | ⟨c8, h⟩
    · refine EX.go (i := .if_icmp .ne 47) (len := 3) (pc1 := 78) (st1 := []) (hi1 := hi) (hl1 := hl) rfl ?_ (fun _ _ _ => if_pos c8)
      refine EX.aload_n (x := 65) rfl (List.mem_of_getElem? (i := 0) rfl) ?_
      refine EX.go (i := .getfield 48) (len := 3) (pc1 := 82) (st1 := [.ref 76]) (hi1 := hi) (hl1 := hl) rfl ?_ (fun _ _ _ => rfl)
      refine EX.iload (x := v5) rfl (List.mem_of_getElem? (i := 5) rfl) ?_
      obtain ⟨g9, h⟩ := grd_some h
      refine EX.iaload rfl rfl g9 ?_
      refine EX.iload_n (x := v1) rfl (List.mem_of_getElem? (i := 1) rfl) ?_
      refine EX.go (i := .ior) (len := 1) (pc1 := 87) (st1 := [.int (((hi 76 (Int32.toNatClampNeg (v5)) : Int32) ||| v1))]) (hi1 := hi) (hl1 := hl) rfl ?_ (fun _ _ _ => rfl)
      refine EX.iload_n (x := v1) rfl (List.mem_of_getElem? (i := 1) rfl) ?_
      rcases ite_some h with ⟨c10, h⟩ | ⟨c10, h⟩
      · refine EX.go (i := .if_icmp .ne 34) (len := 3) (pc1 := 91) (st1 := []) (hi1 := hi) (hl1 := hl) rfl ?_ (fun _ _ _ => if_pos c10)
        refine EX.iconst (v := 1) rfl rfl ?_
        refine EX.aload_n (x := 65) rfl (List.mem_of_getElem? (i := 0) rfl) ?_
        refine EX.go (i := .getfield 56) (len := 3) (pc1 := 96) (st1 := [.ref 78, .int (1)]) (hi1 := hi) (hl1 := hl) rfl ?_ (fun _ _ _ => rfl)
        refine EX.iload_n (x := v2) rfl (List.mem_of_getElem? (i := 2) rfl) ?_
        refine EX.aload_n (x := 65) rfl (List.mem_of_getElem? (i := 0) rfl) ?_
        refine EX.go (i := .getfield 48) (len := 3) (pc1 := 101) (st1 := [.ref 76, .int (v2), .ref 78, .int (1)]) (hi1 := hi) (hl1 := hl) rfl ?_ (fun _ _ _ => rfl)
        refine EX.iload (x := v5) rfl (List.mem_of_getElem? (i := 5) rfl) ?_
        obtain ⟨g11, h⟩ := grd_some h
        refine EX.iaload rfl rfl g11 ?_
        refine EX.go (i := .ior) (len := 1) (pc1 := 105) (st1 := [.int ((v2 ||| (hi 76 (Int32.toNatClampNeg (v5))))), .ref 78, .int (1)]) (hi1 := hi) (hl1 := hl) rfl ?_ (fun _ _ _ => rfl)
        obtain ⟨g12, h⟩ := grd_some h
        refine EX.baload rfl rfl g12 ?_
        refine EX.go (i := .iadd) (len := 1) (pc1 := 107) (st1 := [.int (((1 : Int32) + (hi 78 (Int32.toNatClampNeg ((v2 ||| (hi 76 (Int32.toNatClampNeg (v5)))))))))]) (hi1 := hi) (hl1 := hl) rfl ?_ (fun _ _ _ => rfl)
        refine EX.istore (req1 := [(6, .int (((1 : Int32) + (hi 78 (Int32.toNatClampNeg ((v2 ||| (hi 76 (Int32.toNatClampNeg (v5)))))))))), (0, .ref 65), (1, .int (v1)), (2, .int (v2)), (3, .int (v3)), (4, .int (v4)), (5, .int (v5))]) rfl rfl rfl ?_
        refine EX.iload (x := ((1 : Int32) + (hi 78 (Int32.toNatClampNeg ((v2 ||| (hi 76 (Int32.toNatClampNeg (v5))))))))) rfl (List.mem_of_getElem? (i := 0) rfl) ?_
        refine EX.iload_n (x := v3) rfl (List.mem_of_getElem? (i := 4) rfl) ?_
        rcases ite_some h with ⟨c13, h⟩ | ⟨c13, h⟩
        · refine EX.go (i := .if_icmp .ge 8) (len := 3) (pc1 := 120) (st1 := []) (hi1 := hi) (hl1 := hl) rfl ?_ (fun _ _ _ => if_pos c13)
          refine EX.iload_n (x := v3) rfl (List.mem_of_getElem? (i := 4) rfl) ?_
          refine EX.pick [1, 2, 3, 5, 6] ?_ rfl
          exact bJ_MD_findMore_121 ev h hk
        · refine EX.go (i := .if_icmp .ge 8) (len := 3) (pc1 := 115) (st1 := []) (hi1 := hi) (hl1 := hl) rfl ?_ (fun _ _ _ => if_neg c13)
          refine EX.iload (x := ((1 : Int32) + (hi 78 (Int32.toNatClampNeg ((v2 ||| (hi 76 (Int32.toNatClampNeg (v5))))))))) rfl (List.mem_of_getElem? (i := 0) rfl) ?_
          refine EX.go (i := .goto 4) (len := 3) (pc1 := 121) (st1 := [.int (((1 : Int32) + (hi 78 (Int32.toNatClampNeg ((v2 ||| (hi 76 (Int32.toNatClampNeg (v5)))))))))]) (hi1 := hi) (hl1 := hl) rfl ?_ (fun _ _ _ => rfl)
          refine EX.pick [1, 2, 3, 5, 6] ?_ rfl
          exact bJ_MD_findMore_121 ev h hk
      · refine EX.go (i := .if_icmp .ne 34) (len := 3) (pc1 := 122) (st1 := []) (hi1 := hi) (hl1 := hl) rfl ?_ (fun _ _ _ => if_neg c10)
        refine EX.pick [0, 1, 2, 3, 4, 5] ?_ rfl
        exact bJ_MD_findMore_122 ev h hk
    · refine EX.go (i := .if_icmp .ne 47) (len := 3) (pc1 := 122) (st1 := []) (hi1 := hi) (hl1 := hl) rfl ?_ (fun _ _ _ => if_neg c8)
      refine EX.pick [0, 1, 2, 3, 4, 5] ?_ rfl
      exact bJ_MD_findMore_122 ev h hk
def B_MD_findMore_9 (N : Nat) (v1 : Int32) (v2 : Int32) (hi : HI) (hl : HL) : Option ((Int32 × HI × HL) ⊕ (HI × HL)) :=
  if (v2 : Int32) ≤ 0 then some (.inr (hi, hl)) else (lpN (fun s => B_MD_findMore_25 N (v1) ((((v2 - (1)) : Int32) &&& v1)) (100) s.1 s.2.1 s.2.2) N (0, hi, hl)).bind fun x5 => (lpN (fun s => B_MD_findMore_53 N (v1) ((((v2 - (1)) : Int32) &&& v1)) (x5.1) s.1 s.2.1 s.2.2.1 s.2.2.2) N (100, 0, x5.2.1, x5.2.2)).bind fun x14 => if ((((v2 - (1)) : Int32) &&& v1) : Int32) < 0 ∨ 65536 ≤ Int32.toNatClampNeg ((((v2 - (1)) : Int32) &&& v1)) then none else some (.inl ((((v2 - (1)) : Int32) &&& v1), wr (x14.2.1) 78 (Int32.toNatClampNeg ((((v2 - (1)) : Int32) &&& v1))) (Int32.toInt8 ((Int32.toInt8 (x14.1)).toInt32)).toInt32, x14.2.2))
set_option maxRecDepth 10000 in
set_option maxHeartbeats 4000000 in
theorem bB_MD_findMore_9 (ev : EV) {N : Nat} {v1 : Int32} {v2 : Int32} {hi : HI} {hl : HL} {z : (Int32 × HI × HL) ⊕ (HI × HL)} {OUT : Option Value × HI × HL} (h : B_MD_findMore_9 N v1 v2 hi hl = some z) (hk : Sum.elim (fun s => EX w0 ev 0 m_MD_findMore 9 [(0, .ref 65), (1, .int (v1)), (2, .int (s.1))] [] (s.2.1) (s.2.2) OUT) (fun x => EX w0 ev 0 m_MD_findMore 139 [] [] (x.1) (x.2) OUT) z) : EX w0 ev 0 m_MD_findMore 9 [(0, .ref 65), (1, .int (v1)), (2, .int (v2))] [] (hi) (hl) OUT := by
  unfold B_MD_findMore_9 at h
  refine EX.iload_n (x := v2) rfl (List.mem_of_getElem? (i := 2) rfl) ?_
  rcases ite_some h with ⟨c2, h⟩ | ⟨c2, h⟩
  · refine EX.go (i := .ifCond .le 129) (len := 3) (pc1 := 139) (st1 := []) (hi1 := hi) (hl1 := hl) rfl ?_ (fun _ _ _ => if_pos c2)
    obtain rfl := Option.some.inj h
    have hk : EX w0 ev 0 m_MD_findMore 139 [] [] (hi) (hl) OUT := hk
    exact EX.pick [] hk rfl
  · refine EX.go (i := .ifCond .le 129) (len := 3) (pc1 := 13) (st1 := []) (hi1 := hi) (hl1 := hl) rfl ?_ (fun _ _ _ => if_neg c2)
    refine EX.iload_n (x := v2) rfl (List.mem_of_getElem? (i := 2) rfl) ?_
    refine EX.iconst (v := 1) rfl rfl ?_
    refine EX.go (i := .isub) (len := 1) (pc1 := 16) (st1 := [.int ((v2 - (1)))]) (hi1 := hi) (hl1 := hl) rfl ?_ (fun _ _ _ => rfl)
    refine EX.iload_n (x := v1) rfl (List.mem_of_getElem? (i := 1) rfl) ?_
    refine EX.go (i := .iand) (len := 1) (pc1 := 18) (st1 := [.int ((((v2 - (1)) : Int32) &&& v1))]) (hi1 := hi) (hl1 := hl) rfl ?_ (fun _ _ _ => rfl)
    refine EX.istore_n (req1 := [(2, .int ((((v2 - (1)) : Int32) &&& v1))), (0, .ref 65), (1, .int (v1))]) rfl rfl rfl ?_
    refine EX.bipush (v := 100) rfl rfl ?_
    refine EX.istore_n (req1 := [(3, .int (100)), (2, .int ((((v2 - (1)) : Int32) &&& v1))), (0, .ref 65), (1, .int (v1))]) rfl rfl rfl ?_
    refine EX.iconst (v := 0) rfl rfl ?_
    refine EX.istore (req1 := [(4, .int (0)), (3, .int (100)), (2, .int ((((v2 - (1)) : Int32) &&& v1))), (0, .ref 65), (1, .int (v1))]) rfl rfl rfl ?_
    obtain ⟨x5, hx5, h⟩ := bnd_some h
    refine EX.pick [3, 4, 2, 1, 0] ?_ rfl
    refine lp_sound (f := fun s => B_MD_findMore_25 N (v1) ((((v2 - (1)) : Int32) &&& v1)) (100) s.1 s.2.1 s.2.2) (PS := fun s => EX w0 ev 0 m_MD_findMore 25 [(0, .ref 65), (1, .int (v1)), (2, .int ((((v2 - (1)) : Int32) &&& v1))), (3, .int (100)), (4, .int (s.1))] [] (s.2.1) (s.2.2) OUT) (PX := fun x => EX w0 ev 0 m_MD_findMore 50 [(0, .ref 65), (1, .int (v1)), (2, .int ((((v2 - (1)) : Int32) &&& v1))), (3, .int (100)), (4, .int (x.1))] [] (x.2.1) (x.2.2) OUT) ?_ N _ x5 hx5 ?_
    · exact fun s z hz hk => bB_MD_findMore_25 ev hz hk
    show EX w0 ev 0 m_MD_findMore 50 [(0, .ref 65), (1, .int (v1)), (2, .int ((((v2 - (1)) : Int32) &&& v1))), (3, .int (100)), (4, .int (x5.1))] [] (x5.2.1) (x5.2.2) OUT
    refine EX.iconst (v := 0) rfl rfl ?_
    refine EX.istore (req1 := [(5, .int (0)), (0, .ref 65), (1, .int (v1)), (2, .int ((((v2 - (1)) : Int32) &&& v1))), (3, .int (100)), (4, .int (x5.1))]) rfl rfl rfl ?_
    obtain ⟨x14, hx14, h⟩ := bnd_some h
    refine EX.pick [1, 2, 3, 4, 5, 0] ?_ rfl
    refine lp_sound (f := fun s => B_MD_findMore_53 N (v1) ((((v2 - (1)) : Int32) &&& v1)) (x5.1) s.1 s.2.1 s.2.2.1 s.2.2.2) (PS := fun s => EX w0 ev 0 m_MD_findMore 53 [(0, .ref 65), (1, .int (v1)), (2, .int ((((v2 - (1)) : Int32) &&& v1))), (3, .int (s.1)), (4, .int (x5.1)), (5, .int (s.2.1))] [] (s.2.2.1) (s.2.2.2) OUT) (PX := fun x => EX w0 ev 0 m_MD_findMore 128 [(0, .ref 65), (1, .int (v1)), (2, .int ((((v2 - (1)) : Int32) &&& v1))), (3, .int (x.1))] [] (x.2.1) (x.2.2) OUT) ?_ N _ x14 hx14 ?_
    · exact fun s z hz hk => bB_MD_findMore_53 ev hz hk
    show EX w0 ev 0 m_MD_findMore 128 [(0, .ref 65), (1, .int (v1)), (2, .int ((((v2 - (1)) : Int32) &&& v1))), (3, .int (x14.1))] [] (x14.2.1) (x14.2.2) OUT
    refine EX.aload_n (x := 65) rfl (List.mem_of_getElem? (i := 0) rfl) ?_
    refine EX.go (i := .getfield 56) (len := 3) (pc1 := 132) (st1 := [.ref 78]) (hi1 := x14.2.1) (hl1 := x14.2.2) rfl ?_ (fun _ _ _ => rfl)
    refine EX.iload_n (x := (((v2 - (1)) : Int32) &&& v1)) rfl (List.mem_of_getElem? (i := 2) rfl) ?_
    refine EX.iload_n (x := x14.1) rfl (List.mem_of_getElem? (i := 3) rfl) ?_
    refine EX.go (i := .i2b) (len := 1) (pc1 := 135) (st1 := [.int ((Int32.toInt8 (x14.1)).toInt32), .int ((((v2 - (1)) : Int32) &&& v1)), .ref 78]) (hi1 := x14.2.1) (hl1 := x14.2.2) rfl ?_ (fun _ _ _ => rfl)
    obtain ⟨g15, h⟩ := grd_some h
    refine EX.bastore rfl rfl g15 ?_
    refine EX.go (i := .goto (-127)) (len := 3) (pc1 := 9) (st1 := []) (hi1 := wr (x14.2.1) 78 (Int32.toNatClampNeg ((((v2 - (1)) : Int32) &&& v1))) (Int32.toInt8 ((Int32.toInt8 (x14.1)).toInt32)).toInt32) (hl1 := x14.2.2) rfl ?_ (fun _ _ _ => rfl)
    obtain rfl := Option.some.inj h
    have hk : EX w0 ev 0 m_MD_findMore 9 [(0, .ref 65), (1, .int (v1)), (2, .int ((((v2 - (1)) : Int32) &&& v1)))] [] (wr (x14.2.1) 78 (Int32.toNatClampNeg ((((v2 - (1)) : Int32) &&& v1))) (Int32.toInt8 ((Int32.toInt8 (x14.1)).toInt32)).toInt32) (x14.2.2) OUT := hk
    exact EX.pick [0, 1, 2] hk rfl
def f_MD_findMore (N : Nat) (p1 : Int32) (hi : HI) (hl : HL) : Option (Unit × HI × HL) :=
  if (p1 : Int32) < 0 ∨ 65536 ≤ Int32.toNatClampNeg (p1) then none else (lpN (fun s => B_MD_findMore_9 N (p1) s.1 s.2.1 s.2.2) N (p1, wr (hi) 78 (Int32.toNatClampNeg (p1)) (Int32.toInt8 (0)).toInt32, hl)).bind fun x16 => some ((), x16.1, x16.2)
set_option maxRecDepth 10000 in
set_option maxHeartbeats 4000000 in
theorem b_MD_findMore (ev : EV) {N : Nat} {p1 : Int32} {hi : HI} {hl : HL} {o : Unit × HI × HL} (h : f_MD_findMore N p1 hi hl = some o) : EM w0 ev 1 m_MD_findMore [.ref 65, .int (p1)] hi hl (oV o) := by
  unfold f_MD_findMore at h
  refine EM.of rfl ?_
  show EX w0 ev 0 m_MD_findMore 0 [(0, .ref 65), (1, .int (p1))] [] (hi) (hl) (oV o)
  refine EX.aload_n (x := 65) rfl (List.mem_of_getElem? (i := 0) rfl) ?_
  refine EX.go (i := .getfield 56) (len := 3) (pc1 := 4) (st1 := [.ref 78]) (hi1 := hi) (hl1 := hl) rfl ?_ (fun _ _ _ => rfl)
  refine EX.iload_n (x := p1) rfl (List.mem_of_getElem? (i := 1) rfl) ?_
  refine EX.iconst (v := 0) rfl rfl ?_
  obtain ⟨g1, h⟩ := grd_some h
  refine EX.bastore rfl rfl g1 ?_
  refine EX.iload_n (x := p1) rfl (List.mem_of_getElem? (i := 1) rfl) ?_
  refine EX.istore_n (req1 := [(2, .int (p1)), (0, .ref 65), (1, .int (p1))]) rfl rfl rfl ?_
  obtain ⟨x16, hx16, h⟩ := bnd_some h
  refine EX.pick [1, 2, 0] ?_ rfl
  refine lp_sound (f := fun s => B_MD_findMore_9 N (p1) s.1 s.2.1 s.2.2) (PS := fun s => EX w0 ev 0 m_MD_findMore 9 [(0, .ref 65), (1, .int (p1)), (2, .int (s.1))] [] (s.2.1) (s.2.2) (oV o)) (PX := fun x => EX w0 ev 0 m_MD_findMore 139 [] [] (x.1) (x.2) (oV o)) ?_ N _ x16 hx16 ?_
  · exact fun s z hz hk => bB_MD_findMore_9 ev hz hk
  show EX w0 ev 0 m_MD_findMore 139 [] [] (x16.1) (x16.2) (oV o)
  obtain rfl := Option.some.inj h
  exact EX.vret rfl rfl
def J_MD_findFrame_51 (N : Nat) (v1 : Int32) (v2 : Int32) (v3 : Int32) (v4 : Int32) (v5 : Int32) (hi : HI) (hl : HL) : Option ((Int32 × HI × HL) ⊕ (Int32 × HI × HL)) :=
  some (.inl (v5 + 1, hi, hl))
set_option maxRecDepth 10000 in
set_option maxHeartbeats 4000000 in
theorem bJ_MD_findFrame_51 (ev : EV) {N : Nat} {v1 : Int32} {v2 : Int32} {v3 : Int32} {v4 : Int32} {v5 : Int32} {hi : HI} {hl : HL} {z : (Int32 × HI × HL) ⊕ (Int32 × HI × HL)} {OUT : Option Value × HI × HL} (h : J_MD_findFrame_51 N v1 v2 v3 v4 v5 hi hl = some z) (hk : Sum.elim (fun s => EX w0 ev 4 m_MD_findFrame 32 [(0, .ref 65), (1, .int (v1)), (2, .int (v2)), (3, .int (v3)), (4, .int (v4)), (5, .int (s.1))] [] (s.2.1) (s.2.2) OUT) (fun x => EX w0 ev 4 m_MD_findFrame 57 [(0, .ref 65), (1, .int (v1)), (2, .int (v2)), (3, .int (v3)), (4, .int (v4)), (5, .int (x.1))] [] (x.2.1) (x.2.2) OUT) z) : EX w0 ev 4 m_MD_findFrame 51 [(0, .ref 65), (1, .int (v1)), (2, .int (v2)), (3, .int (v3)), (4, .int (v4)), (5, .int (v5))] [] (hi) (hl) OUT := by
  unfold J_MD_findFrame_51 at h
  refine EX.iinc (x := v5) (v := v5 + 1) (req1 := [(5, .int (v5 + 1)), (0, .ref 65), (1, .int (v1)), (2, .int (v2)), (3, .int (v3)), (4, .int (v4))]) rfl rfl (List.mem_of_getElem? (i := 5) rfl) rfl rfl ?_
  refine EX.go (i := .goto (-22)) (len := 3) (pc1 := 32) (st1 := []) (hi1 := hi) (hl1 := hl) rfl ?_ (fun _ _ _ => rfl)
  obtain rfl := Option.some.inj h
  have hk : EX w0 ev 4 m_MD_findFrame 32 [(0, .ref 65), (1, .int (v1)), (2, .int (v2)), (3, .int (v3)), (4, .int (v4)), (5, .int (v5 + 1))] [] (hi) (hl) OUT := hk
  exact EX.pick [1, 2, 3, 4, 5, 0] hk rfl
def B_MD_findFrame_32 (N : Nat) (v1 : Int32) (v2 : Int32) (v3 : Int32) (v4 : Int32) (v5 : Int32) (hi : HI) (hl : HL) : Option ((Int32 × HI × HL) ⊕ (Int32 × HI × HL)) :=
  if ((((v1 >>> (v5 &&& 31)) : Int32) &&& (1)) : Int32) = 0 then J_MD_findFrame_51 N (v1) (v2) (v3) (v4) (v5) (hi) (hl) else if ((((v3 >>> (v5 &&& 31)) : Int32) &&& (1)) : Int32) = (1 : Int32) then J_MD_findFrame_51 N (v1) (v2) (v3) (v4) (v5) (hi) (hl) else some (.inr (v5, hi, hl))
set_option maxRecDepth 10000 in
set_option maxHeartbeats 4000000 in
theorem bB_MD_findFrame_32 (ev : EV) {N : Nat} {v1 : Int32} {v2 : Int32} {v3 : Int32} {v4 : Int32} {v5 : Int32} {hi : HI} {hl : HL} {z : (Int32 × HI × HL) ⊕ (Int32 × HI × HL)} {OUT : Option Value × HI × HL} (h : B_MD_findFrame_32 N v1 v2 v3 v4 v5 hi hl = some z) (hk : Sum.elim (fun s => EX w0 ev 4 m_MD_findFrame 32 [(0, .ref 65), (1, .int (v1)), (2, .int (v2)), (3, .int (v3)), (4, .int (v4)), (5, .int (s.1))] [] (s.2.1) (s.2.2) OUT) (fun x => EX w0 ev 4 m_MD_findFrame 57 [(0, .ref 65), (1, .int (v1)), (2, .int (v2)), (3, .int (v3)), (4, .int (v4)), (5, .int (x.1))] [] (x.2.1) (x.2.2) OUT) z) : EX w0 ev 4 m_MD_findFrame 32 [(0, .ref 65), (1, .int (v1)), (2, .int (v2)), (3, .int (v3)), (4, .int (v4)), (5, .int (v5))] [] (hi) (hl) OUT := by
  unfold B_MD_findFrame_32 at h
  refine EX.iload_n (x := v1) rfl (List.mem_of_getElem? (i := 1) rfl) ?_
  refine EX.iload (x := v5) rfl (List.mem_of_getElem? (i := 5) rfl) ?_
  refine EX.go (i := .ishr) (len := 1) (pc1 := 36) (st1 := [.int ((v1 >>> (v5 &&& 31)))]) (hi1 := hi) (hl1 := hl) rfl ?_ (fun _ _ _ => rfl)
  refine EX.iconst (v := 1) rfl rfl ?_
  refine EX.go (i := .iand) (len := 1) (pc1 := 38) (st1 := [.int ((((v1 >>> (v5 &&& 31)) : Int32) &&& (1)))]) (hi1 := hi) (hl1 := hl) rfl ?_ (fun _ _ _ => rfl)
  rcases ite_some h with ⟨c5, h⟩ | ⟨c5, h⟩
  · refine EX.go (i := .ifCond .eq 13) (len := 3) (pc1 := 51) (st1 := []) (hi1 := hi) (hl1 := hl) rfl ?_ (fun _ _ _ => if_pos c5)
    refine EX.pick [0, 1, 2, 3, 4, 5] ?_ rfl
    exact bJ_MD_findFrame_51 ev h hk
  · refine EX.go (i := .ifCond .eq 13) (len := 3) (pc1 := 41) (st1 := []) (hi1 := hi) (hl1 := hl) rfl ?_ (fun _ _ _ => if_neg c5)
    refine EX.iload_n (x := v3) rfl (List.mem_of_getElem? (i := 3) rfl) ?_
    refine EX.iload (x := v5) rfl (List.mem_of_getElem? (i := 5) rfl) ?_
    refine EX.go (i := .ishr) (len := 1) (pc1 := 45) (st1 := [.int ((v3 >>> (v5 &&& 31)))]) (hi1 := hi) (hl1 := hl) rfl ?_ (fun _ _ _ => rfl)
    refine EX.iconst (v := 1) rfl rfl ?_
    refine EX.go (i := .iand) (len := 1) (pc1 := 47) (st1 := [.int ((((v3 >>> (v5 &&& 31)) : Int32) &&& (1)))]) (hi1 := hi) (hl1 := hl) rfl ?_ (fun _ _ _ => rfl)
    refine EX.iconst (v := 1) rfl rfl ?_
    rcases ite_some h with ⟨c6, h⟩ | ⟨c6, h⟩
    · refine EX.go (i := .if_icmp .ne 9) (len := 3) (pc1 := 51) (st1 := []) (hi1 := hi) (hl1 := hl) rfl ?_ (fun _ _ _ => if_pos c6)
      refine EX.pick [0, 1, 2, 3, 4, 5] ?_ rfl
      exact bJ_MD_findFrame_51 ev h hk
    · refine EX.go (i := .if_icmp .ne 9) (len := 3) (pc1 := 57) (st1 := []) (hi1 := hi) (hl1 := hl) rfl ?_ (fun _ _ _ => if_neg c6)
      obtain rfl := Option.some.inj h
      have hk : EX w0 ev 4 m_MD_findFrame 57 [(0, .ref 65), (1, .int (v1)), (2, .int (v2)), (3, .int (v3)), (4, .int (v4)), (5, .int (v5))] [] (hi) (hl) OUT := hk
      exact EX.pick [0, 1, 2, 3, 4, 5] hk rfl
def J_MD_findFrame_111 (N : Nat) (v1 : Int32) (v2 : Int32) (v3 : Int32) (v4 : Int32) (v5 : Int32) (v6 : Int32) (hi : HI) (hl : HL) : Option ((Int32 × HI × HL) ⊕ (Int32 × HI × HL)) :=
  some (.inl (v6 + 1, hi, hl))
set_option maxRecDepth 10000 in
set_option maxHeartbeats 4000000 in
theorem bJ_MD_findFrame_111 (ev : EV) {N : Nat} {v1 : Int32} {v2 : Int32} {v3 : Int32} {v4 : Int32} {v5 : Int32} {v6 : Int32} {hi : HI} {hl : HL} {z : (Int32 × HI × HL) ⊕ (Int32 × HI × HL)} {OUT : Option Value × HI × HL} (h : J_MD_findFrame_111 N v1 v2 v3 v4 v5 v6 hi hl = some z) (hk : Sum.elim (fun s => EX w0 ev 4 m_MD_findFrame 60 [(0, .ref 65), (1, .int (v1)), (2, .int (v2)), (3, .int (v3)), (4, .int (v4)), (5, .int (v5)), (6, .int (s.1))] [] (s.2.1) (s.2.2) OUT) (fun x => EX w0 ev 4 m_MD_findFrame 117 [(0, .ref 65), (1, .int (v1)), (2, .int (v2)), (3, .int (v3)), (4, .int (v4)), (6, .int (x.1))] [] (x.2.1) (x.2.2) OUT) z) : EX w0 ev 4 m_MD_findFrame 111 [(0, .ref 65), (1, .int (v1)), (2, .int (v2)), (3, .int (v3)), (4, .int (v4)), (5, .int (v5)), (6, .int (v6))] [] (hi) (hl) OUT := by
  unfold J_MD_findFrame_111 at h
  refine EX.iinc (x := v6) (v := v6 + 1) (req1 := [(6, .int (v6 + 1)), (0, .ref 65), (1, .int (v1)), (2, .int (v2)), (3, .int (v3)), (4, .int (v4)), (5, .int (v5))]) rfl rfl (List.mem_of_getElem? (i := 6) rfl) rfl rfl ?_
  refine EX.go (i := .goto (-54)) (len := 3) (pc1 := 60) (st1 := []) (hi1 := hi) (hl1 := hl) rfl ?_ (fun _ _ _ => rfl)
  obtain rfl := Option.some.inj h
  have hk : EX w0 ev 4 m_MD_findFrame 60 [(0, .ref 65), (1, .int (v1)), (2, .int (v2)), (3, .int (v3)), (4, .int (v4)), (5, .int (v5)), (6, .int (v6 + 1))] [] (hi) (hl) OUT := hk
  exact EX.pick [1, 2, 3, 4, 5, 6, 0] hk rfl
def B_MD_findFrame_60 (N : Nat) (v1 : Int32) (v2 : Int32) (v3 : Int32) (v4 : Int32) (v5 : Int32) (v6 : Int32) (hi : HI) (hl : HL) : Option ((Int32 × HI × HL) ⊕ (Int32 × HI × HL)) :=
  if (v6 : Int32) < 0 ∨ 729 ≤ Int32.toNatClampNeg (v6) then none else if (((((hi 74 (Int32.toNatClampNeg (v6)) : Int32) >>> (v5 &&& 31)) : Int32) &&& (1)) : Int32) = 0 then J_MD_findFrame_111 N (v1) (v2) (v3) (v4) (v5) (v6) (hi) (hl) else if (v6 : Int32) < 0 ∨ 729 ≤ Int32.toNatClampNeg (v6) then none else if (((hi 74 (Int32.toNatClampNeg (v6)) : Int32) ||| v1) : Int32) = (v1 : Int32) then if (v6 : Int32) < 0 ∨ 729 ≤ Int32.toNatClampNeg (v6) then none else if ((v3 ||| (hi 74 (Int32.toNatClampNeg (v6)))) : Int32) < 0 ∨ 65536 ≤ Int32.toNatClampNeg ((v3 ||| (hi 74 (Int32.toNatClampNeg (v6))))) then none else if (hi 78 (Int32.toNatClampNeg ((v3 ||| (hi 74 (Int32.toNatClampNeg (v6)))))) : Int32) = ((((v2 - v4) : Int32) - (1)) : Int32) then some (.inr (v6, hi, hl)) else J_MD_findFrame_111 N (v1) (v2) (v3) (v4) (v5) (v6) (hi) (hl) else J_MD_findFrame_111 N (v1) (v2) (v3) (v4) (v5) (v6) (hi) (hl)
set_option maxRecDepth 10000 in
set_option maxHeartbeats 4000000 in
theorem bB_MD_findFrame_60 (ev : EV) {N : Nat} {v1 : Int32} {v2 : Int32} {v3 : Int32} {v4 : Int32} {v5 : Int32} {v6 : Int32} {hi : HI} {hl : HL} {z : (Int32 × HI × HL) ⊕ (Int32 × HI × HL)} {OUT : Option Value × HI × HL} (h : B_MD_findFrame_60 N v1 v2 v3 v4 v5 v6 hi hl = some z) (hk : Sum.elim (fun s => EX w0 ev 4 m_MD_findFrame 60 [(0, .ref 65), (1, .int (v1)), (2, .int (v2)), (3, .int (v3)), (4, .int (v4)), (5, .int (v5)), (6, .int (s.1))] [] (s.2.1) (s.2.2) OUT) (fun x => EX w0 ev 4 m_MD_findFrame 117 [(0, .ref 65), (1, .int (v1)), (2, .int (v2)), (3, .int (v3)), (4, .int (v4)), (6, .int (x.1))] [] (x.2.1) (x.2.2) OUT) z) : EX w0 ev 4 m_MD_findFrame 60 [(0, .ref 65), (1, .int (v1)), (2, .int (v2)), (3, .int (v3)), (4, .int (v4)), (5, .int (v5)), (6, .int (v6))] [] (hi) (hl) OUT := by
  unfold B_MD_findFrame_60 at h
  refine EX.aload_n (x := 65) rfl (List.mem_of_getElem? (i := 0) rfl) ?_
  refine EX.go (i := .getfield 41) (len := 3) (pc1 := 64) (st1 := [.ref 74]) (hi1 := hi) (hl1 := hl) rfl ?_ (fun _ _ _ => rfl)
  refine EX.iload (x := v6) rfl (List.mem_of_getElem? (i := 6) rfl) ?_
  obtain ⟨g8, h⟩ := grd_some h
  refine EX.iaload rfl rfl g8 ?_
  refine EX.iload (x := v5) rfl (List.mem_of_getElem? (i := 5) rfl) ?_
  refine EX.go (i := .ishr) (len := 1) (pc1 := 70) (st1 := [.int (((hi 74 (Int32.toNatClampNeg (v6)) : Int32) >>> (v5 &&& 31)))]) (hi1 := hi) (hl1 := hl) rfl ?_ (fun _ _ _ => rfl)
  refine EX.iconst (v := 1) rfl rfl ?_
  refine EX.go (i := .iand) (len := 1) (pc1 := 72) (st1 := [.int (((((hi 74 (Int32.toNatClampNeg (v6)) : Int32) >>> (v5 &&& 31)) : Int32) &&& (1)))]) (hi1 := hi) (hl1 := hl) rfl ?_ (fun _ _ _ => rfl)
  rcases ite_some h with ⟨c9, h⟩ | ⟨c9, h⟩
  · refine EX.go (i := .ifCond .eq 39) (len := 3) (pc1 := 111) (st1 := []) (hi1 := hi) (hl1 := hl) rfl ?_ (fun _ _ _ => if_pos c9)
    refine EX.pick [0, 1, 2, 3, 4, 5, 6] ?_ rfl
    exact bJ_MD_findFrame_111 ev h hk
  · refine EX.go (i := .ifCond .eq 39) (len := 3) (pc1 := 75) (st1 := []) (hi1 := hi) (hl1 := hl) rfl ?_ (fun _ _ _ => if_neg c9)
    refine EX.aload_n (x := 65) rfl (List.mem_of_getElem? (i := 0) rfl) ?_
    refine EX.go (i := .getfield 41) (len := 3) (pc1 := 79) (st1 := [.ref 74]) (hi1 := hi) (hl1 := hl) rfl ?_ (fun _ _ _ => rfl)
    refine EX.iload (x := v6) rfl (List.mem_of_getElem? (i := 6) rfl) ?_
    obtain ⟨g10, h⟩ := grd_some h
    refine EX.iaload rfl rfl g10 ?_
    refine EX.iload_n (x := v1) rfl (List.mem_of_getElem? (i := 1) rfl) ?_
    refine EX.go (i := .ior) (len := 1) (pc1 := 84) (st1 := [.int (((hi 74 (Int32.toNatClampNeg (v6)) : Int32) ||| v1))]) (hi1 := hi) (hl1 := hl) rfl ?_ (fun _ _ _ => rfl)
    refine EX.iload_n (x := v1) rfl (List.mem_of_getElem? (i := 1) rfl) ?_
    rcases ite_some h with ⟨c11, h⟩ | ⟨c11, h⟩
    · refine EX.go (i := .if_icmp .ne 26) (len := 3) (pc1 := 88) (st1 := []) (hi1 := hi) (hl1 := hl) rfl ?_ (fun _ _ _ => if_pos c11)
      refine EX.aload_n (x := 65) rfl (List.mem_of_getElem? (i := 0) rfl) ?_
      refine EX.go (i := .getfield 56) (len := 3) (pc1 := 92) (st1 := [.ref 78]) (hi1 := hi) (hl1 := hl) rfl ?_ (fun _ _ _ => rfl)
      refine EX.iload_n (x := v3) rfl (List.mem_of_getElem? (i := 3) rfl) ?_
      refine EX.aload_n (x := 65) rfl (List.mem_of_getElem? (i := 0) rfl) ?_
      refine EX.go (i := .getfield 41) (len := 3) (pc1 := 97) (st1 := [.ref 74, .int (v3), .ref 78]) (hi1 := hi) (hl1 := hl) rfl ?_ (fun _ _ _ => rfl)
      refine EX.iload (x := v6) rfl (List.mem_of_getElem? (i := 6) rfl) ?_
      obtain ⟨g12, h⟩ := grd_some h
      refine EX.iaload rfl rfl g12 ?_
      refine EX.go (i := .ior) (len := 1) (pc1 := 101) (st1 := [.int ((v3 ||| (hi 74 (Int32.toNatClampNeg (v6))))), .ref 78]) (hi1 := hi) (hl1 := hl) rfl ?_ (fun _ _ _ => rfl)
      obtain ⟨g13, h⟩ := grd_some h
      refine EX.baload rfl rfl g13 ?_
      refine EX.iload_n (x := v2) rfl (List.mem_of_getElem? (i := 2) rfl) ?_
      refine EX.iload (x := v4) rfl (List.mem_of_getElem? (i := 4) rfl) ?_
      refine EX.go (i := .isub) (len := 1) (pc1 := 106) (st1 := [.int ((v2 - v4)), .int (hi 78 (Int32.toNatClampNeg ((v3 ||| (hi 74 (Int32.toNatClampNeg (v6)))))))]) (hi1 := hi) (hl1 := hl) rfl ?_ (fun _ _ _ => rfl)
      refine EX.iconst (v := 1) rfl rfl ?_
      refine EX.go (i := .isub) (len := 1) (pc1 := 108) (st1 := [.int ((((v2 - v4) : Int32) - (1))), .int (hi 78 (Int32.toNatClampNeg ((v3 ||| (hi 74 (Int32.toNatClampNeg (v6)))))))]) (hi1 := hi) (hl1 := hl) rfl ?_ (fun _ _ _ => rfl)
      rcases ite_some h with ⟨c14, h⟩ | ⟨c14, h⟩
      · refine EX.go (i := .if_icmp .eq 9) (len := 3) (pc1 := 117) (st1 := []) (hi1 := hi) (hl1 := hl) rfl ?_ (fun _ _ _ => if_pos c14)
        obtain rfl := Option.some.inj h
        have hk : EX w0 ev 4 m_MD_findFrame 117 [(0, .ref 65), (1, .int (v1)), (2, .int (v2)), (3, .int (v3)), (4, .int (v4)), (6, .int (v6))] [] (hi) (hl) OUT := hk
        exact EX.pick [0, 1, 2, 3, 4, 6] hk rfl
      · refine EX.go (i := .if_icmp .eq 9) (len := 3) (pc1 := 111) (st1 := []) (hi1 := hi) (hl1 := hl) rfl ?_ (fun _ _ _ => if_neg c14)
        refine EX.pick [0, 1, 2, 3, 4, 5, 6] ?_ rfl
        exact bJ_MD_findFrame_111 ev h hk
    · refine EX.go (i := .if_icmp .ne 26) (len := 3) (pc1 := 111) (st1 := []) (hi1 := hi) (hl1 := hl) rfl ?_ (fun _ _ _ => if_neg c11)
      refine EX.pick [0, 1, 2, 3, 4, 5, 6] ?_ rfl
      exact bJ_MD_findFrame_111 ev h hk
def B_MD_findFrame_23 (N : Nat) (v1 : Int32) (v2 : Int32) (v3 : Int32) (v4 : Int32) (hi : HI) (hl : HL) : Option ((Int32 × Int32 × HI × HL) ⊕ (HI × HL)) :=
  if (v2 : Int32) ≤ (v4 : Int32) then some (.inr (hi, hl)) else (lpN (fun s => B_MD_findFrame_32 N (v1) (v2) (v3) (v4) s.1 s.2.1 s.2.2) N (0, hi, hl)).bind fun x7 => (lpN (fun s => B_MD_findFrame_60 N (v1) (v2) (v3) (v4) (x7.1) s.1 s.2.1 s.2.2) N (0, x7.2.1, x7.2.2)).bind fun x15 => if (v4 : Int32) < 0 ∨ 16 ≤ Int32.toNatClampNeg (v4) then none else if (x15.1 : Int32) < 0 ∨ 729 ≤ Int32.toNatClampNeg (x15.1) then none else some (.inl ((v3 ||| ((wr (x15.2.1) 79 (Int32.toNatClampNeg (v4)) (x15.1)) 74 (Int32.toNatClampNeg (x15.1)))), v4 + 1, wr (x15.2.1) 79 (Int32.toNatClampNeg (v4)) (x15.1), x15.2.2))
set_option maxRecDepth 10000 in
set_option maxHeartbeats 4000000 in
theorem bB_MD_findFrame_23 (ev : EV) {N : Nat} {v1 : Int32} {v2 : Int32} {v3 : Int32} {v4 : Int32} {hi : HI} {hl : HL} {z : (Int32 × Int32 × HI × HL) ⊕ (HI × HL)} {OUT : Option Value × HI × HL} (h : B_MD_findFrame_23 N v1 v2 v3 v4 hi hl = some z) (hk : Sum.elim (fun s => EX w0 ev 4 m_MD_findFrame 23 [(0, .ref 65), (1, .int (v1)), (2, .int (v2)), (3, .int (s.1)), (4, .int (s.2.1))] [] (s.2.2.1) (s.2.2.2) OUT) (fun x => EX w0 ev 4 m_MD_findFrame 142 [(2, .int (v2))] [] (x.1) (x.2) OUT) z) : EX w0 ev 4 m_MD_findFrame 23 [(0, .ref 65), (1, .int (v1)), (2, .int (v2)), (3, .int (v3)), (4, .int (v4))] [] (hi) (hl) OUT := by
  unfold B_MD_findFrame_23 at h
  refine EX.iload (x := v4) rfl (List.mem_of_getElem? (i := 4) rfl) ?_
  refine EX.iload_n (x := v2) rfl (List.mem_of_getElem? (i := 2) rfl) ?_
  rcases ite_some h with ⟨c4, h⟩ | ⟨c4, h⟩
  · refine EX.go (i := .if_icmp .ge 116) (len := 3) (pc1 := 142) (st1 := []) (hi1 := hi) (hl1 := hl) rfl ?_ (fun _ _ _ => if_pos c4)
    obtain rfl := Option.some.inj h
    have hk : EX w0 ev 4 m_MD_findFrame 142 [(2, .int (v2))] [] (hi) (hl) OUT := hk
    exact EX.pick [2] hk rfl
  · refine EX.go (i := .if_icmp .ge 116) (len := 3) (pc1 := 29) (st1 := []) (hi1 := hi) (hl1 := hl) rfl ?_ (fun _ _ _ => if_neg c4)
    refine EX.iconst (v := 0) rfl rfl ?_
    refine EX.istore (req1 := [(5, .int (0)), (0, .ref 65), (1, .int (v1)), (2, .int (v2)), (3, .int (v3)), (4, .int (v4))]) rfl rfl rfl ?_
    obtain ⟨x7, hx7, h⟩ := bnd_some h
    refine EX.pick [1, 2, 3, 4, 5, 0] ?_ rfl
    refine lp_sound (f := fun s => B_MD_findFrame_32 N (v1) (v2) (v3) (v4) s.1 s.2.1 s.2.2) (PS := fun s => EX w0 ev 4 m_MD_findFrame 32 [(0, .ref 65), (1, .int (v1)), (2, .int (v2)), (3, .int (v3)), (4, .int (v4)), (5, .int (s.1))] [] (s.2.1) (s.2.2) OUT) (PX := fun x => EX w0 ev 4 m_MD_findFrame 57 [(0, .ref 65), (1, .int (v1)), (2, .int (v2)), (3, .int (v3)), (4, .int (v4)), (5, .int (x.1))] [] (x.2.1) (x.2.2) OUT) ?_ N _ x7 hx7 ?_
    · exact fun s z hz hk => bB_MD_findFrame_32 ev hz hk
    show EX w0 ev 4 m_MD_findFrame 57 [(0, .ref 65), (1, .int (v1)), (2, .int (v2)), (3, .int (v3)), (4, .int (v4)), (5, .int (x7.1))] [] (x7.2.1) (x7.2.2) OUT
    refine EX.iconst (v := 0) rfl rfl ?_
    refine EX.istore (req1 := [(6, .int (0)), (0, .ref 65), (1, .int (v1)), (2, .int (v2)), (3, .int (v3)), (4, .int (v4)), (5, .int (x7.1))]) rfl rfl rfl ?_
    obtain ⟨x15, hx15, h⟩ := bnd_some h
    refine EX.pick [1, 2, 3, 4, 5, 6, 0] ?_ rfl
    refine lp_sound (f := fun s => B_MD_findFrame_60 N (v1) (v2) (v3) (v4) (x7.1) s.1 s.2.1 s.2.2) (PS := fun s => EX w0 ev 4 m_MD_findFrame 60 [(0, .ref 65), (1, .int (v1)), (2, .int (v2)), (3, .int (v3)), (4, .int (v4)), (5, .int (x7.1)), (6, .int (s.1))] [] (s.2.1) (s.2.2) OUT) (PX := fun x => EX w0 ev 4 m_MD_findFrame 117 [(0, .ref 65), (1, .int (v1)), (2, .int (v2)), (3, .int (v3)), (4, .int (v4)), (6, .int (x.1))] [] (x.2.1) (x.2.2) OUT) ?_ N _ x15 hx15 ?_
    · exact fun s z hz hk => bB_MD_findFrame_60 ev hz hk
    show EX w0 ev 4 m_MD_findFrame 117 [(0, .ref 65), (1, .int (v1)), (2, .int (v2)), (3, .int (v3)), (4, .int (v4)), (6, .int (x15.1))] [] (x15.2.1) (x15.2.2) OUT
    refine EX.aload_n (x := 65) rfl (List.mem_of_getElem? (i := 0) rfl) ?_
    refine EX.go (i := .getfield 59) (len := 3) (pc1 := 121) (st1 := [.ref 79]) (hi1 := x15.2.1) (hl1 := x15.2.2) rfl ?_ (fun _ _ _ => rfl)
    refine EX.iload (x := v4) rfl (List.mem_of_getElem? (i := 4) rfl) ?_
    refine EX.iload (x := x15.1) rfl (List.mem_of_getElem? (i := 5) rfl) ?_
    obtain ⟨g16, h⟩ := grd_some h
    refine EX.iastore rfl rfl g16 ?_
    refine EX.iload_n (x := v3) rfl (List.mem_of_getElem? (i := 3) rfl) ?_
    refine EX.aload_n (x := 65) rfl (List.mem_of_getElem? (i := 0) rfl) ?_
    refine EX.go (i := .getfield 41) (len := 3) (pc1 := 131) (st1 := [.ref 74, .int (v3)]) (hi1 := wr (x15.2.1) 79 (Int32.toNatClampNeg (v4)) (x15.1)) (hl1 := x15.2.2) rfl ?_ (fun _ _ _ => rfl)
    refine EX.iload (x := x15.1) rfl (List.mem_of_getElem? (i := 5) rfl) ?_
    obtain ⟨g17, h⟩ := grd_some h
    refine EX.iaload rfl rfl g17 ?_
    refine EX.go (i := .ior) (len := 1) (pc1 := 135) (st1 := [.int ((v3 ||| ((wr (x15.2.1) 79 (Int32.toNatClampNeg (v4)) (x15.1)) 74 (Int32.toNatClampNeg (x15.1)))))]) (hi1 := wr (x15.2.1) 79 (Int32.toNatClampNeg (v4)) (x15.1)) (hl1 := x15.2.2) rfl ?_ (fun _ _ _ => rfl)
    refine EX.istore_n (req1 := [(3, .int ((v3 ||| ((wr (x15.2.1) 79 (Int32.toNatClampNeg (v4)) (x15.1)) 74 (Int32.toNatClampNeg (x15.1)))))), (0, .ref 65), (1, .int (v1)), (2, .int (v2)), (4, .int (v4)), (6, .int (x15.1))]) rfl rfl rfl ?_
    refine EX.iinc (x := v4) (v := v4 + 1) (req1 := [(4, .int (v4 + 1)), (3, .int ((v3 ||| ((wr (x15.2.1) 79 (Int32.toNatClampNeg (v4)) (x15.1)) 74 (Int32.toNatClampNeg (x15.1)))))), (0, .ref 65), (1, .int (v1)), (2, .int (v2)), (6, .int (x15.1))]) rfl rfl (List.mem_of_getElem? (i := 4) rfl) rfl rfl ?_
    refine EX.go (i := .goto (-116)) (len := 3) (pc1 := 23) (st1 := []) (hi1 := wr (x15.2.1) 79 (Int32.toNatClampNeg (v4)) (x15.1)) (hl1 := x15.2.2) rfl ?_ (fun _ _ _ => rfl)
    obtain rfl := Option.some.inj h
    have hk : EX w0 ev 4 m_MD_findFrame 23 [(0, .ref 65), (1, .int (v1)), (2, .int (v2)), (3, .int ((v3 ||| ((wr (x15.2.1) 79 (Int32.toNatClampNeg (v4)) (x15.1)) 74 (Int32.toNatClampNeg (x15.1)))))), (4, .int (v4 + 1))] [] (wr (x15.2.1) 79 (Int32.toNatClampNeg (v4)) (x15.1)) (x15.2.2) OUT := hk
    exact EX.pick [2, 3, 4, 1, 0] hk rfl
def f_MD_findFrame (N : Nat) (p1 : Int32) (hi : HI) (hl : HL) : Option (Int32 × HI × HL) :=
  (f_MD_frameOf N (p1) (hi) (hl)).bind fun z1 => if (1 : Int32) ≤ (z1.1 : Int32) then (f_MD_findMore N (p1) (z1.2.1) (z1.2.2)).bind fun z3 => (lpN (fun s => B_MD_findFrame_23 N (p1) (z1.1) s.1 s.2.1 s.2.2.1 s.2.2.2) N (0, 0, z3.2.1, z3.2.2)).bind fun x18 => some (z1.1, x18.1, x18.2) else some (z1.1, z1.2.1, z1.2.2)
set_option maxRecDepth 10000 in
set_option maxHeartbeats 4000000 in
theorem b_MD_findFrame (ev : EV) {N : Nat} {p1 : Int32} {hi : HI} {hl : HL} {o : Int32 × HI × HL} (h : f_MD_findFrame N p1 hi hl = some o) : EM w0 ev 5 m_MD_findFrame [.ref 65, .int (p1)] hi hl (oI o) := by
  unfold f_MD_findFrame at h
  refine EM.of rfl ?_
  show EX w0 ev 4 m_MD_findFrame 0 [(0, .ref 65), (1, .int (p1))] [] (hi) (hl) (oI o)
  refine EX.aload_n (x := 65) rfl (List.mem_of_getElem? (i := 0) rfl) ?_
  refine EX.iload_n (x := p1) rfl (List.mem_of_getElem? (i := 1) rfl) ?_
  obtain ⟨z1, hz1, h⟩ := bnd_some h
  refine EX.callV (b := 65) (as := [.int (p1)]) (rest := []) (r := some (.int (z1.1))) (hi1 := z1.2.1) (hl1 := z1.2.2) rfl rfl rfl rfl rfl rfl ((b_MD_frameOf ev hz1).mono (by decide)) ?_
  show EX w0 ev 4 m_MD_findFrame 5 [(0, .ref 65), (1, .int (p1))] [.int (z1.1)] (z1.2.1) (z1.2.2) (oI o)
  refine EX.istore_n (req1 := [(2, .int (z1.1)), (0, .ref 65), (1, .int (p1))]) rfl rfl rfl ?_
  refine EX.iload_n (x := z1.1) rfl (List.mem_of_getElem? (i := 0) rfl) ?_
  refine EX.iconst (v := 1) rfl rfl ?_
  rcases ite_some h with ⟨c2, h⟩ | ⟨c2, h⟩
  · refine EX.go (i := .if_icmp .ge 5) (len := 3) (pc1 := 13) (st1 := []) (hi1 := z1.2.1) (hl1 := z1.2.2) rfl ?_ (fun _ _ _ => if_pos c2)
    refine EX.aload_n (x := 65) rfl (List.mem_of_getElem? (i := 1) rfl) ?_
    refine EX.iload_n (x := p1) rfl (List.mem_of_getElem? (i := 2) rfl) ?_
    obtain ⟨z3, hz3, h⟩ := bnd_some h
    refine EX.callV (b := 65) (as := [.int (p1)]) (rest := []) (r := none) (hi1 := z3.2.1) (hl1 := z3.2.2) rfl rfl rfl rfl rfl rfl ((b_MD_findMore ev hz3).mono (by decide)) ?_
    show EX w0 ev 4 m_MD_findFrame 18 [(2, .int (z1.1)), (0, .ref 65), (1, .int (p1))] [] (z3.2.1) (z3.2.2) (oI o)
    refine EX.iconst (v := 0) rfl rfl ?_
    refine EX.istore_n (req1 := [(3, .int (0)), (2, .int (z1.1)), (0, .ref 65), (1, .int (p1))]) rfl rfl rfl ?_
    refine EX.iconst (v := 0) rfl rfl ?_
    refine EX.istore (req1 := [(4, .int (0)), (3, .int (0)), (2, .int (z1.1)), (0, .ref 65), (1, .int (p1))]) rfl rfl rfl ?_
    obtain ⟨x18, hx18, h⟩ := bnd_some h
    refine EX.pick [3, 4, 2, 1, 0] ?_ rfl
    refine lp_sound (f := fun s => B_MD_findFrame_23 N (p1) (z1.1) s.1 s.2.1 s.2.2.1 s.2.2.2) (PS := fun s => EX w0 ev 4 m_MD_findFrame 23 [(0, .ref 65), (1, .int (p1)), (2, .int (z1.1)), (3, .int (s.1)), (4, .int (s.2.1))] [] (s.2.2.1) (s.2.2.2) (oI o)) (PX := fun x => EX w0 ev 4 m_MD_findFrame 142 [(2, .int (z1.1))] [] (x.1) (x.2) (oI o)) ?_ N _ x18 hx18 ?_
    · exact fun s z hz hk => bB_MD_findFrame_23 ev hz hk
    show EX w0 ev 4 m_MD_findFrame 142 [(2, .int (z1.1))] [] (x18.1) (x18.2) (oI o)
    refine EX.iload_n (x := z1.1) rfl (List.mem_of_getElem? (i := 0) rfl) ?_
    obtain rfl := Option.some.inj h
    exact EX.iret rfl rfl
  · refine EX.go (i := .if_icmp .ge 5) (len := 3) (pc1 := 11) (st1 := []) (hi1 := z1.2.1) (hl1 := z1.2.2) rfl ?_ (fun _ _ _ => if_neg c2)
    refine EX.iload_n (x := z1.1) rfl (List.mem_of_getElem? (i := 0) rfl) ?_
    obtain rfl := Option.some.inj h
    exact EX.iret rfl rfl
def f_MD_frameTurn (N : Nat) (p1 : Int32) (p2 : Int32) (hi : HI) (hl : HL) : Option (Int32 × HI × HL) :=
  (f_MD_isPicture N (p1) (hi) (hl)).bind fun z1 => if (z1.1 : Int32) = 0 then some ((-1), z1.2.1, z1.2.2) else if 0 ≤ (p2 : Int32) then (f_MD_findFrame N (p1) (z1.2.1) (z1.2.2)).bind fun z4 => if (z4.1 : Int32) ≤ (p2 : Int32) then some ((-4), z4.2.1, z4.2.2) else if (p2 : Int32) < 0 ∨ 16 ≤ Int32.toNatClampNeg (p2) then none else some (z4.2.1 79 (Int32.toNatClampNeg (p2)), z4.2.1, z4.2.2) else some ((-1), z1.2.1, z1.2.2)
set_option maxRecDepth 10000 in
set_option maxHeartbeats 4000000 in
theorem b_MD_frameTurn (ev : EV) {N : Nat} {p1 : Int32} {p2 : Int32} {hi : HI} {hl : HL} {o : Int32 × HI × HL} (h : f_MD_frameTurn N p1 p2 hi hl = some o) : EM w0 ev 6 m_MD_frameTurn [.ref 65, .int (p1), .int (p2)] hi hl (oI o) := by
  unfold f_MD_frameTurn at h
  refine EM.of rfl ?_
  show EX w0 ev 5 m_MD_frameTurn 0 [(0, .ref 65), (1, .int (p1)), (2, .int (p2))] [] (hi) (hl) (oI o)
  refine EX.aload_n (x := 65) rfl (List.mem_of_getElem? (i := 0) rfl) ?_
  refine EX.iload_n (x := p1) rfl (List.mem_of_getElem? (i := 1) rfl) ?_
  obtain ⟨z1, hz1, h⟩ := bnd_some h
  refine EX.callV (b := 65) (as := [.int (p1)]) (rest := []) (r := some (.int (z1.1))) (hi1 := z1.2.1) (hl1 := z1.2.2) rfl rfl rfl rfl rfl rfl ((b_MD_isPicture ev hz1).mono (by decide)) ?_
  show EX w0 ev 5 m_MD_frameTurn 5 [(0, .ref 65), (1, .int (p1)), (2, .int (p2))] [.int (z1.1)] (z1.2.1) (z1.2.2) (oI o)
  rcases ite_some h with ⟨c2, h⟩ | ⟨c2, h⟩
  · refine EX.go (i := .ifCond .eq 7) (len := 3) (pc1 := 12) (st1 := []) (hi1 := z1.2.1) (hl1 := z1.2.2) rfl ?_ (fun _ _ _ => if_pos c2)
    refine EX.iconst (v := (-1)) rfl rfl ?_
    obtain rfl := Option.some.inj h
    exact EX.iret rfl rfl
  · refine EX.go (i := .ifCond .eq 7) (len := 3) (pc1 := 8) (st1 := []) (hi1 := z1.2.1) (hl1 := z1.2.2) rfl ?_ (fun _ _ _ => if_neg c2)
    refine EX.iload_n (x := p2) rfl (List.mem_of_getElem? (i := 2) rfl) ?_
    rcases ite_some h with ⟨c3, h⟩ | ⟨c3, h⟩
    · refine EX.go (i := .ifCond .ge 5) (len := 3) (pc1 := 14) (st1 := []) (hi1 := z1.2.1) (hl1 := z1.2.2) rfl ?_ (fun _ _ _ => if_pos c3)
      refine EX.iload_n (x := p2) rfl (List.mem_of_getElem? (i := 2) rfl) ?_
      refine EX.aload_n (x := 65) rfl (List.mem_of_getElem? (i := 0) rfl) ?_
      refine EX.iload_n (x := p1) rfl (List.mem_of_getElem? (i := 1) rfl) ?_
      obtain ⟨z4, hz4, h⟩ := bnd_some h
      refine EX.callV (b := 65) (as := [.int (p1)]) (rest := [.int (p2)]) (r := some (.int (z4.1))) (hi1 := z4.2.1) (hl1 := z4.2.2) rfl rfl rfl rfl rfl rfl ((b_MD_findFrame ev hz4).mono (by decide)) ?_
      show EX w0 ev 5 m_MD_frameTurn 20 [(0, .ref 65), (1, .int (p1)), (2, .int (p2))] [.int (z4.1), .int (p2)] (z4.2.1) (z4.2.2) (oI o)
      rcases ite_some h with ⟨c5, h⟩ | ⟨c5, h⟩
      · refine EX.go (i := .if_icmp .ge 12) (len := 3) (pc1 := 32) (st1 := []) (hi1 := z4.2.1) (hl1 := z4.2.2) rfl ?_ (fun _ _ _ => if_pos c5)
        refine EX.bipush (v := (-4)) rfl rfl ?_
        obtain rfl := Option.some.inj h
        exact EX.iret rfl rfl
      · refine EX.go (i := .if_icmp .ge 12) (len := 3) (pc1 := 23) (st1 := []) (hi1 := z4.2.1) (hl1 := z4.2.2) rfl ?_ (fun _ _ _ => if_neg c5)
        refine EX.aload_n (x := 65) rfl (List.mem_of_getElem? (i := 0) rfl) ?_
        refine EX.go (i := .getfield 59) (len := 3) (pc1 := 27) (st1 := [.ref 79]) (hi1 := z4.2.1) (hl1 := z4.2.2) rfl ?_ (fun _ _ _ => rfl)
        refine EX.iload_n (x := p2) rfl (List.mem_of_getElem? (i := 2) rfl) ?_
        obtain ⟨g6, h⟩ := grd_some h
        refine EX.iaload rfl rfl g6 ?_
        refine EX.go (i := .goto 5) (len := 3) (pc1 := 34) (st1 := [.int (z4.2.1 79 (Int32.toNatClampNeg (p2)))]) (hi1 := z4.2.1) (hl1 := z4.2.2) rfl ?_ (fun _ _ _ => rfl)
        obtain rfl := Option.some.inj h
        exact EX.iret rfl rfl
    · refine EX.go (i := .ifCond .ge 5) (len := 3) (pc1 := 12) (st1 := []) (hi1 := z1.2.1) (hl1 := z1.2.2) rfl ?_ (fun _ _ _ => if_neg c3)
      refine EX.iconst (v := (-1)) rfl rfl ?_
      obtain rfl := Option.some.inj h
      exact EX.iret rfl rfl
def f_MD_sets (N : Nat) (hi : HI) (hl : HL) : Option (Int32 × HI × HL) :=
  (f_MD_freshens N (hi) (hl)).bind fun z1 => some (z1.2.1 65 15, z1.2.1, z1.2.2)
set_option maxRecDepth 10000 in
set_option maxHeartbeats 4000000 in
theorem b_MD_sets (ev : EV) {N : Nat} {hi : HI} {hl : HL} {o : Int32 × HI × HL} (h : f_MD_sets N hi hl = some o) : EM w0 ev 4 m_MD_sets [.ref 65] hi hl (oI o) := by
  unfold f_MD_sets at h
  refine EM.of rfl ?_
  show EX w0 ev 3 m_MD_sets 0 [(0, .ref 65)] [] (hi) (hl) (oI o)
  refine EX.aload_n (x := 65) rfl (List.mem_of_getElem? (i := 0) rfl) ?_
  obtain ⟨z1, hz1, h⟩ := bnd_some h
  refine EX.callV (b := 65) (as := []) (rest := []) (r := none) (hi1 := z1.2.1) (hl1 := z1.2.2) rfl rfl rfl rfl rfl rfl ((b_MD_freshens ev hz1).mono (by decide)) ?_
  show EX w0 ev 3 m_MD_sets 4 [(0, .ref 65)] [] (z1.2.1) (z1.2.2) (oI o)
  refine EX.aload_n (x := 65) rfl (List.mem_of_getElem? (i := 0) rfl) ?_
  refine EX.go (i := .getfield 165) (len := 3) (pc1 := 8) (st1 := [.int (z1.2.1 65 15)]) (hi1 := z1.2.1) (hl1 := z1.2.2) rfl ?_ (fun _ _ _ => rfl)
  obtain rfl := Option.some.inj h
  exact EX.iret rfl rfl
def J_MD_shown_48 (N : Nat) (v1 : Int32) (v3 : Int32) (s0 : Int32) (s1 : Int32) (hi : HI) (hl : HL) : Option ((Int32 × Int32 × HI × HL) ⊕ (Int32 × HI × HL)) :=
  some (.inl ((s1 + s0), v3 + 1, hi, hl))
set_option maxRecDepth 10000 in
set_option maxHeartbeats 4000000 in
theorem bJ_MD_shown_48 (ev : EV) {N : Nat} {v1 : Int32} {v3 : Int32} {s0 : Int32} {s1 : Int32} {hi : HI} {hl : HL} {z : (Int32 × Int32 × HI × HL) ⊕ (Int32 × HI × HL)} {OUT : Option Value × HI × HL} (h : J_MD_shown_48 N v1 v3 s0 s1 hi hl = some z) (hk : Sum.elim (fun s => EX w0 ev 3 m_MD_shown 22 [(0, .ref 65), (1, .int (v1)), (2, .int (s.1)), (3, .int (s.2.1))] [] (s.2.2.1) (s.2.2.2) OUT) (fun x => EX w0 ev 3 m_MD_shown 56 [(2, .int (x.1))] [] (x.2.1) (x.2.2) OUT) z) : EX w0 ev 3 m_MD_shown 48 [(0, .ref 65), (1, .int (v1)), (3, .int (v3))] [.int (s0), .int (s1)] (hi) (hl) OUT := by
  unfold J_MD_shown_48 at h
  refine EX.go (i := .iadd) (len := 1) (pc1 := 49) (st1 := [.int ((s1 + s0))]) (hi1 := hi) (hl1 := hl) rfl ?_ (fun _ _ _ => rfl)
  refine EX.istore_n (req1 := [(2, .int ((s1 + s0))), (0, .ref 65), (1, .int (v1)), (3, .int (v3))]) rfl rfl rfl ?_
  refine EX.iinc (x := v3) (v := v3 + 1) (req1 := [(3, .int (v3 + 1)), (2, .int ((s1 + s0))), (0, .ref 65), (1, .int (v1))]) rfl rfl (List.mem_of_getElem? (i := 3) rfl) rfl rfl ?_
  refine EX.go (i := .goto (-31)) (len := 3) (pc1 := 22) (st1 := []) (hi1 := hi) (hl1 := hl) rfl ?_ (fun _ _ _ => rfl)
  obtain rfl := Option.some.inj h
  have hk : EX w0 ev 3 m_MD_shown 22 [(0, .ref 65), (1, .int (v1)), (2, .int ((s1 + s0))), (3, .int (v3 + 1))] [] (hi) (hl) OUT := hk
  exact EX.pick [2, 3, 1, 0] hk rfl
def B_MD_shown_22 (N : Nat) (v1 : Int32) (v2 : Int32) (v3 : Int32) (hi : HI) (hl : HL) : Option ((Int32 × Int32 × HI × HL) ⊕ (Int32 × HI × HL)) :=
  if (((1 : Int32) <<< ((hi 65 2) &&& 31)) : Int32) ≤ (v3 : Int32) then some (.inr (v2, hi, hl)) else if (v3 : Int32) < 0 ∨ 65536 ≤ Int32.toNatClampNeg (v3) then none else if (v1 : Int32) < (hi 77 (Int32.toNatClampNeg (v3)) : Int32) then J_MD_shown_48 N (v1) (v3) (0) (v2) (hi) (hl) else J_MD_shown_48 N (v1) (v3) (1) (v2) (hi) (hl)
set_option maxRecDepth 10000 in
set_option maxHeartbeats 4000000 in
theorem bB_MD_shown_22 (ev : EV) {N : Nat} {v1 : Int32} {v2 : Int32} {v3 : Int32} {hi : HI} {hl : HL} {z : (Int32 × Int32 × HI × HL) ⊕ (Int32 × HI × HL)} {OUT : Option Value × HI × HL} (h : B_MD_shown_22 N v1 v2 v3 hi hl = some z) (hk : Sum.elim (fun s => EX w0 ev 3 m_MD_shown 22 [(0, .ref 65), (1, .int (v1)), (2, .int (s.1)), (3, .int (s.2.1))] [] (s.2.2.1) (s.2.2.2) OUT) (fun x => EX w0 ev 3 m_MD_shown 56 [(2, .int (x.1))] [] (x.2.1) (x.2.2) OUT) z) : EX w0 ev 3 m_MD_shown 22 [(0, .ref 65), (1, .int (v1)), (2, .int (v2)), (3, .int (v3))] [] (hi) (hl) OUT := by
  unfold B_MD_shown_22 at h
  refine EX.iload_n (x := v3) rfl (List.mem_of_getElem? (i := 3) rfl) ?_
  refine EX.iconst (v := 1) rfl rfl ?_
  refine EX.aload_n (x := 65) rfl (List.mem_of_getElem? (i := 0) rfl) ?_
  refine EX.go (i := .getfield 116) (len := 3) (pc1 := 28) (st1 := [.int (hi 65 2), .int (1), .int (v3)]) (hi1 := hi) (hl1 := hl) rfl ?_ (fun _ _ _ => rfl)
  refine EX.go (i := .ishl) (len := 1) (pc1 := 29) (st1 := [.int (((1 : Int32) <<< ((hi 65 2) &&& 31))), .int (v3)]) (hi1 := hi) (hl1 := hl) rfl ?_ (fun _ _ _ => rfl)
  rcases ite_some h with ⟨c4, h⟩ | ⟨c4, h⟩
  · refine EX.go (i := .if_icmp .ge 27) (len := 3) (pc1 := 56) (st1 := []) (hi1 := hi) (hl1 := hl) rfl ?_ (fun _ _ _ => if_pos c4)
    obtain rfl := Option.some.inj h
    have hk : EX w0 ev 3 m_MD_shown 56 [(2, .int (v2))] [] (hi) (hl) OUT := hk
    exact EX.pick [2] hk rfl
  · refine EX.go (i := .if_icmp .ge 27) (len := 3) (pc1 := 32) (st1 := []) (hi1 := hi) (hl1 := hl) rfl ?_ (fun _ _ _ => if_neg c4)
    refine EX.iload_n (x := v2) rfl (List.mem_of_getElem? (i := 2) rfl) ?_
    refine EX.aload_n (x := 65) rfl (List.mem_of_getElem? (i := 0) rfl) ?_
    refine EX.go (i := .getfield 52) (len := 3) (pc1 := 37) (st1 := [.ref 77, .int (v2)]) (hi1 := hi) (hl1 := hl) rfl ?_ (fun _ _ _ => rfl)
    refine EX.iload_n (x := v3) rfl (List.mem_of_getElem? (i := 3) rfl) ?_
    obtain ⟨g5, h⟩ := grd_some h
    refine EX.baload rfl rfl g5 ?_
    refine EX.iload_n (x := v1) rfl (List.mem_of_getElem? (i := 1) rfl) ?_
    rcases ite_some h with ⟨c6, h⟩ | ⟨c6, h⟩
    · refine EX.go (i := .if_icmp .gt 7) (len := 3) (pc1 := 47) (st1 := [.int (v2)]) (hi1 := hi) (hl1 := hl) rfl ?_ (fun _ _ _ => if_pos c6)
      refine EX.iconst (v := 0) rfl rfl ?_
      refine EX.pick [0, 1, 3] ?_ rfl
      exact bJ_MD_shown_48 ev h hk
    · refine EX.go (i := .if_icmp .gt 7) (len := 3) (pc1 := 43) (st1 := [.int (v2)]) (hi1 := hi) (hl1 := hl) rfl ?_ (fun _ _ _ => if_neg c6)
      refine EX.iconst (v := 1) rfl rfl ?_
      refine EX.go (i := .goto 4) (len := 3) (pc1 := 48) (st1 := [.int (1), .int (v2)]) (hi1 := hi) (hl1 := hl) rfl ?_ (fun _ _ _ => rfl)
      refine EX.pick [0, 1, 3] ?_ rfl
      exact bJ_MD_shown_48 ev h hk
def f_MD_shown (N : Nat) (p1 : Int32) (hi : HI) (hl : HL) : Option (Int32 × HI × HL) :=
  (f_MD_in N ((Int32.toInt64 (p1))) (0) (16) (hi) (hl)).bind fun z1 => if (z1.1 : Int32) = 0 then some ((-1), z1.2.1, z1.2.2) else (f_MD_freshens N (z1.2.1) (z1.2.2)).bind fun z3 => (lpN (fun s => B_MD_shown_22 N (p1) s.1 s.2.1 s.2.2.1 s.2.2.2) N (0, 0, z3.2.1, z3.2.2)).bind fun x7 => some (x7.1, x7.2.1, x7.2.2)
set_option maxRecDepth 10000 in
set_option maxHeartbeats 4000000 in
theorem b_MD_shown (ev : EV) {N : Nat} {p1 : Int32} {hi : HI} {hl : HL} {o : Int32 × HI × HL} (h : f_MD_shown N p1 hi hl = some o) : EM w0 ev 4 m_MD_shown [.ref 65, .int (p1)] hi hl (oI o) := by
  unfold f_MD_shown at h
  refine EM.of rfl ?_
  show EX w0 ev 3 m_MD_shown 0 [(0, .ref 65), (1, .int (p1))] [] (hi) (hl) (oI o)
  refine EX.iload_n (x := p1) rfl (List.mem_of_getElem? (i := 1) rfl) ?_
  refine EX.go (i := .i2l) (len := 1) (pc1 := 2) (st1 := [.long ((Int32.toInt64 (p1)))]) (hi1 := hi) (hl1 := hl) rfl ?_ (fun _ _ _ => rfl)
  refine EX.lconst (v := 0) rfl rfl ?_
  refine EX.go (i := .ldc2_w 192) (len := 3) (pc1 := 6) (st1 := [.long (16), .long (0), .long ((Int32.toInt64 (p1)))]) (hi1 := hi) (hl1 := hl) rfl ?_ (fun _ _ _ => rfl)
  obtain ⟨z1, hz1, h⟩ := bnd_some h
  refine EX.callS (as := [.long ((Int32.toInt64 (p1))), .long (0), .long (16)]) (rest := []) (r := some (.int (z1.1))) (hi1 := z1.2.1) (hl1 := z1.2.2) rfl rfl rfl rfl rfl rfl ((b_MD_in ev hz1).mono (by decide)) ?_
  show EX w0 ev 3 m_MD_shown 9 [(0, .ref 65), (1, .int (p1))] [.int (z1.1)] (z1.2.1) (z1.2.2) (oI o)
  rcases ite_some h with ⟨c2, h⟩ | ⟨c2, h⟩
  · refine EX.go (i := .ifCond .ne 5) (len := 3) (pc1 := 12) (st1 := []) (hi1 := z1.2.1) (hl1 := z1.2.2) rfl ?_ (fun _ _ _ => if_pos c2)
    refine EX.iconst (v := (-1)) rfl rfl ?_
    obtain rfl := Option.some.inj h
    exact EX.iret rfl rfl
  · refine EX.go (i := .ifCond .ne 5) (len := 3) (pc1 := 14) (st1 := []) (hi1 := z1.2.1) (hl1 := z1.2.2) rfl ?_ (fun _ _ _ => if_neg c2)
    refine EX.aload_n (x := 65) rfl (List.mem_of_getElem? (i := 0) rfl) ?_
    obtain ⟨z3, hz3, h⟩ := bnd_some h
    refine EX.callV (b := 65) (as := []) (rest := []) (r := none) (hi1 := z3.2.1) (hl1 := z3.2.2) rfl rfl rfl rfl rfl rfl ((b_MD_freshens ev hz3).mono (by decide)) ?_
    show EX w0 ev 3 m_MD_shown 18 [(0, .ref 65), (1, .int (p1))] [] (z3.2.1) (z3.2.2) (oI o)
    refine EX.iconst (v := 0) rfl rfl ?_
    refine EX.istore_n (req1 := [(2, .int (0)), (0, .ref 65), (1, .int (p1))]) rfl rfl rfl ?_
    refine EX.iconst (v := 0) rfl rfl ?_
    refine EX.istore_n (req1 := [(3, .int (0)), (2, .int (0)), (0, .ref 65), (1, .int (p1))]) rfl rfl rfl ?_
    obtain ⟨x7, hx7, h⟩ := bnd_some h
    refine EX.pick [2, 3, 1, 0] ?_ rfl
    refine lp_sound (f := fun s => B_MD_shown_22 N (p1) s.1 s.2.1 s.2.2.1 s.2.2.2) (PS := fun s => EX w0 ev 3 m_MD_shown 22 [(0, .ref 65), (1, .int (p1)), (2, .int (s.1)), (3, .int (s.2.1))] [] (s.2.2.1) (s.2.2.2) (oI o)) (PX := fun x => EX w0 ev 3 m_MD_shown 56 [(2, .int (x.1))] [] (x.2.1) (x.2.2) (oI o)) ?_ N _ x7 hx7 ?_
    · exact fun s z hz hk => bB_MD_shown_22 ev hz hk
    show EX w0 ev 3 m_MD_shown 56 [(2, .int (x7.1))] [] (x7.2.1) (x7.2.2) (oI o)
    refine EX.iload_n (x := x7.1) rfl (List.mem_of_getElem? (i := 0) rfl) ?_
    obtain rfl := Option.some.inj h
    exact EX.iret rfl rfl
def f_MD_level (N : Nat) (p1 : Int32) (p2 : Int32) (hi : HI) (hl : HL) : Option (Int32 × HI × HL) :=
  (f_MD_isLamp N (p1) (hi) (hl)).bind fun z1 => if (z1.1 : Int32) = 0 then some ((-1), z1.2.1, z1.2.2) else (f_MD_in N ((Int32.toInt64 (p2))) (0) (15) (z1.2.1) (z1.2.2)).bind fun z3 => if (z3.1 : Int32) = 0 then some ((-1), z3.2.1, z3.2.2) else if (p1 : Int32) < 0 ∨ 16 ≤ Int32.toNatClampNeg (p1) then none else if (p1 : Int32) < 0 ∨ 16 ≤ Int32.toNatClampNeg (p1) then none else some (z3.2.1 70 (Int32.toNatClampNeg (p1)), wr (z3.2.1) 70 (Int32.toNatClampNeg (p1)) (p2), z3.2.2)
set_option maxRecDepth 10000 in
set_option maxHeartbeats 4000000 in
theorem b_MD_level (ev : EV) {N : Nat} {p1 : Int32} {p2 : Int32} {hi : HI} {hl : HL} {o : Int32 × HI × HL} (h : f_MD_level N p1 p2 hi hl = some o) : EM w0 ev 3 m_MD_level [.ref 65, .int (p1), .int (p2)] hi hl (oI o) := by
  unfold f_MD_level at h
  refine EM.of rfl ?_
  show EX w0 ev 2 m_MD_level 0 [(0, .ref 65), (1, .int (p1)), (2, .int (p2))] [] (hi) (hl) (oI o)
  refine EX.aload_n (x := 65) rfl (List.mem_of_getElem? (i := 0) rfl) ?_
  refine EX.iload_n (x := p1) rfl (List.mem_of_getElem? (i := 1) rfl) ?_
  obtain ⟨z1, hz1, h⟩ := bnd_some h
  refine EX.callV (b := 65) (as := [.int (p1)]) (rest := []) (r := some (.int (z1.1))) (hi1 := z1.2.1) (hl1 := z1.2.2) rfl rfl rfl rfl rfl rfl ((b_MD_isLamp ev hz1).mono (by decide)) ?_
  show EX w0 ev 2 m_MD_level 5 [(0, .ref 65), (1, .int (p1)), (2, .int (p2))] [.int (z1.1)] (z1.2.1) (z1.2.2) (oI o)
  rcases ite_some h with ⟨c2, h⟩ | ⟨c2, h⟩
  · refine EX.go (i := .ifCond .eq 15) (len := 3) (pc1 := 20) (st1 := []) (hi1 := z1.2.1) (hl1 := z1.2.2) rfl ?_ (fun _ _ _ => if_pos c2)
    refine EX.iconst (v := (-1)) rfl rfl ?_
    obtain rfl := Option.some.inj h
    exact EX.iret rfl rfl
  · refine EX.go (i := .ifCond .eq 15) (len := 3) (pc1 := 8) (st1 := []) (hi1 := z1.2.1) (hl1 := z1.2.2) rfl ?_ (fun _ _ _ => if_neg c2)
    refine EX.iload_n (x := p2) rfl (List.mem_of_getElem? (i := 2) rfl) ?_
    refine EX.go (i := .i2l) (len := 1) (pc1 := 10) (st1 := [.long ((Int32.toInt64 (p2)))]) (hi1 := z1.2.1) (hl1 := z1.2.2) rfl ?_ (fun _ _ _ => rfl)
    refine EX.lconst (v := 0) rfl rfl ?_
    refine EX.go (i := .ldc2_w 194) (len := 3) (pc1 := 14) (st1 := [.long (15), .long (0), .long ((Int32.toInt64 (p2)))]) (hi1 := z1.2.1) (hl1 := z1.2.2) rfl ?_ (fun _ _ _ => rfl)
    obtain ⟨z3, hz3, h⟩ := bnd_some h
    refine EX.callS (as := [.long ((Int32.toInt64 (p2))), .long (0), .long (15)]) (rest := []) (r := some (.int (z3.1))) (hi1 := z3.2.1) (hl1 := z3.2.2) rfl rfl rfl rfl rfl rfl ((b_MD_in ev hz3).mono (by decide)) ?_
    show EX w0 ev 2 m_MD_level 17 [(0, .ref 65), (1, .int (p1)), (2, .int (p2))] [.int (z3.1)] (z3.2.1) (z3.2.2) (oI o)
    rcases ite_some h with ⟨c4, h⟩ | ⟨c4, h⟩
    · refine EX.go (i := .ifCond .ne 5) (len := 3) (pc1 := 20) (st1 := []) (hi1 := z3.2.1) (hl1 := z3.2.2) rfl ?_ (fun _ _ _ => if_pos c4)
      refine EX.iconst (v := (-1)) rfl rfl ?_
      obtain rfl := Option.some.inj h
      exact EX.iret rfl rfl
    · refine EX.go (i := .ifCond .ne 5) (len := 3) (pc1 := 22) (st1 := []) (hi1 := z3.2.1) (hl1 := z3.2.2) rfl ?_ (fun _ _ _ => if_neg c4)
      refine EX.aload_n (x := 65) rfl (List.mem_of_getElem? (i := 0) rfl) ?_
      refine EX.go (i := .getfield 29) (len := 3) (pc1 := 26) (st1 := [.ref 70]) (hi1 := z3.2.1) (hl1 := z3.2.2) rfl ?_ (fun _ _ _ => rfl)
      refine EX.iload_n (x := p1) rfl (List.mem_of_getElem? (i := 1) rfl) ?_
      obtain ⟨g5, h⟩ := grd_some h
      refine EX.iaload rfl rfl g5 ?_
      refine EX.istore_n (req1 := [(3, .int (z3.2.1 70 (Int32.toNatClampNeg (p1)))), (0, .ref 65), (1, .int (p1)), (2, .int (p2))]) rfl rfl rfl ?_
      refine EX.aload_n (x := 65) rfl (List.mem_of_getElem? (i := 1) rfl) ?_
      refine EX.go (i := .getfield 29) (len := 3) (pc1 := 33) (st1 := [.ref 70]) (hi1 := z3.2.1) (hl1 := z3.2.2) rfl ?_ (fun _ _ _ => rfl)
      refine EX.iload_n (x := p1) rfl (List.mem_of_getElem? (i := 2) rfl) ?_
      refine EX.iload_n (x := p2) rfl (List.mem_of_getElem? (i := 3) rfl) ?_
      obtain ⟨g6, h⟩ := grd_some h
      refine EX.iastore rfl rfl g6 ?_
      refine EX.iload_n (x := z3.2.1 70 (Int32.toNatClampNeg (p1))) rfl (List.mem_of_getElem? (i := 0) rfl) ?_
      obtain rfl := Option.some.inj h
      exact EX.iret rfl rfl
def B_MD_planeOf_4 (N : Nat) (v1 : Int32) (v2 : Int32) (v3 : Int32) (hi : HI) (hl : HL) : Option ((Int32 × Int32 × HI × HL) ⊕ (Int32 × HI × HL)) :=
  if (hi 65 2 : Int32) ≤ (v3 : Int32) then some (.inr (v2, hi, hl)) else if (v3 : Int32) < 0 ∨ 16 ≤ Int32.toNatClampNeg (v3) then none else some (.inl ((v2 ||| (((((((hi 70 (Int32.toNatClampNeg (v3)) : Int32) >>> (v1 &&& 31)) : Int32) &&& (1)) : Int32) <<< (v3 &&& 31)))), v3 + 1, hi, hl))
set_option maxRecDepth 10000 in
set_option maxHeartbeats 4000000 in
theorem bB_MD_planeOf_4 (ev : EV) {N : Nat} {v1 : Int32} {v2 : Int32} {v3 : Int32} {hi : HI} {hl : HL} {z : (Int32 × Int32 × HI × HL) ⊕ (Int32 × HI × HL)} {OUT : Option Value × HI × HL} (h : B_MD_planeOf_4 N v1 v2 v3 hi hl = some z) (hk : Sum.elim (fun s => EX w0 ev 0 m_MD_planeOf 4 [(0, .ref 65), (1, .int (v1)), (2, .int (s.1)), (3, .int (s.2.1))] [] (s.2.2.1) (s.2.2.2) OUT) (fun x => EX w0 ev 0 m_MD_planeOf 33 [(2, .int (x.1))] [] (x.2.1) (x.2.2) OUT) z) : EX w0 ev 0 m_MD_planeOf 4 [(0, .ref 65), (1, .int (v1)), (2, .int (v2)), (3, .int (v3))] [] (hi) (hl) OUT := by
  unfold B_MD_planeOf_4 at h
  refine EX.iload_n (x := v3) rfl (List.mem_of_getElem? (i := 3) rfl) ?_
  refine EX.aload_n (x := 65) rfl (List.mem_of_getElem? (i := 0) rfl) ?_
  refine EX.go (i := .getfield 116) (len := 3) (pc1 := 9) (st1 := [.int (hi 65 2), .int (v3)]) (hi1 := hi) (hl1 := hl) rfl ?_ (fun _ _ _ => rfl)
  rcases ite_some h with ⟨c1, h⟩ | ⟨c1, h⟩
  · refine EX.go (i := .if_icmp .ge 24) (len := 3) (pc1 := 33) (st1 := []) (hi1 := hi) (hl1 := hl) rfl ?_ (fun _ _ _ => if_pos c1)
    obtain rfl := Option.some.inj h
    have hk : EX w0 ev 0 m_MD_planeOf 33 [(2, .int (v2))] [] (hi) (hl) OUT := hk
    exact EX.pick [2] hk rfl
  · refine EX.go (i := .if_icmp .ge 24) (len := 3) (pc1 := 12) (st1 := []) (hi1 := hi) (hl1 := hl) rfl ?_ (fun _ _ _ => if_neg c1)
    refine EX.iload_n (x := v2) rfl (List.mem_of_getElem? (i := 2) rfl) ?_
    refine EX.aload_n (x := 65) rfl (List.mem_of_getElem? (i := 0) rfl) ?_
    refine EX.go (i := .getfield 29) (len := 3) (pc1 := 17) (st1 := [.ref 70, .int (v2)]) (hi1 := hi) (hl1 := hl) rfl ?_ (fun _ _ _ => rfl)
    refine EX.iload_n (x := v3) rfl (List.mem_of_getElem? (i := 3) rfl) ?_
    obtain ⟨g2, h⟩ := grd_some h
    refine EX.iaload rfl rfl g2 ?_
    refine EX.iload_n (x := v1) rfl (List.mem_of_getElem? (i := 1) rfl) ?_
    refine EX.go (i := .ishr) (len := 1) (pc1 := 21) (st1 := [.int (((hi 70 (Int32.toNatClampNeg (v3)) : Int32) >>> (v1 &&& 31))), .int (v2)]) (hi1 := hi) (hl1 := hl) rfl ?_ (fun _ _ _ => rfl)
    refine EX.iconst (v := 1) rfl rfl ?_
    refine EX.go (i := .iand) (len := 1) (pc1 := 23) (st1 := [.int (((((hi 70 (Int32.toNatClampNeg (v3)) : Int32) >>> (v1 &&& 31)) : Int32) &&& (1))), .int (v2)]) (hi1 := hi) (hl1 := hl) rfl ?_ (fun _ _ _ => rfl)
    refine EX.iload_n (x := v3) rfl (List.mem_of_getElem? (i := 3) rfl) ?_
    refine EX.go (i := .ishl) (len := 1) (pc1 := 25) (st1 := [.int (((((((hi 70 (Int32.toNatClampNeg (v3)) : Int32) >>> (v1 &&& 31)) : Int32) &&& (1)) : Int32) <<< (v3 &&& 31))), .int (v2)]) (hi1 := hi) (hl1 := hl) rfl ?_ (fun _ _ _ => rfl)
    refine EX.go (i := .ior) (len := 1) (pc1 := 26) (st1 := [.int ((v2 ||| (((((((hi 70 (Int32.toNatClampNeg (v3)) : Int32) >>> (v1 &&& 31)) : Int32) &&& (1)) : Int32) <<< (v3 &&& 31)))))]) (hi1 := hi) (hl1 := hl) rfl ?_ (fun _ _ _ => rfl)
    refine EX.istore_n (req1 := [(2, .int ((v2 ||| (((((((hi 70 (Int32.toNatClampNeg (v3)) : Int32) >>> (v1 &&& 31)) : Int32) &&& (1)) : Int32) <<< (v3 &&& 31)))))), (0, .ref 65), (1, .int (v1)), (3, .int (v3))]) rfl rfl rfl ?_
    refine EX.iinc (x := v3) (v := v3 + 1) (req1 := [(3, .int (v3 + 1)), (2, .int ((v2 ||| (((((((hi 70 (Int32.toNatClampNeg (v3)) : Int32) >>> (v1 &&& 31)) : Int32) &&& (1)) : Int32) <<< (v3 &&& 31)))))), (0, .ref 65), (1, .int (v1))]) rfl rfl (List.mem_of_getElem? (i := 3) rfl) rfl rfl ?_
    refine EX.go (i := .goto (-26)) (len := 3) (pc1 := 4) (st1 := []) (hi1 := hi) (hl1 := hl) rfl ?_ (fun _ _ _ => rfl)
    obtain rfl := Option.some.inj h
    have hk : EX w0 ev 0 m_MD_planeOf 4 [(0, .ref 65), (1, .int (v1)), (2, .int ((v2 ||| (((((((hi 70 (Int32.toNatClampNeg (v3)) : Int32) >>> (v1 &&& 31)) : Int32) &&& (1)) : Int32) <<< (v3 &&& 31)))))), (3, .int (v3 + 1))] [] (hi) (hl) OUT := hk
    exact EX.pick [2, 3, 1, 0] hk rfl
def f_MD_planeOf (N : Nat) (p1 : Int32) (hi : HI) (hl : HL) : Option (Int32 × HI × HL) :=
  (lpN (fun s => B_MD_planeOf_4 N (p1) s.1 s.2.1 s.2.2.1 s.2.2.2) N (0, 0, hi, hl)).bind fun x3 => some (x3.1, x3.2.1, x3.2.2)
set_option maxRecDepth 10000 in
set_option maxHeartbeats 4000000 in
theorem b_MD_planeOf (ev : EV) {N : Nat} {p1 : Int32} {hi : HI} {hl : HL} {o : Int32 × HI × HL} (h : f_MD_planeOf N p1 hi hl = some o) : EM w0 ev 1 m_MD_planeOf [.ref 65, .int (p1)] hi hl (oI o) := by
  unfold f_MD_planeOf at h
  refine EM.of rfl ?_
  show EX w0 ev 0 m_MD_planeOf 0 [(0, .ref 65), (1, .int (p1))] [] (hi) (hl) (oI o)
  refine EX.iconst (v := 0) rfl rfl ?_
  refine EX.istore_n (req1 := [(2, .int (0)), (0, .ref 65), (1, .int (p1))]) rfl rfl rfl ?_
  refine EX.iconst (v := 0) rfl rfl ?_
  refine EX.istore_n (req1 := [(3, .int (0)), (2, .int (0)), (0, .ref 65), (1, .int (p1))]) rfl rfl rfl ?_
  obtain ⟨x3, hx3, h⟩ := bnd_some h
  refine EX.pick [2, 3, 1, 0] ?_ rfl
  refine lp_sound (f := fun s => B_MD_planeOf_4 N (p1) s.1 s.2.1 s.2.2.1 s.2.2.2) (PS := fun s => EX w0 ev 0 m_MD_planeOf 4 [(0, .ref 65), (1, .int (p1)), (2, .int (s.1)), (3, .int (s.2.1))] [] (s.2.2.1) (s.2.2.2) (oI o)) (PX := fun x => EX w0 ev 0 m_MD_planeOf 33 [(2, .int (x.1))] [] (x.2.1) (x.2.2) (oI o)) ?_ N _ x3 hx3 ?_
  · exact fun s z hz hk => bB_MD_planeOf_4 ev hz hk
  show EX w0 ev 0 m_MD_planeOf 33 [(2, .int (x3.1))] [] (x3.2.1) (x3.2.2) (oI o)
  refine EX.iload_n (x := x3.1) rfl (List.mem_of_getElem? (i := 0) rfl) ?_
  obtain rfl := Option.some.inj h
  exact EX.iret rfl rfl
def J_MD_isPlanned_32 (N : Nat) (v2 : Int32) (s0 : Int32) (hi : HI) (hl : HL) : Option ((Int32 × Int32 × HI × HL) ⊕ (Int32 × HI × HL)) :=
  some (.inl (s0, v2 + 1, hi, hl))
set_option maxRecDepth 10000 in
set_option maxHeartbeats 4000000 in
theorem bJ_MD_isPlanned_32 (ev : EV) {N : Nat} {v2 : Int32} {s0 : Int32} {hi : HI} {hl : HL} {z : (Int32 × Int32 × HI × HL) ⊕ (Int32 × HI × HL)} {OUT : Option Value × HI × HL} (h : J_MD_isPlanned_32 N v2 s0 hi hl = some z) (hk : Sum.elim (fun s => EX w0 ev 4 m_MD_isPlanned 4 [(0, .ref 65), (1, .int (s.1)), (2, .int (s.2.1))] [] (s.2.2.1) (s.2.2.2) OUT) (fun x => EX w0 ev 4 m_MD_isPlanned 39 [(1, .int (x.1))] [] (x.2.1) (x.2.2) OUT) z) : EX w0 ev 4 m_MD_isPlanned 32 [(0, .ref 65), (2, .int (v2))] [.int (s0)] (hi) (hl) OUT := by
  unfold J_MD_isPlanned_32 at h
  refine EX.istore_n (req1 := [(1, .int (s0)), (0, .ref 65), (2, .int (v2))]) rfl rfl rfl ?_
  refine EX.iinc (x := v2) (v := v2 + 1) (req1 := [(2, .int (v2 + 1)), (1, .int (s0)), (0, .ref 65)]) rfl rfl (List.mem_of_getElem? (i := 2) rfl) rfl rfl ?_
  refine EX.go (i := .goto (-32)) (len := 3) (pc1 := 4) (st1 := []) (hi1 := hi) (hl1 := hl) rfl ?_ (fun _ _ _ => rfl)
  obtain rfl := Option.some.inj h
  have hk : EX w0 ev 4 m_MD_isPlanned 4 [(0, .ref 65), (1, .int (s0)), (2, .int (v2 + 1))] [] (hi) (hl) OUT := hk
  exact EX.pick [2, 1, 0] hk rfl
def J_MD_isPlanned_31 (N : Nat) (v2 : Int32) (hi : HI) (hl : HL) : Option ((Int32 × Int32 × HI × HL) ⊕ (Int32 × HI × HL)) :=
  J_MD_isPlanned_32 N (v2) (0) (hi) (hl)
set_option maxRecDepth 10000 in
set_option maxHeartbeats 4000000 in
theorem bJ_MD_isPlanned_31 (ev : EV) {N : Nat} {v2 : Int32} {hi : HI} {hl : HL} {z : (Int32 × Int32 × HI × HL) ⊕ (Int32 × HI × HL)} {OUT : Option Value × HI × HL} (h : J_MD_isPlanned_31 N v2 hi hl = some z) (hk : Sum.elim (fun s => EX w0 ev 4 m_MD_isPlanned 4 [(0, .ref 65), (1, .int (s.1)), (2, .int (s.2.1))] [] (s.2.2.1) (s.2.2.2) OUT) (fun x => EX w0 ev 4 m_MD_isPlanned 39 [(1, .int (x.1))] [] (x.2.1) (x.2.2) OUT) z) : EX w0 ev 4 m_MD_isPlanned 31 [(0, .ref 65), (2, .int (v2))] [] (hi) (hl) OUT := by
  unfold J_MD_isPlanned_31 at h
  refine EX.iconst (v := 0) rfl rfl ?_
  refine EX.pick [0, 1] ?_ rfl
  exact bJ_MD_isPlanned_32 ev h hk
def B_MD_isPlanned_4 (N : Nat) (v1 : Int32) (v2 : Int32) (hi : HI) (hl : HL) : Option ((Int32 × Int32 × HI × HL) ⊕ (Int32 × HI × HL)) :=
  if (4 : Int32) ≤ (v2 : Int32) then some (.inr (v1, hi, hl)) else if (v1 : Int32) = 0 then J_MD_isPlanned_31 N (v2) (hi) (hl) else (f_MD_planeOf N (v2) (hi) (hl)).bind fun z3 => (f_MD_frameOf N (z3.1) (z3.2.1) (z3.2.2)).bind fun z4 => if (z4.1 : Int32) = ((-4) : Int32) then J_MD_isPlanned_31 N (v2) (z4.2.1) (z4.2.2) else J_MD_isPlanned_32 N (v2) (1) (z4.2.1) (z4.2.2)
set_option maxRecDepth 10000 in
set_option maxHeartbeats 4000000 in
theorem bB_MD_isPlanned_4 (ev : EV) {N : Nat} {v1 : Int32} {v2 : Int32} {hi : HI} {hl : HL} {z : (Int32 × Int32 × HI × HL) ⊕ (Int32 × HI × HL)} {OUT : Option Value × HI × HL} (h : B_MD_isPlanned_4 N v1 v2 hi hl = some z) (hk : Sum.elim (fun s => EX w0 ev 4 m_MD_isPlanned 4 [(0, .ref 65), (1, .int (s.1)), (2, .int (s.2.1))] [] (s.2.2.1) (s.2.2.2) OUT) (fun x => EX w0 ev 4 m_MD_isPlanned 39 [(1, .int (x.1))] [] (x.2.1) (x.2.2) OUT) z) : EX w0 ev 4 m_MD_isPlanned 4 [(0, .ref 65), (1, .int (v1)), (2, .int (v2))] [] (hi) (hl) OUT := by
  unfold B_MD_isPlanned_4 at h
  refine EX.iload_n (x := v2) rfl (List.mem_of_getElem? (i := 2) rfl) ?_
  refine EX.iconst (v := 4) rfl rfl ?_
  rcases ite_some h with ⟨c1, h⟩ | ⟨c1, h⟩
  · refine EX.go (i := .if_icmp .ge 33) (len := 3) (pc1 := 39) (st1 := []) (hi1 := hi) (hl1 := hl) rfl ?_ (fun _ _ _ => if_pos c1)
    obtain rfl := Option.some.inj h
    have hk : EX w0 ev 4 m_MD_isPlanned 39 [(1, .int (v1))] [] (hi) (hl) OUT := hk
    exact EX.pick [1] hk rfl
  · refine EX.go (i := .if_icmp .ge 33) (len := 3) (pc1 := 9) (st1 := []) (hi1 := hi) (hl1 := hl) rfl ?_ (fun _ _ _ => if_neg c1)
    refine EX.iload_n (x := v1) rfl (List.mem_of_getElem? (i := 1) rfl) ?_
    rcases ite_some h with ⟨c2, h⟩ | ⟨c2, h⟩
    · refine EX.go (i := .ifCond .eq 21) (len := 3) (pc1 := 31) (st1 := []) (hi1 := hi) (hl1 := hl) rfl ?_ (fun _ _ _ => if_pos c2)
      refine EX.pick [0, 2] ?_ rfl
      exact bJ_MD_isPlanned_31 ev h hk
    · refine EX.go (i := .ifCond .eq 21) (len := 3) (pc1 := 13) (st1 := []) (hi1 := hi) (hl1 := hl) rfl ?_ (fun _ _ _ => if_neg c2)
      refine EX.aload_n (x := 65) rfl (List.mem_of_getElem? (i := 0) rfl) ?_
      refine EX.aload_n (x := 65) rfl (List.mem_of_getElem? (i := 0) rfl) ?_
      refine EX.iload_n (x := v2) rfl (List.mem_of_getElem? (i := 2) rfl) ?_
      obtain ⟨z3, hz3, h⟩ := bnd_some h
      refine EX.callV (b := 65) (as := [.int (v2)]) (rest := [.ref 65]) (r := some (.int (z3.1))) (hi1 := z3.2.1) (hl1 := z3.2.2) rfl rfl rfl rfl rfl rfl ((b_MD_planeOf ev hz3).mono (by decide)) ?_
      show EX w0 ev 4 m_MD_isPlanned 19 [(0, .ref 65), (1, .int (v1)), (2, .int (v2))] [.int (z3.1), .ref 65] (z3.2.1) (z3.2.2) OUT
      obtain ⟨z4, hz4, h⟩ := bnd_some h
      refine EX.callV (b := 65) (as := [.int (z3.1)]) (rest := []) (r := some (.int (z4.1))) (hi1 := z4.2.1) (hl1 := z4.2.2) rfl rfl rfl rfl rfl rfl ((b_MD_frameOf ev hz4).mono (by decide)) ?_
      show EX w0 ev 4 m_MD_isPlanned 22 [(0, .ref 65), (1, .int (v1)), (2, .int (v2))] [.int (z4.1)] (z4.2.1) (z4.2.2) OUT
      refine EX.bipush (v := (-4)) rfl rfl ?_
      rcases ite_some h with ⟨c5, h⟩ | ⟨c5, h⟩
      · refine EX.go (i := .if_icmp .eq 7) (len := 3) (pc1 := 31) (st1 := []) (hi1 := z4.2.1) (hl1 := z4.2.2) rfl ?_ (fun _ _ _ => if_pos c5)
        refine EX.pick [0, 2] ?_ rfl
        exact bJ_MD_isPlanned_31 ev h hk
      · refine EX.go (i := .if_icmp .eq 7) (len := 3) (pc1 := 27) (st1 := []) (hi1 := z4.2.1) (hl1 := z4.2.2) rfl ?_ (fun _ _ _ => if_neg c5)
        refine EX.iconst (v := 1) rfl rfl ?_
        refine EX.go (i := .goto 4) (len := 3) (pc1 := 32) (st1 := [.int (1)]) (hi1 := z4.2.1) (hl1 := z4.2.2) rfl ?_ (fun _ _ _ => rfl)
        refine EX.pick [0, 2] ?_ rfl
        exact bJ_MD_isPlanned_32 ev h hk
def f_MD_isPlanned (N : Nat) (hi : HI) (hl : HL) : Option (Int32 × HI × HL) :=
  (lpN (fun s => B_MD_isPlanned_4 N s.1 s.2.1 s.2.2.1 s.2.2.2) N (1, 0, hi, hl)).bind fun x6 => if (x6.1 : Int32) = 0 ∨ (x6.1 : Int32) = 1 then some (x6.1, x6.2.1, x6.2.2) else none
set_option maxRecDepth 10000 in
set_option maxHeartbeats 4000000 in
theorem b_MD_isPlanned (ev : EV) {N : Nat} {hi : HI} {hl : HL} {o : Int32 × HI × HL} (h : f_MD_isPlanned N hi hl = some o) : EM w0 ev 5 m_MD_isPlanned [.ref 65] hi hl (oI o) := by
  unfold f_MD_isPlanned at h
  refine EM.of rfl ?_
  show EX w0 ev 4 m_MD_isPlanned 0 [(0, .ref 65)] [] (hi) (hl) (oI o)
  refine EX.iconst (v := 1) rfl rfl ?_
  refine EX.istore_n (req1 := [(1, .int (1)), (0, .ref 65)]) rfl rfl rfl ?_
  refine EX.iconst (v := 0) rfl rfl ?_
  refine EX.istore_n (req1 := [(2, .int (0)), (1, .int (1)), (0, .ref 65)]) rfl rfl rfl ?_
  obtain ⟨x6, hx6, h⟩ := bnd_some h
  refine EX.pick [2, 1, 0] ?_ rfl
  refine lp_sound (f := fun s => B_MD_isPlanned_4 N s.1 s.2.1 s.2.2.1 s.2.2.2) (PS := fun s => EX w0 ev 4 m_MD_isPlanned 4 [(0, .ref 65), (1, .int (s.1)), (2, .int (s.2.1))] [] (s.2.2.1) (s.2.2.2) (oI o)) (PX := fun x => EX w0 ev 4 m_MD_isPlanned 39 [(1, .int (x.1))] [] (x.2.1) (x.2.2) (oI o)) ?_ N _ x6 hx6 ?_
  · exact fun s z hz hk => bB_MD_isPlanned_4 ev hz hk
  show EX w0 ev 4 m_MD_isPlanned 39 [(1, .int (x6.1))] [] (x6.2.1) (x6.2.2) (oI o)
  refine EX.iload_n (x := x6.1) rfl (List.mem_of_getElem? (i := 0) rfl) ?_
  obtain ⟨g7, h⟩ := grp_some h
  obtain rfl := Option.some.inj h
  exact EX.zret rfl rfl g7
