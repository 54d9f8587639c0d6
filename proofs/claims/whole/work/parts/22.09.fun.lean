/-! methods as functions -/
def J_MD_readLine_199 (N : Nat) (v1 : Int32) (v2 : Int32) (hi : HI) (hl : HL) : Option (Unit × HI × HL) :=
  if (hi 65 27 : Int32) < 0 ∨ 12 ≤ Int32.toNatClampNeg (hi 65 27) then none else if ((wr (hi) 86 (Int32.toNatClampNeg (hi 65 27)) (v1)) 65 27 : Int32) < 0 ∨ 12 ≤ Int32.toNatClampNeg ((wr (hi) 86 (Int32.toNatClampNeg (hi 65 27)) (v1)) 65 27) then none else (f_MD_next N (wr (wr (wr (hi) 86 (Int32.toNatClampNeg (hi 65 27)) (v1)) 87 (Int32.toNatClampNeg ((wr (hi) 86 (Int32.toNatClampNeg (hi 65 27)) (v1)) 65 27)) (v2)) 65 27 ((((wr (wr (hi) 86 (Int32.toNatClampNeg (hi 65 27)) (v1)) 87 (Int32.toNatClampNeg ((wr (hi) 86 (Int32.toNatClampNeg (hi 65 27)) (v1)) 65 27)) (v2)) 65 27 : Int32) + (1)))) (hl)).bind fun z23 => some ((), z23.2.1, z23.2.2)
set_option maxRecDepth 10000 in
set_option maxHeartbeats 4000000 in
theorem bJ_MD_readLine_199 (ev : EV) {N : Nat} {v1 : Int32} {v2 : Int32} {hi : HI} {hl : HL} {o : Unit × HI × HL} (h : J_MD_readLine_199 N v1 v2 hi hl = some o) : EX w0 ev 4 m_MD_readLine 199 [(0, .ref 65), (1, .int (v1)), (2, .int (v2))] [] (hi) (hl) (oV o) := by
  unfold J_MD_readLine_199 at h
  refine EX.aload_n (x := 65) rfl (List.mem_of_getElem? (i := 0) rfl) ?_
  refine EX.go (i := .getfield 81) (len := 3) (pc1 := 203) (st1 := [.ref 86]) (hi1 := hi) (hl1 := hl) rfl ?_ (fun _ _ _ => rfl)
  refine EX.aload_n (x := 65) rfl (List.mem_of_getElem? (i := 0) rfl) ?_
  refine EX.go (i := .getfield 276) (len := 3) (pc1 := 207) (st1 := [.int (hi 65 27), .ref 86]) (hi1 := hi) (hl1 := hl) rfl ?_ (fun _ _ _ => rfl)
  refine EX.iload_n (x := v1) rfl (List.mem_of_getElem? (i := 1) rfl) ?_
  obtain ⟨g21, h⟩ := grd_some h
  refine EX.iastore rfl rfl g21 ?_
  refine EX.aload_n (x := 65) rfl (List.mem_of_getElem? (i := 0) rfl) ?_
  refine EX.go (i := .getfield 84) (len := 3) (pc1 := 213) (st1 := [.ref 87]) (hi1 := wr (hi) 86 (Int32.toNatClampNeg (hi 65 27)) (v1)) (hl1 := hl) rfl ?_ (fun _ _ _ => rfl)
  refine EX.aload_n (x := 65) rfl (List.mem_of_getElem? (i := 0) rfl) ?_
  refine EX.go (i := .getfield 276) (len := 3) (pc1 := 217) (st1 := [.int ((wr (hi) 86 (Int32.toNatClampNeg (hi 65 27)) (v1)) 65 27), .ref 87]) (hi1 := wr (hi) 86 (Int32.toNatClampNeg (hi 65 27)) (v1)) (hl1 := hl) rfl ?_ (fun _ _ _ => rfl)
  refine EX.iload_n (x := v2) rfl (List.mem_of_getElem? (i := 2) rfl) ?_
  obtain ⟨g22, h⟩ := grd_some h
  refine EX.iastore rfl rfl g22 ?_
  refine EX.aload_n (x := 65) rfl (List.mem_of_getElem? (i := 0) rfl) ?_
  refine EX.go (i := .dup) (len := 1) (pc1 := 221) (st1 := [.ref 65, .ref 65]) (hi1 := wr (wr (hi) 86 (Int32.toNatClampNeg (hi 65 27)) (v1)) 87 (Int32.toNatClampNeg ((wr (hi) 86 (Int32.toNatClampNeg (hi 65 27)) (v1)) 65 27)) (v2)) (hl1 := hl) rfl ?_ (fun _ _ _ => rfl)
  refine EX.go (i := .getfield 276) (len := 3) (pc1 := 224) (st1 := [.int ((wr (wr (hi) 86 (Int32.toNatClampNeg (hi 65 27)) (v1)) 87 (Int32.toNatClampNeg ((wr (hi) 86 (Int32.toNatClampNeg (hi 65 27)) (v1)) 65 27)) (v2)) 65 27), .ref 65]) (hi1 := wr (wr (hi) 86 (Int32.toNatClampNeg (hi 65 27)) (v1)) 87 (Int32.toNatClampNeg ((wr (hi) 86 (Int32.toNatClampNeg (hi 65 27)) (v1)) 65 27)) (v2)) (hl1 := hl) rfl ?_ (fun _ _ _ => rfl)
  refine EX.iconst (v := 1) rfl rfl ?_
  refine EX.go (i := .iadd) (len := 1) (pc1 := 226) (st1 := [.int ((((wr (wr (hi) 86 (Int32.toNatClampNeg (hi 65 27)) (v1)) 87 (Int32.toNatClampNeg ((wr (hi) 86 (Int32.toNatClampNeg (hi 65 27)) (v1)) 65 27)) (v2)) 65 27 : Int32) + (1))), .ref 65]) (hi1 := wr (wr (hi) 86 (Int32.toNatClampNeg (hi 65 27)) (v1)) 87 (Int32.toNatClampNeg ((wr (hi) 86 (Int32.toNatClampNeg (hi 65 27)) (v1)) 65 27)) (v2)) (hl1 := hl) rfl ?_ (fun _ _ _ => rfl)
  refine EX.go (i := .putfield 276) (len := 3) (pc1 := 229) (st1 := []) (hi1 := wr (wr (wr (hi) 86 (Int32.toNatClampNeg (hi 65 27)) (v1)) 87 (Int32.toNatClampNeg ((wr (hi) 86 (Int32.toNatClampNeg (hi 65 27)) (v1)) 65 27)) (v2)) 65 27 ((((wr (wr (hi) 86 (Int32.toNatClampNeg (hi 65 27)) (v1)) 87 (Int32.toNatClampNeg ((wr (hi) 86 (Int32.toNatClampNeg (hi 65 27)) (v1)) 65 27)) (v2)) 65 27 : Int32) + (1)))) (hl1 := hl) rfl ?_ (fun _ _ _ => rfl)
  refine EX.aload_n (x := 65) rfl (List.mem_of_getElem? (i := 0) rfl) ?_
  obtain ⟨z23, hz23, h⟩ := bnd_some h
  refine EX.callV (b := 65) (as := []) (rest := []) (r := none) (hi1 := z23.2.1) (hl1 := z23.2.2) rfl rfl rfl rfl rfl rfl ((b_MD_next ev hz23).mono (by decide)) ?_
  show EX w0 ev 4 m_MD_readLine 233 [(0, .ref 65), (1, .int (v1)), (2, .int (v2))] [] (z23.2.1) (z23.2.2) (oV o)
  obtain rfl := Option.some.inj h
  exact EX.vret rfl rfl
def J_MD_readLine_195 (N : Nat) (v1 : Int32) (v2 : Int32) (s0 : Int32) (hi : HI) (hl : HL) : Option (Unit × HI × HL) :=
  (f_MD_wants N (s0) (2) (hi) (hl)).bind fun z20 => J_MD_readLine_199 N (v1) (v2) (z20.2.1) (z20.2.2)
set_option maxRecDepth 10000 in
set_option maxHeartbeats 4000000 in
theorem bJ_MD_readLine_195 (ev : EV) {N : Nat} {v1 : Int32} {v2 : Int32} {s0 : Int32} {hi : HI} {hl : HL} {o : Unit × HI × HL} (h : J_MD_readLine_195 N v1 v2 s0 hi hl = some o) : EX w0 ev 4 m_MD_readLine 195 [(0, .ref 65), (1, .int (v1)), (2, .int (v2))] [.int (s0), .ref 65] (hi) (hl) (oV o) := by
  unfold J_MD_readLine_195 at h
  refine EX.iconst (v := 2) rfl rfl ?_
  obtain ⟨z20, hz20, h⟩ := bnd_some h
  refine EX.callV (b := 65) (as := [.int (s0), .int (2)]) (rest := []) (r := none) (hi1 := z20.2.1) (hl1 := z20.2.2) rfl rfl rfl rfl rfl rfl ((b_MD_wants ev hz20).mono (by decide)) ?_
  show EX w0 ev 4 m_MD_readLine 199 [(0, .ref 65), (1, .int (v1)), (2, .int (v2))] [] (z20.2.1) (z20.2.2) (oV o)
  refine EX.pick [0, 1, 2] ?_ rfl
  exact bJ_MD_readLine_199 ev h
def J_MD_readLine_165 (N : Nat) (v1 : Int32) (hi : HI) (hl : HL) : Option (Unit × HI × HL) :=
  (f_MD_next N (hi) (hl)).bind fun z17 => if (z17.2.1 65 36 : Int32) = 0 then if (z17.2.1 65 34 : Int32) = (3 : Int32) then J_MD_readLine_195 N (v1) (hi 65 35) (1) (z17.2.1) (z17.2.2) else J_MD_readLine_195 N (v1) (hi 65 35) (0) (z17.2.1) (z17.2.2) else J_MD_readLine_199 N (v1) (hi 65 35) (z17.2.1) (z17.2.2)
set_option maxRecDepth 10000 in
set_option maxHeartbeats 4000000 in
theorem bJ_MD_readLine_165 (ev : EV) {N : Nat} {v1 : Int32} {hi : HI} {hl : HL} {o : Unit × HI × HL} (h : J_MD_readLine_165 N v1 hi hl = some o) : EX w0 ev 4 m_MD_readLine 165 [(0, .ref 65), (1, .int (v1))] [] (hi) (hl) (oV o) := by
  unfold J_MD_readLine_165 at h
  refine EX.aload_n (x := 65) rfl (List.mem_of_getElem? (i := 0) rfl) ?_
  refine EX.go (i := .getfield 256) (len := 3) (pc1 := 169) (st1 := [.int (hi 65 35)]) (hi1 := hi) (hl1 := hl) rfl ?_ (fun _ _ _ => rfl)
  refine EX.istore_n (req1 := [(2, .int (hi 65 35)), (0, .ref 65), (1, .int (v1))]) rfl rfl rfl ?_
  refine EX.aload_n (x := 65) rfl (List.mem_of_getElem? (i := 1) rfl) ?_
  obtain ⟨z17, hz17, h⟩ := bnd_some h
  refine EX.callV (b := 65) (as := []) (rest := []) (r := none) (hi1 := z17.2.1) (hl1 := z17.2.2) rfl rfl rfl rfl rfl rfl ((b_MD_next ev hz17).mono (by decide)) ?_
  show EX w0 ev 4 m_MD_readLine 174 [(2, .int (hi 65 35)), (0, .ref 65), (1, .int (v1))] [] (z17.2.1) (z17.2.2) (oV o)
  refine EX.aload_n (x := 65) rfl (List.mem_of_getElem? (i := 1) rfl) ?_
  refine EX.go (i := .getfield 230) (len := 3) (pc1 := 178) (st1 := [.int (z17.2.1 65 36)]) (hi1 := z17.2.1) (hl1 := z17.2.2) rfl ?_ (fun _ _ _ => rfl)
  rcases ite_some h with ⟨c18, h⟩ | ⟨c18, h⟩
  · refine EX.go (i := .ifCond .ne 21) (len := 3) (pc1 := 181) (st1 := []) (hi1 := z17.2.1) (hl1 := z17.2.2) rfl ?_ (fun _ _ _ => if_pos c18)
    refine EX.aload_n (x := 65) rfl (List.mem_of_getElem? (i := 1) rfl) ?_
    refine EX.aload_n (x := 65) rfl (List.mem_of_getElem? (i := 1) rfl) ?_
    refine EX.go (i := .getfield 245) (len := 3) (pc1 := 186) (st1 := [.int (z17.2.1 65 34), .ref 65]) (hi1 := z17.2.1) (hl1 := z17.2.2) rfl ?_ (fun _ _ _ => rfl)
    refine EX.iconst (v := 3) rfl rfl ?_
    rcases ite_some h with ⟨c19, h⟩ | ⟨c19, h⟩
    · refine EX.go (i := .if_icmp .ne 7) (len := 3) (pc1 := 190) (st1 := [.ref 65]) (hi1 := z17.2.1) (hl1 := z17.2.2) rfl ?_ (fun _ _ _ => if_pos c19)
      refine EX.iconst (v := 1) rfl rfl ?_
      refine EX.go (i := .goto 4) (len := 3) (pc1 := 195) (st1 := [.int (1), .ref 65]) (hi1 := z17.2.1) (hl1 := z17.2.2) rfl ?_ (fun _ _ _ => rfl)
      refine EX.pick [1, 2, 0] ?_ rfl
      exact bJ_MD_readLine_195 ev h
    · refine EX.go (i := .if_icmp .ne 7) (len := 3) (pc1 := 194) (st1 := [.ref 65]) (hi1 := z17.2.1) (hl1 := z17.2.2) rfl ?_ (fun _ _ _ => if_neg c19)
      refine EX.iconst (v := 0) rfl rfl ?_
      refine EX.pick [1, 2, 0] ?_ rfl
      exact bJ_MD_readLine_195 ev h
  · refine EX.go (i := .ifCond .ne 21) (len := 3) (pc1 := 199) (st1 := []) (hi1 := z17.2.1) (hl1 := z17.2.2) rfl ?_ (fun _ _ _ => if_neg c18)
    refine EX.pick [1, 2, 0] ?_ rfl
    exact bJ_MD_readLine_199 ev h
def J_MD_readLine_137 (N : Nat) (v1 : Int32) (s0 : Int32) (hi : HI) (hl : HL) : Option (Unit × HI × HL) :=
  (f_MD_wants N (s0) (2) (hi) (hl)).bind fun z13 => if (z13.2.1 65 36 : Int32) = 0 then (f_MD_in N ((Int32.toInt64 (z13.2.1 65 35))) (1) (60) (z13.2.1) (z13.2.2)).bind fun z15 => (f_MD_wants N (z15.1) (3) (z15.2.1) (z15.2.2)).bind fun z16 => J_MD_readLine_165 N (v1) (z16.2.1) (z16.2.2) else J_MD_readLine_165 N (v1) (z13.2.1) (z13.2.2)
set_option maxRecDepth 10000 in
set_option maxHeartbeats 4000000 in
theorem bJ_MD_readLine_137 (ev : EV) {N : Nat} {v1 : Int32} {s0 : Int32} {hi : HI} {hl : HL} {o : Unit × HI × HL} (h : J_MD_readLine_137 N v1 s0 hi hl = some o) : EX w0 ev 4 m_MD_readLine 137 [(0, .ref 65), (1, .int (v1))] [.int (s0), .ref 65] (hi) (hl) (oV o) := by
  unfold J_MD_readLine_137 at h
  refine EX.iconst (v := 2) rfl rfl ?_
  obtain ⟨z13, hz13, h⟩ := bnd_some h
  refine EX.callV (b := 65) (as := [.int (s0), .int (2)]) (rest := []) (r := none) (hi1 := z13.2.1) (hl1 := z13.2.2) rfl rfl rfl rfl rfl rfl ((b_MD_wants ev hz13).mono (by decide)) ?_
  show EX w0 ev 4 m_MD_readLine 141 [(0, .ref 65), (1, .int (v1))] [] (z13.2.1) (z13.2.2) (oV o)
  refine EX.aload_n (x := 65) rfl (List.mem_of_getElem? (i := 0) rfl) ?_
  refine EX.go (i := .getfield 230) (len := 3) (pc1 := 145) (st1 := [.int (z13.2.1 65 36)]) (hi1 := z13.2.1) (hl1 := z13.2.2) rfl ?_ (fun _ _ _ => rfl)
  rcases ite_some h with ⟨c14, h⟩ | ⟨c14, h⟩
  · refine EX.go (i := .ifCond .ne 20) (len := 3) (pc1 := 148) (st1 := []) (hi1 := z13.2.1) (hl1 := z13.2.2) rfl ?_ (fun _ _ _ => if_pos c14)
    refine EX.aload_n (x := 65) rfl (List.mem_of_getElem? (i := 0) rfl) ?_
    refine EX.aload_n (x := 65) rfl (List.mem_of_getElem? (i := 0) rfl) ?_
    refine EX.go (i := .getfield 256) (len := 3) (pc1 := 153) (st1 := [.int (z13.2.1 65 35), .ref 65]) (hi1 := z13.2.1) (hl1 := z13.2.2) rfl ?_ (fun _ _ _ => rfl)
    refine EX.go (i := .i2l) (len := 1) (pc1 := 154) (st1 := [.long ((Int32.toInt64 (z13.2.1 65 35))), .ref 65]) (hi1 := z13.2.1) (hl1 := z13.2.2) rfl ?_ (fun _ _ _ => rfl)
    refine EX.lconst (v := 1) rfl rfl ?_
    refine EX.go (i := .ldc2_w 282) (len := 3) (pc1 := 158) (st1 := [.long (60), .long (1), .long ((Int32.toInt64 (z13.2.1 65 35))), .ref 65]) (hi1 := z13.2.1) (hl1 := z13.2.2) rfl ?_ (fun _ _ _ => rfl)
    obtain ⟨z15, hz15, h⟩ := bnd_some h
    refine EX.callS (as := [.long ((Int32.toInt64 (z13.2.1 65 35))), .long (1), .long (60)]) (rest := [.ref 65]) (r := some (.int (z15.1))) (hi1 := z15.2.1) (hl1 := z15.2.2) rfl rfl rfl rfl rfl rfl ((b_MD_in ev hz15).mono (by decide)) ?_
    show EX w0 ev 4 m_MD_readLine 161 [(0, .ref 65), (1, .int (v1))] [.int (z15.1), .ref 65] (z15.2.1) (z15.2.2) (oV o)
    refine EX.iconst (v := 3) rfl rfl ?_
    obtain ⟨z16, hz16, h⟩ := bnd_some h
    refine EX.callV (b := 65) (as := [.int (z15.1), .int (3)]) (rest := []) (r := none) (hi1 := z16.2.1) (hl1 := z16.2.2) rfl rfl rfl rfl rfl rfl ((b_MD_wants ev hz16).mono (by decide)) ?_
    show EX w0 ev 4 m_MD_readLine 165 [(0, .ref 65), (1, .int (v1))] [] (z16.2.1) (z16.2.2) (oV o)
    refine EX.pick [0, 1] ?_ rfl
    exact bJ_MD_readLine_165 ev h
  · refine EX.go (i := .ifCond .ne 20) (len := 3) (pc1 := 165) (st1 := []) (hi1 := z13.2.1) (hl1 := z13.2.2) rfl ?_ (fun _ _ _ => if_neg c14)
    refine EX.pick [0, 1] ?_ rfl
    exact bJ_MD_readLine_165 ev h
def J_MD_readLine_119 (N : Nat) (v1 : Int32) (hi : HI) (hl : HL) : Option (Unit × HI × HL) :=
  (f_MD_next N (hi) (hl)).bind fun z11 => if (z11.2.1 65 34 : Int32) = (2 : Int32) then J_MD_readLine_137 N (v1) (1) (z11.2.1) (z11.2.2) else J_MD_readLine_137 N (v1) (0) (z11.2.1) (z11.2.2)
set_option maxRecDepth 10000 in
set_option maxHeartbeats 4000000 in
theorem bJ_MD_readLine_119 (ev : EV) {N : Nat} {v1 : Int32} {hi : HI} {hl : HL} {o : Unit × HI × HL} (h : J_MD_readLine_119 N v1 hi hl = some o) : EX w0 ev 4 m_MD_readLine 119 [(0, .ref 65), (1, .int (v1))] [] (hi) (hl) (oV o) := by
  unfold J_MD_readLine_119 at h
  refine EX.aload_n (x := 65) rfl (List.mem_of_getElem? (i := 0) rfl) ?_
  obtain ⟨z11, hz11, h⟩ := bnd_some h
  refine EX.callV (b := 65) (as := []) (rest := []) (r := none) (hi1 := z11.2.1) (hl1 := z11.2.2) rfl rfl rfl rfl rfl rfl ((b_MD_next ev hz11).mono (by decide)) ?_
  show EX w0 ev 4 m_MD_readLine 123 [(0, .ref 65), (1, .int (v1))] [] (z11.2.1) (z11.2.2) (oV o)
  refine EX.aload_n (x := 65) rfl (List.mem_of_getElem? (i := 0) rfl) ?_
  refine EX.aload_n (x := 65) rfl (List.mem_of_getElem? (i := 0) rfl) ?_
  refine EX.go (i := .getfield 245) (len := 3) (pc1 := 128) (st1 := [.int (z11.2.1 65 34), .ref 65]) (hi1 := z11.2.1) (hl1 := z11.2.2) rfl ?_ (fun _ _ _ => rfl)
  refine EX.iconst (v := 2) rfl rfl ?_
  rcases ite_some h with ⟨c12, h⟩ | ⟨c12, h⟩
  · refine EX.go (i := .if_icmp .ne 7) (len := 3) (pc1 := 132) (st1 := [.ref 65]) (hi1 := z11.2.1) (hl1 := z11.2.2) rfl ?_ (fun _ _ _ => if_pos c12)
    refine EX.iconst (v := 1) rfl rfl ?_
    refine EX.go (i := .goto 4) (len := 3) (pc1 := 137) (st1 := [.int (1), .ref 65]) (hi1 := z11.2.1) (hl1 := z11.2.2) rfl ?_ (fun _ _ _ => rfl)
    refine EX.pick [0, 1] ?_ rfl
    exact bJ_MD_readLine_137 ev h
  · refine EX.go (i := .if_icmp .ne 7) (len := 3) (pc1 := 136) (st1 := [.ref 65]) (hi1 := z11.2.1) (hl1 := z11.2.2) rfl ?_ (fun _ _ _ => if_neg c12)
    refine EX.iconst (v := 0) rfl rfl ?_
    refine EX.pick [0, 1] ?_ rfl
    exact bJ_MD_readLine_137 ev h
def J_MD_readLine_91 (N : Nat) (v1 : Int32) (hi : HI) (hl : HL) : Option (Unit × HI × HL) :=
  (f_MD_next N (hi) (hl)).bind fun z29 => (f_MD_readWires N (v1) (2) (z29.2.1) (z29.2.2)).bind fun z30 => if (z30.2.1 65 36 : Int32) = 0 then (f_MD_isName N (3) (z30.2.1) (z30.2.2)).bind fun z32 => (f_MD_wants N (z32.1) (2) (z32.2.1) (z32.2.2)).bind fun z33 => J_MD_readLine_119 N (z30.1) (z33.2.1) (z33.2.2) else J_MD_readLine_119 N (z30.1) (z30.2.1) (z30.2.2)
set_option maxRecDepth 10000 in
set_option maxHeartbeats 4000000 in
theorem bJ_MD_readLine_91 (ev : EV) {N : Nat} {v1 : Int32} {hi : HI} {hl : HL} {o : Unit × HI × HL} (h : J_MD_readLine_91 N v1 hi hl = some o) : EX w0 ev 4 m_MD_readLine 91 [(0, .ref 65), (1, .int (v1))] [] (hi) (hl) (oV o) := by
  unfold J_MD_readLine_91 at h
  refine EX.aload_n (x := 65) rfl (List.mem_of_getElem? (i := 0) rfl) ?_
  obtain ⟨z29, hz29, h⟩ := bnd_some h
  refine EX.callV (b := 65) (as := []) (rest := []) (r := none) (hi1 := z29.2.1) (hl1 := z29.2.2) rfl rfl rfl rfl rfl rfl ((b_MD_next ev hz29).mono (by decide)) ?_
  show EX w0 ev 4 m_MD_readLine 95 [(0, .ref 65), (1, .int (v1))] [] (z29.2.1) (z29.2.2) (oV o)
  refine EX.aload_n (x := 65) rfl (List.mem_of_getElem? (i := 0) rfl) ?_
  refine EX.iload_n (x := v1) rfl (List.mem_of_getElem? (i := 1) rfl) ?_
  refine EX.iconst (v := 2) rfl rfl ?_
  obtain ⟨z30, hz30, h⟩ := bnd_some h
  refine EX.callV (b := 65) (as := [.int (v1), .int (2)]) (rest := []) (r := some (.int (z30.1))) (hi1 := z30.2.1) (hl1 := z30.2.2) rfl rfl rfl rfl rfl rfl ((b_MD_readWires ev hz30).mono (by decide)) ?_
  show EX w0 ev 4 m_MD_readLine 101 [(0, .ref 65), (1, .int (v1))] [.int (z30.1)] (z30.2.1) (z30.2.2) (oV o)
  refine EX.istore_n (req1 := [(1, .int (z30.1)), (0, .ref 65)]) rfl rfl rfl ?_
  refine EX.aload_n (x := 65) rfl (List.mem_of_getElem? (i := 1) rfl) ?_
  refine EX.go (i := .getfield 230) (len := 3) (pc1 := 106) (st1 := [.int (z30.2.1 65 36)]) (hi1 := z30.2.1) (hl1 := z30.2.2) rfl ?_ (fun _ _ _ => rfl)
  rcases ite_some h with ⟨c31, h⟩ | ⟨c31, h⟩
  · refine EX.go (i := .ifCond .ne 13) (len := 3) (pc1 := 109) (st1 := []) (hi1 := z30.2.1) (hl1 := z30.2.2) rfl ?_ (fun _ _ _ => if_pos c31)
    refine EX.aload_n (x := 65) rfl (List.mem_of_getElem? (i := 1) rfl) ?_
    refine EX.aload_n (x := 65) rfl (List.mem_of_getElem? (i := 1) rfl) ?_
    refine EX.iconst (v := 3) rfl rfl ?_
    obtain ⟨z32, hz32, h⟩ := bnd_some h
    refine EX.callV (b := 65) (as := [.int (3)]) (rest := [.ref 65]) (r := some (.int (z32.1))) (hi1 := z32.2.1) (hl1 := z32.2.2) rfl rfl rfl rfl rfl rfl ((b_MD_isName ev hz32).mono (by decide)) ?_
    show EX w0 ev 4 m_MD_readLine 115 [(1, .int (z30.1)), (0, .ref 65)] [.int (z32.1), .ref 65] (z32.2.1) (z32.2.2) (oV o)
    refine EX.iconst (v := 2) rfl rfl ?_
    obtain ⟨z33, hz33, h⟩ := bnd_some h
    refine EX.callV (b := 65) (as := [.int (z32.1), .int (2)]) (rest := []) (r := none) (hi1 := z33.2.1) (hl1 := z33.2.2) rfl rfl rfl rfl rfl rfl ((b_MD_wants ev hz33).mono (by decide)) ?_
    show EX w0 ev 4 m_MD_readLine 119 [(1, .int (z30.1)), (0, .ref 65)] [] (z33.2.1) (z33.2.2) (oV o)
    refine EX.pick [1, 0] ?_ rfl
    exact bJ_MD_readLine_119 ev h
  · refine EX.go (i := .ifCond .ne 13) (len := 3) (pc1 := 119) (st1 := []) (hi1 := z30.2.1) (hl1 := z30.2.2) rfl ?_ (fun _ _ _ => if_neg c31)
    refine EX.pick [1, 0] ?_ rfl
    exact bJ_MD_readLine_119 ev h
def J_MD_readLine_41 (N : Nat) (s0 : Int32) (hi : HI) (hl : HL) : Option (Unit × HI × HL) :=
  (f_MD_wants N (s0) (5) (hi) (hl)).bind fun z7 => if (z7.2.1 65 36 : Int32) ≤ 0 then (f_MD_isName N (1) (z7.2.1) (z7.2.2)).bind fun z9 => if (z9.1 : Int32) = 0 then J_MD_readLine_119 N (0) (z9.2.1) (z9.2.2) else (f_MD_next N (z9.2.1) (z9.2.2)).bind fun z24 => (f_MD_readWires N (0) (1) (z24.2.1) (z24.2.2)).bind fun z25 => if (z25.2.1 65 36 : Int32) = 0 then (f_MD_isName N (2) (z25.2.1) (z25.2.2)).bind fun z27 => (f_MD_wants N (z27.1) (2) (z27.2.1) (z27.2.2)).bind fun z28 => J_MD_readLine_91 N (z25.1) (z28.2.1) (z28.2.2) else J_MD_readLine_91 N (z25.1) (z25.2.1) (z25.2.2) else some ((), z7.2.1, z7.2.2)
set_option maxRecDepth 10000 in
set_option maxHeartbeats 4000000 in
theorem bJ_MD_readLine_41 (ev : EV) {N : Nat} {s0 : Int32} {hi : HI} {hl : HL} {o : Unit × HI × HL} (h : J_MD_readLine_41 N s0 hi hl = some o) : EX w0 ev 4 m_MD_readLine 41 [(0, .ref 65)] [.int (s0), .ref 65] (hi) (hl) (oV o) := by
  unfold J_MD_readLine_41 at h
  refine EX.iconst (v := 5) rfl rfl ?_
  obtain ⟨z7, hz7, h⟩ := bnd_some h
  refine EX.callV (b := 65) (as := [.int (s0), .int (5)]) (rest := []) (r := none) (hi1 := z7.2.1) (hl1 := z7.2.2) rfl rfl rfl rfl rfl rfl ((b_MD_wants ev hz7).mono (by decide)) ?_
  show EX w0 ev 4 m_MD_readLine 45 [(0, .ref 65)] [] (z7.2.1) (z7.2.2) (oV o)
  refine EX.aload_n (x := 65) rfl (List.mem_of_getElem? (i := 0) rfl) ?_
  refine EX.go (i := .getfield 230) (len := 3) (pc1 := 49) (st1 := [.int (z7.2.1 65 36)]) (hi1 := z7.2.1) (hl1 := z7.2.2) rfl ?_ (fun _ _ _ => rfl)
  rcases ite_some h with ⟨c8, h⟩ | ⟨c8, h⟩
  · refine EX.go (i := .ifCond .le 4) (len := 3) (pc1 := 53) (st1 := []) (hi1 := z7.2.1) (hl1 := z7.2.2) rfl ?_ (fun _ _ _ => if_pos c8)
    refine EX.iconst (v := 0) rfl rfl ?_
    refine EX.istore_n (req1 := [(1, .int (0)), (0, .ref 65)]) rfl rfl rfl ?_
    refine EX.aload_n (x := 65) rfl (List.mem_of_getElem? (i := 1) rfl) ?_
    refine EX.iconst (v := 1) rfl rfl ?_
    obtain ⟨z9, hz9, h⟩ := bnd_some h
    refine EX.callV (b := 65) (as := [.int (1)]) (rest := []) (r := some (.int (z9.1))) (hi1 := z9.2.1) (hl1 := z9.2.2) rfl rfl rfl rfl rfl rfl ((b_MD_isName ev hz9).mono (by decide)) ?_
    show EX w0 ev 4 m_MD_readLine 60 [(1, .int (0)), (0, .ref 65)] [.int (z9.1)] (z9.2.1) (z9.2.2) (oV o)
    rcases ite_some h with ⟨c10, h⟩ | ⟨c10, h⟩
    · refine EX.go (i := .ifCond .eq 59) (len := 3) (pc1 := 119) (st1 := []) (hi1 := z9.2.1) (hl1 := z9.2.2) rfl ?_ (fun _ _ _ => if_pos c10)
      refine EX.pick [1, 0] ?_ rfl
      exact bJ_MD_readLine_119 ev h
    · refine EX.go (i := .ifCond .eq 59) (len := 3) (pc1 := 63) (st1 := []) (hi1 := z9.2.1) (hl1 := z9.2.2) rfl ?_ (fun _ _ _ => if_neg c10)
      refine EX.aload_n (x := 65) rfl (List.mem_of_getElem? (i := 1) rfl) ?_
      obtain ⟨z24, hz24, h⟩ := bnd_some h
      refine EX.callV (b := 65) (as := []) (rest := []) (r := none) (hi1 := z24.2.1) (hl1 := z24.2.2) rfl rfl rfl rfl rfl rfl ((b_MD_next ev hz24).mono (by decide)) ?_
      show EX w0 ev 4 m_MD_readLine 67 [(1, .int (0)), (0, .ref 65)] [] (z24.2.1) (z24.2.2) (oV o)
      refine EX.aload_n (x := 65) rfl (List.mem_of_getElem? (i := 1) rfl) ?_
      refine EX.iconst (v := 0) rfl rfl ?_
      refine EX.iconst (v := 1) rfl rfl ?_
      obtain ⟨z25, hz25, h⟩ := bnd_some h
      refine EX.callV (b := 65) (as := [.int (0), .int (1)]) (rest := []) (r := some (.int (z25.1))) (hi1 := z25.2.1) (hl1 := z25.2.2) rfl rfl rfl rfl rfl rfl ((b_MD_readWires ev hz25).mono (by decide)) ?_
      show EX w0 ev 4 m_MD_readLine 73 [(1, .int (0)), (0, .ref 65)] [.int (z25.1)] (z25.2.1) (z25.2.2) (oV o)
      refine EX.istore_n (req1 := [(1, .int (z25.1)), (0, .ref 65)]) rfl rfl rfl ?_
      refine EX.aload_n (x := 65) rfl (List.mem_of_getElem? (i := 1) rfl) ?_
      refine EX.go (i := .getfield 230) (len := 3) (pc1 := 78) (st1 := [.int (z25.2.1 65 36)]) (hi1 := z25.2.1) (hl1 := z25.2.2) rfl ?_ (fun _ _ _ => rfl)
      rcases ite_some h with ⟨c26, h⟩ | ⟨c26, h⟩
      · refine EX.go (i := .ifCond .ne 13) (len := 3) (pc1 := 81) (st1 := []) (hi1 := z25.2.1) (hl1 := z25.2.2) rfl ?_ (fun _ _ _ => if_pos c26)
        refine EX.aload_n (x := 65) rfl (List.mem_of_getElem? (i := 1) rfl) ?_
        refine EX.aload_n (x := 65) rfl (List.mem_of_getElem? (i := 1) rfl) ?_
        refine EX.iconst (v := 2) rfl rfl ?_
        obtain ⟨z27, hz27, h⟩ := bnd_some h
        refine EX.callV (b := 65) (as := [.int (2)]) (rest := [.ref 65]) (r := some (.int (z27.1))) (hi1 := z27.2.1) (hl1 := z27.2.2) rfl rfl rfl rfl rfl rfl ((b_MD_isName ev hz27).mono (by decide)) ?_
        show EX w0 ev 4 m_MD_readLine 87 [(1, .int (z25.1)), (0, .ref 65)] [.int (z27.1), .ref 65] (z27.2.1) (z27.2.2) (oV o)
        refine EX.iconst (v := 2) rfl rfl ?_
        obtain ⟨z28, hz28, h⟩ := bnd_some h
        refine EX.callV (b := 65) (as := [.int (z27.1), .int (2)]) (rest := []) (r := none) (hi1 := z28.2.1) (hl1 := z28.2.2) rfl rfl rfl rfl rfl rfl ((b_MD_wants ev hz28).mono (by decide)) ?_
        show EX w0 ev 4 m_MD_readLine 91 [(1, .int (z25.1)), (0, .ref 65)] [] (z28.2.1) (z28.2.2) (oV o)
        refine EX.pick [1, 0] ?_ rfl
        exact bJ_MD_readLine_91 ev h
      · refine EX.go (i := .ifCond .ne 13) (len := 3) (pc1 := 91) (st1 := []) (hi1 := z25.2.1) (hl1 := z25.2.2) rfl ?_ (fun _ _ _ => if_neg c26)
        refine EX.pick [1, 0] ?_ rfl
        exact bJ_MD_readLine_91 ev h
  · refine EX.go (i := .ifCond .le 4) (len := 3) (pc1 := 52) (st1 := []) (hi1 := z7.2.1) (hl1 := z7.2.2) rfl ?_ (fun _ _ _ => if_neg c8)
    obtain rfl := Option.some.inj h
    exact EX.vret rfl rfl
def J_MD_readLine_22 (N : Nat) (s0 : Int32) (hi : HI) (hl : HL) : Option (Unit × HI × HL) :=
  (f_MD_wants N (s0) (2) (hi) (hl)).bind fun z5 => if (12 : Int32) ≤ (z5.2.1 65 27 : Int32) then J_MD_readLine_41 N (0) (z5.2.1) (z5.2.2) else J_MD_readLine_41 N (1) (z5.2.1) (z5.2.2)
set_option maxRecDepth 10000 in
set_option maxHeartbeats 4000000 in
theorem bJ_MD_readLine_22 (ev : EV) {N : Nat} {s0 : Int32} {hi : HI} {hl : HL} {o : Unit × HI × HL} (h : J_MD_readLine_22 N s0 hi hl = some o) : EX w0 ev 4 m_MD_readLine 22 [(0, .ref 65)] [.int (s0), .ref 65] (hi) (hl) (oV o) := by
  unfold J_MD_readLine_22 at h
  refine EX.iconst (v := 2) rfl rfl ?_
  obtain ⟨z5, hz5, h⟩ := bnd_some h
  refine EX.callV (b := 65) (as := [.int (s0), .int (2)]) (rest := []) (r := none) (hi1 := z5.2.1) (hl1 := z5.2.2) rfl rfl rfl rfl rfl rfl ((b_MD_wants ev hz5).mono (by decide)) ?_
  show EX w0 ev 4 m_MD_readLine 26 [(0, .ref 65)] [] (z5.2.1) (z5.2.2) (oV o)
  refine EX.aload_n (x := 65) rfl (List.mem_of_getElem? (i := 0) rfl) ?_
  refine EX.aload_n (x := 65) rfl (List.mem_of_getElem? (i := 0) rfl) ?_
  refine EX.go (i := .getfield 276) (len := 3) (pc1 := 31) (st1 := [.int (z5.2.1 65 27), .ref 65]) (hi1 := z5.2.1) (hl1 := z5.2.2) rfl ?_ (fun _ _ _ => rfl)
  refine EX.bipush (v := 12) rfl rfl ?_
  rcases ite_some h with ⟨c6, h⟩ | ⟨c6, h⟩
  · refine EX.go (i := .if_icmp .ge 7) (len := 3) (pc1 := 40) (st1 := [.ref 65]) (hi1 := z5.2.1) (hl1 := z5.2.2) rfl ?_ (fun _ _ _ => if_pos c6)
    refine EX.iconst (v := 0) rfl rfl ?_
    refine EX.pick [0] ?_ rfl
    exact bJ_MD_readLine_41 ev h
  · refine EX.go (i := .if_icmp .ge 7) (len := 3) (pc1 := 36) (st1 := [.ref 65]) (hi1 := z5.2.1) (hl1 := z5.2.2) rfl ?_ (fun _ _ _ => if_neg c6)
    refine EX.iconst (v := 1) rfl rfl ?_
    refine EX.go (i := .goto 4) (len := 3) (pc1 := 41) (st1 := [.int (1), .ref 65]) (hi1 := z5.2.1) (hl1 := z5.2.2) rfl ?_ (fun _ _ _ => rfl)
    refine EX.pick [0] ?_ rfl
    exact bJ_MD_readLine_41 ev h
def J_MD_readLine_17 (N : Nat) (hi : HI) (hl : HL) : Option (Unit × HI × HL) :=
  J_MD_readLine_22 N (1) (hi) (hl)
set_option maxRecDepth 10000 in
set_option maxHeartbeats 4000000 in
theorem bJ_MD_readLine_17 (ev : EV) {N : Nat} {hi : HI} {hl : HL} {o : Unit × HI × HL} (h : J_MD_readLine_17 N hi hl = some o) : EX w0 ev 4 m_MD_readLine 17 [(0, .ref 65)] [.ref 65] (hi) (hl) (oV o) := by
  unfold J_MD_readLine_17 at h
  refine EX.iconst (v := 1) rfl rfl ?_
  refine EX.go (i := .goto 4) (len := 3) (pc1 := 22) (st1 := [.int (1), .ref 65]) (hi1 := hi) (hl1 := hl) rfl ?_ (fun _ _ _ => rfl)
  refine EX.pick [0] ?_ rfl
  exact bJ_MD_readLine_22 ev h
def f_MD_readLine (N : Nat) (hi : HI) (hl : HL) : Option (Unit × HI × HL) :=
  (f_MD_isName N (1) (hi) (hl)).bind fun z1 => if (z1.1 : Int32) = 0 then (f_MD_isName N (4) (z1.2.1) (z1.2.2)).bind fun z3 => if (z3.1 : Int32) = 0 then J_MD_readLine_22 N (0) (z3.2.1) (z3.2.2) else J_MD_readLine_17 N (z3.2.1) (z3.2.2) else J_MD_readLine_17 N (z1.2.1) (z1.2.2)
set_option maxRecDepth 10000 in
set_option maxHeartbeats 4000000 in
theorem b_MD_readLine (ev : EV) {N : Nat} {hi : HI} {hl : HL} {o : Unit × HI × HL} (h : f_MD_readLine N hi hl = some o) : EM w0 ev 5 m_MD_readLine [.ref 65] hi hl (oV o) := by
  unfold f_MD_readLine at h
  refine EM.of rfl ?_
  show EX w0 ev 4 m_MD_readLine 0 [(0, .ref 65)] [] (hi) (hl) (oV o)
  refine EX.aload_n (x := 65) rfl (List.mem_of_getElem? (i := 0) rfl) ?_
  refine EX.aload_n (x := 65) rfl (List.mem_of_getElem? (i := 0) rfl) ?_
  refine EX.iconst (v := 1) rfl rfl ?_
  obtain ⟨z1, hz1, h⟩ := bnd_some h
  refine EX.callV (b := 65) (as := [.int (1)]) (rest := [.ref 65]) (r := some (.int (z1.1))) (hi1 := z1.2.1) (hl1 := z1.2.2) rfl rfl rfl rfl rfl rfl ((b_MD_isName ev hz1).mono (by decide)) ?_
  show EX w0 ev 4 m_MD_readLine 6 [(0, .ref 65)] [.int (z1.1), .ref 65] (z1.2.1) (z1.2.2) (oV o)
  rcases ite_some h with ⟨c2, h⟩ | ⟨c2, h⟩
  · refine EX.go (i := .ifCond .ne 11) (len := 3) (pc1 := 9) (st1 := [.ref 65]) (hi1 := z1.2.1) (hl1 := z1.2.2) rfl ?_ (fun _ _ _ => if_pos c2)
    refine EX.aload_n (x := 65) rfl (List.mem_of_getElem? (i := 0) rfl) ?_
    refine EX.iconst (v := 4) rfl rfl ?_
    obtain ⟨z3, hz3, h⟩ := bnd_some h
    refine EX.callV (b := 65) (as := [.int (4)]) (rest := [.ref 65]) (r := some (.int (z3.1))) (hi1 := z3.2.1) (hl1 := z3.2.2) rfl rfl rfl rfl rfl rfl ((b_MD_isName ev hz3).mono (by decide)) ?_
    show EX w0 ev 4 m_MD_readLine 14 [(0, .ref 65)] [.int (z3.1), .ref 65] (z3.2.1) (z3.2.2) (oV o)
    rcases ite_some h with ⟨c4, h⟩ | ⟨c4, h⟩
    · refine EX.go (i := .ifCond .eq 7) (len := 3) (pc1 := 21) (st1 := [.ref 65]) (hi1 := z3.2.1) (hl1 := z3.2.2) rfl ?_ (fun _ _ _ => if_pos c4)
      refine EX.iconst (v := 0) rfl rfl ?_
      refine EX.pick [0] ?_ rfl
      exact bJ_MD_readLine_22 ev h
    · refine EX.go (i := .ifCond .eq 7) (len := 3) (pc1 := 17) (st1 := [.ref 65]) (hi1 := z3.2.1) (hl1 := z3.2.2) rfl ?_ (fun _ _ _ => if_neg c4)
      refine EX.pick [0] ?_ rfl
      exact bJ_MD_readLine_17 ev h
  · refine EX.go (i := .ifCond .ne 11) (len := 3) (pc1 := 17) (st1 := [.ref 65]) (hi1 := z1.2.1) (hl1 := z1.2.2) rfl ?_ (fun _ _ _ => if_neg c2)
    refine EX.pick [0] ?_ rfl
    exact bJ_MD_readLine_17 ev h
def B_MD_program_19 (N : Nat) (hi : HI) (hl : HL) : Option ((HI × HL) ⊕ (HI × HL)) :=
  if (hi 65 36 : Int32) = 0 then if (hi 65 34 : Int32) = 0 then some (.inr (hi, hl)) else (f_MD_readLine N (hi) (hl)).bind fun z4 => some (.inl (z4.2.1, z4.2.2)) else some (.inr (hi, hl))
set_option maxRecDepth 10000 in
set_option maxHeartbeats 4000000 in
theorem bB_MD_program_19 (ev : EV) {N : Nat} {hi : HI} {hl : HL} {z : (HI × HL) ⊕ (HI × HL)} {OUT : Option Value × HI × HL} (h : B_MD_program_19 N hi hl = some z) (hk : Sum.elim (fun s => EX w0 ev 5 m_MD_program 19 [(0, .ref 65)] [] (s.1) (s.2) OUT) (fun x => EX w0 ev 5 m_MD_program 40 [(0, .ref 65)] [] (x.1) (x.2) OUT) z) : EX w0 ev 5 m_MD_program 19 [(0, .ref 65)] [] (hi) (hl) OUT := by
  unfold B_MD_program_19 at h
  refine EX.aload_n (x := 65) rfl (List.mem_of_getElem? (i := 0) rfl) ?_
  refine EX.go (i := .getfield 230) (len := 3) (pc1 := 23) (st1 := [.int (hi 65 36)]) (hi1 := hi) (hl1 := hl) rfl ?_ (fun _ _ _ => rfl)
  rcases ite_some h with ⟨c2, h⟩ | ⟨c2, h⟩
  · refine EX.go (i := .ifCond .ne 17) (len := 3) (pc1 := 26) (st1 := []) (hi1 := hi) (hl1 := hl) rfl ?_ (fun _ _ _ => if_pos c2)
    refine EX.aload_n (x := 65) rfl (List.mem_of_getElem? (i := 0) rfl) ?_
    refine EX.go (i := .getfield 245) (len := 3) (pc1 := 30) (st1 := [.int (hi 65 34)]) (hi1 := hi) (hl1 := hl) rfl ?_ (fun _ _ _ => rfl)
    rcases ite_some h with ⟨c3, h⟩ | ⟨c3, h⟩
    · refine EX.go (i := .ifCond .eq 10) (len := 3) (pc1 := 40) (st1 := []) (hi1 := hi) (hl1 := hl) rfl ?_ (fun _ _ _ => if_pos c3)
      obtain rfl := Option.some.inj h
      have hk : EX w0 ev 5 m_MD_program 40 [(0, .ref 65)] [] (hi) (hl) OUT := hk
      exact EX.pick [0] hk rfl
    · refine EX.go (i := .ifCond .eq 10) (len := 3) (pc1 := 33) (st1 := []) (hi1 := hi) (hl1 := hl) rfl ?_ (fun _ _ _ => if_neg c3)
      refine EX.aload_n (x := 65) rfl (List.mem_of_getElem? (i := 0) rfl) ?_
      obtain ⟨z4, hz4, h⟩ := bnd_some h
      refine EX.callV (b := 65) (as := []) (rest := []) (r := none) (hi1 := z4.2.1) (hl1 := z4.2.2) rfl rfl rfl rfl rfl rfl ((b_MD_readLine ev hz4).mono (by decide)) ?_
      show EX w0 ev 5 m_MD_program 37 [(0, .ref 65)] [] (z4.2.1) (z4.2.2) OUT
      refine EX.go (i := .goto (-18)) (len := 3) (pc1 := 19) (st1 := []) (hi1 := z4.2.1) (hl1 := z4.2.2) rfl ?_ (fun _ _ _ => rfl)
      obtain rfl := Option.some.inj h
      have hk : EX w0 ev 5 m_MD_program 19 [(0, .ref 65)] [] (z4.2.1) (z4.2.2) OUT := hk
      exact EX.pick [0] hk rfl
  · refine EX.go (i := .ifCond .ne 17) (len := 3) (pc1 := 40) (st1 := []) (hi1 := hi) (hl1 := hl) rfl ?_ (fun _ _ _ => if_neg c2)
    obtain rfl := Option.some.inj h
    have hk : EX w0 ev 5 m_MD_program 40 [(0, .ref 65)] [] (hi) (hl) OUT := hk
    exact EX.pick [0] hk rfl
def B_MD_program_70 (N : Nat) (v1 : Int32) (hi : HI) (hl : HL) : Option ((Int32 × HI × HL) ⊕ (HI × HL)) :=
  if (12 : Int32) ≤ (v1 : Int32) then some (.inr (hi, hl)) else if (v1 : Int32) < 0 ∨ 12 ≤ Int32.toNatClampNeg (v1) then none else if (v1 : Int32) < 0 ∨ 12 ≤ Int32.toNatClampNeg (v1) then none else if (v1 : Int32) < 0 ∨ 12 ≤ Int32.toNatClampNeg (v1) then none else if (v1 : Int32) < 0 ∨ 12 ≤ Int32.toNatClampNeg (v1) then none else if (v1 : Int32) < 0 ∨ 12 ≤ Int32.toNatClampNeg (v1) then none else some (.inl (v1 + 1, wr (wr (wr (hi) 83 (Int32.toNatClampNeg (v1)) (hi 86 (Int32.toNatClampNeg (v1)))) 84 (Int32.toNatClampNeg (v1)) ((wr (hi) 83 (Int32.toNatClampNeg (v1)) (hi 86 (Int32.toNatClampNeg (v1)))) 87 (Int32.toNatClampNeg (v1)))) 85 (Int32.toNatClampNeg (v1)) ((-4)), hl))
set_option maxRecDepth 10000 in
set_option maxHeartbeats 4000000 in
theorem bB_MD_program_70 (ev : EV) {N : Nat} {v1 : Int32} {hi : HI} {hl : HL} {z : (Int32 × HI × HL) ⊕ (HI × HL)} {OUT : Option Value × HI × HL} (h : B_MD_program_70 N v1 hi hl = some z) (hk : Sum.elim (fun s => EX w0 ev 5 m_MD_program 70 [(0, .ref 65), (1, .int (s.1))] [] (s.2.1) (s.2.2) OUT) (fun x => EX w0 ev 5 m_MD_program 114 [(0, .ref 65)] [] (x.1) (x.2) OUT) z) : EX w0 ev 5 m_MD_program 70 [(0, .ref 65), (1, .int (v1))] [] (hi) (hl) OUT := by
  unfold B_MD_program_70 at h
  refine EX.iload_n (x := v1) rfl (List.mem_of_getElem? (i := 1) rfl) ?_
  refine EX.bipush (v := 12) rfl rfl ?_
  rcases ite_some h with ⟨c7, h⟩ | ⟨c7, h⟩
  · refine EX.go (i := .if_icmp .ge 41) (len := 3) (pc1 := 114) (st1 := []) (hi1 := hi) (hl1 := hl) rfl ?_ (fun _ _ _ => if_pos c7)
    obtain rfl := Option.some.inj h
    have hk : EX w0 ev 5 m_MD_program 114 [(0, .ref 65)] [] (hi) (hl) OUT := hk
    exact EX.pick [0] hk rfl
  · refine EX.go (i := .if_icmp .ge 41) (len := 3) (pc1 := 76) (st1 := []) (hi1 := hi) (hl1 := hl) rfl ?_ (fun _ _ _ => if_neg c7)
    refine EX.aload_n (x := 65) rfl (List.mem_of_getElem? (i := 0) rfl) ?_
    refine EX.go (i := .getfield 72) (len := 3) (pc1 := 80) (st1 := [.ref 83]) (hi1 := hi) (hl1 := hl) rfl ?_ (fun _ _ _ => rfl)
    refine EX.iload_n (x := v1) rfl (List.mem_of_getElem? (i := 1) rfl) ?_
    refine EX.aload_n (x := 65) rfl (List.mem_of_getElem? (i := 0) rfl) ?_
    refine EX.go (i := .getfield 81) (len := 3) (pc1 := 85) (st1 := [.ref 86, .int (v1), .ref 83]) (hi1 := hi) (hl1 := hl) rfl ?_ (fun _ _ _ => rfl)
    refine EX.iload_n (x := v1) rfl (List.mem_of_getElem? (i := 1) rfl) ?_
    obtain ⟨g8, h⟩ := grd_some h
    refine EX.iaload rfl rfl g8 ?_
    obtain ⟨g9, h⟩ := grd_some h
    refine EX.iastore rfl rfl g9 ?_
    refine EX.aload_n (x := 65) rfl (List.mem_of_getElem? (i := 0) rfl) ?_
    refine EX.go (i := .getfield 75) (len := 3) (pc1 := 92) (st1 := [.ref 84]) (hi1 := wr (hi) 83 (Int32.toNatClampNeg (v1)) (hi 86 (Int32.toNatClampNeg (v1)))) (hl1 := hl) rfl ?_ (fun _ _ _ => rfl)
    refine EX.iload_n (x := v1) rfl (List.mem_of_getElem? (i := 1) rfl) ?_
    refine EX.aload_n (x := 65) rfl (List.mem_of_getElem? (i := 0) rfl) ?_
    refine EX.go (i := .getfield 84) (len := 3) (pc1 := 97) (st1 := [.ref 87, .int (v1), .ref 84]) (hi1 := wr (hi) 83 (Int32.toNatClampNeg (v1)) (hi 86 (Int32.toNatClampNeg (v1)))) (hl1 := hl) rfl ?_ (fun _ _ _ => rfl)
    refine EX.iload_n (x := v1) rfl (List.mem_of_getElem? (i := 1) rfl) ?_
    obtain ⟨g10, h⟩ := grd_some h
    refine EX.iaload rfl rfl g10 ?_
    obtain ⟨g11, h⟩ := grd_some h
    refine EX.iastore rfl rfl g11 ?_
    refine EX.aload_n (x := 65) rfl (List.mem_of_getElem? (i := 0) rfl) ?_
    refine EX.go (i := .getfield 78) (len := 3) (pc1 := 104) (st1 := [.ref 85]) (hi1 := wr (wr (hi) 83 (Int32.toNatClampNeg (v1)) (hi 86 (Int32.toNatClampNeg (v1)))) 84 (Int32.toNatClampNeg (v1)) ((wr (hi) 83 (Int32.toNatClampNeg (v1)) (hi 86 (Int32.toNatClampNeg (v1)))) 87 (Int32.toNatClampNeg (v1)))) (hl1 := hl) rfl ?_ (fun _ _ _ => rfl)
    refine EX.iload_n (x := v1) rfl (List.mem_of_getElem? (i := 1) rfl) ?_
    refine EX.bipush (v := (-4)) rfl rfl ?_
    obtain ⟨g12, h⟩ := grd_some h
    refine EX.iastore rfl rfl g12 ?_
    refine EX.iinc (x := v1) (v := v1 + 1) (req1 := [(1, .int (v1 + 1)), (0, .ref 65)]) rfl rfl (List.mem_of_getElem? (i := 1) rfl) rfl rfl ?_
    refine EX.go (i := .goto (-41)) (len := 3) (pc1 := 70) (st1 := []) (hi1 := wr (wr (wr (hi) 83 (Int32.toNatClampNeg (v1)) (hi 86 (Int32.toNatClampNeg (v1)))) 84 (Int32.toNatClampNeg (v1)) ((wr (hi) 83 (Int32.toNatClampNeg (v1)) (hi 86 (Int32.toNatClampNeg (v1)))) 87 (Int32.toNatClampNeg (v1)))) 85 (Int32.toNatClampNeg (v1)) ((-4))) (hl1 := hl) rfl ?_ (fun _ _ _ => rfl)
    obtain rfl := Option.some.inj h
    have hk : EX w0 ev 5 m_MD_program 70 [(0, .ref 65), (1, .int (v1 + 1))] [] (wr (wr (wr (hi) 83 (Int32.toNatClampNeg (v1)) (hi 86 (Int32.toNatClampNeg (v1)))) 84 (Int32.toNatClampNeg (v1)) ((wr (hi) 83 (Int32.toNatClampNeg (v1)) (hi 86 (Int32.toNatClampNeg (v1)))) 87 (Int32.toNatClampNeg (v1)))) 85 (Int32.toNatClampNeg (v1)) ((-4))) (hl) OUT := hk
    exact EX.pick [1, 0] hk rfl
def J_MD_program_40 (N : Nat) (hi : HI) (hl : HL) : Option (Int32 × HI × HL) :=
  if ((wr (hi) 65 31 (0)) 65 36 : Int32) ≤ 0 then (lpN (fun s => B_MD_program_70 N s.1 s.2.1 s.2.2) N (0, wr (wr (hi) 65 31 (0)) 65 23 ((wr (hi) 65 31 (0)) 65 27), hl)).bind fun x13 => some (x13.1 65 23, x13.1, x13.2) else some ((((-10) : Int32) - ((wr (hi) 65 31 (0)) 65 37)), wr (hi) 65 31 (0), hl)
set_option maxRecDepth 10000 in
set_option maxHeartbeats 4000000 in
theorem bJ_MD_program_40 (ev : EV) {N : Nat} {hi : HI} {hl : HL} {o : Int32 × HI × HL} (h : J_MD_program_40 N hi hl = some o) : EX w0 ev 5 m_MD_program 40 [(0, .ref 65)] [] (hi) (hl) (oI o) := by
  unfold J_MD_program_40 at h
  refine EX.aload_n (x := 65) rfl (List.mem_of_getElem? (i := 0) rfl) ?_
  refine EX.iconst (v := 0) rfl rfl ?_
  refine EX.go (i := .putfield 225) (len := 3) (pc1 := 45) (st1 := []) (hi1 := wr (hi) 65 31 (0)) (hl1 := hl) rfl ?_ (fun _ _ _ => rfl)
  refine EX.aload_n (x := 65) rfl (List.mem_of_getElem? (i := 0) rfl) ?_
  refine EX.go (i := .getfield 230) (len := 3) (pc1 := 49) (st1 := [.int ((wr (hi) 65 31 (0)) 65 36)]) (hi1 := wr (hi) 65 31 (0)) (hl1 := hl) rfl ?_ (fun _ _ _ => rfl)
  rcases ite_some h with ⟨c6, h⟩ | ⟨c6, h⟩
  · refine EX.go (i := .ifCond .le 11) (len := 3) (pc1 := 60) (st1 := []) (hi1 := wr (hi) 65 31 (0)) (hl1 := hl) rfl ?_ (fun _ _ _ => if_pos c6)
    refine EX.aload_n (x := 65) rfl (List.mem_of_getElem? (i := 0) rfl) ?_
    refine EX.aload_n (x := 65) rfl (List.mem_of_getElem? (i := 0) rfl) ?_
    refine EX.go (i := .getfield 276) (len := 3) (pc1 := 65) (st1 := [.int ((wr (hi) 65 31 (0)) 65 27), .ref 65]) (hi1 := wr (hi) 65 31 (0)) (hl1 := hl) rfl ?_ (fun _ _ _ => rfl)
    refine EX.go (i := .putfield 119) (len := 3) (pc1 := 68) (st1 := []) (hi1 := wr (wr (hi) 65 31 (0)) 65 23 ((wr (hi) 65 31 (0)) 65 27)) (hl1 := hl) rfl ?_ (fun _ _ _ => rfl)
    refine EX.iconst (v := 0) rfl rfl ?_
    refine EX.istore_n (req1 := [(1, .int (0)), (0, .ref 65)]) rfl rfl rfl ?_
    obtain ⟨x13, hx13, h⟩ := bnd_some h
    refine EX.pick [1, 0] ?_ rfl
    refine lp_sound (f := fun s => B_MD_program_70 N s.1 s.2.1 s.2.2) (PS := fun s => EX w0 ev 5 m_MD_program 70 [(0, .ref 65), (1, .int (s.1))] [] (s.2.1) (s.2.2) (oI o)) (PX := fun x => EX w0 ev 5 m_MD_program 114 [(0, .ref 65)] [] (x.1) (x.2) (oI o)) ?_ N _ x13 hx13 ?_
    · exact fun s z hz hk => bB_MD_program_70 ev hz hk
    show EX w0 ev 5 m_MD_program 114 [(0, .ref 65)] [] (x13.1) (x13.2) (oI o)
    refine EX.aload_n (x := 65) rfl (List.mem_of_getElem? (i := 0) rfl) ?_
    refine EX.go (i := .getfield 119) (len := 3) (pc1 := 118) (st1 := [.int (x13.1 65 23)]) (hi1 := x13.1) (hl1 := x13.2) rfl ?_ (fun _ _ _ => rfl)
    obtain rfl := Option.some.inj h
    exact EX.iret rfl rfl
  · refine EX.go (i := .ifCond .le 11) (len := 3) (pc1 := 52) (st1 := []) (hi1 := wr (hi) 65 31 (0)) (hl1 := hl) rfl ?_ (fun _ _ _ => if_neg c6)
    refine EX.bipush (v := (-10)) rfl rfl ?_
    refine EX.aload_n (x := 65) rfl (List.mem_of_getElem? (i := 0) rfl) ?_
    refine EX.go (i := .getfield 236) (len := 3) (pc1 := 58) (st1 := [.int ((wr (hi) 65 31 (0)) 65 37), .int ((-10))]) (hi1 := wr (hi) 65 31 (0)) (hl1 := hl) rfl ?_ (fun _ _ _ => rfl)
    refine EX.go (i := .isub) (len := 1) (pc1 := 59) (st1 := [.int ((((-10) : Int32) - ((wr (hi) 65 31 (0)) 65 37)))]) (hi1 := wr (hi) 65 31 (0)) (hl1 := hl) rfl ?_ (fun _ _ _ => rfl)
    obtain rfl := Option.some.inj h
    exact EX.iret rfl rfl
def f_MD_program (N : Nat) (hi : HI) (hl : HL) : Option (Int32 × HI × HL) :=
  (f_MD_next N (wr (wr (wr (hi) 65 36 (0)) 65 32 (0)) 65 27 (0)) (hl)).bind fun z1 => (lpN (fun s => B_MD_program_19 N s.1 s.2) N (z1.2.1, z1.2.2)).bind fun x5 => J_MD_program_40 N (x5.1) (x5.2)
set_option maxRecDepth 10000 in
set_option maxHeartbeats 4000000 in
theorem b_MD_program (ev : EV) {N : Nat} {hi : HI} {hl : HL} {o : Int32 × HI × HL} (h : f_MD_program N hi hl = some o) : EM w0 ev 6 m_MD_program [.ref 65] hi hl (oI o) := by
  unfold f_MD_program at h
  refine EM.of rfl ?_
  show EX w0 ev 5 m_MD_program 0 [(0, .ref 65)] [] (hi) (hl) (oI o)
  refine EX.aload_n (x := 65) rfl (List.mem_of_getElem? (i := 0) rfl) ?_
  refine EX.iconst (v := 0) rfl rfl ?_
  refine EX.go (i := .putfield 230) (len := 3) (pc1 := 5) (st1 := []) (hi1 := wr (hi) 65 36 (0)) (hl1 := hl) rfl ?_ (fun _ _ _ => rfl)
  refine EX.aload_n (x := 65) rfl (List.mem_of_getElem? (i := 0) rfl) ?_
  refine EX.iconst (v := 0) rfl rfl ?_
  refine EX.go (i := .putfield 239) (len := 3) (pc1 := 10) (st1 := []) (hi1 := wr (wr (hi) 65 36 (0)) 65 32 (0)) (hl1 := hl) rfl ?_ (fun _ _ _ => rfl)
  refine EX.aload_n (x := 65) rfl (List.mem_of_getElem? (i := 0) rfl) ?_
  refine EX.iconst (v := 0) rfl rfl ?_
  refine EX.go (i := .putfield 276) (len := 3) (pc1 := 15) (st1 := []) (hi1 := wr (wr (wr (hi) 65 36 (0)) 65 32 (0)) 65 27 (0)) (hl1 := hl) rfl ?_ (fun _ _ _ => rfl)
  refine EX.aload_n (x := 65) rfl (List.mem_of_getElem? (i := 0) rfl) ?_
  obtain ⟨z1, hz1, h⟩ := bnd_some h
  refine EX.callV (b := 65) (as := []) (rest := []) (r := none) (hi1 := z1.2.1) (hl1 := z1.2.2) rfl rfl rfl rfl rfl rfl ((b_MD_next ev hz1).mono (by decide)) ?_
  show EX w0 ev 5 m_MD_program 19 [(0, .ref 65)] [] (z1.2.1) (z1.2.2) (oI o)
  obtain ⟨x5, hx5, h⟩ := bnd_some h
  refine EX.pick [0] ?_ rfl
  refine lp_sound (f := fun s => B_MD_program_19 N s.1 s.2) (PS := fun s => EX w0 ev 5 m_MD_program 19 [(0, .ref 65)] [] (s.1) (s.2) (oI o)) (PX := fun x => EX w0 ev 5 m_MD_program 40 [(0, .ref 65)] [] (x.1) (x.2) (oI o)) ?_ N _ x5 hx5 ?_
  · exact fun s z hz hk => bB_MD_program_19 ev hz hk
  show EX w0 ev 5 m_MD_program 40 [(0, .ref 65)] [] (x5.1) (x5.2) (oI o)
  refine EX.pick [0] ?_ rfl
  exact bJ_MD_program_40 ev h
def f_MD_fault (N : Nat) (hi : HI) (hl : HL) : Option (Int32 × HI × HL) :=
  some (hi 65 36, hi, hl)
set_option maxRecDepth 10000 in
set_option maxHeartbeats 4000000 in
theorem b_MD_fault (ev : EV) {N : Nat} {hi : HI} {hl : HL} {o : Int32 × HI × HL} (h : f_MD_fault N hi hl = some o) : EM w0 ev 1 m_MD_fault [.ref 65] hi hl (oI o) := by
  unfold f_MD_fault at h
  refine EM.of rfl ?_
  show EX w0 ev 0 m_MD_fault 0 [(0, .ref 65)] [] (hi) (hl) (oI o)
  refine EX.aload_n (x := 65) rfl (List.mem_of_getElem? (i := 0) rfl) ?_
  refine EX.go (i := .getfield 230) (len := 3) (pc1 := 4) (st1 := [.int (hi 65 36)]) (hi1 := hi) (hl1 := hl) rfl ?_ (fun _ _ _ => rfl)
  obtain rfl := Option.some.inj h
  exact EX.iret rfl rfl
def f_MD_isLine (N : Nat) (p1 : Int32) (hi : HI) (hl : HL) : Option (Int32 × HI × HL) :=
  (f_MD_in N ((Int32.toInt64 (p1))) (0) ((Int32.toInt64 (((hi 65 23 : Int32) - (1))))) (hi) (hl)).bind fun z1 => if (z1.1 : Int32) = 0 ∨ (z1.1 : Int32) = 1 then some (z1.1, z1.2.1, z1.2.2) else none
set_option maxRecDepth 10000 in
set_option maxHeartbeats 4000000 in
theorem b_MD_isLine (ev : EV) {N : Nat} {p1 : Int32} {hi : HI} {hl : HL} {o : Int32 × HI × HL} (h : f_MD_isLine N p1 hi hl = some o) : EM w0 ev 2 m_MD_isLine [.ref 65, .int (p1)] hi hl (oI o) := by
  unfold f_MD_isLine at h
  refine EM.of rfl ?_
  show EX w0 ev 1 m_MD_isLine 0 [(0, .ref 65), (1, .int (p1))] [] (hi) (hl) (oI o)
  refine EX.iload_n (x := p1) rfl (List.mem_of_getElem? (i := 1) rfl) ?_
  refine EX.go (i := .i2l) (len := 1) (pc1 := 2) (st1 := [.long ((Int32.toInt64 (p1)))]) (hi1 := hi) (hl1 := hl) rfl ?_ (fun _ _ _ => rfl)
  refine EX.lconst (v := 0) rfl rfl ?_
  refine EX.aload_n (x := 65) rfl (List.mem_of_getElem? (i := 0) rfl) ?_
  refine EX.go (i := .getfield 119) (len := 3) (pc1 := 7) (st1 := [.int (hi 65 23), .long (0), .long ((Int32.toInt64 (p1)))]) (hi1 := hi) (hl1 := hl) rfl ?_ (fun _ _ _ => rfl)
  refine EX.iconst (v := 1) rfl rfl ?_
  refine EX.go (i := .isub) (len := 1) (pc1 := 9) (st1 := [.int (((hi 65 23 : Int32) - (1))), .long (0), .long ((Int32.toInt64 (p1)))]) (hi1 := hi) (hl1 := hl) rfl ?_ (fun _ _ _ => rfl)
  refine EX.go (i := .i2l) (len := 1) (pc1 := 10) (st1 := [.long ((Int32.toInt64 (((hi 65 23 : Int32) - (1))))), .long (0), .long ((Int32.toInt64 (p1)))]) (hi1 := hi) (hl1 := hl) rfl ?_ (fun _ _ _ => rfl)
  obtain ⟨z1, hz1, h⟩ := bnd_some h
  refine EX.callS (as := [.long ((Int32.toInt64 (p1))), .long (0), .long ((Int32.toInt64 (((hi 65 23 : Int32) - (1)))))]) (rest := []) (r := some (.int (z1.1))) (hi1 := z1.2.1) (hl1 := z1.2.2) rfl rfl rfl rfl rfl rfl ((b_MD_in ev hz1).mono (by decide)) ?_
  show EX w0 ev 1 m_MD_isLine 13 [(0, .ref 65), (1, .int (p1))] [.int (z1.1)] (z1.2.1) (z1.2.2) (oI o)
  obtain ⟨g2, h⟩ := grp_some h
  obtain rfl := Option.some.inj h
  exact EX.zret rfl rfl g2
def B_MD_beginOf_4 (N : Nat) (v1 : Int32) (v2 : Int32) (v3 : Int32) (hi : HI) (hl : HL) : Option ((Int32 × Int32 × HI × HL) ⊕ (Int32 × HI × HL)) :=
  if (v1 : Int32) ≤ (v3 : Int32) then some (.inr (v2, hi, hl)) else if (v3 : Int32) < 0 ∨ 12 ≤ Int32.toNatClampNeg (v3) then none else some (.inl ((v2 + (hi 84 (Int32.toNatClampNeg (v3)))), v3 + 1, hi, hl))
set_option maxRecDepth 10000 in
set_option maxHeartbeats 4000000 in
theorem bB_MD_beginOf_4 (ev : EV) {N : Nat} {v1 : Int32} {v2 : Int32} {v3 : Int32} {hi : HI} {hl : HL} {z : (Int32 × Int32 × HI × HL) ⊕ (Int32 × HI × HL)} {OUT : Option Value × HI × HL} (h : B_MD_beginOf_4 N v1 v2 v3 hi hl = some z) (hk : Sum.elim (fun s => EX w0 ev 0 m_MD_beginOf 4 [(0, .ref 65), (1, .int (v1)), (2, .int (s.1)), (3, .int (s.2.1))] [] (s.2.2.1) (s.2.2.2) OUT) (fun x => EX w0 ev 0 m_MD_beginOf 24 [(2, .int (x.1))] [] (x.2.1) (x.2.2) OUT) z) : EX w0 ev 0 m_MD_beginOf 4 [(0, .ref 65), (1, .int (v1)), (2, .int (v2)), (3, .int (v3))] [] (hi) (hl) OUT := by
  unfold B_MD_beginOf_4 at h
  refine EX.iload_n (x := v3) rfl (List.mem_of_getElem? (i := 3) rfl) ?_
  refine EX.iload_n (x := v1) rfl (List.mem_of_getElem? (i := 1) rfl) ?_
  rcases ite_some h with ⟨c1, h⟩ | ⟨c1, h⟩
  · refine EX.go (i := .if_icmp .ge 18) (len := 3) (pc1 := 24) (st1 := []) (hi1 := hi) (hl1 := hl) rfl ?_ (fun _ _ _ => if_pos c1)
    obtain rfl := Option.some.inj h
    have hk : EX w0 ev 0 m_MD_beginOf 24 [(2, .int (v2))] [] (hi) (hl) OUT := hk
    exact EX.pick [2] hk rfl
  · refine EX.go (i := .if_icmp .ge 18) (len := 3) (pc1 := 9) (st1 := []) (hi1 := hi) (hl1 := hl) rfl ?_ (fun _ _ _ => if_neg c1)
    refine EX.iload_n (x := v2) rfl (List.mem_of_getElem? (i := 2) rfl) ?_
    refine EX.aload_n (x := 65) rfl (List.mem_of_getElem? (i := 0) rfl) ?_
    refine EX.go (i := .getfield 75) (len := 3) (pc1 := 14) (st1 := [.ref 84, .int (v2)]) (hi1 := hi) (hl1 := hl) rfl ?_ (fun _ _ _ => rfl)
    refine EX.iload_n (x := v3) rfl (List.mem_of_getElem? (i := 3) rfl) ?_
    obtain ⟨g2, h⟩ := grd_some h
    refine EX.iaload rfl rfl g2 ?_
    refine EX.go (i := .iadd) (len := 1) (pc1 := 17) (st1 := [.int ((v2 + (hi 84 (Int32.toNatClampNeg (v3)))))]) (hi1 := hi) (hl1 := hl) rfl ?_ (fun _ _ _ => rfl)
    refine EX.istore_n (req1 := [(2, .int ((v2 + (hi 84 (Int32.toNatClampNeg (v3)))))), (0, .ref 65), (1, .int (v1)), (3, .int (v3))]) rfl rfl rfl ?_
    refine EX.iinc (x := v3) (v := v3 + 1) (req1 := [(3, .int (v3 + 1)), (2, .int ((v2 + (hi 84 (Int32.toNatClampNeg (v3)))))), (0, .ref 65), (1, .int (v1))]) rfl rfl (List.mem_of_getElem? (i := 3) rfl) rfl rfl ?_
    refine EX.go (i := .goto (-17)) (len := 3) (pc1 := 4) (st1 := []) (hi1 := hi) (hl1 := hl) rfl ?_ (fun _ _ _ => rfl)
    obtain rfl := Option.some.inj h
    have hk : EX w0 ev 0 m_MD_beginOf 4 [(0, .ref 65), (1, .int (v1)), (2, .int ((v2 + (hi 84 (Int32.toNatClampNeg (v3)))))), (3, .int (v3 + 1))] [] (hi) (hl) OUT := hk
    exact EX.pick [2, 3, 1, 0] hk rfl
def f_MD_beginOf (N : Nat) (p1 : Int32) (hi : HI) (hl : HL) : Option (Int32 × HI × HL) :=
  (lpN (fun s => B_MD_beginOf_4 N (p1) s.1 s.2.1 s.2.2.1 s.2.2.2) N (0, 0, hi, hl)).bind fun x3 => some (x3.1, x3.2.1, x3.2.2)
set_option maxRecDepth 10000 in
set_option maxHeartbeats 4000000 in
theorem b_MD_beginOf (ev : EV) {N : Nat} {p1 : Int32} {hi : HI} {hl : HL} {o : Int32 × HI × HL} (h : f_MD_beginOf N p1 hi hl = some o) : EM w0 ev 1 m_MD_beginOf [.ref 65, .int (p1)] hi hl (oI o) := by
  unfold f_MD_beginOf at h
  refine EM.of rfl ?_
  show EX w0 ev 0 m_MD_beginOf 0 [(0, .ref 65), (1, .int (p1))] [] (hi) (hl) (oI o)
  refine EX.iconst (v := 0) rfl rfl ?_
  refine EX.istore_n (req1 := [(2, .int (0)), (0, .ref 65), (1, .int (p1))]) rfl rfl rfl ?_
  refine EX.iconst (v := 0) rfl rfl ?_
  refine EX.istore_n (req1 := [(3, .int (0)), (2, .int (0)), (0, .ref 65), (1, .int (p1))]) rfl rfl rfl ?_
  obtain ⟨x3, hx3, h⟩ := bnd_some h
  refine EX.pick [2, 3, 1, 0] ?_ rfl
  refine lp_sound (f := fun s => B_MD_beginOf_4 N (p1) s.1 s.2.1 s.2.2.1 s.2.2.2) (PS := fun s => EX w0 ev 0 m_MD_beginOf 4 [(0, .ref 65), (1, .int (p1)), (2, .int (s.1)), (3, .int (s.2.1))] [] (s.2.2.1) (s.2.2.2) (oI o)) (PX := fun x => EX w0 ev 0 m_MD_beginOf 24 [(2, .int (x.1))] [] (x.2.1) (x.2.2) (oI o)) ?_ N _ x3 hx3 ?_
  · exact fun s z hz hk => bB_MD_beginOf_4 ev hz hk
  show EX w0 ev 0 m_MD_beginOf 24 [(2, .int (x3.1))] [] (x3.2.1) (x3.2.2) (oI o)
  refine EX.iload_n (x := x3.1) rfl (List.mem_of_getElem? (i := 0) rfl) ?_
  obtain rfl := Option.some.inj h
  exact EX.iret rfl rfl
def f_MD_line (N : Nat) (p1 : Int32) (p2 : Int32) (hi : HI) (hl : HL) : Option (Int32 × HI × HL) :=
  (f_MD_isLine N (p1) (hi) (hl)).bind fun z1 => if (z1.1 : Int32) = 0 then some ((-1), z1.2.1, z1.2.2) else (f_MD_in N ((Int32.toInt64 (p2))) (0) (4) (z1.2.1) (z1.2.2)).bind fun z3 => if (z3.1 : Int32) = 0 then some ((-1), z3.2.1, z3.2.2) else if (p2 : Int32) = 0 then if (p1 : Int32) < 0 ∨ 12 ≤ Int32.toNatClampNeg (p1) then none else some (z3.2.1 83 (Int32.toNatClampNeg (p1)), z3.2.1, z3.2.2) else if (p2 : Int32) = (1 : Int32) then if (p1 : Int32) < 0 ∨ 12 ≤ Int32.toNatClampNeg (p1) then none else some (z3.2.1 84 (Int32.toNatClampNeg (p1)), z3.2.1, z3.2.2) else if (p2 : Int32) = (2 : Int32) then (f_MD_beginOf N (p1) (z3.2.1) (z3.2.2)).bind fun z10 => some (z10.1, z10.2.1, z10.2.2) else if (p2 : Int32) = (3 : Int32) then if (p1 : Int32) < 0 ∨ 12 ≤ Int32.toNatClampNeg (p1) then none else (f_MD_glows N (z3.2.1 83 (Int32.toNatClampNeg (p1))) (69) (z3.2.1) (z3.2.2)).bind fun z13 => some (z13.1, z13.2.1, z13.2.2) else if (p1 : Int32) < 0 ∨ 12 ≤ Int32.toNatClampNeg (p1) then none else some (z3.2.1 85 (Int32.toNatClampNeg (p1)), z3.2.1, z3.2.2)
set_option maxRecDepth 10000 in
set_option maxHeartbeats 4000000 in
theorem b_MD_line (ev : EV) {N : Nat} {p1 : Int32} {p2 : Int32} {hi : HI} {hl : HL} {o : Int32 × HI × HL} (h : f_MD_line N p1 p2 hi hl = some o) : EM w0 ev 3 m_MD_line [.ref 65, .int (p1), .int (p2)] hi hl (oI o) := by
  unfold f_MD_line at h
  refine EM.of rfl ?_
  show EX w0 ev 2 m_MD_line 0 [(0, .ref 65), (1, .int (p1)), (2, .int (p2))] [] (hi) (hl) (oI o)
  refine EX.aload_n (x := 65) rfl (List.mem_of_getElem? (i := 0) rfl) ?_
  refine EX.iload_n (x := p1) rfl (List.mem_of_getElem? (i := 1) rfl) ?_
  obtain ⟨z1, hz1, h⟩ := bnd_some h
  refine EX.callV (b := 65) (as := [.int (p1)]) (rest := []) (r := some (.int (z1.1))) (hi1 := z1.2.1) (hl1 := z1.2.2) rfl rfl rfl rfl rfl rfl ((b_MD_isLine ev hz1).mono (by decide)) ?_
  show EX w0 ev 2 m_MD_line 5 [(0, .ref 65), (1, .int (p1)), (2, .int (p2))] [.int (z1.1)] (z1.2.1) (z1.2.2) (oI o)
  rcases ite_some h with ⟨c2, h⟩ | ⟨c2, h⟩
  · refine EX.go (i := .ifCond .eq 15) (len := 3) (pc1 := 20) (st1 := []) (hi1 := z1.2.1) (hl1 := z1.2.2) rfl ?_ (fun _ _ _ => if_pos c2)
    refine EX.iconst (v := (-1)) rfl rfl ?_
    obtain rfl := Option.some.inj h
    exact EX.iret rfl rfl
  · refine EX.go (i := .ifCond .eq 15) (len := 3) (pc1 := 8) (st1 := []) (hi1 := z1.2.1) (hl1 := z1.2.2) rfl ?_ (fun _ _ _ => if_neg c2)
    refine EX.iload_n (x := p2) rfl (List.mem_of_getElem? (i := 2) rfl) ?_
    refine EX.go (i := .i2l) (len := 1) (pc1 := 10) (st1 := [.long ((Int32.toInt64 (p2)))]) (hi1 := z1.2.1) (hl1 := z1.2.2) rfl ?_ (fun _ _ _ => rfl)
    refine EX.lconst (v := 0) rfl rfl ?_
    refine EX.go (i := .ldc2_w 141) (len := 3) (pc1 := 14) (st1 := [.long (4), .long (0), .long ((Int32.toInt64 (p2)))]) (hi1 := z1.2.1) (hl1 := z1.2.2) rfl ?_ (fun _ _ _ => rfl)
    obtain ⟨z3, hz3, h⟩ := bnd_some h
    refine EX.callS (as := [.long ((Int32.toInt64 (p2))), .long (0), .long (4)]) (rest := []) (r := some (.int (z3.1))) (hi1 := z3.2.1) (hl1 := z3.2.2) rfl rfl rfl rfl rfl rfl ((b_MD_in ev hz3).mono (by decide)) ?_
    show EX w0 ev 2 m_MD_line 17 [(0, .ref 65), (1, .int (p1)), (2, .int (p2))] [.int (z3.1)] (z3.2.1) (z3.2.2) (oI o)
    rcases ite_some h with ⟨c4, h⟩ | ⟨c4, h⟩
    · refine EX.go (i := .ifCond .ne 5) (len := 3) (pc1 := 20) (st1 := []) (hi1 := z3.2.1) (hl1 := z3.2.2) rfl ?_ (fun _ _ _ => if_pos c4)
      refine EX.iconst (v := (-1)) rfl rfl ?_
      obtain rfl := Option.some.inj h
      exact EX.iret rfl rfl
    · refine EX.go (i := .ifCond .ne 5) (len := 3) (pc1 := 22) (st1 := []) (hi1 := z3.2.1) (hl1 := z3.2.2) rfl ?_ (fun _ _ _ => if_neg c4)
      refine EX.iload_n (x := p2) rfl (List.mem_of_getElem? (i := 2) rfl) ?_
      rcases ite_some h with ⟨c5, h⟩ | ⟨c5, h⟩
      · refine EX.go (i := .ifCond .ne 12) (len := 3) (pc1 := 26) (st1 := []) (hi1 := z3.2.1) (hl1 := z3.2.2) rfl ?_ (fun _ _ _ => if_pos c5)
        refine EX.aload_n (x := 65) rfl (List.mem_of_getElem? (i := 0) rfl) ?_
        refine EX.go (i := .getfield 72) (len := 3) (pc1 := 30) (st1 := [.ref 83]) (hi1 := z3.2.1) (hl1 := z3.2.2) rfl ?_ (fun _ _ _ => rfl)
        refine EX.iload_n (x := p1) rfl (List.mem_of_getElem? (i := 1) rfl) ?_
        obtain ⟨g6, h⟩ := grd_some h
        refine EX.iaload rfl rfl g6 ?_
        refine EX.go (i := .goto 58) (len := 3) (pc1 := 90) (st1 := [.int (z3.2.1 83 (Int32.toNatClampNeg (p1)))]) (hi1 := z3.2.1) (hl1 := z3.2.2) rfl ?_ (fun _ _ _ => rfl)
        obtain rfl := Option.some.inj h
        exact EX.iret rfl rfl
      · refine EX.go (i := .ifCond .ne 12) (len := 3) (pc1 := 35) (st1 := []) (hi1 := z3.2.1) (hl1 := z3.2.2) rfl ?_ (fun _ _ _ => if_neg c5)
        refine EX.iload_n (x := p2) rfl (List.mem_of_getElem? (i := 2) rfl) ?_
        refine EX.iconst (v := 1) rfl rfl ?_
        rcases ite_some h with ⟨c7, h⟩ | ⟨c7, h⟩
        · refine EX.go (i := .if_icmp .ne 12) (len := 3) (pc1 := 40) (st1 := []) (hi1 := z3.2.1) (hl1 := z3.2.2) rfl ?_ (fun _ _ _ => if_pos c7)
          refine EX.aload_n (x := 65) rfl (List.mem_of_getElem? (i := 0) rfl) ?_
          refine EX.go (i := .getfield 75) (len := 3) (pc1 := 44) (st1 := [.ref 84]) (hi1 := z3.2.1) (hl1 := z3.2.2) rfl ?_ (fun _ _ _ => rfl)
          refine EX.iload_n (x := p1) rfl (List.mem_of_getElem? (i := 1) rfl) ?_
          obtain ⟨g8, h⟩ := grd_some h
          refine EX.iaload rfl rfl g8 ?_
          refine EX.go (i := .goto 44) (len := 3) (pc1 := 90) (st1 := [.int (z3.2.1 84 (Int32.toNatClampNeg (p1)))]) (hi1 := z3.2.1) (hl1 := z3.2.2) rfl ?_ (fun _ _ _ => rfl)
          obtain rfl := Option.some.inj h
          exact EX.iret rfl rfl
        · refine EX.go (i := .if_icmp .ne 12) (len := 3) (pc1 := 49) (st1 := []) (hi1 := z3.2.1) (hl1 := z3.2.2) rfl ?_ (fun _ _ _ => if_neg c7)
          refine EX.iload_n (x := p2) rfl (List.mem_of_getElem? (i := 2) rfl) ?_
          refine EX.iconst (v := 2) rfl rfl ?_
          rcases ite_some h with ⟨c9, h⟩ | ⟨c9, h⟩
          · refine EX.go (i := .if_icmp .ne 11) (len := 3) (pc1 := 54) (st1 := []) (hi1 := z3.2.1) (hl1 := z3.2.2) rfl ?_ (fun _ _ _ => if_pos c9)
            refine EX.aload_n (x := 65) rfl (List.mem_of_getElem? (i := 0) rfl) ?_
            refine EX.iload_n (x := p1) rfl (List.mem_of_getElem? (i := 1) rfl) ?_
            obtain ⟨z10, hz10, h⟩ := bnd_some h
            refine EX.callV (b := 65) (as := [.int (p1)]) (rest := []) (r := some (.int (z10.1))) (hi1 := z10.2.1) (hl1 := z10.2.2) rfl rfl rfl rfl rfl rfl ((b_MD_beginOf ev hz10).mono (by decide)) ?_
            show EX w0 ev 2 m_MD_line 59 [(0, .ref 65), (1, .int (p1)), (2, .int (p2))] [.int (z10.1)] (z10.2.1) (z10.2.2) (oI o)
            refine EX.go (i := .goto 31) (len := 3) (pc1 := 90) (st1 := [.int (z10.1)]) (hi1 := z10.2.1) (hl1 := z10.2.2) rfl ?_ (fun _ _ _ => rfl)
            obtain rfl := Option.some.inj h
            exact EX.iret rfl rfl
          · refine EX.go (i := .if_icmp .ne 11) (len := 3) (pc1 := 62) (st1 := []) (hi1 := z3.2.1) (hl1 := z3.2.2) rfl ?_ (fun _ _ _ => if_neg c9)
            refine EX.iload_n (x := p2) rfl (List.mem_of_getElem? (i := 2) rfl) ?_
            refine EX.iconst (v := 3) rfl rfl ?_
            rcases ite_some h with ⟨c11, h⟩ | ⟨c11, h⟩
            · refine EX.go (i := .if_icmp .ne 20) (len := 3) (pc1 := 67) (st1 := []) (hi1 := z3.2.1) (hl1 := z3.2.2) rfl ?_ (fun _ _ _ => if_pos c11)
              refine EX.aload_n (x := 65) rfl (List.mem_of_getElem? (i := 0) rfl) ?_
              refine EX.aload_n (x := 65) rfl (List.mem_of_getElem? (i := 0) rfl) ?_
              refine EX.go (i := .getfield 72) (len := 3) (pc1 := 72) (st1 := [.ref 83, .ref 65]) (hi1 := z3.2.1) (hl1 := z3.2.2) rfl ?_ (fun _ _ _ => rfl)
              refine EX.iload_n (x := p1) rfl (List.mem_of_getElem? (i := 1) rfl) ?_
              obtain ⟨g12, h⟩ := grd_some h
              refine EX.iaload rfl rfl g12 ?_
              refine EX.aload_n (x := 65) rfl (List.mem_of_getElem? (i := 0) rfl) ?_
              refine EX.go (i := .getfield 26) (len := 3) (pc1 := 78) (st1 := [.ref 69, .int (z3.2.1 83 (Int32.toNatClampNeg (p1))), .ref 65]) (hi1 := z3.2.1) (hl1 := z3.2.2) rfl ?_ (fun _ _ _ => rfl)
              obtain ⟨z13, hz13, h⟩ := bnd_some h
              refine EX.callV (b := 65) (as := [.int (z3.2.1 83 (Int32.toNatClampNeg (p1))), .ref 69]) (rest := []) (r := some (.int (z13.1))) (hi1 := z13.2.1) (hl1 := z13.2.2) rfl rfl rfl rfl rfl rfl ((b_MD_glows ev hz13).mono (by decide)) ?_
              show EX w0 ev 2 m_MD_line 81 [(0, .ref 65), (1, .int (p1)), (2, .int (p2))] [.int (z13.1)] (z13.2.1) (z13.2.2) (oI o)
              refine EX.go (i := .goto 9) (len := 3) (pc1 := 90) (st1 := [.int (z13.1)]) (hi1 := z13.2.1) (hl1 := z13.2.2) rfl ?_ (fun _ _ _ => rfl)
              obtain rfl := Option.some.inj h
              exact EX.iret rfl rfl
            · refine EX.go (i := .if_icmp .ne 20) (len := 3) (pc1 := 84) (st1 := []) (hi1 := z3.2.1) (hl1 := z3.2.2) rfl ?_ (fun _ _ _ => if_neg c11)
              refine EX.aload_n (x := 65) rfl (List.mem_of_getElem? (i := 0) rfl) ?_
              refine EX.go (i := .getfield 78) (len := 3) (pc1 := 88) (st1 := [.ref 85]) (hi1 := z3.2.1) (hl1 := z3.2.2) rfl ?_ (fun _ _ _ => rfl)
              refine EX.iload_n (x := p1) rfl (List.mem_of_getElem? (i := 1) rfl) ?_
              obtain ⟨g14, h⟩ := grd_some h
              refine EX.iaload rfl rfl g14 ?_
              obtain rfl := Option.some.inj h
              exact EX.iret rfl rfl
def J_MD_round_92 (N : Nat) (v1 : Int32) (v2 : Int32) (v3 : Int32) (v5 : Int32) (s0 : Int32) (s1 : Int32) (hi : HI) (hl : HL) : Option ((Int32 × Int32 × Int32 × Int32 × HI × HL) ⊕ (Int32 × Int32 × Int32 × HI × HL)) :=
  some (.inl (v2, v3, (s1 + s0), v5 + 1, hi, hl))
set_option maxRecDepth 10000 in
set_option maxHeartbeats 4000000 in
theorem bJ_MD_round_92 (ev : EV) {N : Nat} {v1 : Int32} {v2 : Int32} {v3 : Int32} {v5 : Int32} {s0 : Int32} {s1 : Int32} {hi : HI} {hl : HL} {z : (Int32 × Int32 × Int32 × Int32 × HI × HL) ⊕ (Int32 × Int32 × Int32 × HI × HL)} {OUT : Option Value × HI × HL} (h : J_MD_round_92 N v1 v2 v3 v5 s0 s1 hi hl = some z) (hk : Sum.elim (fun s => EX w0 ev 2 m_MD_round 42 [(0, .ref 65), (1, .int (v1)), (2, .int (s.1)), (3, .int (s.2.1)), (4, .int (s.2.2.1)), (5, .int (s.2.2.2.1))] [] (s.2.2.2.2.1) (s.2.2.2.2.2) OUT) (fun x => EX w0 ev 2 m_MD_round 101 [(0, .ref 65), (1, .int (v1)), (2, .int (x.1)), (3, .int (x.2.1)), (4, .int (x.2.2.1))] [] (x.2.2.2.1) (x.2.2.2.2) OUT) z) : EX w0 ev 2 m_MD_round 92 [(0, .ref 65), (1, .int (v1)), (2, .int (v2)), (3, .int (v3)), (5, .int (v5))] [.int (s0), .int (s1)] (hi) (hl) OUT := by
  unfold J_MD_round_92 at h
  refine EX.go (i := .iadd) (len := 1) (pc1 := 93) (st1 := [.int ((s1 + s0))]) (hi1 := hi) (hl1 := hl) rfl ?_ (fun _ _ _ => rfl)
  refine EX.istore (req1 := [(4, .int ((s1 + s0))), (0, .ref 65), (1, .int (v1)), (2, .int (v2)), (3, .int (v3)), (5, .int (v5))]) rfl rfl rfl ?_
  refine EX.iinc (x := v5) (v := v5 + 1) (req1 := [(5, .int (v5 + 1)), (4, .int ((s1 + s0))), (0, .ref 65), (1, .int (v1)), (2, .int (v2)), (3, .int (v3))]) rfl rfl (List.mem_of_getElem? (i := 5) rfl) rfl rfl ?_
  refine EX.go (i := .goto (-56)) (len := 3) (pc1 := 42) (st1 := []) (hi1 := hi) (hl1 := hl) rfl ?_ (fun _ _ _ => rfl)
  obtain rfl := Option.some.inj h
  have hk : EX w0 ev 2 m_MD_round 42 [(0, .ref 65), (1, .int (v1)), (2, .int (v2)), (3, .int (v3)), (4, .int ((s1 + s0))), (5, .int (v5 + 1))] [] (hi) (hl) OUT := hk
  exact EX.pick [2, 3, 4, 5, 1, 0] hk rfl
def B_MD_round_42 (N : Nat) (v1 : Int32) (v2 : Int32) (v3 : Int32) (v4 : Int32) (v5 : Int32) (hi : HI) (hl : HL) : Option ((Int32 × Int32 × Int32 × Int32 × HI × HL) ⊕ (Int32 × Int32 × Int32 × HI × HL)) :=
  if (hi 65 23 : Int32) ≤ (v5 : Int32) then some (.inr (v2, v3, v4, hi, hl)) else if (v5 : Int32) < 0 ∨ 12 ≤ Int32.toNatClampNeg (v5) then none else (f_MD_glows N (hi 83 (Int32.toNatClampNeg (v5))) (69) (hi) (hl)).bind fun z6 => if (z6.2.1 65 12 : Int32) = 0 then J_MD_round_92 N (v1) ((v2 ||| (z6.1))) ((v3 &&& (z6.1))) (v5) (1) (v4) (z6.2.1) (z6.2.2) else J_MD_round_92 N (v1) ((v2 ||| (z6.1))) ((v3 &&& (z6.1))) (v5) (0) (v4) (z6.2.1) (z6.2.2)
set_option maxRecDepth 10000 in
set_option maxHeartbeats 4000000 in
theorem bB_MD_round_42 (ev : EV) {N : Nat} {v1 : Int32} {v2 : Int32} {v3 : Int32} {v4 : Int32} {v5 : Int32} {hi : HI} {hl : HL} {z : (Int32 × Int32 × Int32 × Int32 × HI × HL) ⊕ (Int32 × Int32 × Int32 × HI × HL)} {OUT : Option Value × HI × HL} (h : B_MD_round_42 N v1 v2 v3 v4 v5 hi hl = some z) (hk : Sum.elim (fun s => EX w0 ev 2 m_MD_round 42 [(0, .ref 65), (1, .int (v1)), (2, .int (s.1)), (3, .int (s.2.1)), (4, .int (s.2.2.1)), (5, .int (s.2.2.2.1))] [] (s.2.2.2.2.1) (s.2.2.2.2.2) OUT) (fun x => EX w0 ev 2 m_MD_round 101 [(0, .ref 65), (1, .int (v1)), (2, .int (x.1)), (3, .int (x.2.1)), (4, .int (x.2.2.1))] [] (x.2.2.2.1) (x.2.2.2.2) OUT) z) : EX w0 ev 2 m_MD_round 42 [(0, .ref 65), (1, .int (v1)), (2, .int (v2)), (3, .int (v3)), (4, .int (v4)), (5, .int (v5))] [] (hi) (hl) OUT := by
  unfold B_MD_round_42 at h
  refine EX.iload (x := v5) rfl (List.mem_of_getElem? (i := 5) rfl) ?_
  refine EX.aload_n (x := 65) rfl (List.mem_of_getElem? (i := 0) rfl) ?_
  refine EX.go (i := .getfield 119) (len := 3) (pc1 := 48) (st1 := [.int (hi 65 23), .int (v5)]) (hi1 := hi) (hl1 := hl) rfl ?_ (fun _ _ _ => rfl)
  rcases ite_some h with ⟨c4, h⟩ | ⟨c4, h⟩
  · refine EX.go (i := .if_icmp .ge 53) (len := 3) (pc1 := 101) (st1 := []) (hi1 := hi) (hl1 := hl) rfl ?_ (fun _ _ _ => if_pos c4)
    obtain rfl := Option.some.inj h
    have hk : EX w0 ev 2 m_MD_round 101 [(0, .ref 65), (1, .int (v1)), (2, .int (v2)), (3, .int (v3)), (4, .int (v4))] [] (hi) (hl) OUT := hk
    exact EX.pick [0, 1, 2, 3, 4] hk rfl
  · refine EX.go (i := .if_icmp .ge 53) (len := 3) (pc1 := 51) (st1 := []) (hi1 := hi) (hl1 := hl) rfl ?_ (fun _ _ _ => if_neg c4)
    refine EX.aload_n (x := 65) rfl (List.mem_of_getElem? (i := 0) rfl) ?_
    refine EX.aload_n (x := 65) rfl (List.mem_of_getElem? (i := 0) rfl) ?_
    refine EX.go (i := .getfield 72) (len := 3) (pc1 := 56) (st1 := [.ref 83, .ref 65]) (hi1 := hi) (hl1 := hl) rfl ?_ (fun _ _ _ => rfl)
    refine EX.iload (x := v5) rfl (List.mem_of_getElem? (i := 5) rfl) ?_
    obtain ⟨g5, h⟩ := grd_some h
    refine EX.iaload rfl rfl g5 ?_
    refine EX.aload_n (x := 65) rfl (List.mem_of_getElem? (i := 0) rfl) ?_
    refine EX.go (i := .getfield 26) (len := 3) (pc1 := 63) (st1 := [.ref 69, .int (hi 83 (Int32.toNatClampNeg (v5))), .ref 65]) (hi1 := hi) (hl1 := hl) rfl ?_ (fun _ _ _ => rfl)
    obtain ⟨z6, hz6, h⟩ := bnd_some h
    refine EX.callV (b := 65) (as := [.int (hi 83 (Int32.toNatClampNeg (v5))), .ref 69]) (rest := []) (r := some (.int (z6.1))) (hi1 := z6.2.1) (hl1 := z6.2.2) rfl rfl rfl rfl rfl rfl ((b_MD_glows ev hz6).mono (by decide)) ?_
    show EX w0 ev 2 m_MD_round 66 [(0, .ref 65), (1, .int (v1)), (2, .int (v2)), (3, .int (v3)), (4, .int (v4)), (5, .int (v5))] [.int (z6.1)] (z6.2.1) (z6.2.2) OUT
    refine EX.istore (req1 := [(6, .int (z6.1)), (0, .ref 65), (1, .int (v1)), (2, .int (v2)), (3, .int (v3)), (4, .int (v4)), (5, .int (v5))]) rfl rfl rfl ?_
    refine EX.iload_n (x := v2) rfl (List.mem_of_getElem? (i := 3) rfl) ?_
    refine EX.iload (x := z6.1) rfl (List.mem_of_getElem? (i := 0) rfl) ?_
    refine EX.go (i := .ior) (len := 1) (pc1 := 72) (st1 := [.int ((v2 ||| (z6.1)))]) (hi1 := z6.2.1) (hl1 := z6.2.2) rfl ?_ (fun _ _ _ => rfl)
    refine EX.istore_n (req1 := [(2, .int ((v2 ||| (z6.1)))), (6, .int (z6.1)), (0, .ref 65), (1, .int (v1)), (3, .int (v3)), (4, .int (v4)), (5, .int (v5))]) rfl rfl rfl ?_
    refine EX.iload_n (x := v3) rfl (List.mem_of_getElem? (i := 4) rfl) ?_
    refine EX.iload (x := z6.1) rfl (List.mem_of_getElem? (i := 1) rfl) ?_
    refine EX.go (i := .iand) (len := 1) (pc1 := 77) (st1 := [.int ((v3 &&& (z6.1)))]) (hi1 := z6.2.1) (hl1 := z6.2.2) rfl ?_ (fun _ _ _ => rfl)
    refine EX.istore_n (req1 := [(3, .int ((v3 &&& (z6.1)))), (2, .int ((v2 ||| (z6.1)))), (6, .int (z6.1)), (0, .ref 65), (1, .int (v1)), (4, .int (v4)), (5, .int (v5))]) rfl rfl rfl ?_
    refine EX.iload (x := v4) rfl (List.mem_of_getElem? (i := 5) rfl) ?_
    refine EX.aload_n (x := 65) rfl (List.mem_of_getElem? (i := 3) rfl) ?_
    refine EX.go (i := .getfield 151) (len := 3) (pc1 := 84) (st1 := [.int (z6.2.1 65 12), .int (v4)]) (hi1 := z6.2.1) (hl1 := z6.2.2) rfl ?_ (fun _ _ _ => rfl)
    rcases ite_some h with ⟨c7, h⟩ | ⟨c7, h⟩
    · refine EX.go (i := .ifCond .ne 7) (len := 3) (pc1 := 87) (st1 := [.int (v4)]) (hi1 := z6.2.1) (hl1 := z6.2.2) rfl ?_ (fun _ _ _ => if_pos c7)
      refine EX.iconst (v := 1) rfl rfl ?_
      refine EX.go (i := .goto 4) (len := 3) (pc1 := 92) (st1 := [.int (1), .int (v4)]) (hi1 := z6.2.1) (hl1 := z6.2.2) rfl ?_ (fun _ _ _ => rfl)
      refine EX.pick [3, 4, 1, 0, 6] ?_ rfl
      exact bJ_MD_round_92 ev h hk
    · refine EX.go (i := .ifCond .ne 7) (len := 3) (pc1 := 91) (st1 := [.int (v4)]) (hi1 := z6.2.1) (hl1 := z6.2.2) rfl ?_ (fun _ _ _ => if_neg c7)
      refine EX.iconst (v := 0) rfl rfl ?_
      refine EX.pick [3, 4, 1, 0, 6] ?_ rfl
      exact bJ_MD_round_92 ev h hk
def J_MD_round_35 (N : Nat) (v1 : Int32) (v2 : Int32) (s0 : Int32) (hi : HI) (hl : HL) : Option (Int32 × HI × HL) :=
  (lpN (fun s => B_MD_round_42 N (v1) s.1 s.2.1 s.2.2.1 s.2.2.2.1 s.2.2.2.2.1 s.2.2.2.2.2) N (v2, s0, 0, 0, hi, hl)).bind fun x8 => if (v1 : Int32) = 0 then (f_MD_beginOf N (x8.2.2.2.1 65 23) (x8.2.2.2.1) (x8.2.2.2.2)).bind fun z10 => some (z10.1, z10.2.1, z10.2.2) else if (v1 : Int32) = (1 : Int32) then some (x8.1, x8.2.2.2.1, x8.2.2.2.2) else if (v1 : Int32) = (2 : Int32) then some (x8.2.1, x8.2.2.2.1, x8.2.2.2.2) else some (x8.2.2.1, x8.2.2.2.1, x8.2.2.2.2)
set_option maxRecDepth 10000 in
set_option maxHeartbeats 4000000 in
theorem bJ_MD_round_35 (ev : EV) {N : Nat} {v1 : Int32} {v2 : Int32} {s0 : Int32} {hi : HI} {hl : HL} {o : Int32 × HI × HL} (h : J_MD_round_35 N v1 v2 s0 hi hl = some o) : EX w0 ev 2 m_MD_round 35 [(0, .ref 65), (1, .int (v1)), (2, .int (v2))] [.int (s0)] (hi) (hl) (oI o) := by
  unfold J_MD_round_35 at h
  refine EX.istore_n (req1 := [(3, .int (s0)), (0, .ref 65), (1, .int (v1)), (2, .int (v2))]) rfl rfl rfl ?_
  refine EX.iconst (v := 0) rfl rfl ?_
  refine EX.istore (req1 := [(4, .int (0)), (3, .int (s0)), (0, .ref 65), (1, .int (v1)), (2, .int (v2))]) rfl rfl rfl ?_
  refine EX.iconst (v := 0) rfl rfl ?_
  refine EX.istore (req1 := [(5, .int (0)), (4, .int (0)), (3, .int (s0)), (0, .ref 65), (1, .int (v1)), (2, .int (v2))]) rfl rfl rfl ?_
  obtain ⟨x8, hx8, h⟩ := bnd_some h
  refine EX.pick [3, 4, 5, 2, 1, 0] ?_ rfl
  refine lp_sound (f := fun s => B_MD_round_42 N (v1) s.1 s.2.1 s.2.2.1 s.2.2.2.1 s.2.2.2.2.1 s.2.2.2.2.2) (PS := fun s => EX w0 ev 2 m_MD_round 42 [(0, .ref 65), (1, .int (v1)), (2, .int (s.1)), (3, .int (s.2.1)), (4, .int (s.2.2.1)), (5, .int (s.2.2.2.1))] [] (s.2.2.2.2.1) (s.2.2.2.2.2) (oI o)) (PX := fun x => EX w0 ev 2 m_MD_round 101 [(0, .ref 65), (1, .int (v1)), (2, .int (x.1)), (3, .int (x.2.1)), (4, .int (x.2.2.1))] [] (x.2.2.2.1) (x.2.2.2.2) (oI o)) ?_ N _ x8 hx8 ?_
  · exact fun s z hz hk => bB_MD_round_42 ev hz hk
  show EX w0 ev 2 m_MD_round 101 [(0, .ref 65), (1, .int (v1)), (2, .int (x8.1)), (3, .int (x8.2.1)), (4, .int (x8.2.2.1))] [] (x8.2.2.2.1) (x8.2.2.2.2) (oI o)
  refine EX.iload_n (x := v1) rfl (List.mem_of_getElem? (i := 1) rfl) ?_
  rcases ite_some h with ⟨c9, h⟩ | ⟨c9, h⟩
  · refine EX.go (i := .ifCond .ne 14) (len := 3) (pc1 := 105) (st1 := []) (hi1 := x8.2.2.2.1) (hl1 := x8.2.2.2.2) rfl ?_ (fun _ _ _ => if_pos c9)
    refine EX.aload_n (x := 65) rfl (List.mem_of_getElem? (i := 0) rfl) ?_
    refine EX.aload_n (x := 65) rfl (List.mem_of_getElem? (i := 0) rfl) ?_
    refine EX.go (i := .getfield 119) (len := 3) (pc1 := 110) (st1 := [.int (x8.2.2.2.1 65 23), .ref 65]) (hi1 := x8.2.2.2.1) (hl1 := x8.2.2.2.2) rfl ?_ (fun _ _ _ => rfl)
    obtain ⟨z10, hz10, h⟩ := bnd_some h
    refine EX.callV (b := 65) (as := [.int (x8.2.2.2.1 65 23)]) (rest := []) (r := some (.int (z10.1))) (hi1 := z10.2.1) (hl1 := z10.2.2) rfl rfl rfl rfl rfl rfl ((b_MD_beginOf ev hz10).mono (by decide)) ?_
    show EX w0 ev 2 m_MD_round 113 [(0, .ref 65), (1, .int (v1)), (2, .int (x8.1)), (3, .int (x8.2.1)), (4, .int (x8.2.2.1))] [.int (z10.1)] (z10.2.1) (z10.2.2) (oI o)
    refine EX.go (i := .goto 23) (len := 3) (pc1 := 136) (st1 := [.int (z10.1)]) (hi1 := z10.2.1) (hl1 := z10.2.2) rfl ?_ (fun _ _ _ => rfl)
    obtain rfl := Option.some.inj h
    exact EX.iret rfl rfl
  · refine EX.go (i := .ifCond .ne 14) (len := 3) (pc1 := 116) (st1 := []) (hi1 := x8.2.2.2.1) (hl1 := x8.2.2.2.2) rfl ?_ (fun _ _ _ => if_neg c9)
    refine EX.iload_n (x := v1) rfl (List.mem_of_getElem? (i := 1) rfl) ?_
    refine EX.iconst (v := 1) rfl rfl ?_
    rcases ite_some h with ⟨c11, h⟩ | ⟨c11, h⟩
    · refine EX.go (i := .if_icmp .ne 7) (len := 3) (pc1 := 121) (st1 := []) (hi1 := x8.2.2.2.1) (hl1 := x8.2.2.2.2) rfl ?_ (fun _ _ _ => if_pos c11)
      refine EX.iload_n (x := x8.1) rfl (List.mem_of_getElem? (i := 2) rfl) ?_
      refine EX.go (i := .goto 14) (len := 3) (pc1 := 136) (st1 := [.int (x8.1)]) (hi1 := x8.2.2.2.1) (hl1 := x8.2.2.2.2) rfl ?_ (fun _ _ _ => rfl)
      obtain rfl := Option.some.inj h
      exact EX.iret rfl rfl
    · refine EX.go (i := .if_icmp .ne 7) (len := 3) (pc1 := 125) (st1 := []) (hi1 := x8.2.2.2.1) (hl1 := x8.2.2.2.2) rfl ?_ (fun _ _ _ => if_neg c11)
      refine EX.iload_n (x := v1) rfl (List.mem_of_getElem? (i := 1) rfl) ?_
      refine EX.iconst (v := 2) rfl rfl ?_
      rcases ite_some h with ⟨c12, h⟩ | ⟨c12, h⟩
      · refine EX.go (i := .if_icmp .ne 7) (len := 3) (pc1 := 130) (st1 := []) (hi1 := x8.2.2.2.1) (hl1 := x8.2.2.2.2) rfl ?_ (fun _ _ _ => if_pos c12)
        refine EX.iload_n (x := x8.2.1) rfl (List.mem_of_getElem? (i := 3) rfl) ?_
        refine EX.go (i := .goto 5) (len := 3) (pc1 := 136) (st1 := [.int (x8.2.1)]) (hi1 := x8.2.2.2.1) (hl1 := x8.2.2.2.2) rfl ?_ (fun _ _ _ => rfl)
        obtain rfl := Option.some.inj h
        exact EX.iret rfl rfl
      · refine EX.go (i := .if_icmp .ne 7) (len := 3) (pc1 := 134) (st1 := []) (hi1 := x8.2.2.2.1) (hl1 := x8.2.2.2.2) rfl ?_ (fun _ _ _ => if_neg c12)
        refine EX.iload (x := x8.2.2.1) rfl (List.mem_of_getElem? (i := 4) rfl) ?_
        obtain rfl := Option.some.inj h
        exact EX.iret rfl rfl
def f_MD_round (N : Nat) (p1 : Int32) (hi : HI) (hl : HL) : Option (Int32 × HI × HL) :=
  (f_MD_in N ((Int32.toInt64 (p1))) (0) (3) (hi) (hl)).bind fun z1 => if (z1.1 : Int32) = 0 then some ((-1), z1.2.1, z1.2.2) else if (z1.2.1 65 23 : Int32) = 0 then J_MD_round_35 N (p1) (0) (0) (z1.2.1) (z1.2.2) else J_MD_round_35 N (p1) (0) (((((1 : Int32) <<< ((z1.2.1 65 2) &&& 31)) : Int32) - (1))) (z1.2.1) (z1.2.2)
set_option maxRecDepth 10000 in
set_option maxHeartbeats 4000000 in
theorem b_MD_round (ev : EV) {N : Nat} {p1 : Int32} {hi : HI} {hl : HL} {o : Int32 × HI × HL} (h : f_MD_round N p1 hi hl = some o) : EM w0 ev 3 m_MD_round [.ref 65, .int (p1)] hi hl (oI o) := by
  unfold f_MD_round at h
  refine EM.of rfl ?_
  show EX w0 ev 2 m_MD_round 0 [(0, .ref 65), (1, .int (p1))] [] (hi) (hl) (oI o)
  refine EX.iload_n (x := p1) rfl (List.mem_of_getElem? (i := 1) rfl) ?_
  refine EX.go (i := .i2l) (len := 1) (pc1 := 2) (st1 := [.long ((Int32.toInt64 (p1)))]) (hi1 := hi) (hl1 := hl) rfl ?_ (fun _ _ _ => rfl)
  refine EX.lconst (v := 0) rfl rfl ?_
  refine EX.go (i := .ldc2_w 171) (len := 3) (pc1 := 6) (st1 := [.long (3), .long (0), .long ((Int32.toInt64 (p1)))]) (hi1 := hi) (hl1 := hl) rfl ?_ (fun _ _ _ => rfl)
  obtain ⟨z1, hz1, h⟩ := bnd_some h
  refine EX.callS (as := [.long ((Int32.toInt64 (p1))), .long (0), .long (3)]) (rest := []) (r := some (.int (z1.1))) (hi1 := z1.2.1) (hl1 := z1.2.2) rfl rfl rfl rfl rfl rfl ((b_MD_in ev hz1).mono (by decide)) ?_
  show EX w0 ev 2 m_MD_round 9 [(0, .ref 65), (1, .int (p1))] [.int (z1.1)] (z1.2.1) (z1.2.2) (oI o)
  rcases ite_some h with ⟨c2, h⟩ | ⟨c2, h⟩
  · refine EX.go (i := .ifCond .ne 5) (len := 3) (pc1 := 12) (st1 := []) (hi1 := z1.2.1) (hl1 := z1.2.2) rfl ?_ (fun _ _ _ => if_pos c2)
    refine EX.iconst (v := (-1)) rfl rfl ?_
    obtain rfl := Option.some.inj h
    exact EX.iret rfl rfl
  · refine EX.go (i := .ifCond .ne 5) (len := 3) (pc1 := 14) (st1 := []) (hi1 := z1.2.1) (hl1 := z1.2.2) rfl ?_ (fun _ _ _ => if_neg c2)
    refine EX.iconst (v := 0) rfl rfl ?_
    refine EX.istore_n (req1 := [(2, .int (0)), (0, .ref 65), (1, .int (p1))]) rfl rfl rfl ?_
    refine EX.aload_n (x := 65) rfl (List.mem_of_getElem? (i := 1) rfl) ?_
    refine EX.go (i := .getfield 119) (len := 3) (pc1 := 20) (st1 := [.int (z1.2.1 65 23)]) (hi1 := z1.2.1) (hl1 := z1.2.2) rfl ?_ (fun _ _ _ => rfl)
    rcases ite_some h with ⟨c3, h⟩ | ⟨c3, h⟩
    · refine EX.go (i := .ifCond .ne 7) (len := 3) (pc1 := 23) (st1 := []) (hi1 := z1.2.1) (hl1 := z1.2.2) rfl ?_ (fun _ _ _ => if_pos c3)
      refine EX.iconst (v := 0) rfl rfl ?_
      refine EX.go (i := .goto 11) (len := 3) (pc1 := 35) (st1 := [.int (0)]) (hi1 := z1.2.1) (hl1 := z1.2.2) rfl ?_ (fun _ _ _ => rfl)
      refine EX.pick [1, 2, 0] ?_ rfl
      exact bJ_MD_round_35 ev h
    · refine EX.go (i := .ifCond .ne 7) (len := 3) (pc1 := 27) (st1 := []) (hi1 := z1.2.1) (hl1 := z1.2.2) rfl ?_ (fun _ _ _ => if_neg c3)
      refine EX.iconst (v := 1) rfl rfl ?_
      refine EX.aload_n (x := 65) rfl (List.mem_of_getElem? (i := 1) rfl) ?_
      refine EX.go (i := .getfield 116) (len := 3) (pc1 := 32) (st1 := [.int (z1.2.1 65 2), .int (1)]) (hi1 := z1.2.1) (hl1 := z1.2.2) rfl ?_ (fun _ _ _ => rfl)
      refine EX.go (i := .ishl) (len := 1) (pc1 := 33) (st1 := [.int (((1 : Int32) <<< ((z1.2.1 65 2) &&& 31)))]) (hi1 := z1.2.1) (hl1 := z1.2.2) rfl ?_ (fun _ _ _ => rfl)
      refine EX.iconst (v := 1) rfl rfl ?_
      refine EX.go (i := .isub) (len := 1) (pc1 := 35) (st1 := [.int (((((1 : Int32) <<< ((z1.2.1 65 2) &&& 31)) : Int32) - (1)))]) (hi1 := z1.2.1) (hl1 := z1.2.2) rfl ?_ (fun _ _ _ => rfl)
      refine EX.pick [1, 2, 0] ?_ rfl
      exact bJ_MD_round_35 ev h
def J_MD_shows_189 (N : Nat) (v1 : Int32) (v2 : Int32) (v3 : Int32) (v4 : Int64) (v6 : Int32) (v8 : Int32) (s0 : Int32) (hi : HI) (hl : HL) : Option ((Int32 × Int64 × Int32 × Int32 × Int32 × HI × HL) ⊕ (Int32 × Int64 × Int32 × HI × HL)) :=
  some (.inl (v3, v4, v6, s0, v8 + 1, hi, hl))
set_option maxRecDepth 10000 in
set_option maxHeartbeats 4000000 in
theorem bJ_MD_shows_189 (ev : EV) {N : Nat} {v1 : Int32} {v2 : Int32} {v3 : Int32} {v4 : Int64} {v6 : Int32} {v8 : Int32} {s0 : Int32} {hi : HI} {hl : HL} {z : (Int32 × Int64 × Int32 × Int32 × Int32 × HI × HL) ⊕ (Int32 × Int64 × Int32 × HI × HL)} {OUT : Option Value × HI × HL} (h : J_MD_shows_189 N v1 v2 v3 v4 v6 v8 s0 hi hl = some z) (hk : Sum.elim (fun s => EX w0 ev 2 m_MD_shows 36 [(0, .ref 65), (1, .int (v1)), (2, .int (v2)), (3, .int (s.1)), (4, .long (s.2.1)), (6, .int (s.2.2.1)), (7, .int (s.2.2.2.1)), (8, .int (s.2.2.2.2.1))] [] (s.2.2.2.2.2.1) (s.2.2.2.2.2.2) OUT) (fun x => EX w0 ev 2 m_MD_shows 197 [(2, .int (v2)), (3, .int (x.1)), (4, .long (x.2.1)), (7, .int (x.2.2.1))] [] (x.2.2.2.1) (x.2.2.2.2) OUT) z) : EX w0 ev 2 m_MD_shows 189 [(0, .ref 65), (1, .int (v1)), (2, .int (v2)), (3, .int (v3)), (4, .long (v4)), (6, .int (v6)), (8, .int (v8))] [.int (s0)] (hi) (hl) OUT := by
  unfold J_MD_shows_189 at h
  refine EX.istore (req1 := [(7, .int (s0)), (0, .ref 65), (1, .int (v1)), (2, .int (v2)), (3, .int (v3)), (4, .long (v4)), (6, .int (v6)), (8, .int (v8))]) rfl rfl rfl ?_
  refine EX.iinc (x := v8) (v := v8 + 1) (req1 := [(8, .int (v8 + 1)), (7, .int (s0)), (0, .ref 65), (1, .int (v1)), (2, .int (v2)), (3, .int (v3)), (4, .long (v4)), (6, .int (v6))]) rfl rfl (List.mem_of_getElem? (i := 7) rfl) rfl rfl ?_
  refine EX.go (i := .goto (-158)) (len := 3) (pc1 := 36) (st1 := []) (hi1 := hi) (hl1 := hl) rfl ?_ (fun _ _ _ => rfl)
  obtain rfl := Option.some.inj h
  have hk : EX w0 ev 2 m_MD_shows 36 [(0, .ref 65), (1, .int (v1)), (2, .int (v2)), (3, .int (v3)), (4, .long (v4)), (6, .int (v6)), (7, .int (s0)), (8, .int (v8 + 1))] [] (hi) (hl) OUT := hk
  exact EX.pick [2, 3, 4, 5, 6, 7, 1, 0] hk rfl
def J_MD_shows_173 (N : Nat) (v1 : Int32) (v2 : Int32) (v3 : Int32) (v4 : Int64) (v7 : Int32) (v8 : Int32) (s0 : Int32) (hi : HI) (hl : HL) : Option ((Int32 × Int64 × Int32 × Int32 × Int32 × HI × HL) ⊕ (Int32 × Int64 × Int32 × HI × HL)) :=
  if (s0 : Int32) ≤ (v7 : Int32) then J_MD_shows_189 N (v1) (v2) (v3) (v4) (s0) (v8) (v7) (hi) (hl) else J_MD_shows_189 N (v1) (v2) (v3) (v4) (s0) (v8) (s0) (hi) (hl)
set_option maxRecDepth 10000 in
set_option maxHeartbeats 4000000 in
theorem bJ_MD_shows_173 (ev : EV) {N : Nat} {v1 : Int32} {v2 : Int32} {v3 : Int32} {v4 : Int64} {v7 : Int32} {v8 : Int32} {s0 : Int32} {hi : HI} {hl : HL} {z : (Int32 × Int64 × Int32 × Int32 × Int32 × HI × HL) ⊕ (Int32 × Int64 × Int32 × HI × HL)} {OUT : Option Value × HI × HL} (h : J_MD_shows_173 N v1 v2 v3 v4 v7 v8 s0 hi hl = some z) (hk : Sum.elim (fun s => EX w0 ev 2 m_MD_shows 36 [(0, .ref 65), (1, .int (v1)), (2, .int (v2)), (3, .int (s.1)), (4, .long (s.2.1)), (6, .int (s.2.2.1)), (7, .int (s.2.2.2.1)), (8, .int (s.2.2.2.2.1))] [] (s.2.2.2.2.2.1) (s.2.2.2.2.2.2) OUT) (fun x => EX w0 ev 2 m_MD_shows 197 [(2, .int (v2)), (3, .int (x.1)), (4, .long (x.2.1)), (7, .int (x.2.2.1))] [] (x.2.2.2.1) (x.2.2.2.2) OUT) z) : EX w0 ev 2 m_MD_shows 173 [(0, .ref 65), (1, .int (v1)), (2, .int (v2)), (3, .int (v3)), (4, .long (v4)), (7, .int (v7)), (8, .int (v8))] [.int (s0)] (hi) (hl) OUT := by
  unfold J_MD_shows_173 at h
  refine EX.istore (req1 := [(6, .int (s0)), (0, .ref 65), (1, .int (v1)), (2, .int (v2)), (3, .int (v3)), (4, .long (v4)), (7, .int (v7)), (8, .int (v8))]) rfl rfl rfl ?_
  refine EX.iload (x := s0) rfl (List.mem_of_getElem? (i := 0) rfl) ?_
  refine EX.iload (x := v7) rfl (List.mem_of_getElem? (i := 6) rfl) ?_
  rcases ite_some h with ⟨c15, h⟩ | ⟨c15, h⟩
  · refine EX.go (i := .if_icmp .le 8) (len := 3) (pc1 := 187) (st1 := []) (hi1 := hi) (hl1 := hl) rfl ?_ (fun _ _ _ => if_pos c15)
    refine EX.iload (x := v7) rfl (List.mem_of_getElem? (i := 6) rfl) ?_
    refine EX.pick [1, 2, 3, 4, 5, 0, 7] ?_ rfl
    exact bJ_MD_shows_189 ev h hk
  · refine EX.go (i := .if_icmp .le 8) (len := 3) (pc1 := 182) (st1 := []) (hi1 := hi) (hl1 := hl) rfl ?_ (fun _ _ _ => if_neg c15)
    refine EX.iload (x := s0) rfl (List.mem_of_getElem? (i := 0) rfl) ?_
    refine EX.go (i := .goto 5) (len := 3) (pc1 := 189) (st1 := [.int (s0)]) (hi1 := hi) (hl1 := hl) rfl ?_ (fun _ _ _ => rfl)
    refine EX.pick [1, 2, 3, 4, 5, 0, 7] ?_ rfl
    exact bJ_MD_shows_189 ev h hk
def J_MD_shows_156 (N : Nat) (v1 : Int32) (v2 : Int32) (v3 : Int32) (v6 : Int32) (v7 : Int32) (v8 : Int32) (v10 : Int32) (v11 : Int32) (s0 : Int64) (s1 : Int64) (hi : HI) (hl : HL) : Option ((Int32 × Int64 × Int32 × Int32 × Int32 × HI × HL) ⊕ (Int32 × Int64 × Int32 × HI × HL)) :=
  if (v11 : Int32) = 0 then J_MD_shows_173 N (v1) (v2) (v3) ((s1 + s0)) (v7) (v8) ((v6 + v10)) (hi) (hl) else J_MD_shows_173 N (v1) (v2) (v3) ((s1 + s0)) (v7) (v8) (0) (hi) (hl)
set_option maxRecDepth 10000 in
set_option maxHeartbeats 4000000 in
theorem bJ_MD_shows_156 (ev : EV) {N : Nat} {v1 : Int32} {v2 : Int32} {v3 : Int32} {v6 : Int32} {v7 : Int32} {v8 : Int32} {v10 : Int32} {v11 : Int32} {s0 : Int64} {s1 : Int64} {hi : HI} {hl : HL} {z : (Int32 × Int64 × Int32 × Int32 × Int32 × HI × HL) ⊕ (Int32 × Int64 × Int32 × HI × HL)} {OUT : Option Value × HI × HL} (h : J_MD_shows_156 N v1 v2 v3 v6 v7 v8 v10 v11 s0 s1 hi hl = some z) (hk : Sum.elim (fun s => EX w0 ev 2 m_MD_shows 36 [(0, .ref 65), (1, .int (v1)), (2, .int (v2)), (3, .int (s.1)), (4, .long (s.2.1)), (6, .int (s.2.2.1)), (7, .int (s.2.2.2.1)), (8, .int (s.2.2.2.2.1))] [] (s.2.2.2.2.2.1) (s.2.2.2.2.2.2) OUT) (fun x => EX w0 ev 2 m_MD_shows 197 [(2, .int (v2)), (3, .int (x.1)), (4, .long (x.2.1)), (7, .int (x.2.2.1))] [] (x.2.2.2.1) (x.2.2.2.2) OUT) z) : EX w0 ev 2 m_MD_shows 156 [(0, .ref 65), (1, .int (v1)), (2, .int (v2)), (3, .int (v3)), (6, .int (v6)), (7, .int (v7)), (8, .int (v8)), (10, .int (v10)), (11, .int (v11))] [.long (s0), .long (s1)] (hi) (hl) OUT := by
  unfold J_MD_shows_156 at h
  refine EX.go (i := .ladd) (len := 1) (pc1 := 157) (st1 := [.long ((s1 + s0))]) (hi1 := hi) (hl1 := hl) rfl ?_ (fun _ _ _ => rfl)
  refine EX.lstore (req1 := [(4, .long ((s1 + s0))), (0, .ref 65), (1, .int (v1)), (2, .int (v2)), (3, .int (v3)), (6, .int (v6)), (7, .int (v7)), (8, .int (v8)), (10, .int (v10)), (11, .int (v11))]) rfl rfl rfl ?_
  refine EX.iload (x := v11) rfl (List.mem_of_getElem? (i := 9) rfl) ?_
  rcases ite_some h with ⟨c14, h⟩ | ⟨c14, h⟩
  · refine EX.go (i := .ifCond .eq 7) (len := 3) (pc1 := 168) (st1 := []) (hi1 := hi) (hl1 := hl) rfl ?_ (fun _ _ _ => if_pos c14)
    refine EX.iload (x := v6) rfl (List.mem_of_getElem? (i := 5) rfl) ?_
    refine EX.iload (x := v10) rfl (List.mem_of_getElem? (i := 8) rfl) ?_
    refine EX.go (i := .iadd) (len := 1) (pc1 := 173) (st1 := [.int ((v6 + v10))]) (hi1 := hi) (hl1 := hl) rfl ?_ (fun _ _ _ => rfl)
    refine EX.pick [1, 2, 3, 4, 0, 6, 7] ?_ rfl
    exact bJ_MD_shows_173 ev h hk
  · refine EX.go (i := .ifCond .eq 7) (len := 3) (pc1 := 164) (st1 := []) (hi1 := hi) (hl1 := hl) rfl ?_ (fun _ _ _ => if_neg c14)
    refine EX.iconst (v := 0) rfl rfl ?_
    refine EX.go (i := .goto 8) (len := 3) (pc1 := 173) (st1 := [.int (0)]) (hi1 := hi) (hl1 := hl) rfl ?_ (fun _ _ _ => rfl)
    refine EX.pick [1, 2, 3, 4, 0, 6, 7] ?_ rfl
    exact bJ_MD_shows_173 ev h hk
def J_MD_shows_155 (N : Nat) (v1 : Int32) (v2 : Int32) (v3 : Int32) (v6 : Int32) (v7 : Int32) (v8 : Int32) (v10 : Int32) (v11 : Int32) (s0 : Int64) (hi : HI) (hl : HL) : Option ((Int32 × Int64 × Int32 × Int32 × Int32 × HI × HL) ⊕ (Int32 × Int64 × Int32 × HI × HL)) :=
  J_MD_shows_156 N (v1) (v2) (v3) (v6) (v7) (v8) (v10) (v11) (0) (s0) (hi) (hl)
set_option maxRecDepth 10000 in
set_option maxHeartbeats 4000000 in
theorem bJ_MD_shows_155 (ev : EV) {N : Nat} {v1 : Int32} {v2 : Int32} {v3 : Int32} {v6 : Int32} {v7 : Int32} {v8 : Int32} {v10 : Int32} {v11 : Int32} {s0 : Int64} {hi : HI} {hl : HL} {z : (Int32 × Int64 × Int32 × Int32 × Int32 × HI × HL) ⊕ (Int32 × Int64 × Int32 × HI × HL)} {OUT : Option Value × HI × HL} (h : J_MD_shows_155 N v1 v2 v3 v6 v7 v8 v10 v11 s0 hi hl = some z) (hk : Sum.elim (fun s => EX w0 ev 2 m_MD_shows 36 [(0, .ref 65), (1, .int (v1)), (2, .int (v2)), (3, .int (s.1)), (4, .long (s.2.1)), (6, .int (s.2.2.1)), (7, .int (s.2.2.2.1)), (8, .int (s.2.2.2.2.1))] [] (s.2.2.2.2.2.1) (s.2.2.2.2.2.2) OUT) (fun x => EX w0 ev 2 m_MD_shows 197 [(2, .int (v2)), (3, .int (x.1)), (4, .long (x.2.1)), (7, .int (x.2.2.1))] [] (x.2.2.2.1) (x.2.2.2.2) OUT) z) : EX w0 ev 2 m_MD_shows 155 [(0, .ref 65), (1, .int (v1)), (2, .int (v2)), (3, .int (v3)), (6, .int (v6)), (7, .int (v7)), (8, .int (v8)), (10, .int (v10)), (11, .int (v11))] [.long (s0)] (hi) (hl) OUT := by
  unfold J_MD_shows_155 at h
  refine EX.lconst (v := 0) rfl rfl ?_
  refine EX.pick [0, 1, 2, 3, 4, 5, 6, 7, 8] ?_ rfl
  exact bJ_MD_shows_156 ev h hk
def J_MD_shows_121 (N : Nat) (v1 : Int32) (v2 : Int32) (v4 : Int64) (v6 : Int32) (v7 : Int32) (v8 : Int32) (v9 : Int32) (v10 : Int32) (v11 : Int32) (s0 : Int32) (s1 : Int32) (hi : HI) (hl : HL) : Option ((Int32 × Int64 × Int32 × Int32 × Int32 × HI × HL) ⊕ (Int32 × Int64 × Int32 × HI × HL)) :=
  if (v11 : Int32) = 0 then J_MD_shows_155 N (v1) (v2) ((s1 + s0)) (v6) (v7) (v8) (v10) (v11) (v4) (hi) (hl) else if (hi 65 23 : Int32) ≤ (v8 : Int32) then J_MD_shows_155 N (v1) (v2) ((s1 + s0)) (v6) (v7) (v8) (v10) (v11) (v4) (hi) (hl) else (f_MD_bits N (v9) (hi) (hl)).bind fun z17 => if (z17.1 : Int32) = 0 then none else J_MD_shows_156 N (v1) (v2) ((s1 + s0)) (v6) (v7) (v8) (v10) (v11) ((((Int32.toInt64 (((720720 : Int32) / (z17.1)))) : Int64) * ((Int32.toInt64 (v10))))) (v4) (z17.2.1) (z17.2.2)
set_option maxRecDepth 10000 in
set_option maxHeartbeats 4000000 in
theorem bJ_MD_shows_121 (ev : EV) {N : Nat} {v1 : Int32} {v2 : Int32} {v4 : Int64} {v6 : Int32} {v7 : Int32} {v8 : Int32} {v9 : Int32} {v10 : Int32} {v11 : Int32} {s0 : Int32} {s1 : Int32} {hi : HI} {hl : HL} {z : (Int32 × Int64 × Int32 × Int32 × Int32 × HI × HL) ⊕ (Int32 × Int64 × Int32 × HI × HL)} {OUT : Option Value × HI × HL} (h : J_MD_shows_121 N v1 v2 v4 v6 v7 v8 v9 v10 v11 s0 s1 hi hl = some z) (hk : Sum.elim (fun s => EX w0 ev 2 m_MD_shows 36 [(0, .ref 65), (1, .int (v1)), (2, .int (v2)), (3, .int (s.1)), (4, .long (s.2.1)), (6, .int (s.2.2.1)), (7, .int (s.2.2.2.1)), (8, .int (s.2.2.2.2.1))] [] (s.2.2.2.2.2.1) (s.2.2.2.2.2.2) OUT) (fun x => EX w0 ev 2 m_MD_shows 197 [(2, .int (v2)), (3, .int (x.1)), (4, .long (x.2.1)), (7, .int (x.2.2.1))] [] (x.2.2.2.1) (x.2.2.2.2) OUT) z) : EX w0 ev 2 m_MD_shows 121 [(0, .ref 65), (1, .int (v1)), (2, .int (v2)), (4, .long (v4)), (6, .int (v6)), (7, .int (v7)), (8, .int (v8)), (9, .int (v9)), (10, .int (v10)), (11, .int (v11))] [.int (s0), .int (s1)] (hi) (hl) OUT := by
  unfold J_MD_shows_121 at h
  refine EX.go (i := .iadd) (len := 1) (pc1 := 122) (st1 := [.int ((s1 + s0))]) (hi1 := hi) (hl1 := hl) rfl ?_ (fun _ _ _ => rfl)
  refine EX.istore_n (req1 := [(3, .int ((s1 + s0))), (0, .ref 65), (1, .int (v1)), (2, .int (v2)), (4, .long (v4)), (6, .int (v6)), (7, .int (v7)), (8, .int (v8)), (9, .int (v9)), (10, .int (v10)), (11, .int (v11))]) rfl rfl rfl ?_
  refine EX.lload (x := v4) rfl (List.mem_of_getElem? (i := 4) rfl) ?_
  refine EX.iload (x := v11) rfl (List.mem_of_getElem? (i := 10) rfl) ?_
  rcases ite_some h with ⟨c13, h⟩ | ⟨c13, h⟩
  · refine EX.go (i := .ifCond .eq 28) (len := 3) (pc1 := 155) (st1 := [.long (v4)]) (hi1 := hi) (hl1 := hl) rfl ?_ (fun _ _ _ => if_pos c13)
    refine EX.pick [1, 2, 3, 0, 5, 6, 7, 9, 10] ?_ rfl
    exact bJ_MD_shows_155 ev h hk
  · refine EX.go (i := .ifCond .eq 28) (len := 3) (pc1 := 130) (st1 := [.long (v4)]) (hi1 := hi) (hl1 := hl) rfl ?_ (fun _ _ _ => if_neg c13)
    refine EX.iload (x := v8) rfl (List.mem_of_getElem? (i := 7) rfl) ?_
    refine EX.aload_n (x := 65) rfl (List.mem_of_getElem? (i := 1) rfl) ?_
    refine EX.go (i := .getfield 119) (len := 3) (pc1 := 136) (st1 := [.int (hi 65 23), .int (v8), .long (v4)]) (hi1 := hi) (hl1 := hl) rfl ?_ (fun _ _ _ => rfl)
    rcases ite_some h with ⟨c16, h⟩ | ⟨c16, h⟩
    · refine EX.go (i := .if_icmp .ge 19) (len := 3) (pc1 := 155) (st1 := [.long (v4)]) (hi1 := hi) (hl1 := hl) rfl ?_ (fun _ _ _ => if_pos c16)
      refine EX.pick [1, 2, 3, 0, 5, 6, 7, 9, 10] ?_ rfl
      exact bJ_MD_shows_155 ev h hk
    · refine EX.go (i := .if_icmp .ge 19) (len := 3) (pc1 := 139) (st1 := [.long (v4)]) (hi1 := hi) (hl1 := hl) rfl ?_ (fun _ _ _ => if_neg c16)
      refine EX.go (i := .ldc 207) (len := 2) (pc1 := 141) (st1 := [.int (720720), .long (v4)]) (hi1 := hi) (hl1 := hl) rfl ?_ (fun _ _ _ => rfl)
      refine EX.iload (x := v9) rfl (List.mem_of_getElem? (i := 8) rfl) ?_
      obtain ⟨z17, hz17, h⟩ := bnd_some h
      refine EX.callS (as := [.int (v9)]) (rest := [.int (720720), .long (v4)]) (r := some (.int (z17.1))) (hi1 := z17.2.1) (hl1 := z17.2.2) rfl rfl rfl rfl rfl rfl ((b_MD_bits ev hz17).mono (by decide)) ?_
      show EX w0 ev 2 m_MD_shows 146 [(3, .int ((s1 + s0))), (0, .ref 65), (1, .int (v1)), (2, .int (v2)), (4, .long (v4)), (6, .int (v6)), (7, .int (v7)), (8, .int (v8)), (9, .int (v9)), (10, .int (v10)), (11, .int (v11))] [.int (z17.1), .int (720720), .long (v4)] (z17.2.1) (z17.2.2) OUT
      obtain ⟨g18, h⟩ := grd_some h
      refine EX.go (i := .idiv) (len := 1) (pc1 := 147) (st1 := [.int (((720720 : Int32) / (z17.1))), .long (v4)]) (hi1 := z17.2.1) (hl1 := z17.2.2) rfl ?_ (fun _ _ _ => if_neg g18)
      refine EX.go (i := .i2l) (len := 1) (pc1 := 148) (st1 := [.long ((Int32.toInt64 (((720720 : Int32) / (z17.1))))), .long (v4)]) (hi1 := z17.2.1) (hl1 := z17.2.2) rfl ?_ (fun _ _ _ => rfl)
      refine EX.iload (x := v10) rfl (List.mem_of_getElem? (i := 9) rfl) ?_
      refine EX.go (i := .i2l) (len := 1) (pc1 := 151) (st1 := [.long ((Int32.toInt64 (v10))), .long ((Int32.toInt64 (((720720 : Int32) / (z17.1))))), .long (v4)]) (hi1 := z17.2.1) (hl1 := z17.2.2) rfl ?_ (fun _ _ _ => rfl)
      refine EX.go (i := .lmul) (len := 1) (pc1 := 152) (st1 := [.long ((((Int32.toInt64 (((720720 : Int32) / (z17.1)))) : Int64) * ((Int32.toInt64 (v10))))), .long (v4)]) (hi1 := z17.2.1) (hl1 := z17.2.2) rfl ?_ (fun _ _ _ => rfl)
      refine EX.go (i := .goto 4) (len := 3) (pc1 := 156) (st1 := [.long ((((Int32.toInt64 (((720720 : Int32) / (z17.1)))) : Int64) * ((Int32.toInt64 (v10))))), .long (v4)]) (hi1 := z17.2.1) (hl1 := z17.2.2) rfl ?_ (fun _ _ _ => rfl)
      refine EX.pick [1, 2, 3, 0, 5, 6, 7, 9, 10] ?_ rfl
      exact bJ_MD_shows_156 ev h hk
def J_MD_shows_120 (N : Nat) (v1 : Int32) (v2 : Int32) (v4 : Int64) (v6 : Int32) (v7 : Int32) (v8 : Int32) (v9 : Int32) (v10 : Int32) (v11 : Int32) (s0 : Int32) (hi : HI) (hl : HL) : Option ((Int32 × Int64 × Int32 × Int32 × Int32 × HI × HL) ⊕ (Int32 × Int64 × Int32 × HI × HL)) :=
  J_MD_shows_121 N (v1) (v2) (v4) (v6) (v7) (v8) (v9) (v10) (v11) (0) (s0) (hi) (hl)
set_option maxRecDepth 10000 in
set_option maxHeartbeats 4000000 in
theorem bJ_MD_shows_120 (ev : EV) {N : Nat} {v1 : Int32} {v2 : Int32} {v4 : Int64} {v6 : Int32} {v7 : Int32} {v8 : Int32} {v9 : Int32} {v10 : Int32} {v11 : Int32} {s0 : Int32} {hi : HI} {hl : HL} {z : (Int32 × Int64 × Int32 × Int32 × Int32 × HI × HL) ⊕ (Int32 × Int64 × Int32 × HI × HL)} {OUT : Option Value × HI × HL} (h : J_MD_shows_120 N v1 v2 v4 v6 v7 v8 v9 v10 v11 s0 hi hl = some z) (hk : Sum.elim (fun s => EX w0 ev 2 m_MD_shows 36 [(0, .ref 65), (1, .int (v1)), (2, .int (v2)), (3, .int (s.1)), (4, .long (s.2.1)), (6, .int (s.2.2.1)), (7, .int (s.2.2.2.1)), (8, .int (s.2.2.2.2.1))] [] (s.2.2.2.2.2.1) (s.2.2.2.2.2.2) OUT) (fun x => EX w0 ev 2 m_MD_shows 197 [(2, .int (v2)), (3, .int (x.1)), (4, .long (x.2.1)), (7, .int (x.2.2.1))] [] (x.2.2.2.1) (x.2.2.2.2) OUT) z) : EX w0 ev 2 m_MD_shows 120 [(0, .ref 65), (1, .int (v1)), (2, .int (v2)), (4, .long (v4)), (6, .int (v6)), (7, .int (v7)), (8, .int (v8)), (9, .int (v9)), (10, .int (v10)), (11, .int (v11))] [.int (s0)] (hi) (hl) OUT := by
  unfold J_MD_shows_120 at h
  refine EX.iconst (v := 0) rfl rfl ?_
  refine EX.pick [0, 1, 2, 3, 4, 5, 6, 7, 8, 9] ?_ rfl
  exact bJ_MD_shows_121 ev h hk
def J_MD_shows_98 (N : Nat) (v1 : Int32) (v2 : Int32) (v3 : Int32) (v4 : Int64) (v6 : Int32) (v7 : Int32) (v8 : Int32) (v9 : Int32) (v10 : Int32) (s0 : Int32) (hi : HI) (hl : HL) : Option ((Int32 × Int64 × Int32 × Int32 × Int32 × HI × HL) ⊕ (Int32 × Int64 × Int32 × HI × HL)) :=
  if (s0 : Int32) = 0 then J_MD_shows_120 N (v1) (v2) (v4) (v6) (v7) (v8) (v9) (v10) (s0) (v3) (hi) (hl) else if (hi 65 23 : Int32) ≤ (v8 : Int32) then J_MD_shows_120 N (v1) (v2) (v4) (v6) (v7) (v8) (v9) (v10) (s0) (v3) (hi) (hl) else J_MD_shows_121 N (v1) (v2) (v4) (v6) (v7) (v8) (v9) (v10) (s0) (v10) (v3) (hi) (hl)
set_option maxRecDepth 10000 in
set_option maxHeartbeats 4000000 in
theorem bJ_MD_shows_98 (ev : EV) {N : Nat} {v1 : Int32} {v2 : Int32} {v3 : Int32} {v4 : Int64} {v6 : Int32} {v7 : Int32} {v8 : Int32} {v9 : Int32} {v10 : Int32} {s0 : Int32} {hi : HI} {hl : HL} {z : (Int32 × Int64 × Int32 × Int32 × Int32 × HI × HL) ⊕ (Int32 × Int64 × Int32 × HI × HL)} {OUT : Option Value × HI × HL} (h : J_MD_shows_98 N v1 v2 v3 v4 v6 v7 v8 v9 v10 s0 hi hl = some z) (hk : Sum.elim (fun s => EX w0 ev 2 m_MD_shows 36 [(0, .ref 65), (1, .int (v1)), (2, .int (v2)), (3, .int (s.1)), (4, .long (s.2.1)), (6, .int (s.2.2.1)), (7, .int (s.2.2.2.1)), (8, .int (s.2.2.2.2.1))] [] (s.2.2.2.2.2.1) (s.2.2.2.2.2.2) OUT) (fun x => EX w0 ev 2 m_MD_shows 197 [(2, .int (v2)), (3, .int (x.1)), (4, .long (x.2.1)), (7, .int (x.2.2.1))] [] (x.2.2.2.1) (x.2.2.2.2) OUT) z) : EX w0 ev 2 m_MD_shows 98 [(0, .ref 65), (1, .int (v1)), (2, .int (v2)), (3, .int (v3)), (4, .long (v4)), (6, .int (v6)), (7, .int (v7)), (8, .int (v8)), (9, .int (v9)), (10, .int (v10))] [.int (s0)] (hi) (hl) OUT := by
  unfold J_MD_shows_98 at h
  refine EX.istore (req1 := [(11, .int (s0)), (0, .ref 65), (1, .int (v1)), (2, .int (v2)), (3, .int (v3)), (4, .long (v4)), (6, .int (v6)), (7, .int (v7)), (8, .int (v8)), (9, .int (v9)), (10, .int (v10))]) rfl rfl rfl ?_
  refine EX.iload_n (x := v3) rfl (List.mem_of_getElem? (i := 4) rfl) ?_
  refine EX.iload (x := s0) rfl (List.mem_of_getElem? (i := 0) rfl) ?_
  rcases ite_some h with ⟨c12, h⟩ | ⟨c12, h⟩
  · refine EX.go (i := .ifCond .eq 17) (len := 3) (pc1 := 120) (st1 := [.int (v3)]) (hi1 := hi) (hl1 := hl) rfl ?_ (fun _ _ _ => if_pos c12)
    refine EX.pick [1, 2, 3, 5, 6, 7, 8, 9, 10, 0] ?_ rfl
    exact bJ_MD_shows_120 ev h hk
  · refine EX.go (i := .ifCond .eq 17) (len := 3) (pc1 := 106) (st1 := [.int (v3)]) (hi1 := hi) (hl1 := hl) rfl ?_ (fun _ _ _ => if_neg c12)
    refine EX.iload (x := v8) rfl (List.mem_of_getElem? (i := 8) rfl) ?_
    refine EX.aload_n (x := 65) rfl (List.mem_of_getElem? (i := 1) rfl) ?_
    refine EX.go (i := .getfield 119) (len := 3) (pc1 := 112) (st1 := [.int (hi 65 23), .int (v8), .int (v3)]) (hi1 := hi) (hl1 := hl) rfl ?_ (fun _ _ _ => rfl)
    rcases ite_some h with ⟨c19, h⟩ | ⟨c19, h⟩
    · refine EX.go (i := .if_icmp .ge 8) (len := 3) (pc1 := 120) (st1 := [.int (v3)]) (hi1 := hi) (hl1 := hl) rfl ?_ (fun _ _ _ => if_pos c19)
      refine EX.pick [1, 2, 3, 5, 6, 7, 8, 9, 10, 0] ?_ rfl
      exact bJ_MD_shows_120 ev h hk
    · refine EX.go (i := .if_icmp .ge 8) (len := 3) (pc1 := 115) (st1 := [.int (v3)]) (hi1 := hi) (hl1 := hl) rfl ?_ (fun _ _ _ => if_neg c19)
      refine EX.iload (x := v10) rfl (List.mem_of_getElem? (i := 10) rfl) ?_
      refine EX.go (i := .goto 4) (len := 3) (pc1 := 121) (st1 := [.int (v10), .int (v3)]) (hi1 := hi) (hl1 := hl) rfl ?_ (fun _ _ _ => rfl)
      refine EX.pick [1, 2, 3, 5, 6, 7, 8, 9, 10, 0] ?_ rfl
      exact bJ_MD_shows_121 ev h hk
def B_MD_shows_36 (N : Nat) (v1 : Int32) (v2 : Int32) (v3 : Int32) (v4 : Int64) (v6 : Int32) (v7 : Int32) (v8 : Int32) (hi : HI) (hl : HL) : Option ((Int32 × Int64 × Int32 × Int32 × Int32 × HI × HL) ⊕ (Int32 × Int64 × Int32 × HI × HL)) :=
  if (((2 : Int32) * (hi 65 23)) : Int32) ≤ (v8 : Int32) then some (.inr (v3, v4, v7, hi, hl)) else if (hi 65 23 : Int32) = 0 then none else if (((v8 : Int32) - (v8 : Int32) / (hi 65 23) * (hi 65 23)) : Int32) < 0 ∨ 12 ≤ Int32.toNatClampNeg (((v8 : Int32) - (v8 : Int32) / (hi 65 23) * (hi 65 23))) then none else (f_MD_glows N (hi 83 (Int32.toNatClampNeg (((v8 : Int32) - (v8 : Int32) / (hi 65 23) * (hi 65 23))))) (69) (hi) (hl)).bind fun z8 => if (z8.2.1 65 23 : Int32) = 0 then none else if (((v8 : Int32) - (v8 : Int32) / (z8.2.1 65 23) * (z8.2.1 65 23)) : Int32) < 0 ∨ 12 ≤ Int32.toNatClampNeg (((v8 : Int32) - (v8 : Int32) / (z8.2.1 65 23) * (z8.2.1 65 23))) then none else if (((((z8.1 : Int32) >>> (v1 &&& 31)) : Int32) &&& (1)) : Int32) = (1 : Int32) then J_MD_shows_98 N (v1) (v2) (v3) (v4) (v6) (v7) (v8) (z8.1) (z8.2.1 84 (Int32.toNatClampNeg (((v8 : Int32) - (v8 : Int32) / (z8.2.1 65 23) * (z8.2.1 65 23))))) (1) (z8.2.1) (z8.2.2) else J_MD_shows_98 N (v1) (v2) (v3) (v4) (v6) (v7) (v8) (z8.1) (z8.2.1 84 (Int32.toNatClampNeg (((v8 : Int32) - (v8 : Int32) / (z8.2.1 65 23) * (z8.2.1 65 23))))) (0) (z8.2.1) (z8.2.2)
set_option maxRecDepth 10000 in
set_option maxHeartbeats 4000000 in
theorem bB_MD_shows_36 (ev : EV) {N : Nat} {v1 : Int32} {v2 : Int32} {v3 : Int32} {v4 : Int64} {v6 : Int32} {v7 : Int32} {v8 : Int32} {hi : HI} {hl : HL} {z : (Int32 × Int64 × Int32 × Int32 × Int32 × HI × HL) ⊕ (Int32 × Int64 × Int32 × HI × HL)} {OUT : Option Value × HI × HL} (h : B_MD_shows_36 N v1 v2 v3 v4 v6 v7 v8 hi hl = some z) (hk : Sum.elim (fun s => EX w0 ev 2 m_MD_shows 36 [(0, .ref 65), (1, .int (v1)), (2, .int (v2)), (3, .int (s.1)), (4, .long (s.2.1)), (6, .int (s.2.2.1)), (7, .int (s.2.2.2.1)), (8, .int (s.2.2.2.2.1))] [] (s.2.2.2.2.2.1) (s.2.2.2.2.2.2) OUT) (fun x => EX w0 ev 2 m_MD_shows 197 [(2, .int (v2)), (3, .int (x.1)), (4, .long (x.2.1)), (7, .int (x.2.2.1))] [] (x.2.2.2.1) (x.2.2.2.2) OUT) z) : EX w0 ev 2 m_MD_shows 36 [(0, .ref 65), (1, .int (v1)), (2, .int (v2)), (3, .int (v3)), (4, .long (v4)), (6, .int (v6)), (7, .int (v7)), (8, .int (v8))] [] (hi) (hl) OUT := by
  unfold B_MD_shows_36 at h
  refine EX.iload (x := v8) rfl (List.mem_of_getElem? (i := 7) rfl) ?_
  refine EX.iconst (v := 2) rfl rfl ?_
  refine EX.aload_n (x := 65) rfl (List.mem_of_getElem? (i := 0) rfl) ?_
  refine EX.go (i := .getfield 119) (len := 3) (pc1 := 43) (st1 := [.int (hi 65 23), .int (2), .int (v8)]) (hi1 := hi) (hl1 := hl) rfl ?_ (fun _ _ _ => rfl)
  refine EX.go (i := .imul) (len := 1) (pc1 := 44) (st1 := [.int (((2 : Int32) * (hi 65 23))), .int (v8)]) (hi1 := hi) (hl1 := hl) rfl ?_ (fun _ _ _ => rfl)
  rcases ite_some h with ⟨c5, h⟩ | ⟨c5, h⟩
  · refine EX.go (i := .if_icmp .ge 153) (len := 3) (pc1 := 197) (st1 := []) (hi1 := hi) (hl1 := hl) rfl ?_ (fun _ _ _ => if_pos c5)
    obtain rfl := Option.some.inj h
    have hk : EX w0 ev 2 m_MD_shows 197 [(2, .int (v2)), (3, .int (v3)), (4, .long (v4)), (7, .int (v7))] [] (hi) (hl) OUT := hk
    exact EX.pick [2, 3, 4, 6] hk rfl
  · refine EX.go (i := .if_icmp .ge 153) (len := 3) (pc1 := 47) (st1 := []) (hi1 := hi) (hl1 := hl) rfl ?_ (fun _ _ _ => if_neg c5)
    refine EX.aload_n (x := 65) rfl (List.mem_of_getElem? (i := 0) rfl) ?_
    refine EX.aload_n (x := 65) rfl (List.mem_of_getElem? (i := 0) rfl) ?_
    refine EX.go (i := .getfield 72) (len := 3) (pc1 := 52) (st1 := [.ref 83, .ref 65]) (hi1 := hi) (hl1 := hl) rfl ?_ (fun _ _ _ => rfl)
    refine EX.iload (x := v8) rfl (List.mem_of_getElem? (i := 7) rfl) ?_
    refine EX.aload_n (x := 65) rfl (List.mem_of_getElem? (i := 0) rfl) ?_
    refine EX.go (i := .getfield 119) (len := 3) (pc1 := 58) (st1 := [.int (hi 65 23), .int (v8), .ref 83, .ref 65]) (hi1 := hi) (hl1 := hl) rfl ?_ (fun _ _ _ => rfl)
    obtain ⟨g6, h⟩ := grd_some h
    refine EX.go (i := .irem) (len := 1) (pc1 := 59) (st1 := [.int (((v8 : Int32) - (v8 : Int32) / (hi 65 23) * (hi 65 23))), .ref 83, .ref 65]) (hi1 := hi) (hl1 := hl) rfl ?_ (fun _ _ _ => if_neg g6)
    obtain ⟨g7, h⟩ := grd_some h
    refine EX.iaload rfl rfl g7 ?_
    refine EX.aload_n (x := 65) rfl (List.mem_of_getElem? (i := 0) rfl) ?_
    refine EX.go (i := .getfield 26) (len := 3) (pc1 := 64) (st1 := [.ref 69, .int (hi 83 (Int32.toNatClampNeg (((v8 : Int32) - (v8 : Int32) / (hi 65 23) * (hi 65 23))))), .ref 65]) (hi1 := hi) (hl1 := hl) rfl ?_ (fun _ _ _ => rfl)
    obtain ⟨z8, hz8, h⟩ := bnd_some h
    refine EX.callV (b := 65) (as := [.int (hi 83 (Int32.toNatClampNeg (((v8 : Int32) - (v8 : Int32) / (hi 65 23) * (hi 65 23))))), .ref 69]) (rest := []) (r := some (.int (z8.1))) (hi1 := z8.2.1) (hl1 := z8.2.2) rfl rfl rfl rfl rfl rfl ((b_MD_glows ev hz8).mono (by decide)) ?_
    show EX w0 ev 2 m_MD_shows 67 [(0, .ref 65), (1, .int (v1)), (2, .int (v2)), (3, .int (v3)), (4, .long (v4)), (6, .int (v6)), (7, .int (v7)), (8, .int (v8))] [.int (z8.1)] (z8.2.1) (z8.2.2) OUT
    refine EX.istore (req1 := [(9, .int (z8.1)), (0, .ref 65), (1, .int (v1)), (2, .int (v2)), (3, .int (v3)), (4, .long (v4)), (6, .int (v6)), (7, .int (v7)), (8, .int (v8))]) rfl rfl rfl ?_
    refine EX.aload_n (x := 65) rfl (List.mem_of_getElem? (i := 1) rfl) ?_
    refine EX.go (i := .getfield 75) (len := 3) (pc1 := 73) (st1 := [.ref 84]) (hi1 := z8.2.1) (hl1 := z8.2.2) rfl ?_ (fun _ _ _ => rfl)
    refine EX.iload (x := v8) rfl (List.mem_of_getElem? (i := 8) rfl) ?_
    refine EX.aload_n (x := 65) rfl (List.mem_of_getElem? (i := 1) rfl) ?_
    refine EX.go (i := .getfield 119) (len := 3) (pc1 := 79) (st1 := [.int (z8.2.1 65 23), .int (v8), .ref 84]) (hi1 := z8.2.1) (hl1 := z8.2.2) rfl ?_ (fun _ _ _ => rfl)
    obtain ⟨g9, h⟩ := grd_some h
    refine EX.go (i := .irem) (len := 1) (pc1 := 80) (st1 := [.int (((v8 : Int32) - (v8 : Int32) / (z8.2.1 65 23) * (z8.2.1 65 23))), .ref 84]) (hi1 := z8.2.1) (hl1 := z8.2.2) rfl ?_ (fun _ _ _ => if_neg g9)
    obtain ⟨g10, h⟩ := grd_some h
    refine EX.iaload rfl rfl g10 ?_
    refine EX.istore (req1 := [(10, .int (z8.2.1 84 (Int32.toNatClampNeg (((v8 : Int32) - (v8 : Int32) / (z8.2.1 65 23) * (z8.2.1 65 23)))))), (9, .int (z8.1)), (0, .ref 65), (1, .int (v1)), (2, .int (v2)), (3, .int (v3)), (4, .long (v4)), (6, .int (v6)), (7, .int (v7)), (8, .int (v8))]) rfl rfl rfl ?_
    refine EX.iload (x := z8.1) rfl (List.mem_of_getElem? (i := 1) rfl) ?_
    refine EX.iload_n (x := v1) rfl (List.mem_of_getElem? (i := 3) rfl) ?_
    refine EX.go (i := .ishr) (len := 1) (pc1 := 87) (st1 := [.int (((z8.1 : Int32) >>> (v1 &&& 31)))]) (hi1 := z8.2.1) (hl1 := z8.2.2) rfl ?_ (fun _ _ _ => rfl)
    refine EX.iconst (v := 1) rfl rfl ?_
    refine EX.go (i := .iand) (len := 1) (pc1 := 89) (st1 := [.int (((((z8.1 : Int32) >>> (v1 &&& 31)) : Int32) &&& (1)))]) (hi1 := z8.2.1) (hl1 := z8.2.2) rfl ?_ (fun _ _ _ => rfl)
    refine EX.iconst (v := 1) rfl rfl ?_
    rcases ite_some h with ⟨c11, h⟩ | ⟨c11, h⟩
    · refine EX.go (i := .if_icmp .ne 7) (len := 3) (pc1 := 93) (st1 := []) (hi1 := z8.2.1) (hl1 := z8.2.2) rfl ?_ (fun _ _ _ => if_pos c11)
      refine EX.iconst (v := 1) rfl rfl ?_
      refine EX.go (i := .goto 4) (len := 3) (pc1 := 98) (st1 := [.int (1)]) (hi1 := z8.2.1) (hl1 := z8.2.2) rfl ?_ (fun _ _ _ => rfl)
      refine EX.pick [2, 3, 4, 5, 6, 7, 8, 9, 1, 0] ?_ rfl
      exact bJ_MD_shows_98 ev h hk
    · refine EX.go (i := .if_icmp .ne 7) (len := 3) (pc1 := 97) (st1 := []) (hi1 := z8.2.1) (hl1 := z8.2.2) rfl ?_ (fun _ _ _ => if_neg c11)
      refine EX.iconst (v := 0) rfl rfl ?_
      refine EX.pick [2, 3, 4, 5, 6, 7, 8, 9, 1, 0] ?_ rfl
      exact bJ_MD_shows_98 ev h hk
def f_MD_shows (N : Nat) (p1 : Int32) (p2 : Int32) (hi : HI) (hl : HL) : Option (Int32 × HI × HL) :=
  (f_MD_isLamp N (p1) (hi) (hl)).bind fun z1 => if (z1.1 : Int32) = 0 then some ((-1), z1.2.1, z1.2.2) else (f_MD_in N ((Int32.toInt64 (p2))) (0) (3) (z1.2.1) (z1.2.2)).bind fun z3 => if (z3.1 : Int32) = 0 then some ((-1), z3.2.1, z3.2.2) else (lpN (fun s => B_MD_shows_36 N (p1) (p2) s.1 s.2.1 s.2.2.1 s.2.2.2.1 s.2.2.2.2.1 s.2.2.2.2.2.1 s.2.2.2.2.2.2) N (0, 0, 0, 0, 0, z3.2.1, z3.2.2)).bind fun x20 => if (p2 : Int32) = 0 then some (x20.1, x20.2.2.2.1, x20.2.2.2.2) else if (p2 : Int32) = (1 : Int32) then if (x20.1 : Int32) = 0 then some ((-4), x20.2.2.2.1, x20.2.2.2.2) else some (x20.2.2.1, x20.2.2.2.1, x20.2.2.2.2) else (f_MD_lowest N (x20.2.1) ((p2 - (2))) (x20.2.2.2.1) (x20.2.2.2.2)).bind fun z24 => some (z24.1, z24.2.1, z24.2.2)
set_option maxRecDepth 10000 in
set_option maxHeartbeats 4000000 in
theorem b_MD_shows (ev : EV) {N : Nat} {p1 : Int32} {p2 : Int32} {hi : HI} {hl : HL} {o : Int32 × HI × HL} (h : f_MD_shows N p1 p2 hi hl = some o) : EM w0 ev 3 m_MD_shows [.ref 65, .int (p1), .int (p2)] hi hl (oI o) := by
  unfold f_MD_shows at h
  refine EM.of rfl ?_
  show EX w0 ev 2 m_MD_shows 0 [(0, .ref 65), (1, .int (p1)), (2, .int (p2))] [] (hi) (hl) (oI o)
  refine EX.aload_n (x := 65) rfl (List.mem_of_getElem? (i := 0) rfl) ?_
  refine EX.iload_n (x := p1) rfl (List.mem_of_getElem? (i := 1) rfl) ?_
  obtain ⟨z1, hz1, h⟩ := bnd_some h
  refine EX.callV (b := 65) (as := [.int (p1)]) (rest := []) (r := some (.int (z1.1))) (hi1 := z1.2.1) (hl1 := z1.2.2) rfl rfl rfl rfl rfl rfl ((b_MD_isLamp ev hz1).mono (by decide)) ?_
  show EX w0 ev 2 m_MD_shows 5 [(0, .ref 65), (1, .int (p1)), (2, .int (p2))] [.int (z1.1)] (z1.2.1) (z1.2.2) (oI o)
  rcases ite_some h with ⟨c2, h⟩ | ⟨c2, h⟩
  · refine EX.go (i := .ifCond .eq 15) (len := 3) (pc1 := 20) (st1 := []) (hi1 := z1.2.1) (hl1 := z1.2.2) rfl ?_ (fun _ _ _ => if_pos c2)
    refine EX.iconst (v := (-1)) rfl rfl ?_
    obtain rfl := Option.some.inj h
    exact EX.iret rfl rfl
  · refine EX.go (i := .ifCond .eq 15) (len := 3) (pc1 := 8) (st1 := []) (hi1 := z1.2.1) (hl1 := z1.2.2) rfl ?_ (fun _ _ _ => if_neg c2)
    refine EX.iload_n (x := p2) rfl (List.mem_of_getElem? (i := 2) rfl) ?_
    refine EX.go (i := .i2l) (len := 1) (pc1 := 10) (st1 := [.long ((Int32.toInt64 (p2)))]) (hi1 := z1.2.1) (hl1 := z1.2.2) rfl ?_ (fun _ _ _ => rfl)
    refine EX.lconst (v := 0) rfl rfl ?_
    refine EX.go (i := .ldc2_w 171) (len := 3) (pc1 := 14) (st1 := [.long (3), .long (0), .long ((Int32.toInt64 (p2)))]) (hi1 := z1.2.1) (hl1 := z1.2.2) rfl ?_ (fun _ _ _ => rfl)
    obtain ⟨z3, hz3, h⟩ := bnd_some h
    refine EX.callS (as := [.long ((Int32.toInt64 (p2))), .long (0), .long (3)]) (rest := []) (r := some (.int (z3.1))) (hi1 := z3.2.1) (hl1 := z3.2.2) rfl rfl rfl rfl rfl rfl ((b_MD_in ev hz3).mono (by decide)) ?_
    show EX w0 ev 2 m_MD_shows 17 [(0, .ref 65), (1, .int (p1)), (2, .int (p2))] [.int (z3.1)] (z3.2.1) (z3.2.2) (oI o)
    rcases ite_some h with ⟨c4, h⟩ | ⟨c4, h⟩
    · refine EX.go (i := .ifCond .ne 5) (len := 3) (pc1 := 20) (st1 := []) (hi1 := z3.2.1) (hl1 := z3.2.2) rfl ?_ (fun _ _ _ => if_pos c4)
      refine EX.iconst (v := (-1)) rfl rfl ?_
      obtain rfl := Option.some.inj h
      exact EX.iret rfl rfl
    · refine EX.go (i := .ifCond .ne 5) (len := 3) (pc1 := 22) (st1 := []) (hi1 := z3.2.1) (hl1 := z3.2.2) rfl ?_ (fun _ _ _ => if_neg c4)
      refine EX.iconst (v := 0) rfl rfl ?_
      refine EX.istore_n (req1 := [(3, .int (0)), (0, .ref 65), (1, .int (p1)), (2, .int (p2))]) rfl rfl rfl ?_
      refine EX.lconst (v := 0) rfl rfl ?_
      refine EX.lstore (req1 := [(4, .long (0)), (3, .int (0)), (0, .ref 65), (1, .int (p1)), (2, .int (p2))]) rfl rfl rfl ?_
      refine EX.iconst (v := 0) rfl rfl ?_
      refine EX.istore (req1 := [(6, .int (0)), (4, .long (0)), (3, .int (0)), (0, .ref 65), (1, .int (p1)), (2, .int (p2))]) rfl rfl rfl ?_
      refine EX.iconst (v := 0) rfl rfl ?_
      refine EX.istore (req1 := [(7, .int (0)), (6, .int (0)), (4, .long (0)), (3, .int (0)), (0, .ref 65), (1, .int (p1)), (2, .int (p2))]) rfl rfl rfl ?_
      refine EX.iconst (v := 0) rfl rfl ?_
      refine EX.istore (req1 := [(8, .int (0)), (7, .int (0)), (6, .int (0)), (4, .long (0)), (3, .int (0)), (0, .ref 65), (1, .int (p1)), (2, .int (p2))]) rfl rfl rfl ?_
      obtain ⟨x20, hx20, h⟩ := bnd_some h
      refine EX.pick [5, 6, 7, 4, 3, 2, 1, 0] ?_ rfl
      refine lp_sound (f := fun s => B_MD_shows_36 N (p1) (p2) s.1 s.2.1 s.2.2.1 s.2.2.2.1 s.2.2.2.2.1 s.2.2.2.2.2.1 s.2.2.2.2.2.2) (PS := fun s => EX w0 ev 2 m_MD_shows 36 [(0, .ref 65), (1, .int (p1)), (2, .int (p2)), (3, .int (s.1)), (4, .long (s.2.1)), (6, .int (s.2.2.1)), (7, .int (s.2.2.2.1)), (8, .int (s.2.2.2.2.1))] [] (s.2.2.2.2.2.1) (s.2.2.2.2.2.2) (oI o)) (PX := fun x => EX w0 ev 2 m_MD_shows 197 [(2, .int (p2)), (3, .int (x.1)), (4, .long (x.2.1)), (7, .int (x.2.2.1))] [] (x.2.2.2.1) (x.2.2.2.2) (oI o)) ?_ N _ x20 hx20 ?_
      · exact fun s z hz hk => bB_MD_shows_36 ev hz hk
      show EX w0 ev 2 m_MD_shows 197 [(2, .int (p2)), (3, .int (x20.1)), (4, .long (x20.2.1)), (7, .int (x20.2.2.1))] [] (x20.2.2.2.1) (x20.2.2.2.2) (oI o)
      refine EX.iload_n (x := p2) rfl (List.mem_of_getElem? (i := 0) rfl) ?_
      rcases ite_some h with ⟨c21, h⟩ | ⟨c21, h⟩
      · refine EX.go (i := .ifCond .ne 7) (len := 3) (pc1 := 201) (st1 := []) (hi1 := x20.2.2.2.1) (hl1 := x20.2.2.2.2) rfl ?_ (fun _ _ _ => if_pos c21)
        refine EX.iload_n (x := x20.1) rfl (List.mem_of_getElem? (i := 1) rfl) ?_
        refine EX.go (i := .goto 30) (len := 3) (pc1 := 232) (st1 := [.int (x20.1)]) (hi1 := x20.2.2.2.1) (hl1 := x20.2.2.2.2) rfl ?_ (fun _ _ _ => rfl)
        obtain rfl := Option.some.inj h
        exact EX.iret rfl rfl
      · refine EX.go (i := .ifCond .ne 7) (len := 3) (pc1 := 205) (st1 := []) (hi1 := x20.2.2.2.1) (hl1 := x20.2.2.2.2) rfl ?_ (fun _ _ _ => if_neg c21)
        refine EX.iload_n (x := p2) rfl (List.mem_of_getElem? (i := 0) rfl) ?_
        refine EX.iconst (v := 1) rfl rfl ?_
        rcases ite_some h with ⟨c22, h⟩ | ⟨c22, h⟩
        · refine EX.go (i := .if_icmp .ne 17) (len := 3) (pc1 := 210) (st1 := []) (hi1 := x20.2.2.2.1) (hl1 := x20.2.2.2.2) rfl ?_ (fun _ _ _ => if_pos c22)
          refine EX.iload_n (x := x20.1) rfl (List.mem_of_getElem? (i := 1) rfl) ?_
          rcases ite_some h with ⟨c23, h⟩ | ⟨c23, h⟩
          · refine EX.go (i := .ifCond .ne 8) (len := 3) (pc1 := 214) (st1 := []) (hi1 := x20.2.2.2.1) (hl1 := x20.2.2.2.2) rfl ?_ (fun _ _ _ => if_pos c23)
            refine EX.bipush (v := (-4)) rfl rfl ?_
            refine EX.go (i := .goto 16) (len := 3) (pc1 := 232) (st1 := [.int ((-4))]) (hi1 := x20.2.2.2.1) (hl1 := x20.2.2.2.2) rfl ?_ (fun _ _ _ => rfl)
            obtain rfl := Option.some.inj h
            exact EX.iret rfl rfl
          · refine EX.go (i := .ifCond .ne 8) (len := 3) (pc1 := 219) (st1 := []) (hi1 := x20.2.2.2.1) (hl1 := x20.2.2.2.2) rfl ?_ (fun _ _ _ => if_neg c23)
            refine EX.iload (x := x20.2.2.1) rfl (List.mem_of_getElem? (i := 3) rfl) ?_
            refine EX.go (i := .goto 11) (len := 3) (pc1 := 232) (st1 := [.int (x20.2.2.1)]) (hi1 := x20.2.2.2.1) (hl1 := x20.2.2.2.2) rfl ?_ (fun _ _ _ => rfl)
            obtain rfl := Option.some.inj h
            exact EX.iret rfl rfl
        · refine EX.go (i := .if_icmp .ne 17) (len := 3) (pc1 := 224) (st1 := []) (hi1 := x20.2.2.2.1) (hl1 := x20.2.2.2.2) rfl ?_ (fun _ _ _ => if_neg c22)
          refine EX.lload (x := x20.2.1) rfl (List.mem_of_getElem? (i := 2) rfl) ?_
          refine EX.iload_n (x := p2) rfl (List.mem_of_getElem? (i := 0) rfl) ?_
          refine EX.iconst (v := 2) rfl rfl ?_
          refine EX.go (i := .isub) (len := 1) (pc1 := 229) (st1 := [.int ((p2 - (2))), .long (x20.2.1)]) (hi1 := x20.2.2.2.1) (hl1 := x20.2.2.2.2) rfl ?_ (fun _ _ _ => rfl)
          obtain ⟨z24, hz24, h⟩ := bnd_some h
          refine EX.callS (as := [.long (x20.2.1), .int ((p2 - (2)))]) (rest := []) (r := some (.int (z24.1))) (hi1 := z24.2.1) (hl1 := z24.2.2) rfl rfl rfl rfl rfl rfl ((b_MD_lowest ev hz24).mono (by decide)) ?_
          show EX w0 ev 2 m_MD_shows 232 [(2, .int (p2)), (3, .int (x20.1)), (4, .long (x20.2.1)), (7, .int (x20.2.2.1))] [.int (z24.1)] (z24.2.1) (z24.2.2) (oI o)
          obtain rfl := Option.some.inj h
          exact EX.iret rfl rfl
def B_MD_at_37 (N : Nat) (v2 : Int32) (v3 : Int32) (hi : HI) (hl : HL) : Option ((Int32 × Int32 × HI × HL) ⊕ (Int32 × HI × HL)) :=
  if (v3 : Int32) < 0 ∨ 12 ≤ Int32.toNatClampNeg (v3) then none else if (v2 : Int32) < (hi 84 (Int32.toNatClampNeg (v3)) : Int32) then some (.inr (v3, hi, hl)) else if (v3 : Int32) < 0 ∨ 12 ≤ Int32.toNatClampNeg (v3) then none else some (.inl ((v2 - (hi 84 (Int32.toNatClampNeg (v3)))), v3 + 1, hi, hl))
set_option maxRecDepth 10000 in
set_option maxHeartbeats 4000000 in
theorem bB_MD_at_37 (ev : EV) {N : Nat} {v2 : Int32} {v3 : Int32} {hi : HI} {hl : HL} {z : (Int32 × Int32 × HI × HL) ⊕ (Int32 × HI × HL)} {OUT : Option Value × HI × HL} (h : B_MD_at_37 N v2 v3 hi hl = some z) (hk : Sum.elim (fun s => EX w0 ev 2 m_MD_at 37 [(0, .ref 65), (2, .int (s.1)), (3, .int (s.2.1))] [] (s.2.2.1) (s.2.2.2) OUT) (fun x => EX w0 ev 2 m_MD_at 62 [(0, .ref 65), (3, .int (x.1))] [] (x.2.1) (x.2.2) OUT) z) : EX w0 ev 2 m_MD_at 37 [(0, .ref 65), (2, .int (v2)), (3, .int (v3))] [] (hi) (hl) OUT := by
  unfold B_MD_at_37 at h
  refine EX.iload_n (x := v2) rfl (List.mem_of_getElem? (i := 1) rfl) ?_
  refine EX.aload_n (x := 65) rfl (List.mem_of_getElem? (i := 0) rfl) ?_
  refine EX.go (i := .getfield 75) (len := 3) (pc1 := 42) (st1 := [.ref 84, .int (v2)]) (hi1 := hi) (hl1 := hl) rfl ?_ (fun _ _ _ => rfl)
  refine EX.iload_n (x := v3) rfl (List.mem_of_getElem? (i := 2) rfl) ?_
  obtain ⟨g6, h⟩ := grd_some h
  refine EX.iaload rfl rfl g6 ?_
  rcases ite_some h with ⟨c7, h⟩ | ⟨c7, h⟩
  · refine EX.go (i := .if_icmp .lt 18) (len := 3) (pc1 := 62) (st1 := []) (hi1 := hi) (hl1 := hl) rfl ?_ (fun _ _ _ => if_pos c7)
    obtain rfl := Option.some.inj h
    have hk : EX w0 ev 2 m_MD_at 62 [(0, .ref 65), (3, .int (v3))] [] (hi) (hl) OUT := hk
    exact EX.pick [0, 2] hk rfl
  · refine EX.go (i := .if_icmp .lt 18) (len := 3) (pc1 := 47) (st1 := []) (hi1 := hi) (hl1 := hl) rfl ?_ (fun _ _ _ => if_neg c7)
    refine EX.iload_n (x := v2) rfl (List.mem_of_getElem? (i := 1) rfl) ?_
    refine EX.aload_n (x := 65) rfl (List.mem_of_getElem? (i := 0) rfl) ?_
    refine EX.go (i := .getfield 75) (len := 3) (pc1 := 52) (st1 := [.ref 84, .int (v2)]) (hi1 := hi) (hl1 := hl) rfl ?_ (fun _ _ _ => rfl)
    refine EX.iload_n (x := v3) rfl (List.mem_of_getElem? (i := 2) rfl) ?_
    obtain ⟨g8, h⟩ := grd_some h
    refine EX.iaload rfl rfl g8 ?_
    refine EX.go (i := .isub) (len := 1) (pc1 := 55) (st1 := [.int ((v2 - (hi 84 (Int32.toNatClampNeg (v3)))))]) (hi1 := hi) (hl1 := hl) rfl ?_ (fun _ _ _ => rfl)
    refine EX.istore_n (req1 := [(2, .int ((v2 - (hi 84 (Int32.toNatClampNeg (v3)))))), (0, .ref 65), (3, .int (v3))]) rfl rfl rfl ?_
    refine EX.iinc (x := v3) (v := v3 + 1) (req1 := [(3, .int (v3 + 1)), (2, .int ((v2 - (hi 84 (Int32.toNatClampNeg (v3)))))), (0, .ref 65)]) rfl rfl (List.mem_of_getElem? (i := 2) rfl) rfl rfl ?_
    refine EX.go (i := .goto (-22)) (len := 3) (pc1 := 37) (st1 := []) (hi1 := hi) (hl1 := hl) rfl ?_ (fun _ _ _ => rfl)
    obtain rfl := Option.some.inj h
    have hk : EX w0 ev 2 m_MD_at 37 [(0, .ref 65), (2, .int ((v2 - (hi 84 (Int32.toNatClampNeg (v3)))))), (3, .int (v3 + 1))] [] (hi) (hl) OUT := hk
    exact EX.pick [2, 1, 0] hk rfl
def f_MD_at (N : Nat) (p1 : Int32) (hi : HI) (hl : HL) : Option (Int32 × HI × HL) :=
  (f_MD_in N ((Int32.toInt64 (p1))) (0) (9999) (hi) (hl)).bind fun z1 => if (z1.1 : Int32) = 0 then some ((-1), z1.2.1, z1.2.2) else if (z1.2.1 65 23 : Int32) = 0 then some ((-2), z1.2.1, z1.2.2) else (f_MD_beginOf N (z1.2.1 65 23) (z1.2.1) (z1.2.2)).bind fun z4 => if (z4.1 : Int32) = 0 then none else (lpN (fun s => B_MD_at_37 N s.1 s.2.1 s.2.2.1 s.2.2.2) N (((p1 : Int32) - (p1 : Int32) / (z4.1) * (z4.1)), 0, z4.2.1, z4.2.2)).bind fun x9 => if (x9.1 : Int32) < 0 ∨ 12 ≤ Int32.toNatClampNeg (x9.1) then none else (f_MD_glows N (x9.2.1 83 (Int32.toNatClampNeg (x9.1))) (69) (x9.2.1) (x9.2.2)).bind fun z11 => some (z11.1, z11.2.1, z11.2.2)
set_option maxRecDepth 10000 in
set_option maxHeartbeats 4000000 in
theorem b_MD_at (ev : EV) {N : Nat} {p1 : Int32} {hi : HI} {hl : HL} {o : Int32 × HI × HL} (h : f_MD_at N p1 hi hl = some o) : EM w0 ev 3 m_MD_at [.ref 65, .int (p1)] hi hl (oI o) := by
  unfold f_MD_at at h
  refine EM.of rfl ?_
  show EX w0 ev 2 m_MD_at 0 [(0, .ref 65), (1, .int (p1))] [] (hi) (hl) (oI o)
  refine EX.iload_n (x := p1) rfl (List.mem_of_getElem? (i := 1) rfl) ?_
  refine EX.go (i := .i2l) (len := 1) (pc1 := 2) (st1 := [.long ((Int32.toInt64 (p1)))]) (hi1 := hi) (hl1 := hl) rfl ?_ (fun _ _ _ => rfl)
  refine EX.lconst (v := 0) rfl rfl ?_
  refine EX.go (i := .ldc2_w 293) (len := 3) (pc1 := 6) (st1 := [.long (9999), .long (0), .long ((Int32.toInt64 (p1)))]) (hi1 := hi) (hl1 := hl) rfl ?_ (fun _ _ _ => rfl)
  obtain ⟨z1, hz1, h⟩ := bnd_some h
  refine EX.callS (as := [.long ((Int32.toInt64 (p1))), .long (0), .long (9999)]) (rest := []) (r := some (.int (z1.1))) (hi1 := z1.2.1) (hl1 := z1.2.2) rfl rfl rfl rfl rfl rfl ((b_MD_in ev hz1).mono (by decide)) ?_
  show EX w0 ev 2 m_MD_at 9 [(0, .ref 65), (1, .int (p1))] [.int (z1.1)] (z1.2.1) (z1.2.2) (oI o)
  rcases ite_some h with ⟨c2, h⟩ | ⟨c2, h⟩
  · refine EX.go (i := .ifCond .ne 5) (len := 3) (pc1 := 12) (st1 := []) (hi1 := z1.2.1) (hl1 := z1.2.2) rfl ?_ (fun _ _ _ => if_pos c2)
    refine EX.iconst (v := (-1)) rfl rfl ?_
    obtain rfl := Option.some.inj h
    exact EX.iret rfl rfl
  · refine EX.go (i := .ifCond .ne 5) (len := 3) (pc1 := 14) (st1 := []) (hi1 := z1.2.1) (hl1 := z1.2.2) rfl ?_ (fun _ _ _ => if_neg c2)
    refine EX.aload_n (x := 65) rfl (List.mem_of_getElem? (i := 0) rfl) ?_
    refine EX.go (i := .getfield 119) (len := 3) (pc1 := 18) (st1 := [.int (z1.2.1 65 23)]) (hi1 := z1.2.1) (hl1 := z1.2.2) rfl ?_ (fun _ _ _ => rfl)
    rcases ite_some h with ⟨c3, h⟩ | ⟨c3, h⟩
    · refine EX.go (i := .ifCond .ne 6) (len := 3) (pc1 := 21) (st1 := []) (hi1 := z1.2.1) (hl1 := z1.2.2) rfl ?_ (fun _ _ _ => if_pos c3)
      refine EX.bipush (v := (-2)) rfl rfl ?_
      obtain rfl := Option.some.inj h
      exact EX.iret rfl rfl
    · refine EX.go (i := .ifCond .ne 6) (len := 3) (pc1 := 24) (st1 := []) (hi1 := z1.2.1) (hl1 := z1.2.2) rfl ?_ (fun _ _ _ => if_neg c3)
      refine EX.iload_n (x := p1) rfl (List.mem_of_getElem? (i := 1) rfl) ?_
      refine EX.aload_n (x := 65) rfl (List.mem_of_getElem? (i := 0) rfl) ?_
      refine EX.aload_n (x := 65) rfl (List.mem_of_getElem? (i := 0) rfl) ?_
      refine EX.go (i := .getfield 119) (len := 3) (pc1 := 30) (st1 := [.int (z1.2.1 65 23), .ref 65, .int (p1)]) (hi1 := z1.2.1) (hl1 := z1.2.2) rfl ?_ (fun _ _ _ => rfl)
      obtain ⟨z4, hz4, h⟩ := bnd_some h
      refine EX.callV (b := 65) (as := [.int (z1.2.1 65 23)]) (rest := [.int (p1)]) (r := some (.int (z4.1))) (hi1 := z4.2.1) (hl1 := z4.2.2) rfl rfl rfl rfl rfl rfl ((b_MD_beginOf ev hz4).mono (by decide)) ?_
      show EX w0 ev 2 m_MD_at 33 [(0, .ref 65), (1, .int (p1))] [.int (z4.1), .int (p1)] (z4.2.1) (z4.2.2) (oI o)
      obtain ⟨g5, h⟩ := grd_some h
      refine EX.go (i := .irem) (len := 1) (pc1 := 34) (st1 := [.int (((p1 : Int32) - (p1 : Int32) / (z4.1) * (z4.1)))]) (hi1 := z4.2.1) (hl1 := z4.2.2) rfl ?_ (fun _ _ _ => if_neg g5)
      refine EX.istore_n (req1 := [(2, .int (((p1 : Int32) - (p1 : Int32) / (z4.1) * (z4.1)))), (0, .ref 65), (1, .int (p1))]) rfl rfl rfl ?_
      refine EX.iconst (v := 0) rfl rfl ?_
      refine EX.istore_n (req1 := [(3, .int (0)), (2, .int (((p1 : Int32) - (p1 : Int32) / (z4.1) * (z4.1)))), (0, .ref 65), (1, .int (p1))]) rfl rfl rfl ?_
      obtain ⟨x9, hx9, h⟩ := bnd_some h
      refine EX.pick [2, 1, 0] ?_ rfl
      refine lp_sound (f := fun s => B_MD_at_37 N s.1 s.2.1 s.2.2.1 s.2.2.2) (PS := fun s => EX w0 ev 2 m_MD_at 37 [(0, .ref 65), (2, .int (s.1)), (3, .int (s.2.1))] [] (s.2.2.1) (s.2.2.2) (oI o)) (PX := fun x => EX w0 ev 2 m_MD_at 62 [(0, .ref 65), (3, .int (x.1))] [] (x.2.1) (x.2.2) (oI o)) ?_ N _ x9 hx9 ?_
      · exact fun s z hz hk => bB_MD_at_37 ev hz hk
      show EX w0 ev 2 m_MD_at 62 [(0, .ref 65), (3, .int (x9.1))] [] (x9.2.1) (x9.2.2) (oI o)
      refine EX.aload_n (x := 65) rfl (List.mem_of_getElem? (i := 0) rfl) ?_
      refine EX.aload_n (x := 65) rfl (List.mem_of_getElem? (i := 0) rfl) ?_
      refine EX.go (i := .getfield 72) (len := 3) (pc1 := 67) (st1 := [.ref 83, .ref 65]) (hi1 := x9.2.1) (hl1 := x9.2.2) rfl ?_ (fun _ _ _ => rfl)
      refine EX.iload_n (x := x9.1) rfl (List.mem_of_getElem? (i := 1) rfl) ?_
      obtain ⟨g10, h⟩ := grd_some h
      refine EX.iaload rfl rfl g10 ?_
      refine EX.aload_n (x := 65) rfl (List.mem_of_getElem? (i := 0) rfl) ?_
      refine EX.go (i := .getfield 26) (len := 3) (pc1 := 73) (st1 := [.ref 69, .int (x9.2.1 83 (Int32.toNatClampNeg (x9.1))), .ref 65]) (hi1 := x9.2.1) (hl1 := x9.2.2) rfl ?_ (fun _ _ _ => rfl)
      obtain ⟨z11, hz11, h⟩ := bnd_some h
      refine EX.callV (b := 65) (as := [.int (x9.2.1 83 (Int32.toNatClampNeg (x9.1))), .ref 69]) (rest := []) (r := some (.int (z11.1))) (hi1 := z11.2.1) (hl1 := z11.2.2) rfl rfl rfl rfl rfl rfl ((b_MD_glows ev hz11).mono (by decide)) ?_
      show EX w0 ev 2 m_MD_at 76 [(0, .ref 65), (3, .int (x9.1))] [.int (z11.1)] (z11.2.1) (z11.2.2) (oI o)
      obtain rfl := Option.some.inj h
      exact EX.iret rfl rfl
def J_MD_seen_25 (N : Nat) (v1 : Int32) (v2 : Int32) (hi : HI) (hl : HL) : Option (Int32 × HI × HL) :=
  if (v1 : Int32) < 0 ∨ 12 ≤ Int32.toNatClampNeg (v1) then none else if (v1 : Int32) < 0 ∨ 12 ≤ Int32.toNatClampNeg (v1) then none else some (hi 85 (Int32.toNatClampNeg (v1)), wr (hi) 85 (Int32.toNatClampNeg (v1)) (v2), hl)
set_option maxRecDepth 10000 in
set_option maxHeartbeats 4000000 in
theorem bJ_MD_seen_25 (ev : EV) {N : Nat} {v1 : Int32} {v2 : Int32} {hi : HI} {hl : HL} {o : Int32 × HI × HL} (h : J_MD_seen_25 N v1 v2 hi hl = some o) : EX w0 ev 2 m_MD_seen 25 [(0, .ref 65), (1, .int (v1)), (2, .int (v2))] [] (hi) (hl) (oI o) := by
  unfold J_MD_seen_25 at h
  refine EX.aload_n (x := 65) rfl (List.mem_of_getElem? (i := 0) rfl) ?_
  refine EX.go (i := .getfield 78) (len := 3) (pc1 := 29) (st1 := [.ref 85]) (hi1 := hi) (hl1 := hl) rfl ?_ (fun _ _ _ => rfl)
  refine EX.iload_n (x := v1) rfl (List.mem_of_getElem? (i := 1) rfl) ?_
  obtain ⟨g4, h⟩ := grd_some h
  refine EX.iaload rfl rfl g4 ?_
  refine EX.istore_n (req1 := [(3, .int (hi 85 (Int32.toNatClampNeg (v1)))), (0, .ref 65), (1, .int (v1)), (2, .int (v2))]) rfl rfl rfl ?_
  refine EX.aload_n (x := 65) rfl (List.mem_of_getElem? (i := 1) rfl) ?_
  refine EX.go (i := .getfield 78) (len := 3) (pc1 := 36) (st1 := [.ref 85]) (hi1 := hi) (hl1 := hl) rfl ?_ (fun _ _ _ => rfl)
  refine EX.iload_n (x := v1) rfl (List.mem_of_getElem? (i := 2) rfl) ?_
  refine EX.iload_n (x := v2) rfl (List.mem_of_getElem? (i := 3) rfl) ?_
  obtain ⟨g5, h⟩ := grd_some h
  refine EX.iastore rfl rfl g5 ?_
  refine EX.iload_n (x := hi 85 (Int32.toNatClampNeg (v1))) rfl (List.mem_of_getElem? (i := 0) rfl) ?_
  obtain rfl := Option.some.inj h
  exact EX.iret rfl rfl
def f_MD_seen (N : Nat) (p1 : Int32) (p2 : Int32) (hi : HI) (hl : HL) : Option (Int32 × HI × HL) :=
  (f_MD_isLine N (p1) (hi) (hl)).bind fun z1 => if (z1.1 : Int32) = 0 then some ((-10), z1.2.1, z1.2.2) else if (p2 : Int32) = ((-4) : Int32) then J_MD_seen_25 N (p1) (p2) (z1.2.1) (z1.2.2) else (f_MD_isPicture N (p2) (z1.2.1) (z1.2.2)).bind fun z6 => if (z6.1 : Int32) = 0 then some ((-10), z6.2.1, z6.2.2) else J_MD_seen_25 N (p1) (p2) (z6.2.1) (z6.2.2)
set_option maxRecDepth 10000 in
set_option maxHeartbeats 4000000 in
theorem b_MD_seen (ev : EV) {N : Nat} {p1 : Int32} {p2 : Int32} {hi : HI} {hl : HL} {o : Int32 × HI × HL} (h : f_MD_seen N p1 p2 hi hl = some o) : EM w0 ev 3 m_MD_seen [.ref 65, .int (p1), .int (p2)] hi hl (oI o) := by
  unfold f_MD_seen at h
  refine EM.of rfl ?_
  show EX w0 ev 2 m_MD_seen 0 [(0, .ref 65), (1, .int (p1)), (2, .int (p2))] [] (hi) (hl) (oI o)
  refine EX.aload_n (x := 65) rfl (List.mem_of_getElem? (i := 0) rfl) ?_
  refine EX.iload_n (x := p1) rfl (List.mem_of_getElem? (i := 1) rfl) ?_
  obtain ⟨z1, hz1, h⟩ := bnd_some h
  refine EX.callV (b := 65) (as := [.int (p1)]) (rest := []) (r := some (.int (z1.1))) (hi1 := z1.2.1) (hl1 := z1.2.2) rfl rfl rfl rfl rfl rfl ((b_MD_isLine ev hz1).mono (by decide)) ?_
  show EX w0 ev 2 m_MD_seen 5 [(0, .ref 65), (1, .int (p1)), (2, .int (p2))] [.int (z1.1)] (z1.2.1) (z1.2.2) (oI o)
  rcases ite_some h with ⟨c2, h⟩ | ⟨c2, h⟩
  · refine EX.go (i := .ifCond .eq 17) (len := 3) (pc1 := 22) (st1 := []) (hi1 := z1.2.1) (hl1 := z1.2.2) rfl ?_ (fun _ _ _ => if_pos c2)
    refine EX.bipush (v := (-10)) rfl rfl ?_
    obtain rfl := Option.some.inj h
    exact EX.iret rfl rfl
  · refine EX.go (i := .ifCond .eq 17) (len := 3) (pc1 := 8) (st1 := []) (hi1 := z1.2.1) (hl1 := z1.2.2) rfl ?_ (fun _ _ _ => if_neg c2)
    refine EX.iload_n (x := p2) rfl (List.mem_of_getElem? (i := 2) rfl) ?_
    refine EX.bipush (v := (-4)) rfl rfl ?_
    rcases ite_some h with ⟨c3, h⟩ | ⟨c3, h⟩
    · refine EX.go (i := .if_icmp .eq 14) (len := 3) (pc1 := 25) (st1 := []) (hi1 := z1.2.1) (hl1 := z1.2.2) rfl ?_ (fun _ _ _ => if_pos c3)
      refine EX.pick [0, 1, 2] ?_ rfl
      exact bJ_MD_seen_25 ev h
    · refine EX.go (i := .if_icmp .eq 14) (len := 3) (pc1 := 14) (st1 := []) (hi1 := z1.2.1) (hl1 := z1.2.2) rfl ?_ (fun _ _ _ => if_neg c3)
      refine EX.aload_n (x := 65) rfl (List.mem_of_getElem? (i := 0) rfl) ?_
      refine EX.iload_n (x := p2) rfl (List.mem_of_getElem? (i := 2) rfl) ?_
      obtain ⟨z6, hz6, h⟩ := bnd_some h
      refine EX.callV (b := 65) (as := [.int (p2)]) (rest := []) (r := some (.int (z6.1))) (hi1 := z6.2.1) (hl1 := z6.2.2) rfl rfl rfl rfl rfl rfl ((b_MD_isPicture ev hz6).mono (by decide)) ?_
      show EX w0 ev 2 m_MD_seen 19 [(0, .ref 65), (1, .int (p1)), (2, .int (p2))] [.int (z6.1)] (z6.2.1) (z6.2.2) (oI o)
      rcases ite_some h with ⟨c7, h⟩ | ⟨c7, h⟩
      · refine EX.go (i := .ifCond .ne 6) (len := 3) (pc1 := 22) (st1 := []) (hi1 := z6.2.1) (hl1 := z6.2.2) rfl ?_ (fun _ _ _ => if_pos c7)
        refine EX.bipush (v := (-10)) rfl rfl ?_
        obtain rfl := Option.some.inj h
        exact EX.iret rfl rfl
      · refine EX.go (i := .ifCond .ne 6) (len := 3) (pc1 := 25) (st1 := []) (hi1 := z6.2.1) (hl1 := z6.2.2) rfl ?_ (fun _ _ _ => if_neg c7)
        refine EX.pick [0, 1, 2] ?_ rfl
        exact bJ_MD_seen_25 ev h
def B_MD_guesses_2 (N : Nat) (v1 : Int32) (v2 : Int32) (v3 : Int32) (hi : HI) (hl : HL) : Option ((Int32 × HI × HL) ⊕ (HI × HL)) :=
  if (16 : Int32) ≤ (v3 : Int32) then some (.inr (hi, hl)) else if (v3 : Int32) < 0 ∨ 16 ≤ Int32.toNatClampNeg (v3) then none else some (.inl (v3 + 1, wr (hi) 89 (Int32.toNatClampNeg (v3)) (0), hl))
set_option maxRecDepth 10000 in
set_option maxHeartbeats 4000000 in
theorem bB_MD_guesses_2 (ev : EV) {N : Nat} {v1 : Int32} {v2 : Int32} {v3 : Int32} {hi : HI} {hl : HL} {z : (Int32 × HI × HL) ⊕ (HI × HL)} {OUT : Option Value × HI × HL} (h : B_MD_guesses_2 N v1 v2 v3 hi hl = some z) (hk : Sum.elim (fun s => EX w0 ev 0 m_MD_guesses 2 [(0, .ref 65), (1, .int (v1)), (2, .int (v2)), (3, .int (s.1))] [] (s.2.1) (s.2.2) OUT) (fun x => EX w0 ev 0 m_MD_guesses 21 [(0, .ref 65), (1, .int (v1)), (2, .int (v2))] [] (x.1) (x.2) OUT) z) : EX w0 ev 0 m_MD_guesses 2 [(0, .ref 65), (1, .int (v1)), (2, .int (v2)), (3, .int (v3))] [] (hi) (hl) OUT := by
  unfold B_MD_guesses_2 at h
  refine EX.iload_n (x := v3) rfl (List.mem_of_getElem? (i := 3) rfl) ?_
  refine EX.bipush (v := 16) rfl rfl ?_
  rcases ite_some h with ⟨c1, h⟩ | ⟨c1, h⟩
  · refine EX.go (i := .if_icmp .ge 16) (len := 3) (pc1 := 21) (st1 := []) (hi1 := hi) (hl1 := hl) rfl ?_ (fun _ _ _ => if_pos c1)
    obtain rfl := Option.some.inj h
    have hk : EX w0 ev 0 m_MD_guesses 21 [(0, .ref 65), (1, .int (v1)), (2, .int (v2))] [] (hi) (hl) OUT := hk
    exact EX.pick [0, 1, 2] hk rfl
  · refine EX.go (i := .if_icmp .ge 16) (len := 3) (pc1 := 8) (st1 := []) (hi1 := hi) (hl1 := hl) rfl ?_ (fun _ _ _ => if_neg c1)
    refine EX.aload_n (x := 65) rfl (List.mem_of_getElem? (i := 0) rfl) ?_
    refine EX.go (i := .getfield 90) (len := 3) (pc1 := 12) (st1 := [.ref 89]) (hi1 := hi) (hl1 := hl) rfl ?_ (fun _ _ _ => rfl)
    refine EX.iload_n (x := v3) rfl (List.mem_of_getElem? (i := 3) rfl) ?_
    refine EX.iconst (v := 0) rfl rfl ?_
    obtain ⟨g2, h⟩ := grd_some h
    refine EX.iastore rfl rfl g2 ?_
    refine EX.iinc (x := v3) (v := v3 + 1) (req1 := [(3, .int (v3 + 1)), (0, .ref 65), (1, .int (v1)), (2, .int (v2))]) rfl rfl (List.mem_of_getElem? (i := 3) rfl) rfl rfl ?_
    refine EX.go (i := .goto (-16)) (len := 3) (pc1 := 2) (st1 := []) (hi1 := wr (hi) 89 (Int32.toNatClampNeg (v3)) (0)) (hl1 := hl) rfl ?_ (fun _ _ _ => rfl)
    obtain rfl := Option.some.inj h
    have hk : EX w0 ev 0 m_MD_guesses 2 [(0, .ref 65), (1, .int (v1)), (2, .int (v2)), (3, .int (v3 + 1))] [] (wr (hi) 89 (Int32.toNatClampNeg (v3)) (0)) (hl) OUT := hk
    exact EX.pick [1, 2, 3, 0] hk rfl
def J_MD_guesses_40 (N : Nat) (v2 : Int32) (hi : HI) (hl : HL) : Option (Unit × HI × HL) :=
  if (v2 : Int32) = ((-4) : Int32) then some ((), hi, hl) else if (((v2 : Int32) / (2)) : Int32) < 0 ∨ 16 ≤ Int32.toNatClampNeg (((v2 : Int32) / (2))) then none else some ((), wr (hi) 89 (Int32.toNatClampNeg (((v2 : Int32) / (2)))) (((1 : Int32) + (((v2 : Int32) - (v2 : Int32) / (2) * (2))))), hl)
set_option maxRecDepth 10000 in
set_option maxHeartbeats 4000000 in
theorem bJ_MD_guesses_40 (ev : EV) {N : Nat} {v2 : Int32} {hi : HI} {hl : HL} {o : Unit × HI × HL} (h : J_MD_guesses_40 N v2 hi hl = some o) : EX w0 ev 0 m_MD_guesses 40 [(0, .ref 65), (2, .int (v2))] [] (hi) (hl) (oV o) := by
  unfold J_MD_guesses_40 at h
  refine EX.iload_n (x := v2) rfl (List.mem_of_getElem? (i := 1) rfl) ?_
  refine EX.bipush (v := (-4)) rfl rfl ?_
  rcases ite_some h with ⟨c5, h⟩ | ⟨c5, h⟩
  · refine EX.go (i := .if_icmp .eq 16) (len := 3) (pc1 := 59) (st1 := []) (hi1 := hi) (hl1 := hl) rfl ?_ (fun _ _ _ => if_pos c5)
    obtain rfl := Option.some.inj h
    exact EX.vret rfl rfl
  · refine EX.go (i := .if_icmp .eq 16) (len := 3) (pc1 := 46) (st1 := []) (hi1 := hi) (hl1 := hl) rfl ?_ (fun _ _ _ => if_neg c5)
    refine EX.aload_n (x := 65) rfl (List.mem_of_getElem? (i := 0) rfl) ?_
    refine EX.go (i := .getfield 90) (len := 3) (pc1 := 50) (st1 := [.ref 89]) (hi1 := hi) (hl1 := hl) rfl ?_ (fun _ _ _ => rfl)
    refine EX.iload_n (x := v2) rfl (List.mem_of_getElem? (i := 1) rfl) ?_
    refine EX.iconst (v := 2) rfl rfl ?_
    refine EX.go (i := .idiv) (len := 1) (pc1 := 53) (st1 := [.int (((v2 : Int32) / (2))), .ref 89]) (hi1 := hi) (hl1 := hl) rfl ?_ (fun _ _ _ => rfl)
    refine EX.iconst (v := 1) rfl rfl ?_
    refine EX.iload_n (x := v2) rfl (List.mem_of_getElem? (i := 1) rfl) ?_
    refine EX.iconst (v := 2) rfl rfl ?_
    refine EX.go (i := .irem) (len := 1) (pc1 := 57) (st1 := [.int (((v2 : Int32) - (v2 : Int32) / (2) * (2))), .int (1), .int (((v2 : Int32) / (2))), .ref 89]) (hi1 := hi) (hl1 := hl) rfl ?_ (fun _ _ _ => rfl)
    refine EX.go (i := .iadd) (len := 1) (pc1 := 58) (st1 := [.int (((1 : Int32) + (((v2 : Int32) - (v2 : Int32) / (2) * (2))))), .int (((v2 : Int32) / (2))), .ref 89]) (hi1 := hi) (hl1 := hl) rfl ?_ (fun _ _ _ => rfl)
    obtain ⟨g6, h⟩ := grd_some h
    refine EX.iastore rfl rfl g6 ?_
    obtain rfl := Option.some.inj h
    exact EX.vret rfl rfl
def f_MD_guesses (N : Nat) (p1 : Int32) (p2 : Int32) (hi : HI) (hl : HL) : Option (Unit × HI × HL) :=
  (lpN (fun s => B_MD_guesses_2 N (p1) (p2) s.1 s.2.1 s.2.2) N (0, hi, hl)).bind fun x3 => if (p1 : Int32) = ((-4) : Int32) then J_MD_guesses_40 N (p2) (x3.1) (x3.2) else if (((p1 : Int32) / (2)) : Int32) < 0 ∨ 16 ≤ Int32.toNatClampNeg (((p1 : Int32) / (2))) then none else J_MD_guesses_40 N (p2) (wr (x3.1) 89 (Int32.toNatClampNeg (((p1 : Int32) / (2)))) (((1 : Int32) + (((p1 : Int32) - (p1 : Int32) / (2) * (2)))))) (x3.2)
set_option maxRecDepth 10000 in
set_option maxHeartbeats 4000000 in
theorem b_MD_guesses (ev : EV) {N : Nat} {p1 : Int32} {p2 : Int32} {hi : HI} {hl : HL} {o : Unit × HI × HL} (h : f_MD_guesses N p1 p2 hi hl = some o) : EM w0 ev 1 m_MD_guesses [.ref 65, .int (p1), .int (p2)] hi hl (oV o) := by
  unfold f_MD_guesses at h
  refine EM.of rfl ?_
  show EX w0 ev 0 m_MD_guesses 0 [(0, .ref 65), (1, .int (p1)), (2, .int (p2))] [] (hi) (hl) (oV o)
  refine EX.iconst (v := 0) rfl rfl ?_
  refine EX.istore_n (req1 := [(3, .int (0)), (0, .ref 65), (1, .int (p1)), (2, .int (p2))]) rfl rfl rfl ?_
  obtain ⟨x3, hx3, h⟩ := bnd_some h
  refine EX.pick [1, 2, 3, 0] ?_ rfl
  refine lp_sound (f := fun s => B_MD_guesses_2 N (p1) (p2) s.1 s.2.1 s.2.2) (PS := fun s => EX w0 ev 0 m_MD_guesses 2 [(0, .ref 65), (1, .int (p1)), (2, .int (p2)), (3, .int (s.1))] [] (s.2.1) (s.2.2) (oV o)) (PX := fun x => EX w0 ev 0 m_MD_guesses 21 [(0, .ref 65), (1, .int (p1)), (2, .int (p2))] [] (x.1) (x.2) (oV o)) ?_ N _ x3 hx3 ?_
  · exact fun s z hz hk => bB_MD_guesses_2 ev hz hk
  show EX w0 ev 0 m_MD_guesses 21 [(0, .ref 65), (1, .int (p1)), (2, .int (p2))] [] (x3.1) (x3.2) (oV o)
  refine EX.iload_n (x := p1) rfl (List.mem_of_getElem? (i := 1) rfl) ?_
  refine EX.bipush (v := (-4)) rfl rfl ?_
  rcases ite_some h with ⟨c4, h⟩ | ⟨c4, h⟩
  · refine EX.go (i := .if_icmp .eq 16) (len := 3) (pc1 := 40) (st1 := []) (hi1 := x3.1) (hl1 := x3.2) rfl ?_ (fun _ _ _ => if_pos c4)
    refine EX.pick [0, 2] ?_ rfl
    exact bJ_MD_guesses_40 ev h
  · refine EX.go (i := .if_icmp .eq 16) (len := 3) (pc1 := 27) (st1 := []) (hi1 := x3.1) (hl1 := x3.2) rfl ?_ (fun _ _ _ => if_neg c4)
    refine EX.aload_n (x := 65) rfl (List.mem_of_getElem? (i := 0) rfl) ?_
    refine EX.go (i := .getfield 90) (len := 3) (pc1 := 31) (st1 := [.ref 89]) (hi1 := x3.1) (hl1 := x3.2) rfl ?_ (fun _ _ _ => rfl)
    refine EX.iload_n (x := p1) rfl (List.mem_of_getElem? (i := 1) rfl) ?_
    refine EX.iconst (v := 2) rfl rfl ?_
    refine EX.go (i := .idiv) (len := 1) (pc1 := 34) (st1 := [.int (((p1 : Int32) / (2))), .ref 89]) (hi1 := x3.1) (hl1 := x3.2) rfl ?_ (fun _ _ _ => rfl)
    refine EX.iconst (v := 1) rfl rfl ?_
    refine EX.iload_n (x := p1) rfl (List.mem_of_getElem? (i := 1) rfl) ?_
    refine EX.iconst (v := 2) rfl rfl ?_
    refine EX.go (i := .irem) (len := 1) (pc1 := 38) (st1 := [.int (((p1 : Int32) - (p1 : Int32) / (2) * (2))), .int (1), .int (((p1 : Int32) / (2))), .ref 89]) (hi1 := x3.1) (hl1 := x3.2) rfl ?_ (fun _ _ _ => rfl)
    refine EX.go (i := .iadd) (len := 1) (pc1 := 39) (st1 := [.int (((1 : Int32) + (((p1 : Int32) - (p1 : Int32) / (2) * (2))))), .int (((p1 : Int32) / (2))), .ref 89]) (hi1 := x3.1) (hl1 := x3.2) rfl ?_ (fun _ _ _ => rfl)
    obtain ⟨g7, h⟩ := grd_some h
    refine EX.iastore rfl rfl g7 ?_
    refine EX.pick [0, 2] ?_ rfl
    exact bJ_MD_guesses_40 ev h
def J_MD_explains_66 (N : Nat) (v4 : Int32) (s0 : Int32) (hi : HI) (hl : HL) : Option ((Int32 × Int32 × HI × HL) ⊕ (Int32 × HI × HL)) :=
  some (.inl (s0, v4 + 1, hi, hl))
set_option maxRecDepth 10000 in
set_option maxHeartbeats 4000000 in
theorem bJ_MD_explains_66 (ev : EV) {N : Nat} {v4 : Int32} {s0 : Int32} {hi : HI} {hl : HL} {z : (Int32 × Int32 × HI × HL) ⊕ (Int32 × HI × HL)} {OUT : Option Value × HI × HL} (h : J_MD_explains_66 N v4 s0 hi hl = some z) (hk : Sum.elim (fun s => EX w0 ev 2 m_MD_explains 11 [(0, .ref 65), (3, .int (s.1)), (4, .int (s.2.1))] [] (s.2.2.1) (s.2.2.2) OUT) (fun x => EX w0 ev 2 m_MD_explains 73 [(3, .int (x.1))] [] (x.2.1) (x.2.2) OUT) z) : EX w0 ev 2 m_MD_explains 66 [(0, .ref 65), (4, .int (v4))] [.int (s0)] (hi) (hl) OUT := by
  unfold J_MD_explains_66 at h
  refine EX.istore_n (req1 := [(3, .int (s0)), (0, .ref 65), (4, .int (v4))]) rfl rfl rfl ?_
  refine EX.iinc (x := v4) (v := v4 + 1) (req1 := [(4, .int (v4 + 1)), (3, .int (s0)), (0, .ref 65)]) rfl rfl (List.mem_of_getElem? (i := 2) rfl) rfl rfl ?_
  refine EX.go (i := .goto (-59)) (len := 3) (pc1 := 11) (st1 := []) (hi1 := hi) (hl1 := hl) rfl ?_ (fun _ _ _ => rfl)
  obtain rfl := Option.some.inj h
  have hk : EX w0 ev 2 m_MD_explains 11 [(0, .ref 65), (3, .int (s0)), (4, .int (v4 + 1))] [] (hi) (hl) OUT := hk
  exact EX.pick [2, 1, 0] hk rfl
def J_MD_explains_61 (N : Nat) (v4 : Int32) (hi : HI) (hl : HL) : Option ((Int32 × Int32 × HI × HL) ⊕ (Int32 × HI × HL)) :=
  J_MD_explains_66 N (v4) (1) (hi) (hl)
set_option maxRecDepth 10000 in
set_option maxHeartbeats 4000000 in
theorem bJ_MD_explains_61 (ev : EV) {N : Nat} {v4 : Int32} {hi : HI} {hl : HL} {z : (Int32 × Int32 × HI × HL) ⊕ (Int32 × HI × HL)} {OUT : Option Value × HI × HL} (h : J_MD_explains_61 N v4 hi hl = some z) (hk : Sum.elim (fun s => EX w0 ev 2 m_MD_explains 11 [(0, .ref 65), (3, .int (s.1)), (4, .int (s.2.1))] [] (s.2.2.1) (s.2.2.2) OUT) (fun x => EX w0 ev 2 m_MD_explains 73 [(3, .int (x.1))] [] (x.2.1) (x.2.2) OUT) z) : EX w0 ev 2 m_MD_explains 61 [(0, .ref 65), (4, .int (v4))] [] (hi) (hl) OUT := by
  unfold J_MD_explains_61 at h
  refine EX.iconst (v := 1) rfl rfl ?_
  refine EX.go (i := .goto 4) (len := 3) (pc1 := 66) (st1 := [.int (1)]) (hi1 := hi) (hl1 := hl) rfl ?_ (fun _ _ _ => rfl)
  refine EX.pick [0, 1] ?_ rfl
  exact bJ_MD_explains_66 ev h hk
def B_MD_explains_11 (N : Nat) (v3 : Int32) (v4 : Int32) (hi : HI) (hl : HL) : Option ((Int32 × Int32 × HI × HL) ⊕ (Int32 × HI × HL)) :=
  if (hi 65 23 : Int32) ≤ (v4 : Int32) then some (.inr (v3, hi, hl)) else if (v3 : Int32) = 0 then some (.inr (v3, hi, hl)) else if (v4 : Int32) < 0 ∨ 12 ≤ Int32.toNatClampNeg (v4) then none else if (hi 85 (Int32.toNatClampNeg (v4)) : Int32) = ((-4) : Int32) then J_MD_explains_61 N (v4) (hi) (hl) else if (v4 : Int32) < 0 ∨ 12 ≤ Int32.toNatClampNeg (v4) then none else (f_MD_glows N (hi 83 (Int32.toNatClampNeg (v4))) (89) (hi) (hl)).bind fun z7 => if (v4 : Int32) < 0 ∨ 12 ≤ Int32.toNatClampNeg (v4) then none else if (z7.1 : Int32) = (z7.2.1 85 (Int32.toNatClampNeg (v4)) : Int32) then J_MD_explains_61 N (v4) (z7.2.1) (z7.2.2) else J_MD_explains_66 N (v4) (0) (z7.2.1) (z7.2.2)
set_option maxRecDepth 10000 in
set_option maxHeartbeats 4000000 in
theorem bB_MD_explains_11 (ev : EV) {N : Nat} {v3 : Int32} {v4 : Int32} {hi : HI} {hl : HL} {z : (Int32 × Int32 × HI × HL) ⊕ (Int32 × HI × HL)} {OUT : Option Value × HI × HL} (h : B_MD_explains_11 N v3 v4 hi hl = some z) (hk : Sum.elim (fun s => EX w0 ev 2 m_MD_explains 11 [(0, .ref 65), (3, .int (s.1)), (4, .int (s.2.1))] [] (s.2.2.1) (s.2.2.2) OUT) (fun x => EX w0 ev 2 m_MD_explains 73 [(3, .int (x.1))] [] (x.2.1) (x.2.2) OUT) z) : EX w0 ev 2 m_MD_explains 11 [(0, .ref 65), (3, .int (v3)), (4, .int (v4))] [] (hi) (hl) OUT := by
  unfold B_MD_explains_11 at h
  refine EX.iload (x := v4) rfl (List.mem_of_getElem? (i := 2) rfl) ?_
  refine EX.aload_n (x := 65) rfl (List.mem_of_getElem? (i := 0) rfl) ?_
  refine EX.go (i := .getfield 119) (len := 3) (pc1 := 17) (st1 := [.int (hi 65 23), .int (v4)]) (hi1 := hi) (hl1 := hl) rfl ?_ (fun _ _ _ => rfl)
  rcases ite_some h with ⟨c2, h⟩ | ⟨c2, h⟩
  · refine EX.go (i := .if_icmp .ge 56) (len := 3) (pc1 := 73) (st1 := []) (hi1 := hi) (hl1 := hl) rfl ?_ (fun _ _ _ => if_pos c2)
    obtain rfl := Option.some.inj h
    have hk : EX w0 ev 2 m_MD_explains 73 [(3, .int (v3))] [] (hi) (hl) OUT := hk
    exact EX.pick [1] hk rfl
  · refine EX.go (i := .if_icmp .ge 56) (len := 3) (pc1 := 20) (st1 := []) (hi1 := hi) (hl1 := hl) rfl ?_ (fun _ _ _ => if_neg c2)
    refine EX.iload_n (x := v3) rfl (List.mem_of_getElem? (i := 1) rfl) ?_
    rcases ite_some h with ⟨c3, h⟩ | ⟨c3, h⟩
    · refine EX.go (i := .ifCond .eq 52) (len := 3) (pc1 := 73) (st1 := []) (hi1 := hi) (hl1 := hl) rfl ?_ (fun _ _ _ => if_pos c3)
      obtain rfl := Option.some.inj h
      have hk : EX w0 ev 2 m_MD_explains 73 [(3, .int (v3))] [] (hi) (hl) OUT := hk
      exact EX.pick [1] hk rfl
    · refine EX.go (i := .ifCond .eq 52) (len := 3) (pc1 := 24) (st1 := []) (hi1 := hi) (hl1 := hl) rfl ?_ (fun _ _ _ => if_neg c3)
      refine EX.aload_n (x := 65) rfl (List.mem_of_getElem? (i := 0) rfl) ?_
      refine EX.go (i := .getfield 78) (len := 3) (pc1 := 28) (st1 := [.ref 85]) (hi1 := hi) (hl1 := hl) rfl ?_ (fun _ _ _ => rfl)
      refine EX.iload (x := v4) rfl (List.mem_of_getElem? (i := 2) rfl) ?_
      obtain ⟨g4, h⟩ := grd_some h
      refine EX.iaload rfl rfl g4 ?_
      refine EX.bipush (v := (-4)) rfl rfl ?_
      rcases ite_some h with ⟨c5, h⟩ | ⟨c5, h⟩
      · refine EX.go (i := .if_icmp .eq 28) (len := 3) (pc1 := 61) (st1 := []) (hi1 := hi) (hl1 := hl) rfl ?_ (fun _ _ _ => if_pos c5)
        refine EX.pick [0, 2] ?_ rfl
        exact bJ_MD_explains_61 ev h hk
      · refine EX.go (i := .if_icmp .eq 28) (len := 3) (pc1 := 36) (st1 := []) (hi1 := hi) (hl1 := hl) rfl ?_ (fun _ _ _ => if_neg c5)
        refine EX.aload_n (x := 65) rfl (List.mem_of_getElem? (i := 0) rfl) ?_
        refine EX.aload_n (x := 65) rfl (List.mem_of_getElem? (i := 0) rfl) ?_
        refine EX.go (i := .getfield 72) (len := 3) (pc1 := 41) (st1 := [.ref 83, .ref 65]) (hi1 := hi) (hl1 := hl) rfl ?_ (fun _ _ _ => rfl)
        refine EX.iload (x := v4) rfl (List.mem_of_getElem? (i := 2) rfl) ?_
        obtain ⟨g6, h⟩ := grd_some h
        refine EX.iaload rfl rfl g6 ?_
        refine EX.aload_n (x := 65) rfl (List.mem_of_getElem? (i := 0) rfl) ?_
        refine EX.go (i := .getfield 90) (len := 3) (pc1 := 48) (st1 := [.ref 89, .int (hi 83 (Int32.toNatClampNeg (v4))), .ref 65]) (hi1 := hi) (hl1 := hl) rfl ?_ (fun _ _ _ => rfl)
        obtain ⟨z7, hz7, h⟩ := bnd_some h
        refine EX.callV (b := 65) (as := [.int (hi 83 (Int32.toNatClampNeg (v4))), .ref 89]) (rest := []) (r := some (.int (z7.1))) (hi1 := z7.2.1) (hl1 := z7.2.2) rfl rfl rfl rfl rfl rfl ((b_MD_glows ev hz7).mono (by decide)) ?_
        show EX w0 ev 2 m_MD_explains 51 [(0, .ref 65), (3, .int (v3)), (4, .int (v4))] [.int (z7.1)] (z7.2.1) (z7.2.2) OUT
        refine EX.aload_n (x := 65) rfl (List.mem_of_getElem? (i := 0) rfl) ?_
        refine EX.go (i := .getfield 78) (len := 3) (pc1 := 55) (st1 := [.ref 85, .int (z7.1)]) (hi1 := z7.2.1) (hl1 := z7.2.2) rfl ?_ (fun _ _ _ => rfl)
        refine EX.iload (x := v4) rfl (List.mem_of_getElem? (i := 2) rfl) ?_
        obtain ⟨g8, h⟩ := grd_some h
        refine EX.iaload rfl rfl g8 ?_
        rcases ite_some h with ⟨c9, h⟩ | ⟨c9, h⟩
        · refine EX.go (i := .if_icmp .ne 7) (len := 3) (pc1 := 61) (st1 := []) (hi1 := z7.2.1) (hl1 := z7.2.2) rfl ?_ (fun _ _ _ => if_pos c9)
          refine EX.pick [0, 2] ?_ rfl
          exact bJ_MD_explains_61 ev h hk
        · refine EX.go (i := .if_icmp .ne 7) (len := 3) (pc1 := 65) (st1 := []) (hi1 := z7.2.1) (hl1 := z7.2.2) rfl ?_ (fun _ _ _ => if_neg c9)
          refine EX.iconst (v := 0) rfl rfl ?_
          refine EX.pick [0, 2] ?_ rfl
          exact bJ_MD_explains_66 ev h hk
def f_MD_explains (N : Nat) (p1 : Int32) (p2 : Int32) (hi : HI) (hl : HL) : Option (Int32 × HI × HL) :=
  (f_MD_guesses N (p1) (p2) (hi) (hl)).bind fun z1 => (lpN (fun s => B_MD_explains_11 N s.1 s.2.1 s.2.2.1 s.2.2.2) N (1, 0, z1.2.1, z1.2.2)).bind fun x10 => if (x10.1 : Int32) = 0 ∨ (x10.1 : Int32) = 1 then some (x10.1, x10.2.1, x10.2.2) else none
set_option maxRecDepth 10000 in
set_option maxHeartbeats 4000000 in
theorem b_MD_explains (ev : EV) {N : Nat} {p1 : Int32} {p2 : Int32} {hi : HI} {hl : HL} {o : Int32 × HI × HL} (h : f_MD_explains N p1 p2 hi hl = some o) : EM w0 ev 3 m_MD_explains [.ref 65, .int (p1), .int (p2)] hi hl (oI o) := by
  unfold f_MD_explains at h
  refine EM.of rfl ?_
  show EX w0 ev 2 m_MD_explains 0 [(0, .ref 65), (1, .int (p1)), (2, .int (p2))] [] (hi) (hl) (oI o)
  refine EX.aload_n (x := 65) rfl (List.mem_of_getElem? (i := 0) rfl) ?_
  refine EX.iload_n (x := p1) rfl (List.mem_of_getElem? (i := 1) rfl) ?_
  refine EX.iload_n (x := p2) rfl (List.mem_of_getElem? (i := 2) rfl) ?_
  obtain ⟨z1, hz1, h⟩ := bnd_some h
  refine EX.callV (b := 65) (as := [.int (p1), .int (p2)]) (rest := []) (r := none) (hi1 := z1.2.1) (hl1 := z1.2.2) rfl rfl rfl rfl rfl rfl ((b_MD_guesses ev hz1).mono (by decide)) ?_
  show EX w0 ev 2 m_MD_explains 6 [(0, .ref 65), (1, .int (p1)), (2, .int (p2))] [] (z1.2.1) (z1.2.2) (oI o)
  refine EX.iconst (v := 1) rfl rfl ?_
  refine EX.istore_n (req1 := [(3, .int (1)), (0, .ref 65), (1, .int (p1)), (2, .int (p2))]) rfl rfl rfl ?_
  refine EX.iconst (v := 0) rfl rfl ?_
  refine EX.istore (req1 := [(4, .int (0)), (3, .int (1)), (0, .ref 65), (1, .int (p1)), (2, .int (p2))]) rfl rfl rfl ?_
  obtain ⟨x10, hx10, h⟩ := bnd_some h
  refine EX.pick [2, 1, 0] ?_ rfl
  refine lp_sound (f := fun s => B_MD_explains_11 N s.1 s.2.1 s.2.2.1 s.2.2.2) (PS := fun s => EX w0 ev 2 m_MD_explains 11 [(0, .ref 65), (3, .int (s.1)), (4, .int (s.2.1))] [] (s.2.2.1) (s.2.2.2) (oI o)) (PX := fun x => EX w0 ev 2 m_MD_explains 73 [(3, .int (x.1))] [] (x.2.1) (x.2.2) (oI o)) ?_ N _ x10 hx10 ?_
  · exact fun s z hz hk => bB_MD_explains_11 ev hz hk
  show EX w0 ev 2 m_MD_explains 73 [(3, .int (x10.1))] [] (x10.2.1) (x10.2.2) (oI o)
  refine EX.iload_n (x := x10.1) rfl (List.mem_of_getElem? (i := 0) rfl) ?_
  obtain ⟨g11, h⟩ := grp_some h
  obtain rfl := Option.some.inj h
  exact EX.zret rfl rfl g11
def f_MD_tries (N : Nat) (p1 : Int32) (p2 : Int32) (hi : HI) (hl : HL) : Option (Unit × HI × HL) :=
  (f_MD_explains N (p1) (p2) (hi) (hl)).bind fun z1 => if (z1.1 : Int32) = 0 then some ((), z1.2.1, z1.2.2) else if (z1.2.1 65 39 : Int32) < 0 ∨ 500 ≤ Int32.toNatClampNeg (z1.2.1 65 39) then none else if ((wr (z1.2.1) 90 (Int32.toNatClampNeg (z1.2.1 65 39)) (p1)) 65 39 : Int32) < 0 ∨ 500 ≤ Int32.toNatClampNeg ((wr (z1.2.1) 90 (Int32.toNatClampNeg (z1.2.1 65 39)) (p1)) 65 39) then none else some ((), wr (wr (wr (z1.2.1) 90 (Int32.toNatClampNeg (z1.2.1 65 39)) (p1)) 91 (Int32.toNatClampNeg ((wr (z1.2.1) 90 (Int32.toNatClampNeg (z1.2.1 65 39)) (p1)) 65 39)) (p2)) 65 39 ((((wr (wr (z1.2.1) 90 (Int32.toNatClampNeg (z1.2.1 65 39)) (p1)) 91 (Int32.toNatClampNeg ((wr (z1.2.1) 90 (Int32.toNatClampNeg (z1.2.1 65 39)) (p1)) 65 39)) (p2)) 65 39 : Int32) + (1))), z1.2.2)
set_option maxRecDepth 10000 in
set_option maxHeartbeats 4000000 in
theorem b_MD_tries (ev : EV) {N : Nat} {p1 : Int32} {p2 : Int32} {hi : HI} {hl : HL} {o : Unit × HI × HL} (h : f_MD_tries N p1 p2 hi hl = some o) : EM w0 ev 4 m_MD_tries [.ref 65, .int (p1), .int (p2)] hi hl (oV o) := by
  unfold f_MD_tries at h
  refine EM.of rfl ?_
  show EX w0 ev 3 m_MD_tries 0 [(0, .ref 65), (1, .int (p1)), (2, .int (p2))] [] (hi) (hl) (oV o)
  refine EX.aload_n (x := 65) rfl (List.mem_of_getElem? (i := 0) rfl) ?_
  refine EX.iload_n (x := p1) rfl (List.mem_of_getElem? (i := 1) rfl) ?_
  refine EX.iload_n (x := p2) rfl (List.mem_of_getElem? (i := 2) rfl) ?_
  obtain ⟨z1, hz1, h⟩ := bnd_some h
  refine EX.callV (b := 65) (as := [.int (p1), .int (p2)]) (rest := []) (r := some (.int (z1.1))) (hi1 := z1.2.1) (hl1 := z1.2.2) rfl rfl rfl rfl rfl rfl ((b_MD_explains ev hz1).mono (by decide)) ?_
  show EX w0 ev 3 m_MD_tries 6 [(0, .ref 65), (1, .int (p1)), (2, .int (p2))] [.int (z1.1)] (z1.2.1) (z1.2.2) (oV o)
  rcases ite_some h with ⟨c2, h⟩ | ⟨c2, h⟩
  · refine EX.go (i := .ifCond .eq 33) (len := 3) (pc1 := 39) (st1 := []) (hi1 := z1.2.1) (hl1 := z1.2.2) rfl ?_ (fun _ _ _ => if_pos c2)
    obtain rfl := Option.some.inj h
    exact EX.vret rfl rfl
  · refine EX.go (i := .ifCond .eq 33) (len := 3) (pc1 := 9) (st1 := []) (hi1 := z1.2.1) (hl1 := z1.2.2) rfl ?_ (fun _ _ _ => if_neg c2)
    refine EX.aload_n (x := 65) rfl (List.mem_of_getElem? (i := 0) rfl) ?_
    refine EX.go (i := .getfield 93) (len := 3) (pc1 := 13) (st1 := [.ref 90]) (hi1 := z1.2.1) (hl1 := z1.2.2) rfl ?_ (fun _ _ _ => rfl)
    refine EX.aload_n (x := 65) rfl (List.mem_of_getElem? (i := 0) rfl) ?_
    refine EX.go (i := .getfield 303) (len := 3) (pc1 := 17) (st1 := [.int (z1.2.1 65 39), .ref 90]) (hi1 := z1.2.1) (hl1 := z1.2.2) rfl ?_ (fun _ _ _ => rfl)
    refine EX.iload_n (x := p1) rfl (List.mem_of_getElem? (i := 1) rfl) ?_
    obtain ⟨g3, h⟩ := grd_some h
    refine EX.iastore rfl rfl g3 ?_
    refine EX.aload_n (x := 65) rfl (List.mem_of_getElem? (i := 0) rfl) ?_
    refine EX.go (i := .getfield 96) (len := 3) (pc1 := 23) (st1 := [.ref 91]) (hi1 := wr (z1.2.1) 90 (Int32.toNatClampNeg (z1.2.1 65 39)) (p1)) (hl1 := z1.2.2) rfl ?_ (fun _ _ _ => rfl)
    refine EX.aload_n (x := 65) rfl (List.mem_of_getElem? (i := 0) rfl) ?_
    refine EX.go (i := .getfield 303) (len := 3) (pc1 := 27) (st1 := [.int ((wr (z1.2.1) 90 (Int32.toNatClampNeg (z1.2.1 65 39)) (p1)) 65 39), .ref 91]) (hi1 := wr (z1.2.1) 90 (Int32.toNatClampNeg (z1.2.1 65 39)) (p1)) (hl1 := z1.2.2) rfl ?_ (fun _ _ _ => rfl)
    refine EX.iload_n (x := p2) rfl (List.mem_of_getElem? (i := 2) rfl) ?_
    obtain ⟨g4, h⟩ := grd_some h
    refine EX.iastore rfl rfl g4 ?_
    refine EX.aload_n (x := 65) rfl (List.mem_of_getElem? (i := 0) rfl) ?_
    refine EX.go (i := .dup) (len := 1) (pc1 := 31) (st1 := [.ref 65, .ref 65]) (hi1 := wr (wr (z1.2.1) 90 (Int32.toNatClampNeg (z1.2.1 65 39)) (p1)) 91 (Int32.toNatClampNeg ((wr (z1.2.1) 90 (Int32.toNatClampNeg (z1.2.1 65 39)) (p1)) 65 39)) (p2)) (hl1 := z1.2.2) rfl ?_ (fun _ _ _ => rfl)
    refine EX.go (i := .getfield 303) (len := 3) (pc1 := 34) (st1 := [.int ((wr (wr (z1.2.1) 90 (Int32.toNatClampNeg (z1.2.1 65 39)) (p1)) 91 (Int32.toNatClampNeg ((wr (z1.2.1) 90 (Int32.toNatClampNeg (z1.2.1 65 39)) (p1)) 65 39)) (p2)) 65 39), .ref 65]) (hi1 := wr (wr (z1.2.1) 90 (Int32.toNatClampNeg (z1.2.1 65 39)) (p1)) 91 (Int32.toNatClampNeg ((wr (z1.2.1) 90 (Int32.toNatClampNeg (z1.2.1 65 39)) (p1)) 65 39)) (p2)) (hl1 := z1.2.2) rfl ?_ (fun _ _ _ => rfl)
    refine EX.iconst (v := 1) rfl rfl ?_
    refine EX.go (i := .iadd) (len := 1) (pc1 := 36) (st1 := [.int ((((wr (wr (z1.2.1) 90 (Int32.toNatClampNeg (z1.2.1 65 39)) (p1)) 91 (Int32.toNatClampNeg ((wr (z1.2.1) 90 (Int32.toNatClampNeg (z1.2.1 65 39)) (p1)) 65 39)) (p2)) 65 39 : Int32) + (1))), .ref 65]) (hi1 := wr (wr (z1.2.1) 90 (Int32.toNatClampNeg (z1.2.1 65 39)) (p1)) 91 (Int32.toNatClampNeg ((wr (z1.2.1) 90 (Int32.toNatClampNeg (z1.2.1 65 39)) (p1)) 65 39)) (p2)) (hl1 := z1.2.2) rfl ?_ (fun _ _ _ => rfl)
    refine EX.go (i := .putfield 303) (len := 3) (pc1 := 39) (st1 := []) (hi1 := wr (wr (wr (z1.2.1) 90 (Int32.toNatClampNeg (z1.2.1 65 39)) (p1)) 91 (Int32.toNatClampNeg ((wr (z1.2.1) 90 (Int32.toNatClampNeg (z1.2.1 65 39)) (p1)) 65 39)) (p2)) 65 39 ((((wr (wr (z1.2.1) 90 (Int32.toNatClampNeg (z1.2.1 65 39)) (p1)) 91 (Int32.toNatClampNeg ((wr (z1.2.1) 90 (Int32.toNatClampNeg (z1.2.1 65 39)) (p1)) 65 39)) (p2)) 65 39 : Int32) + (1)))) (hl1 := z1.2.2) rfl ?_ (fun _ _ _ => rfl)
    obtain rfl := Option.some.inj h
    exact EX.vret rfl rfl
def B_MD_findLikely_32 (N : Nat) (v1 : Int32) (hi : HI) (hl : HL) : Option ((Int32 × HI × HL) ⊕ (HI × HL)) :=
  if (((2 : Int32) * (hi 65 2)) : Int32) ≤ (v1 : Int32) then some (.inr (hi, hl)) else (f_MD_tries N (v1) ((-4)) (hi) (hl)).bind fun z4 => some (.inl (v1 + 1, z4.2.1, z4.2.2))
set_option maxRecDepth 10000 in
set_option maxHeartbeats 4000000 in
theorem bB_MD_findLikely_32 (ev : EV) {N : Nat} {v1 : Int32} {hi : HI} {hl : HL} {z : (Int32 × HI × HL) ⊕ (HI × HL)} {OUT : Option Value × HI × HL} (h : B_MD_findLikely_32 N v1 hi hl = some z) (hk : Sum.elim (fun s => EX w0 ev 4 m_MD_findLikely 32 [(0, .ref 65), (1, .int (s.1))] [] (s.2.1) (s.2.2) OUT) (fun x => EX w0 ev 4 m_MD_findLikely 55 [(0, .ref 65)] [] (x.1) (x.2) OUT) z) : EX w0 ev 4 m_MD_findLikely 32 [(0, .ref 65), (1, .int (v1))] [] (hi) (hl) OUT := by
  unfold B_MD_findLikely_32 at h
  refine EX.iload_n (x := v1) rfl (List.mem_of_getElem? (i := 1) rfl) ?_
  refine EX.iconst (v := 2) rfl rfl ?_
  refine EX.aload_n (x := 65) rfl (List.mem_of_getElem? (i := 0) rfl) ?_
  refine EX.go (i := .getfield 116) (len := 3) (pc1 := 38) (st1 := [.int (hi 65 2), .int (2), .int (v1)]) (hi1 := hi) (hl1 := hl) rfl ?_ (fun _ _ _ => rfl)
  refine EX.go (i := .imul) (len := 1) (pc1 := 39) (st1 := [.int (((2 : Int32) * (hi 65 2))), .int (v1)]) (hi1 := hi) (hl1 := hl) rfl ?_ (fun _ _ _ => rfl)
  rcases ite_some h with ⟨c3, h⟩ | ⟨c3, h⟩
  · refine EX.go (i := .if_icmp .ge 16) (len := 3) (pc1 := 55) (st1 := []) (hi1 := hi) (hl1 := hl) rfl ?_ (fun _ _ _ => if_pos c3)
    obtain rfl := Option.some.inj h
    have hk : EX w0 ev 4 m_MD_findLikely 55 [(0, .ref 65)] [] (hi) (hl) OUT := hk
    exact EX.pick [0] hk rfl
  · refine EX.go (i := .if_icmp .ge 16) (len := 3) (pc1 := 42) (st1 := []) (hi1 := hi) (hl1 := hl) rfl ?_ (fun _ _ _ => if_neg c3)
    refine EX.aload_n (x := 65) rfl (List.mem_of_getElem? (i := 0) rfl) ?_
    refine EX.iload_n (x := v1) rfl (List.mem_of_getElem? (i := 1) rfl) ?_
    refine EX.bipush (v := (-4)) rfl rfl ?_
    obtain ⟨z4, hz4, h⟩ := bnd_some h
    refine EX.callV (b := 65) (as := [.int (v1), .int ((-4))]) (rest := []) (r := none) (hi1 := z4.2.1) (hl1 := z4.2.2) rfl rfl rfl rfl rfl rfl ((b_MD_tries ev hz4).mono (by decide)) ?_
    show EX w0 ev 4 m_MD_findLikely 49 [(0, .ref 65), (1, .int (v1))] [] (z4.2.1) (z4.2.2) OUT
    refine EX.iinc (x := v1) (v := v1 + 1) (req1 := [(1, .int (v1 + 1)), (0, .ref 65)]) rfl rfl (List.mem_of_getElem? (i := 1) rfl) rfl rfl ?_
    refine EX.go (i := .goto (-20)) (len := 3) (pc1 := 32) (st1 := []) (hi1 := z4.2.1) (hl1 := z4.2.2) rfl ?_ (fun _ _ _ => rfl)
    obtain rfl := Option.some.inj h
    have hk : EX w0 ev 4 m_MD_findLikely 32 [(0, .ref 65), (1, .int (v1 + 1))] [] (z4.2.1) (z4.2.2) OUT := hk
    exact EX.pick [1, 0] hk rfl
def J_MD_findLikely_108 (N : Nat) (v1 : Int32) (v2 : Int32) (hi : HI) (hl : HL) : Option ((Int32 × HI × HL) ⊕ (HI × HL)) :=
  some (.inl (v2 + 1, hi, hl))
set_option maxRecDepth 10000 in
set_option maxHeartbeats 4000000 in
theorem bJ_MD_findLikely_108 (ev : EV) {N : Nat} {v1 : Int32} {v2 : Int32} {hi : HI} {hl : HL} {z : (Int32 × HI × HL) ⊕ (HI × HL)} {OUT : Option Value × HI × HL} (h : J_MD_findLikely_108 N v1 v2 hi hl = some z) (hk : Sum.elim (fun s => EX w0 ev 4 m_MD_findLikely 83 [(0, .ref 65), (1, .int (v1)), (2, .int (s.1))] [] (s.2.1) (s.2.2) OUT) (fun x => EX w0 ev 4 m_MD_findLikely 114 [(0, .ref 65), (1, .int (v1))] [] (x.1) (x.2) OUT) z) : EX w0 ev 4 m_MD_findLikely 108 [(0, .ref 65), (1, .int (v1)), (2, .int (v2))] [] (hi) (hl) OUT := by
  unfold J_MD_findLikely_108 at h
  refine EX.iinc (x := v2) (v := v2 + 1) (req1 := [(2, .int (v2 + 1)), (0, .ref 65), (1, .int (v1))]) rfl rfl (List.mem_of_getElem? (i := 2) rfl) rfl rfl ?_
  refine EX.go (i := .goto (-28)) (len := 3) (pc1 := 83) (st1 := []) (hi1 := hi) (hl1 := hl) rfl ?_ (fun _ _ _ => rfl)
  obtain rfl := Option.some.inj h
  have hk : EX w0 ev 4 m_MD_findLikely 83 [(0, .ref 65), (1, .int (v1)), (2, .int (v2 + 1))] [] (hi) (hl) OUT := hk
  exact EX.pick [1, 2, 0] hk rfl
def B_MD_findLikely_83 (N : Nat) (v1 : Int32) (v2 : Int32) (hi : HI) (hl : HL) : Option ((Int32 × HI × HL) ⊕ (HI × HL)) :=
  if (((2 : Int32) * (hi 65 2)) : Int32) ≤ (v2 : Int32) then some (.inr (hi, hl)) else if (((v1 : Int32) / (2)) : Int32) = (((v2 : Int32) / (2)) : Int32) then J_MD_findLikely_108 N (v1) (v2) (hi) (hl) else (f_MD_tries N (v1) (v2) (hi) (hl)).bind fun z10 => J_MD_findLikely_108 N (v1) (v2) (z10.2.1) (z10.2.2)
set_option maxRecDepth 10000 in
set_option maxHeartbeats 4000000 in
theorem bB_MD_findLikely_83 (ev : EV) {N : Nat} {v1 : Int32} {v2 : Int32} {hi : HI} {hl : HL} {z : (Int32 × HI × HL) ⊕ (HI × HL)} {OUT : Option Value × HI × HL} (h : B_MD_findLikely_83 N v1 v2 hi hl = some z) (hk : Sum.elim (fun s => EX w0 ev 4 m_MD_findLikely 83 [(0, .ref 65), (1, .int (v1)), (2, .int (s.1))] [] (s.2.1) (s.2.2) OUT) (fun x => EX w0 ev 4 m_MD_findLikely 114 [(0, .ref 65), (1, .int (v1))] [] (x.1) (x.2) OUT) z) : EX w0 ev 4 m_MD_findLikely 83 [(0, .ref 65), (1, .int (v1)), (2, .int (v2))] [] (hi) (hl) OUT := by
  unfold B_MD_findLikely_83 at h
  refine EX.iload_n (x := v2) rfl (List.mem_of_getElem? (i := 2) rfl) ?_
  refine EX.iconst (v := 2) rfl rfl ?_
  refine EX.aload_n (x := 65) rfl (List.mem_of_getElem? (i := 0) rfl) ?_
  refine EX.go (i := .getfield 116) (len := 3) (pc1 := 89) (st1 := [.int (hi 65 2), .int (2), .int (v2)]) (hi1 := hi) (hl1 := hl) rfl ?_ (fun _ _ _ => rfl)
  refine EX.go (i := .imul) (len := 1) (pc1 := 90) (st1 := [.int (((2 : Int32) * (hi 65 2))), .int (v2)]) (hi1 := hi) (hl1 := hl) rfl ?_ (fun _ _ _ => rfl)
  rcases ite_some h with ⟨c8, h⟩ | ⟨c8, h⟩
  · refine EX.go (i := .if_icmp .ge 24) (len := 3) (pc1 := 114) (st1 := []) (hi1 := hi) (hl1 := hl) rfl ?_ (fun _ _ _ => if_pos c8)
    obtain rfl := Option.some.inj h
    have hk : EX w0 ev 4 m_MD_findLikely 114 [(0, .ref 65), (1, .int (v1))] [] (hi) (hl) OUT := hk
    exact EX.pick [0, 1] hk rfl
  · refine EX.go (i := .if_icmp .ge 24) (len := 3) (pc1 := 93) (st1 := []) (hi1 := hi) (hl1 := hl) rfl ?_ (fun _ _ _ => if_neg c8)
    refine EX.iload_n (x := v1) rfl (List.mem_of_getElem? (i := 1) rfl) ?_
    refine EX.iconst (v := 2) rfl rfl ?_
    refine EX.go (i := .idiv) (len := 1) (pc1 := 96) (st1 := [.int (((v1 : Int32) / (2)))]) (hi1 := hi) (hl1 := hl) rfl ?_ (fun _ _ _ => rfl)
    refine EX.iload_n (x := v2) rfl (List.mem_of_getElem? (i := 2) rfl) ?_
    refine EX.iconst (v := 2) rfl rfl ?_
    refine EX.go (i := .idiv) (len := 1) (pc1 := 99) (st1 := [.int (((v2 : Int32) / (2))), .int (((v1 : Int32) / (2)))]) (hi1 := hi) (hl1 := hl) rfl ?_ (fun _ _ _ => rfl)
    rcases ite_some h with ⟨c9, h⟩ | ⟨c9, h⟩
    · refine EX.go (i := .if_icmp .eq 9) (len := 3) (pc1 := 108) (st1 := []) (hi1 := hi) (hl1 := hl) rfl ?_ (fun _ _ _ => if_pos c9)
      refine EX.pick [0, 1, 2] ?_ rfl
      exact bJ_MD_findLikely_108 ev h hk
    · refine EX.go (i := .if_icmp .eq 9) (len := 3) (pc1 := 102) (st1 := []) (hi1 := hi) (hl1 := hl) rfl ?_ (fun _ _ _ => if_neg c9)
      refine EX.aload_n (x := 65) rfl (List.mem_of_getElem? (i := 0) rfl) ?_
      refine EX.iload_n (x := v1) rfl (List.mem_of_getElem? (i := 1) rfl) ?_
      refine EX.iload_n (x := v2) rfl (List.mem_of_getElem? (i := 2) rfl) ?_
      obtain ⟨z10, hz10, h⟩ := bnd_some h
      refine EX.callV (b := 65) (as := [.int (v1), .int (v2)]) (rest := []) (r := none) (hi1 := z10.2.1) (hl1 := z10.2.2) rfl rfl rfl rfl rfl rfl ((b_MD_tries ev hz10).mono (by decide)) ?_
      show EX w0 ev 4 m_MD_findLikely 108 [(0, .ref 65), (1, .int (v1)), (2, .int (v2))] [] (z10.2.1) (z10.2.2) OUT
      refine EX.pick [0, 1, 2] ?_ rfl
      exact bJ_MD_findLikely_108 ev h hk
def B_MD_findLikely_69 (N : Nat) (v1 : Int32) (hi : HI) (hl : HL) : Option ((Int32 × HI × HL) ⊕ (HI × HL)) :=
  if (((2 : Int32) * (hi 65 2)) : Int32) ≤ (v1 : Int32) then some (.inr (hi, hl)) else (lpN (fun s => B_MD_findLikely_83 N (v1) s.1 s.2.1 s.2.2) N ((v1 + (1)), hi, hl)).bind fun x11 => some (.inl (v1 + 1, x11.1, x11.2))
set_option maxRecDepth 10000 in
set_option maxHeartbeats 4000000 in
theorem bB_MD_findLikely_69 (ev : EV) {N : Nat} {v1 : Int32} {hi : HI} {hl : HL} {z : (Int32 × HI × HL) ⊕ (HI × HL)} {OUT : Option Value × HI × HL} (h : B_MD_findLikely_69 N v1 hi hl = some z) (hk : Sum.elim (fun s => EX w0 ev 4 m_MD_findLikely 69 [(0, .ref 65), (1, .int (s.1))] [] (s.2.1) (s.2.2) OUT) (fun x => EX w0 ev 4 m_MD_findLikely 120 [] [] (x.1) (x.2) OUT) z) : EX w0 ev 4 m_MD_findLikely 69 [(0, .ref 65), (1, .int (v1))] [] (hi) (hl) OUT := by
  unfold B_MD_findLikely_69 at h
  refine EX.iload_n (x := v1) rfl (List.mem_of_getElem? (i := 1) rfl) ?_
  refine EX.iconst (v := 2) rfl rfl ?_
  refine EX.aload_n (x := 65) rfl (List.mem_of_getElem? (i := 0) rfl) ?_
  refine EX.go (i := .getfield 116) (len := 3) (pc1 := 75) (st1 := [.int (hi 65 2), .int (2), .int (v1)]) (hi1 := hi) (hl1 := hl) rfl ?_ (fun _ _ _ => rfl)
  refine EX.go (i := .imul) (len := 1) (pc1 := 76) (st1 := [.int (((2 : Int32) * (hi 65 2))), .int (v1)]) (hi1 := hi) (hl1 := hl) rfl ?_ (fun _ _ _ => rfl)
  rcases ite_some h with ⟨c7, h⟩ | ⟨c7, h⟩
  · refine EX.go (i := .if_icmp .ge 44) (len := 3) (pc1 := 120) (st1 := []) (hi1 := hi) (hl1 := hl) rfl ?_ (fun _ _ _ => if_pos c7)
    obtain rfl := Option.some.inj h
    have hk : EX w0 ev 4 m_MD_findLikely 120 [] [] (hi) (hl) OUT := hk
    exact EX.pick [] hk rfl
  · refine EX.go (i := .if_icmp .ge 44) (len := 3) (pc1 := 79) (st1 := []) (hi1 := hi) (hl1 := hl) rfl ?_ (fun _ _ _ => if_neg c7)
    refine EX.iload_n (x := v1) rfl (List.mem_of_getElem? (i := 1) rfl) ?_
    refine EX.iconst (v := 1) rfl rfl ?_
    refine EX.go (i := .iadd) (len := 1) (pc1 := 82) (st1 := [.int ((v1 + (1)))]) (hi1 := hi) (hl1 := hl) rfl ?_ (fun _ _ _ => rfl)
    refine EX.istore_n (req1 := [(2, .int ((v1 + (1)))), (0, .ref 65), (1, .int (v1))]) rfl rfl rfl ?_
    obtain ⟨x11, hx11, h⟩ := bnd_some h
    refine EX.pick [1, 2, 0] ?_ rfl
    refine lp_sound (f := fun s => B_MD_findLikely_83 N (v1) s.1 s.2.1 s.2.2) (PS := fun s => EX w0 ev 4 m_MD_findLikely 83 [(0, .ref 65), (1, .int (v1)), (2, .int (s.1))] [] (s.2.1) (s.2.2) OUT) (PX := fun x => EX w0 ev 4 m_MD_findLikely 114 [(0, .ref 65), (1, .int (v1))] [] (x.1) (x.2) OUT) ?_ N _ x11 hx11 ?_
    · exact fun s z hz hk => bB_MD_findLikely_83 ev hz hk
    show EX w0 ev 4 m_MD_findLikely 114 [(0, .ref 65), (1, .int (v1))] [] (x11.1) (x11.2) OUT
    refine EX.iinc (x := v1) (v := v1 + 1) (req1 := [(1, .int (v1 + 1)), (0, .ref 65)]) rfl rfl (List.mem_of_getElem? (i := 1) rfl) rfl rfl ?_
    refine EX.go (i := .goto (-48)) (len := 3) (pc1 := 69) (st1 := []) (hi1 := x11.1) (hl1 := x11.2) rfl ?_ (fun _ _ _ => rfl)
    obtain rfl := Option.some.inj h
    have hk : EX w0 ev 4 m_MD_findLikely 69 [(0, .ref 65), (1, .int (v1 + 1))] [] (x11.1) (x11.2) OUT := hk
    exact EX.pick [1, 0] hk rfl
def J_MD_findLikely_55 (N : Nat) (hi : HI) (hl : HL) : Option (Unit × HI × HL) :=
  if (hi 65 39 : Int32) = 0 then (lpN (fun s => B_MD_findLikely_69 N s.1 s.2.1 s.2.2) N (0, wr (hi) 65 40 (2), hl)).bind fun x12 => some ((), x12.1, x12.2) else some ((), hi, hl)
set_option maxRecDepth 10000 in
set_option maxHeartbeats 4000000 in
theorem bJ_MD_findLikely_55 (ev : EV) {N : Nat} {hi : HI} {hl : HL} {o : Unit × HI × HL} (h : J_MD_findLikely_55 N hi hl = some o) : EX w0 ev 4 m_MD_findLikely 55 [(0, .ref 65)] [] (hi) (hl) (oV o) := by
  unfold J_MD_findLikely_55 at h
  refine EX.aload_n (x := 65) rfl (List.mem_of_getElem? (i := 0) rfl) ?_
  refine EX.go (i := .getfield 303) (len := 3) (pc1 := 59) (st1 := [.int (hi 65 39)]) (hi1 := hi) (hl1 := hl) rfl ?_ (fun _ _ _ => rfl)
  rcases ite_some h with ⟨c6, h⟩ | ⟨c6, h⟩
  · refine EX.go (i := .ifCond .ne 61) (len := 3) (pc1 := 62) (st1 := []) (hi1 := hi) (hl1 := hl) rfl ?_ (fun _ _ _ => if_pos c6)
    refine EX.aload_n (x := 65) rfl (List.mem_of_getElem? (i := 0) rfl) ?_
    refine EX.iconst (v := 2) rfl rfl ?_
    refine EX.go (i := .putfield 306) (len := 3) (pc1 := 67) (st1 := []) (hi1 := wr (hi) 65 40 (2)) (hl1 := hl) rfl ?_ (fun _ _ _ => rfl)
    refine EX.iconst (v := 0) rfl rfl ?_
    refine EX.istore_n (req1 := [(1, .int (0)), (0, .ref 65)]) rfl rfl rfl ?_
    obtain ⟨x12, hx12, h⟩ := bnd_some h
    refine EX.pick [1, 0] ?_ rfl
    refine lp_sound (f := fun s => B_MD_findLikely_69 N s.1 s.2.1 s.2.2) (PS := fun s => EX w0 ev 4 m_MD_findLikely 69 [(0, .ref 65), (1, .int (s.1))] [] (s.2.1) (s.2.2) (oV o)) (PX := fun x => EX w0 ev 4 m_MD_findLikely 120 [] [] (x.1) (x.2) (oV o)) ?_ N _ x12 hx12 ?_
    · exact fun s z hz hk => bB_MD_findLikely_69 ev hz hk
    show EX w0 ev 4 m_MD_findLikely 120 [] [] (x12.1) (x12.2) (oV o)
    obtain rfl := Option.some.inj h
    exact EX.vret rfl rfl
  · refine EX.go (i := .ifCond .ne 61) (len := 3) (pc1 := 120) (st1 := []) (hi1 := hi) (hl1 := hl) rfl ?_ (fun _ _ _ => if_neg c6)
    obtain rfl := Option.some.inj h
    exact EX.vret rfl rfl
def f_MD_findLikely (N : Nat) (hi : HI) (hl : HL) : Option (Unit × HI × HL) :=
  (f_MD_tries N ((-4)) ((-4)) (wr (wr (hi) 65 39 (0)) 65 40 (0)) (hl)).bind fun z1 => if (z1.2.1 65 39 : Int32) = 0 then (lpN (fun s => B_MD_findLikely_32 N s.1 s.2.1 s.2.2) N (0, wr (z1.2.1) 65 40 (1), z1.2.2)).bind fun x5 => J_MD_findLikely_55 N (x5.1) (x5.2) else J_MD_findLikely_55 N (z1.2.1) (z1.2.2)
set_option maxRecDepth 10000 in
set_option maxHeartbeats 4000000 in
theorem b_MD_findLikely (ev : EV) {N : Nat} {hi : HI} {hl : HL} {o : Unit × HI × HL} (h : f_MD_findLikely N hi hl = some o) : EM w0 ev 5 m_MD_findLikely [.ref 65] hi hl (oV o) := by
  unfold f_MD_findLikely at h
  refine EM.of rfl ?_
  show EX w0 ev 4 m_MD_findLikely 0 [(0, .ref 65)] [] (hi) (hl) (oV o)
  refine EX.aload_n (x := 65) rfl (List.mem_of_getElem? (i := 0) rfl) ?_
  refine EX.iconst (v := 0) rfl rfl ?_
  refine EX.go (i := .putfield 303) (len := 3) (pc1 := 5) (st1 := []) (hi1 := wr (hi) 65 39 (0)) (hl1 := hl) rfl ?_ (fun _ _ _ => rfl)
  refine EX.aload_n (x := 65) rfl (List.mem_of_getElem? (i := 0) rfl) ?_
  refine EX.iconst (v := 0) rfl rfl ?_
  refine EX.go (i := .putfield 306) (len := 3) (pc1 := 10) (st1 := []) (hi1 := wr (wr (hi) 65 39 (0)) 65 40 (0)) (hl1 := hl) rfl ?_ (fun _ _ _ => rfl)
  refine EX.aload_n (x := 65) rfl (List.mem_of_getElem? (i := 0) rfl) ?_
  refine EX.bipush (v := (-4)) rfl rfl ?_
  refine EX.bipush (v := (-4)) rfl rfl ?_
  obtain ⟨z1, hz1, h⟩ := bnd_some h
  refine EX.callV (b := 65) (as := [.int ((-4)), .int ((-4))]) (rest := []) (r := none) (hi1 := z1.2.1) (hl1 := z1.2.2) rfl rfl rfl rfl rfl rfl ((b_MD_tries ev hz1).mono (by decide)) ?_
  show EX w0 ev 4 m_MD_findLikely 18 [(0, .ref 65)] [] (z1.2.1) (z1.2.2) (oV o)
  refine EX.aload_n (x := 65) rfl (List.mem_of_getElem? (i := 0) rfl) ?_
  refine EX.go (i := .getfield 303) (len := 3) (pc1 := 22) (st1 := [.int (z1.2.1 65 39)]) (hi1 := z1.2.1) (hl1 := z1.2.2) rfl ?_ (fun _ _ _ => rfl)
  rcases ite_some h with ⟨c2, h⟩ | ⟨c2, h⟩
  · refine EX.go (i := .ifCond .ne 33) (len := 3) (pc1 := 25) (st1 := []) (hi1 := z1.2.1) (hl1 := z1.2.2) rfl ?_ (fun _ _ _ => if_pos c2)
    refine EX.aload_n (x := 65) rfl (List.mem_of_getElem? (i := 0) rfl) ?_
    refine EX.iconst (v := 1) rfl rfl ?_
    refine EX.go (i := .putfield 306) (len := 3) (pc1 := 30) (st1 := []) (hi1 := wr (z1.2.1) 65 40 (1)) (hl1 := z1.2.2) rfl ?_ (fun _ _ _ => rfl)
    refine EX.iconst (v := 0) rfl rfl ?_
    refine EX.istore_n (req1 := [(1, .int (0)), (0, .ref 65)]) rfl rfl rfl ?_
    obtain ⟨x5, hx5, h⟩ := bnd_some h
    refine EX.pick [1, 0] ?_ rfl
    refine lp_sound (f := fun s => B_MD_findLikely_32 N s.1 s.2.1 s.2.2) (PS := fun s => EX w0 ev 4 m_MD_findLikely 32 [(0, .ref 65), (1, .int (s.1))] [] (s.2.1) (s.2.2) (oV o)) (PX := fun x => EX w0 ev 4 m_MD_findLikely 55 [(0, .ref 65)] [] (x.1) (x.2) (oV o)) ?_ N _ x5 hx5 ?_
    · exact fun s z hz hk => bB_MD_findLikely_32 ev hz hk
    show EX w0 ev 4 m_MD_findLikely 55 [(0, .ref 65)] [] (x5.1) (x5.2) (oV o)
    refine EX.pick [0] ?_ rfl
    exact bJ_MD_findLikely_55 ev h
  · refine EX.go (i := .ifCond .ne 33) (len := 3) (pc1 := 55) (st1 := []) (hi1 := z1.2.1) (hl1 := z1.2.2) rfl ?_ (fun _ _ _ => if_neg c2)
    refine EX.pick [0] ?_ rfl
    exact bJ_MD_findLikely_55 ev h
