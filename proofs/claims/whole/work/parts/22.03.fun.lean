/-! methods as functions -/
def J_Tape_tokenIs_16 (N : Nat) (hi : HI) (hl : HL) : Option (Int32 × HI × HL) :=
  some (1, hi, hl)
set_option maxRecDepth 10000 in
set_option maxHeartbeats 4000000 in
theorem bJ_Tape_tokenIs_16 (ev : EV) {N : Nat} {hi : HI} {hl : HL} {o : Int32 × HI × HL} (h : J_Tape_tokenIs_16 N hi hl = some o) : EX w0 ev 1 m_Tape_tokenIs 16 [] [] (hi) (hl) (oI o) := by
  unfold J_Tape_tokenIs_16 at h
  refine EX.iconst (v := 1) rfl rfl ?_
  refine EX.go (i := .goto 4) (len := 3) (pc1 := 21) (st1 := [.int (1)]) (hi1 := hi) (hl1 := hl) rfl ?_ (fun _ _ _ => rfl)
  obtain rfl := Option.some.inj h
  exact EX.zret rfl rfl (Or.inr rfl)
def f_Tape_tokenIs (N : Nat) (p1 : Int32) (hi : HI) (hl : HL) : Option (Int32 × HI × HL) :=
  if (hi 43 8 : Int32) = (p1 : Int32) then J_Tape_tokenIs_16 N (hi) (hl) else (f_Tape_refuse N (2) (hi) (hl)).bind fun z2 => if (z2.1 : Int32) = 0 then some (0, z2.2.1, z2.2.2) else J_Tape_tokenIs_16 N (z2.2.1) (z2.2.2)
set_option maxRecDepth 10000 in
set_option maxHeartbeats 4000000 in
theorem b_Tape_tokenIs (ev : EV) {N : Nat} {p1 : Int32} {hi : HI} {hl : HL} {o : Int32 × HI × HL} (h : f_Tape_tokenIs N p1 hi hl = some o) : EM w0 ev 2 m_Tape_tokenIs [.ref 43, .int (p1)] hi hl (oI o) := by
  unfold f_Tape_tokenIs at h
  refine EM.of rfl ?_
  show EX w0 ev 1 m_Tape_tokenIs 0 [(0, .ref 43), (1, .int (p1))] [] (hi) (hl) (oI o)
  refine EX.aload_n (x := 43) rfl (List.mem_of_getElem? (i := 0) rfl) ?_
  refine EX.go (i := .getfield 45) (len := 3) (pc1 := 4) (st1 := [.int (hi 43 8)]) (hi1 := hi) (hl1 := hl) rfl ?_ (fun _ _ _ => rfl)
  refine EX.iload_n (x := p1) rfl (List.mem_of_getElem? (i := 1) rfl) ?_
  rcases ite_some h with ⟨c1, h⟩ | ⟨c1, h⟩
  · refine EX.go (i := .if_icmp .eq 11) (len := 3) (pc1 := 16) (st1 := []) (hi1 := hi) (hl1 := hl) rfl ?_ (fun _ _ _ => if_pos c1)
    refine EX.pick [] ?_ rfl
    exact bJ_Tape_tokenIs_16 ev h
  · refine EX.go (i := .if_icmp .eq 11) (len := 3) (pc1 := 8) (st1 := []) (hi1 := hi) (hl1 := hl) rfl ?_ (fun _ _ _ => if_neg c1)
    refine EX.aload_n (x := 43) rfl (List.mem_of_getElem? (i := 0) rfl) ?_
    refine EX.iconst (v := 2) rfl rfl ?_
    obtain ⟨z2, hz2, h⟩ := bnd_some h
    refine EX.callV (b := 43) (as := [.int (2)]) (rest := []) (r := some (.int (z2.1))) (hi1 := z2.2.1) (hl1 := z2.2.2) rfl rfl rfl rfl rfl rfl ((b_Tape_refuse ev hz2).mono (by decide)) ?_
    show EX w0 ev 1 m_Tape_tokenIs 13 [(0, .ref 43), (1, .int (p1))] [.int (z2.1)] (z2.2.1) (z2.2.2) (oI o)
    rcases ite_some h with ⟨c3, h⟩ | ⟨c3, h⟩
    · refine EX.go (i := .ifCond .eq 7) (len := 3) (pc1 := 20) (st1 := []) (hi1 := z2.2.1) (hl1 := z2.2.2) rfl ?_ (fun _ _ _ => if_pos c3)
      refine EX.iconst (v := 0) rfl rfl ?_
      obtain rfl := Option.some.inj h
      exact EX.zret rfl rfl (Or.inl rfl)
    · refine EX.go (i := .ifCond .eq 7) (len := 3) (pc1 := 16) (st1 := []) (hi1 := z2.2.1) (hl1 := z2.2.2) rfl ?_ (fun _ _ _ => if_neg c3)
      refine EX.pick [] ?_ rfl
      exact bJ_Tape_tokenIs_16 ev h
def f_Tape_takeWire (N : Nat) (p1 : Int32) (hi : HI) (hl : HL) : Option (Int32 × HI × HL) :=
  if (hi 43 11 : Int32) < (hi 43 7 : Int32) then if (((((hi 43 12 : Int32) >>> ((hi 43 11) &&& 31)) : Int32) &&& (1)) : Int32) = 0 then if ((wr (hi) 43 12 (((hi 43 12 : Int32) ||| (((1 : Int32) <<< ((hi 43 11) &&& 31)))))) 43 11 : Int32) < 0 ∨ 7 ≤ Int32.toNatClampNeg ((wr (hi) 43 12 (((hi 43 12 : Int32) ||| (((1 : Int32) <<< ((hi 43 11) &&& 31)))))) 43 11) then none else some (1, wr (wr (hi) 43 12 (((hi 43 12 : Int32) ||| (((1 : Int32) <<< ((hi 43 11) &&& 31)))))) 43 13 ((((wr (hi) 43 12 (((hi 43 12 : Int32) ||| (((1 : Int32) <<< ((hi 43 11) &&& 31)))))) 43 13 : Int32) + ((p1 * ((powT.getD ((wr (hi) 43 12 (((hi 43 12 : Int32) ||| (((1 : Int32) <<< ((hi 43 11) &&& 31)))))) 43 11).toNatClampNeg 0)))))), hl) else (f_Tape_refuse N (4) (hi) (hl)).bind fun z4 => if (z4.1 : Int32) = 0 ∨ (z4.1 : Int32) = 1 then some (z4.1, z4.2.1, z4.2.2) else none else (f_Tape_refuse N (3) (hi) (hl)).bind fun z6 => if (z6.1 : Int32) = 0 ∨ (z6.1 : Int32) = 1 then some (z6.1, z6.2.1, z6.2.2) else none
set_option maxRecDepth 10000 in
set_option maxHeartbeats 4000000 in
theorem b_Tape_takeWire (ev : EV) {N : Nat} {p1 : Int32} {hi : HI} {hl : HL} {o : Int32 × HI × HL} (h : f_Tape_takeWire N p1 hi hl = some o) : EM w0 ev 2 m_Tape_takeWire [.ref 43, .int (p1)] hi hl (oI o) := by
  unfold f_Tape_takeWire at h
  refine EM.of rfl ?_
  show EX w0 ev 1 m_Tape_takeWire 0 [(0, .ref 43), (1, .int (p1))] [] (hi) (hl) (oI o)
  refine EX.aload_n (x := 43) rfl (List.mem_of_getElem? (i := 0) rfl) ?_
  refine EX.go (i := .getfield 74) (len := 3) (pc1 := 4) (st1 := [.int (hi 43 11)]) (hi1 := hi) (hl1 := hl) rfl ?_ (fun _ _ _ => rfl)
  refine EX.aload_n (x := 43) rfl (List.mem_of_getElem? (i := 0) rfl) ?_
  refine EX.go (i := .getfield 26) (len := 3) (pc1 := 8) (st1 := [.int (hi 43 7), .int (hi 43 11)]) (hi1 := hi) (hl1 := hl) rfl ?_ (fun _ _ _ => rfl)
  rcases ite_some h with ⟨c1, h⟩ | ⟨c1, h⟩
  · refine EX.go (i := .if_icmp .lt 9) (len := 3) (pc1 := 17) (st1 := []) (hi1 := hi) (hl1 := hl) rfl ?_ (fun _ _ _ => if_pos c1)
    refine EX.aload_n (x := 43) rfl (List.mem_of_getElem? (i := 0) rfl) ?_
    refine EX.go (i := .getfield 55) (len := 3) (pc1 := 21) (st1 := [.int (hi 43 12)]) (hi1 := hi) (hl1 := hl) rfl ?_ (fun _ _ _ => rfl)
    refine EX.aload_n (x := 43) rfl (List.mem_of_getElem? (i := 0) rfl) ?_
    refine EX.go (i := .getfield 74) (len := 3) (pc1 := 25) (st1 := [.int (hi 43 11), .int (hi 43 12)]) (hi1 := hi) (hl1 := hl) rfl ?_ (fun _ _ _ => rfl)
    refine EX.go (i := .ishr) (len := 1) (pc1 := 26) (st1 := [.int (((hi 43 12 : Int32) >>> ((hi 43 11) &&& 31)))]) (hi1 := hi) (hl1 := hl) rfl ?_ (fun _ _ _ => rfl)
    refine EX.iconst (v := 1) rfl rfl ?_
    refine EX.go (i := .iand) (len := 1) (pc1 := 28) (st1 := [.int (((((hi 43 12 : Int32) >>> ((hi 43 11) &&& 31)) : Int32) &&& (1)))]) (hi1 := hi) (hl1 := hl) rfl ?_ (fun _ _ _ => rfl)
    rcases ite_some h with ⟨c2, h⟩ | ⟨c2, h⟩
    · refine EX.go (i := .ifCond .eq 9) (len := 3) (pc1 := 37) (st1 := []) (hi1 := hi) (hl1 := hl) rfl ?_ (fun _ _ _ => if_pos c2)
      refine EX.aload_n (x := 43) rfl (List.mem_of_getElem? (i := 0) rfl) ?_
      refine EX.go (i := .dup) (len := 1) (pc1 := 39) (st1 := [.ref 43, .ref 43]) (hi1 := hi) (hl1 := hl) rfl ?_ (fun _ _ _ => rfl)
      refine EX.go (i := .getfield 55) (len := 3) (pc1 := 42) (st1 := [.int (hi 43 12), .ref 43]) (hi1 := hi) (hl1 := hl) rfl ?_ (fun _ _ _ => rfl)
      refine EX.iconst (v := 1) rfl rfl ?_
      refine EX.aload_n (x := 43) rfl (List.mem_of_getElem? (i := 0) rfl) ?_
      refine EX.go (i := .getfield 74) (len := 3) (pc1 := 47) (st1 := [.int (hi 43 11), .int (1), .int (hi 43 12), .ref 43]) (hi1 := hi) (hl1 := hl) rfl ?_ (fun _ _ _ => rfl)
      refine EX.go (i := .ishl) (len := 1) (pc1 := 48) (st1 := [.int (((1 : Int32) <<< ((hi 43 11) &&& 31))), .int (hi 43 12), .ref 43]) (hi1 := hi) (hl1 := hl) rfl ?_ (fun _ _ _ => rfl)
      refine EX.go (i := .ior) (len := 1) (pc1 := 49) (st1 := [.int (((hi 43 12 : Int32) ||| (((1 : Int32) <<< ((hi 43 11) &&& 31))))), .ref 43]) (hi1 := hi) (hl1 := hl) rfl ?_ (fun _ _ _ => rfl)
      refine EX.go (i := .putfield 55) (len := 3) (pc1 := 52) (st1 := []) (hi1 := wr (hi) 43 12 (((hi 43 12 : Int32) ||| (((1 : Int32) <<< ((hi 43 11) &&& 31)))))) (hl1 := hl) rfl ?_ (fun _ _ _ => rfl)
      refine EX.aload_n (x := 43) rfl (List.mem_of_getElem? (i := 0) rfl) ?_
      refine EX.go (i := .dup) (len := 1) (pc1 := 54) (st1 := [.ref 43, .ref 43]) (hi1 := wr (hi) 43 12 (((hi 43 12 : Int32) ||| (((1 : Int32) <<< ((hi 43 11) &&& 31)))))) (hl1 := hl) rfl ?_ (fun _ _ _ => rfl)
      refine EX.go (i := .getfield 58) (len := 3) (pc1 := 57) (st1 := [.int ((wr (hi) 43 12 (((hi 43 12 : Int32) ||| (((1 : Int32) <<< ((hi 43 11) &&& 31)))))) 43 13), .ref 43]) (hi1 := wr (hi) 43 12 (((hi 43 12 : Int32) ||| (((1 : Int32) <<< ((hi 43 11) &&& 31)))))) (hl1 := hl) rfl ?_ (fun _ _ _ => rfl)
      refine EX.iload_n (x := p1) rfl (List.mem_of_getElem? (i := 1) rfl) ?_
      refine EX.go (i := .getstatic 77) (len := 3) (pc1 := 61) (st1 := [.ref 1000000, .int (p1), .int ((wr (hi) 43 12 (((hi 43 12 : Int32) ||| (((1 : Int32) <<< ((hi 43 11) &&& 31)))))) 43 13), .ref 43]) (hi1 := wr (hi) 43 12 (((hi 43 12 : Int32) ||| (((1 : Int32) <<< ((hi 43 11) &&& 31)))))) (hl1 := hl) rfl ?_ (fun _ _ _ => rfl)
      refine EX.aload_n (x := 43) rfl (List.mem_of_getElem? (i := 0) rfl) ?_
      refine EX.go (i := .getfield 74) (len := 3) (pc1 := 65) (st1 := [.int ((wr (hi) 43 12 (((hi 43 12 : Int32) ||| (((1 : Int32) <<< ((hi 43 11) &&& 31)))))) 43 11), .ref 1000000, .int (p1), .int ((wr (hi) 43 12 (((hi 43 12 : Int32) ||| (((1 : Int32) <<< ((hi 43 11) &&& 31)))))) 43 13), .ref 43]) (hi1 := wr (hi) 43 12 (((hi 43 12 : Int32) ||| (((1 : Int32) <<< ((hi 43 11) &&& 31)))))) (hl1 := hl) rfl ?_ (fun _ _ _ => rfl)
      obtain ⟨g3, h⟩ := grd_some h
      refine EX.ialoadR (v := .int ((powT.getD ((wr (hi) 43 12 (((hi 43 12 : Int32) ||| (((1 : Int32) <<< ((hi 43 11) &&& 31)))))) 43 11).toNatClampNeg 0))) rfl rfl rfl g3 rfl ?_
      refine EX.go (i := .imul) (len := 1) (pc1 := 67) (st1 := [.int ((p1 * ((powT.getD ((wr (hi) 43 12 (((hi 43 12 : Int32) ||| (((1 : Int32) <<< ((hi 43 11) &&& 31)))))) 43 11).toNatClampNeg 0)))), .int ((wr (hi) 43 12 (((hi 43 12 : Int32) ||| (((1 : Int32) <<< ((hi 43 11) &&& 31)))))) 43 13), .ref 43]) (hi1 := wr (hi) 43 12 (((hi 43 12 : Int32) ||| (((1 : Int32) <<< ((hi 43 11) &&& 31)))))) (hl1 := hl) rfl ?_ (fun _ _ _ => rfl)
      refine EX.go (i := .iadd) (len := 1) (pc1 := 68) (st1 := [.int ((((wr (hi) 43 12 (((hi 43 12 : Int32) ||| (((1 : Int32) <<< ((hi 43 11) &&& 31)))))) 43 13 : Int32) + ((p1 * ((powT.getD ((wr (hi) 43 12 (((hi 43 12 : Int32) ||| (((1 : Int32) <<< ((hi 43 11) &&& 31)))))) 43 11).toNatClampNeg 0)))))), .ref 43]) (hi1 := wr (hi) 43 12 (((hi 43 12 : Int32) ||| (((1 : Int32) <<< ((hi 43 11) &&& 31)))))) (hl1 := hl) rfl ?_ (fun _ _ _ => rfl)
      refine EX.go (i := .putfield 58) (len := 3) (pc1 := 71) (st1 := []) (hi1 := wr (wr (hi) 43 12 (((hi 43 12 : Int32) ||| (((1 : Int32) <<< ((hi 43 11) &&& 31)))))) 43 13 ((((wr (hi) 43 12 (((hi 43 12 : Int32) ||| (((1 : Int32) <<< ((hi 43 11) &&& 31)))))) 43 13 : Int32) + ((p1 * ((powT.getD ((wr (hi) 43 12 (((hi 43 12 : Int32) ||| (((1 : Int32) <<< ((hi 43 11) &&& 31)))))) 43 11).toNatClampNeg 0))))))) (hl1 := hl) rfl ?_ (fun _ _ _ => rfl)
      refine EX.iconst (v := 1) rfl rfl ?_
      obtain rfl := Option.some.inj h
      exact EX.zret rfl rfl (Or.inr rfl)
    · refine EX.go (i := .ifCond .eq 9) (len := 3) (pc1 := 31) (st1 := []) (hi1 := hi) (hl1 := hl) rfl ?_ (fun _ _ _ => if_neg c2)
      refine EX.aload_n (x := 43) rfl (List.mem_of_getElem? (i := 0) rfl) ?_
      refine EX.iconst (v := 4) rfl rfl ?_
      obtain ⟨z4, hz4, h⟩ := bnd_some h
      refine EX.callV (b := 43) (as := [.int (4)]) (rest := []) (r := some (.int (z4.1))) (hi1 := z4.2.1) (hl1 := z4.2.2) rfl rfl rfl rfl rfl rfl ((b_Tape_refuse ev hz4).mono (by decide)) ?_
      show EX w0 ev 1 m_Tape_takeWire 36 [(0, .ref 43), (1, .int (p1))] [.int (z4.1)] (z4.2.1) (z4.2.2) (oI o)
      obtain ⟨g5, h⟩ := grp_some h
      obtain rfl := Option.some.inj h
      exact EX.zret rfl rfl g5
  · refine EX.go (i := .if_icmp .lt 9) (len := 3) (pc1 := 11) (st1 := []) (hi1 := hi) (hl1 := hl) rfl ?_ (fun _ _ _ => if_neg c1)
    refine EX.aload_n (x := 43) rfl (List.mem_of_getElem? (i := 0) rfl) ?_
    refine EX.iconst (v := 3) rfl rfl ?_
    obtain ⟨z6, hz6, h⟩ := bnd_some h
    refine EX.callV (b := 43) (as := [.int (3)]) (rest := []) (r := some (.int (z6.1))) (hi1 := z6.2.1) (hl1 := z6.2.2) rfl rfl rfl rfl rfl rfl ((b_Tape_refuse ev hz6).mono (by decide)) ?_
    show EX w0 ev 1 m_Tape_takeWire 16 [(0, .ref 43), (1, .int (p1))] [.int (z6.1)] (z6.2.1) (z6.2.2) (oI o)
    obtain ⟨g7, h⟩ := grp_some h
    obtain rfl := Option.some.inj h
    exact EX.zret rfl rfl g7
def B_Tape_readWires_19 (N : Nat) (v1 : Int32) (v2 : Int32) (v3 : Int32) (hi : HI) (hl : HL) : Option ((Int32 × HI × HL) ⊕ (Nat × HI × HL)) :=
  if (200 : Int32) ≤ (v3 : Int32) then some (.inr (0, hi, hl)) else if (hi 43 8 : Int32) = (1 : Int32) then (f_Tape_takeWire N (v1) (hi) (hl)).bind fun z7 => if (z7.1 : Int32) = 0 then some (.inr (1, z7.2.1, z7.2.2)) else (f_Tape_next N (z7.2.1) (z7.2.2)).bind fun z9 => if (z9.1 : Int32) = 0 then some (.inr (1, z9.2.1, z9.2.2)) else some (.inl (v3 + 1, z9.2.1, z9.2.2)) else some (.inr (0, hi, hl))
set_option maxRecDepth 10000 in
set_option maxHeartbeats 4000000 in
theorem bB_Tape_readWires_19 (ev : EV) {N : Nat} {v1 : Int32} {v2 : Int32} {v3 : Int32} {hi : HI} {hl : HL} {z : (Int32 × HI × HL) ⊕ (Nat × HI × HL)} {OUT : Option Value × HI × HL} (h : B_Tape_readWires_19 N v1 v2 v3 hi hl = some z) (hk : Sum.elim (fun s => EX w0 ev 7 m_Tape_readWires 19 [(0, .ref 43), (1, .int (v1)), (2, .int (v2)), (3, .int (s.1))] [] (s.2.1) (s.2.2) OUT) (fun x => (x.1 = 0 → EX w0 ev 7 m_Tape_readWires 57 [(0, .ref 43), (2, .int (v2))] [] (x.2.1) (x.2.2) OUT) ∧ (x.1 = 1 → EX w0 ev 7 m_Tape_readWires 49 [] [] (x.2.1) (x.2.2) OUT)) z) : EX w0 ev 7 m_Tape_readWires 19 [(0, .ref 43), (1, .int (v1)), (2, .int (v2)), (3, .int (v3))] [] (hi) (hl) OUT := by
  unfold B_Tape_readWires_19 at h
  refine EX.iload_n (x := v3) rfl (List.mem_of_getElem? (i := 3) rfl) ?_
  refine EX.sipush (v := 200) rfl rfl ?_
  rcases ite_some h with ⟨c5, h⟩ | ⟨c5, h⟩
  · refine EX.go (i := .if_icmp .ge 34) (len := 3) (pc1 := 57) (st1 := []) (hi1 := hi) (hl1 := hl) rfl ?_ (fun _ _ _ => if_pos c5)
    obtain rfl := Option.some.inj h
    have hk := hk.1 rfl
    have hk : EX w0 ev 7 m_Tape_readWires 57 [(0, .ref 43), (2, .int (v2))] [] (hi) (hl) OUT := hk
    exact EX.pick [0, 2] hk rfl
  · refine EX.go (i := .if_icmp .ge 34) (len := 3) (pc1 := 26) (st1 := []) (hi1 := hi) (hl1 := hl) rfl ?_ (fun _ _ _ => if_neg c5)
    refine EX.aload_n (x := 43) rfl (List.mem_of_getElem? (i := 0) rfl) ?_
    refine EX.go (i := .getfield 45) (len := 3) (pc1 := 30) (st1 := [.int (hi 43 8)]) (hi1 := hi) (hl1 := hl) rfl ?_ (fun _ _ _ => rfl)
    refine EX.iconst (v := 1) rfl rfl ?_
    rcases ite_some h with ⟨c6, h⟩ | ⟨c6, h⟩
    · refine EX.go (i := .if_icmp .ne 26) (len := 3) (pc1 := 34) (st1 := []) (hi1 := hi) (hl1 := hl) rfl ?_ (fun _ _ _ => if_pos c6)
      refine EX.aload_n (x := 43) rfl (List.mem_of_getElem? (i := 0) rfl) ?_
      refine EX.iload_n (x := v1) rfl (List.mem_of_getElem? (i := 1) rfl) ?_
      obtain ⟨z7, hz7, h⟩ := bnd_some h
      refine EX.callV (b := 43) (as := [.int (v1)]) (rest := []) (r := some (.int (z7.1))) (hi1 := z7.2.1) (hl1 := z7.2.2) rfl rfl rfl rfl rfl rfl ((b_Tape_takeWire ev hz7).mono (by decide)) ?_
      show EX w0 ev 7 m_Tape_readWires 39 [(0, .ref 43), (1, .int (v1)), (2, .int (v2)), (3, .int (v3))] [.int (z7.1)] (z7.2.1) (z7.2.2) OUT
      rcases ite_some h with ⟨c8, h⟩ | ⟨c8, h⟩
      · refine EX.go (i := .ifCond .eq 10) (len := 3) (pc1 := 49) (st1 := []) (hi1 := z7.2.1) (hl1 := z7.2.2) rfl ?_ (fun _ _ _ => if_pos c8)
        obtain rfl := Option.some.inj h
        have hk := hk.2 rfl
        have hk : EX w0 ev 7 m_Tape_readWires 49 [] [] (z7.2.1) (z7.2.2) OUT := hk
        exact EX.pick [] hk rfl
      · refine EX.go (i := .ifCond .eq 10) (len := 3) (pc1 := 42) (st1 := []) (hi1 := z7.2.1) (hl1 := z7.2.2) rfl ?_ (fun _ _ _ => if_neg c8)
        refine EX.aload_n (x := 43) rfl (List.mem_of_getElem? (i := 0) rfl) ?_
        obtain ⟨z9, hz9, h⟩ := bnd_some h
        refine EX.callV (b := 43) (as := []) (rest := []) (r := some (.int (z9.1))) (hi1 := z9.2.1) (hl1 := z9.2.2) rfl rfl rfl rfl rfl rfl ((b_Tape_next ev hz9).mono (by decide)) ?_
        show EX w0 ev 7 m_Tape_readWires 46 [(0, .ref 43), (1, .int (v1)), (2, .int (v2)), (3, .int (v3))] [.int (z9.1)] (z9.2.1) (z9.2.2) OUT
        rcases ite_some h with ⟨c10, h⟩ | ⟨c10, h⟩
        · refine EX.go (i := .ifCond .ne 5) (len := 3) (pc1 := 49) (st1 := []) (hi1 := z9.2.1) (hl1 := z9.2.2) rfl ?_ (fun _ _ _ => if_pos c10)
          obtain rfl := Option.some.inj h
          have hk := hk.2 rfl
          have hk : EX w0 ev 7 m_Tape_readWires 49 [] [] (z9.2.1) (z9.2.2) OUT := hk
          exact EX.pick [] hk rfl
        · refine EX.go (i := .ifCond .ne 5) (len := 3) (pc1 := 51) (st1 := []) (hi1 := z9.2.1) (hl1 := z9.2.2) rfl ?_ (fun _ _ _ => if_neg c10)
          refine EX.iinc (x := v3) (v := v3 + 1) (req1 := [(3, .int (v3 + 1)), (0, .ref 43), (1, .int (v1)), (2, .int (v2))]) rfl rfl (List.mem_of_getElem? (i := 3) rfl) rfl rfl ?_
          refine EX.go (i := .goto (-35)) (len := 3) (pc1 := 19) (st1 := []) (hi1 := z9.2.1) (hl1 := z9.2.2) rfl ?_ (fun _ _ _ => rfl)
          obtain rfl := Option.some.inj h
          have hk : EX w0 ev 7 m_Tape_readWires 19 [(0, .ref 43), (1, .int (v1)), (2, .int (v2)), (3, .int (v3 + 1))] [] (z9.2.1) (z9.2.2) OUT := hk
          exact EX.pick [1, 2, 3, 0] hk rfl
    · refine EX.go (i := .if_icmp .ne 26) (len := 3) (pc1 := 57) (st1 := []) (hi1 := hi) (hl1 := hl) rfl ?_ (fun _ _ _ => if_neg c6)
      obtain rfl := Option.some.inj h
      have hk := hk.1 rfl
      have hk : EX w0 ev 7 m_Tape_readWires 57 [(0, .ref 43), (2, .int (v2))] [] (hi) (hl) OUT := hk
      exact EX.pick [0, 2] hk rfl
def J_Tape_readWires_57 (N : Nat) (v2 : Int32) (hi : HI) (hl : HL) : Option (Int32 × HI × HL) :=
  (f_Tape_tokenIs N (v2) (hi) (hl)).bind fun z13 => if (z13.1 : Int32) = 0 ∨ (z13.1 : Int32) = 1 then some (z13.1, z13.2.1, z13.2.2) else none
set_option maxRecDepth 10000 in
set_option maxHeartbeats 4000000 in
theorem bJ_Tape_readWires_57 (ev : EV) {N : Nat} {v2 : Int32} {hi : HI} {hl : HL} {o : Int32 × HI × HL} (h : J_Tape_readWires_57 N v2 hi hl = some o) : EX w0 ev 7 m_Tape_readWires 57 [(0, .ref 43), (2, .int (v2))] [] (hi) (hl) (oI o) := by
  unfold J_Tape_readWires_57 at h
  refine EX.aload_n (x := 43) rfl (List.mem_of_getElem? (i := 0) rfl) ?_
  refine EX.iload_n (x := v2) rfl (List.mem_of_getElem? (i := 1) rfl) ?_
  obtain ⟨z13, hz13, h⟩ := bnd_some h
  refine EX.callV (b := 43) (as := [.int (v2)]) (rest := []) (r := some (.int (z13.1))) (hi1 := z13.2.1) (hl1 := z13.2.2) rfl rfl rfl rfl rfl rfl ((b_Tape_tokenIs ev hz13).mono (by decide)) ?_
  show EX w0 ev 7 m_Tape_readWires 62 [(0, .ref 43), (2, .int (v2))] [.int (z13.1)] (z13.2.1) (z13.2.2) (oI o)
  obtain ⟨g14, h⟩ := grp_some h
  obtain rfl := Option.some.inj h
  exact EX.zret rfl rfl g14
def f_Tape_readWires (N : Nat) (p1 : Int32) (p2 : Int32) (hi : HI) (hl : HL) : Option (Int32 × HI × HL) :=
  (f_Tape_next N (hi) (hl)).bind fun z1 => if (z1.1 : Int32) = 0 then some (0, z1.2.1, z1.2.2) else (f_Tape_tokenIs N (1) (z1.2.1) (z1.2.2)).bind fun z3 => if (z3.1 : Int32) = 0 then some (0, z3.2.1, z3.2.2) else (lpN (fun s => B_Tape_readWires_19 N (p1) (p2) s.1 s.2.1 s.2.2) N (0, z3.2.1, z3.2.2)).bind fun x11 => if x11.1 = 0 then J_Tape_readWires_57 N (p2) (x11.2.1) (x11.2.2) else some (0, x11.2.1, x11.2.2)
set_option maxRecDepth 10000 in
set_option maxHeartbeats 4000000 in
theorem b_Tape_readWires (ev : EV) {N : Nat} {p1 : Int32} {p2 : Int32} {hi : HI} {hl : HL} {o : Int32 × HI × HL} (h : f_Tape_readWires N p1 p2 hi hl = some o) : EM w0 ev 8 m_Tape_readWires [.ref 43, .int (p1), .int (p2)] hi hl (oI o) := by
  unfold f_Tape_readWires at h
  refine EM.of rfl ?_
  show EX w0 ev 7 m_Tape_readWires 0 [(0, .ref 43), (1, .int (p1)), (2, .int (p2))] [] (hi) (hl) (oI o)
  refine EX.aload_n (x := 43) rfl (List.mem_of_getElem? (i := 0) rfl) ?_
  obtain ⟨z1, hz1, h⟩ := bnd_some h
  refine EX.callV (b := 43) (as := []) (rest := []) (r := some (.int (z1.1))) (hi1 := z1.2.1) (hl1 := z1.2.2) rfl rfl rfl rfl rfl rfl ((b_Tape_next ev hz1).mono (by decide)) ?_
  show EX w0 ev 7 m_Tape_readWires 4 [(0, .ref 43), (1, .int (p1)), (2, .int (p2))] [.int (z1.1)] (z1.2.1) (z1.2.2) (oI o)
  rcases ite_some h with ⟨c2, h⟩ | ⟨c2, h⟩
  · refine EX.go (i := .ifCond .eq 11) (len := 3) (pc1 := 15) (st1 := []) (hi1 := z1.2.1) (hl1 := z1.2.2) rfl ?_ (fun _ _ _ => if_pos c2)
    refine EX.iconst (v := 0) rfl rfl ?_
    obtain rfl := Option.some.inj h
    exact EX.zret rfl rfl (Or.inl rfl)
  · refine EX.go (i := .ifCond .eq 11) (len := 3) (pc1 := 7) (st1 := []) (hi1 := z1.2.1) (hl1 := z1.2.2) rfl ?_ (fun _ _ _ => if_neg c2)
    refine EX.aload_n (x := 43) rfl (List.mem_of_getElem? (i := 0) rfl) ?_
    refine EX.iconst (v := 1) rfl rfl ?_
    obtain ⟨z3, hz3, h⟩ := bnd_some h
    refine EX.callV (b := 43) (as := [.int (1)]) (rest := []) (r := some (.int (z3.1))) (hi1 := z3.2.1) (hl1 := z3.2.2) rfl rfl rfl rfl rfl rfl ((b_Tape_tokenIs ev hz3).mono (by decide)) ?_
    show EX w0 ev 7 m_Tape_readWires 12 [(0, .ref 43), (1, .int (p1)), (2, .int (p2))] [.int (z3.1)] (z3.2.1) (z3.2.2) (oI o)
    rcases ite_some h with ⟨c4, h⟩ | ⟨c4, h⟩
    · refine EX.go (i := .ifCond .ne 5) (len := 3) (pc1 := 15) (st1 := []) (hi1 := z3.2.1) (hl1 := z3.2.2) rfl ?_ (fun _ _ _ => if_pos c4)
      refine EX.iconst (v := 0) rfl rfl ?_
      obtain rfl := Option.some.inj h
      exact EX.zret rfl rfl (Or.inl rfl)
    · refine EX.go (i := .ifCond .ne 5) (len := 3) (pc1 := 17) (st1 := []) (hi1 := z3.2.1) (hl1 := z3.2.2) rfl ?_ (fun _ _ _ => if_neg c4)
      refine EX.iconst (v := 0) rfl rfl ?_
      refine EX.istore_n (req1 := [(3, .int (0)), (0, .ref 43), (1, .int (p1)), (2, .int (p2))]) rfl rfl rfl ?_
      obtain ⟨x11, hx11, h⟩ := bnd_some h
      refine EX.pick [1, 2, 3, 0] ?_ rfl
      refine lp_sound (f := fun s => B_Tape_readWires_19 N (p1) (p2) s.1 s.2.1 s.2.2) (PS := fun s => EX w0 ev 7 m_Tape_readWires 19 [(0, .ref 43), (1, .int (p1)), (2, .int (p2)), (3, .int (s.1))] [] (s.2.1) (s.2.2) (oI o)) (PX := fun x => (x.1 = 0 → EX w0 ev 7 m_Tape_readWires 57 [(0, .ref 43), (2, .int (p2))] [] (x.2.1) (x.2.2) (oI o)) ∧ (x.1 = 1 → EX w0 ev 7 m_Tape_readWires 49 [] [] (x.2.1) (x.2.2) (oI o))) ?_ N _ x11 hx11 ?_
      · exact fun s z hz hk => bB_Tape_readWires_19 ev hz hk
      rcases ite_some h with ⟨c12, h⟩ | ⟨c12, h⟩
      · refine ⟨fun _ => ?_, fun e9 => absurd (c12.symm.trans e9) (by decide)⟩
        show EX w0 ev 7 m_Tape_readWires 57 [(0, .ref 43), (2, .int (p2))] [] (x11.2.1) (x11.2.2) (oI o)
        refine EX.pick [0, 1] ?_ rfl
        exact bJ_Tape_readWires_57 ev h
      · refine ⟨fun e9 => absurd e9 c12, fun _ => ?_⟩
        show EX w0 ev 7 m_Tape_readWires 49 [] [] (x11.2.1) (x11.2.2) (oI o)
        refine EX.iconst (v := 0) rfl rfl ?_
        obtain rfl := Option.some.inj h
        exact EX.zret rfl rfl (Or.inl rfl)
def J_Tape_readTicks_34 (N : Nat) (hi : HI) (hl : HL) : Option (Int32 × HI × HL) :=
  (f_Tape_refuse N (3) (hi) (hl)).bind fun z6 => if (z6.1 : Int32) = 0 ∨ (z6.1 : Int32) = 1 then some (z6.1, z6.2.1, z6.2.2) else none
set_option maxRecDepth 10000 in
set_option maxHeartbeats 4000000 in
theorem bJ_Tape_readTicks_34 (ev : EV) {N : Nat} {hi : HI} {hl : HL} {o : Int32 × HI × HL} (h : J_Tape_readTicks_34 N hi hl = some o) : EX w0 ev 7 m_Tape_readTicks 34 [(0, .ref 43)] [] (hi) (hl) (oI o) := by
  unfold J_Tape_readTicks_34 at h
  refine EX.aload_n (x := 43) rfl (List.mem_of_getElem? (i := 0) rfl) ?_
  refine EX.iconst (v := 3) rfl rfl ?_
  obtain ⟨z6, hz6, h⟩ := bnd_some h
  refine EX.callV (b := 43) (as := [.int (3)]) (rest := []) (r := some (.int (z6.1))) (hi1 := z6.2.1) (hl1 := z6.2.2) rfl rfl rfl rfl rfl rfl ((b_Tape_refuse ev hz6).mono (by decide)) ?_
  show EX w0 ev 7 m_Tape_readTicks 39 [(0, .ref 43)] [.int (z6.1)] (z6.2.1) (z6.2.2) (oI o)
  obtain ⟨g7, h⟩ := grp_some h
  obtain rfl := Option.some.inj h
  exact EX.zret rfl rfl g7
def f_Tape_readTicks (N : Nat) (hi : HI) (hl : HL) : Option (Int32 × HI × HL) :=
  (f_Tape_next N (hi) (hl)).bind fun z1 => if (z1.1 : Int32) = 0 then some (0, z1.2.1, z1.2.2) else (f_Tape_tokenIs N (1) (z1.2.1) (z1.2.2)).bind fun z3 => if (z3.1 : Int32) = 0 then some (0, z3.2.1, z3.2.2) else if (z3.2.1 43 11 : Int32) < (1 : Int32) then J_Tape_readTicks_34 N (z3.2.1) (z3.2.2) else if (z3.2.1 43 11 : Int32) ≤ (60 : Int32) then if (z3.2.1 43 3 : Int32) < 0 ∨ 12 ≤ Int32.toNatClampNeg (z3.2.1 43 3) then none else if ((wr (z3.2.1) 44 (Int32.toNatClampNeg (z3.2.1 43 3)) (z3.2.1 43 13)) 43 3 : Int32) < 0 ∨ 12 ≤ Int32.toNatClampNeg ((wr (z3.2.1) 44 (Int32.toNatClampNeg (z3.2.1 43 3)) (z3.2.1 43 13)) 43 3) then none else (f_Tape_next N (wr (wr (z3.2.1) 44 (Int32.toNatClampNeg (z3.2.1 43 3)) (z3.2.1 43 13)) 45 (Int32.toNatClampNeg ((wr (z3.2.1) 44 (Int32.toNatClampNeg (z3.2.1 43 3)) (z3.2.1 43 13)) 43 3)) ((wr (z3.2.1) 44 (Int32.toNatClampNeg (z3.2.1 43 3)) (z3.2.1 43 13)) 43 11)) (z3.2.2)).bind fun z11 => if (z11.1 : Int32) = 0 then some (0, z11.2.1, z11.2.2) else (f_Tape_tokenIs N (2) (z11.2.1) (z11.2.2)).bind fun z13 => if (z13.1 : Int32) = 0 then some (0, z13.2.1, z13.2.2) else some (1, wr (z13.2.1) 43 3 (((z13.2.1 43 3 : Int32) + (1))), z13.2.2) else J_Tape_readTicks_34 N (z3.2.1) (z3.2.2)
set_option maxRecDepth 10000 in
set_option maxHeartbeats 4000000 in
theorem b_Tape_readTicks (ev : EV) {N : Nat} {hi : HI} {hl : HL} {o : Int32 × HI × HL} (h : f_Tape_readTicks N hi hl = some o) : EM w0 ev 8 m_Tape_readTicks [.ref 43] hi hl (oI o) := by
  unfold f_Tape_readTicks at h
  refine EM.of rfl ?_
  show EX w0 ev 7 m_Tape_readTicks 0 [(0, .ref 43)] [] (hi) (hl) (oI o)
  refine EX.aload_n (x := 43) rfl (List.mem_of_getElem? (i := 0) rfl) ?_
  obtain ⟨z1, hz1, h⟩ := bnd_some h
  refine EX.callV (b := 43) (as := []) (rest := []) (r := some (.int (z1.1))) (hi1 := z1.2.1) (hl1 := z1.2.2) rfl rfl rfl rfl rfl rfl ((b_Tape_next ev hz1).mono (by decide)) ?_
  show EX w0 ev 7 m_Tape_readTicks 4 [(0, .ref 43)] [.int (z1.1)] (z1.2.1) (z1.2.2) (oI o)
  rcases ite_some h with ⟨c2, h⟩ | ⟨c2, h⟩
  · refine EX.go (i := .ifCond .eq 11) (len := 3) (pc1 := 15) (st1 := []) (hi1 := z1.2.1) (hl1 := z1.2.2) rfl ?_ (fun _ _ _ => if_pos c2)
    refine EX.iconst (v := 0) rfl rfl ?_
    obtain rfl := Option.some.inj h
    exact EX.zret rfl rfl (Or.inl rfl)
  · refine EX.go (i := .ifCond .eq 11) (len := 3) (pc1 := 7) (st1 := []) (hi1 := z1.2.1) (hl1 := z1.2.2) rfl ?_ (fun _ _ _ => if_neg c2)
    refine EX.aload_n (x := 43) rfl (List.mem_of_getElem? (i := 0) rfl) ?_
    refine EX.iconst (v := 1) rfl rfl ?_
    obtain ⟨z3, hz3, h⟩ := bnd_some h
    refine EX.callV (b := 43) (as := [.int (1)]) (rest := []) (r := some (.int (z3.1))) (hi1 := z3.2.1) (hl1 := z3.2.2) rfl rfl rfl rfl rfl rfl ((b_Tape_tokenIs ev hz3).mono (by decide)) ?_
    show EX w0 ev 7 m_Tape_readTicks 12 [(0, .ref 43)] [.int (z3.1)] (z3.2.1) (z3.2.2) (oI o)
    rcases ite_some h with ⟨c4, h⟩ | ⟨c4, h⟩
    · refine EX.go (i := .ifCond .ne 5) (len := 3) (pc1 := 15) (st1 := []) (hi1 := z3.2.1) (hl1 := z3.2.2) rfl ?_ (fun _ _ _ => if_pos c4)
      refine EX.iconst (v := 0) rfl rfl ?_
      obtain rfl := Option.some.inj h
      exact EX.zret rfl rfl (Or.inl rfl)
    · refine EX.go (i := .ifCond .ne 5) (len := 3) (pc1 := 17) (st1 := []) (hi1 := z3.2.1) (hl1 := z3.2.2) rfl ?_ (fun _ _ _ => if_neg c4)
      refine EX.aload_n (x := 43) rfl (List.mem_of_getElem? (i := 0) rfl) ?_
      refine EX.go (i := .getfield 74) (len := 3) (pc1 := 21) (st1 := [.int (z3.2.1 43 11)]) (hi1 := z3.2.1) (hl1 := z3.2.2) rfl ?_ (fun _ _ _ => rfl)
      refine EX.iconst (v := 1) rfl rfl ?_
      rcases ite_some h with ⟨c5, h⟩ | ⟨c5, h⟩
      · refine EX.go (i := .if_icmp .lt 12) (len := 3) (pc1 := 34) (st1 := []) (hi1 := z3.2.1) (hl1 := z3.2.2) rfl ?_ (fun _ _ _ => if_pos c5)
        refine EX.pick [0] ?_ rfl
        exact bJ_Tape_readTicks_34 ev h
      · refine EX.go (i := .if_icmp .lt 12) (len := 3) (pc1 := 25) (st1 := []) (hi1 := z3.2.1) (hl1 := z3.2.2) rfl ?_ (fun _ _ _ => if_neg c5)
        refine EX.aload_n (x := 43) rfl (List.mem_of_getElem? (i := 0) rfl) ?_
        refine EX.go (i := .getfield 74) (len := 3) (pc1 := 29) (st1 := [.int (z3.2.1 43 11)]) (hi1 := z3.2.1) (hl1 := z3.2.2) rfl ?_ (fun _ _ _ => rfl)
        refine EX.bipush (v := 60) rfl rfl ?_
        rcases ite_some h with ⟨c8, h⟩ | ⟨c8, h⟩
        · refine EX.go (i := .if_icmp .le 9) (len := 3) (pc1 := 40) (st1 := []) (hi1 := z3.2.1) (hl1 := z3.2.2) rfl ?_ (fun _ _ _ => if_pos c8)
          refine EX.aload_n (x := 43) rfl (List.mem_of_getElem? (i := 0) rfl) ?_
          refine EX.go (i := .getfield 9) (len := 3) (pc1 := 44) (st1 := [.ref 44]) (hi1 := z3.2.1) (hl1 := z3.2.2) rfl ?_ (fun _ _ _ => rfl)
          refine EX.aload_n (x := 43) rfl (List.mem_of_getElem? (i := 0) rfl) ?_
          refine EX.go (i := .getfield 35) (len := 3) (pc1 := 48) (st1 := [.int (z3.2.1 43 3), .ref 44]) (hi1 := z3.2.1) (hl1 := z3.2.2) rfl ?_ (fun _ _ _ => rfl)
          refine EX.aload_n (x := 43) rfl (List.mem_of_getElem? (i := 0) rfl) ?_
          refine EX.go (i := .getfield 58) (len := 3) (pc1 := 52) (st1 := [.int (z3.2.1 43 13), .int (z3.2.1 43 3), .ref 44]) (hi1 := z3.2.1) (hl1 := z3.2.2) rfl ?_ (fun _ _ _ => rfl)
          obtain ⟨g9, h⟩ := grd_some h
          refine EX.iastore rfl rfl g9 ?_
          refine EX.aload_n (x := 43) rfl (List.mem_of_getElem? (i := 0) rfl) ?_
          refine EX.go (i := .getfield 15) (len := 3) (pc1 := 57) (st1 := [.ref 45]) (hi1 := wr (z3.2.1) 44 (Int32.toNatClampNeg (z3.2.1 43 3)) (z3.2.1 43 13)) (hl1 := z3.2.2) rfl ?_ (fun _ _ _ => rfl)
          refine EX.aload_n (x := 43) rfl (List.mem_of_getElem? (i := 0) rfl) ?_
          refine EX.go (i := .getfield 35) (len := 3) (pc1 := 61) (st1 := [.int ((wr (z3.2.1) 44 (Int32.toNatClampNeg (z3.2.1 43 3)) (z3.2.1 43 13)) 43 3), .ref 45]) (hi1 := wr (z3.2.1) 44 (Int32.toNatClampNeg (z3.2.1 43 3)) (z3.2.1 43 13)) (hl1 := z3.2.2) rfl ?_ (fun _ _ _ => rfl)
          refine EX.aload_n (x := 43) rfl (List.mem_of_getElem? (i := 0) rfl) ?_
          refine EX.go (i := .getfield 74) (len := 3) (pc1 := 65) (st1 := [.int ((wr (z3.2.1) 44 (Int32.toNatClampNeg (z3.2.1 43 3)) (z3.2.1 43 13)) 43 11), .int ((wr (z3.2.1) 44 (Int32.toNatClampNeg (z3.2.1 43 3)) (z3.2.1 43 13)) 43 3), .ref 45]) (hi1 := wr (z3.2.1) 44 (Int32.toNatClampNeg (z3.2.1 43 3)) (z3.2.1 43 13)) (hl1 := z3.2.2) rfl ?_ (fun _ _ _ => rfl)
          obtain ⟨g10, h⟩ := grd_some h
          refine EX.iastore rfl rfl g10 ?_
          refine EX.aload_n (x := 43) rfl (List.mem_of_getElem? (i := 0) rfl) ?_
          obtain ⟨z11, hz11, h⟩ := bnd_some h
          refine EX.callV (b := 43) (as := []) (rest := []) (r := some (.int (z11.1))) (hi1 := z11.2.1) (hl1 := z11.2.2) rfl rfl rfl rfl rfl rfl ((b_Tape_next ev hz11).mono (by decide)) ?_
          show EX w0 ev 7 m_Tape_readTicks 70 [(0, .ref 43)] [.int (z11.1)] (z11.2.1) (z11.2.2) (oI o)
          rcases ite_some h with ⟨c12, h⟩ | ⟨c12, h⟩
          · refine EX.go (i := .ifCond .eq 11) (len := 3) (pc1 := 81) (st1 := []) (hi1 := z11.2.1) (hl1 := z11.2.2) rfl ?_ (fun _ _ _ => if_pos c12)
            refine EX.iconst (v := 0) rfl rfl ?_
            obtain rfl := Option.some.inj h
            exact EX.zret rfl rfl (Or.inl rfl)
          · refine EX.go (i := .ifCond .eq 11) (len := 3) (pc1 := 73) (st1 := []) (hi1 := z11.2.1) (hl1 := z11.2.2) rfl ?_ (fun _ _ _ => if_neg c12)
            refine EX.aload_n (x := 43) rfl (List.mem_of_getElem? (i := 0) rfl) ?_
            refine EX.iconst (v := 2) rfl rfl ?_
            obtain ⟨z13, hz13, h⟩ := bnd_some h
            refine EX.callV (b := 43) (as := [.int (2)]) (rest := []) (r := some (.int (z13.1))) (hi1 := z13.2.1) (hl1 := z13.2.2) rfl rfl rfl rfl rfl rfl ((b_Tape_tokenIs ev hz13).mono (by decide)) ?_
            show EX w0 ev 7 m_Tape_readTicks 78 [(0, .ref 43)] [.int (z13.1)] (z13.2.1) (z13.2.2) (oI o)
            rcases ite_some h with ⟨c14, h⟩ | ⟨c14, h⟩
            · refine EX.go (i := .ifCond .ne 5) (len := 3) (pc1 := 81) (st1 := []) (hi1 := z13.2.1) (hl1 := z13.2.2) rfl ?_ (fun _ _ _ => if_pos c14)
              refine EX.iconst (v := 0) rfl rfl ?_
              obtain rfl := Option.some.inj h
              exact EX.zret rfl rfl (Or.inl rfl)
            · refine EX.go (i := .ifCond .ne 5) (len := 3) (pc1 := 83) (st1 := []) (hi1 := z13.2.1) (hl1 := z13.2.2) rfl ?_ (fun _ _ _ => if_neg c14)
              refine EX.aload_n (x := 43) rfl (List.mem_of_getElem? (i := 0) rfl) ?_
              refine EX.go (i := .dup) (len := 1) (pc1 := 85) (st1 := [.ref 43, .ref 43]) (hi1 := z13.2.1) (hl1 := z13.2.2) rfl ?_ (fun _ _ _ => rfl)
              refine EX.go (i := .getfield 35) (len := 3) (pc1 := 88) (st1 := [.int (z13.2.1 43 3), .ref 43]) (hi1 := z13.2.1) (hl1 := z13.2.2) rfl ?_ (fun _ _ _ => rfl)
              refine EX.iconst (v := 1) rfl rfl ?_
              refine EX.go (i := .iadd) (len := 1) (pc1 := 90) (st1 := [.int (((z13.2.1 43 3 : Int32) + (1))), .ref 43]) (hi1 := z13.2.1) (hl1 := z13.2.2) rfl ?_ (fun _ _ _ => rfl)
              refine EX.go (i := .putfield 35) (len := 3) (pc1 := 93) (st1 := []) (hi1 := wr (z13.2.1) 43 3 (((z13.2.1 43 3 : Int32) + (1)))) (hl1 := z13.2.2) rfl ?_ (fun _ _ _ => rfl)
              refine EX.iconst (v := 1) rfl rfl ?_
              obtain rfl := Option.some.inj h
              exact EX.zret rfl rfl (Or.inr rfl)
        · refine EX.go (i := .if_icmp .le 9) (len := 3) (pc1 := 34) (st1 := []) (hi1 := z3.2.1) (hl1 := z3.2.2) rfl ?_ (fun _ _ _ => if_neg c8)
          refine EX.pick [0] ?_ rfl
          exact bJ_Tape_readTicks_34 ev h
def J_Tape_readLine_76 (N : Nat) (hi : HI) (hl : HL) : Option (Int32 × HI × HL) :=
  (f_Tape_readTicks N (hi) (hl)).bind fun z8 => if (z8.1 : Int32) = 0 ∨ (z8.1 : Int32) = 1 then some (z8.1, z8.2.1, z8.2.2) else none
set_option maxRecDepth 10000 in
set_option maxHeartbeats 4000000 in
theorem bJ_Tape_readLine_76 (ev : EV) {N : Nat} {hi : HI} {hl : HL} {o : Int32 × HI × HL} (h : J_Tape_readLine_76 N hi hl = some o) : EX w0 ev 8 m_Tape_readLine 76 [(0, .ref 43)] [] (hi) (hl) (oI o) := by
  unfold J_Tape_readLine_76 at h
  refine EX.aload_n (x := 43) rfl (List.mem_of_getElem? (i := 0) rfl) ?_
  obtain ⟨z8, hz8, h⟩ := bnd_some h
  refine EX.callV (b := 43) (as := []) (rest := []) (r := some (.int (z8.1))) (hi1 := z8.2.1) (hl1 := z8.2.2) rfl rfl rfl rfl rfl rfl ((b_Tape_readTicks ev hz8).mono (by decide)) ?_
  show EX w0 ev 8 m_Tape_readLine 80 [(0, .ref 43)] [.int (z8.1)] (z8.2.1) (z8.2.2) (oI o)
  obtain ⟨g9, h⟩ := grp_some h
  obtain rfl := Option.some.inj h
  exact EX.zret rfl rfl g9
def J_Tape_readLine_23 (N : Nat) (hi : HI) (hl : HL) : Option (Int32 × HI × HL) :=
  if (hi 43 3 : Int32) < (12 : Int32) then if ((wr (wr (hi) 43 12 (0)) 43 13 (0)) 43 8 : Int32) = (3 : Int32) then (f_Tape_readWires N (1) (4) (wr (wr (hi) 43 12 (0)) 43 13 (0)) (hl)).bind fun z4 => if (z4.1 : Int32) = 0 then some (0, z4.2.1, z4.2.2) else (f_Tape_readWires N (2) (5) (z4.2.1) (z4.2.2)).bind fun z6 => if (z6.1 : Int32) = 0 then some (0, z6.2.1, z6.2.2) else J_Tape_readLine_76 N (z6.2.1) (z6.2.2) else J_Tape_readLine_76 N (wr (wr (hi) 43 12 (0)) 43 13 (0)) (hl) else (f_Tape_refuse N (5) (hi) (hl)).bind fun z10 => if (z10.1 : Int32) = 0 ∨ (z10.1 : Int32) = 1 then some (z10.1, z10.2.1, z10.2.2) else none
set_option maxRecDepth 10000 in
set_option maxHeartbeats 4000000 in
theorem bJ_Tape_readLine_23 (ev : EV) {N : Nat} {hi : HI} {hl : HL} {o : Int32 × HI × HL} (h : J_Tape_readLine_23 N hi hl = some o) : EX w0 ev 8 m_Tape_readLine 23 [(0, .ref 43)] [] (hi) (hl) (oI o) := by
  unfold J_Tape_readLine_23 at h
  refine EX.aload_n (x := 43) rfl (List.mem_of_getElem? (i := 0) rfl) ?_
  refine EX.go (i := .getfield 35) (len := 3) (pc1 := 27) (st1 := [.int (hi 43 3)]) (hi1 := hi) (hl1 := hl) rfl ?_ (fun _ _ _ => rfl)
  refine EX.bipush (v := 12) rfl rfl ?_
  rcases ite_some h with ⟨c2, h⟩ | ⟨c2, h⟩
  · refine EX.go (i := .if_icmp .lt 9) (len := 3) (pc1 := 38) (st1 := []) (hi1 := hi) (hl1 := hl) rfl ?_ (fun _ _ _ => if_pos c2)
    refine EX.aload_n (x := 43) rfl (List.mem_of_getElem? (i := 0) rfl) ?_
    refine EX.iconst (v := 0) rfl rfl ?_
    refine EX.go (i := .putfield 55) (len := 3) (pc1 := 43) (st1 := []) (hi1 := wr (hi) 43 12 (0)) (hl1 := hl) rfl ?_ (fun _ _ _ => rfl)
    refine EX.aload_n (x := 43) rfl (List.mem_of_getElem? (i := 0) rfl) ?_
    refine EX.iconst (v := 0) rfl rfl ?_
    refine EX.go (i := .putfield 58) (len := 3) (pc1 := 48) (st1 := []) (hi1 := wr (wr (hi) 43 12 (0)) 43 13 (0)) (hl1 := hl) rfl ?_ (fun _ _ _ => rfl)
    refine EX.aload_n (x := 43) rfl (List.mem_of_getElem? (i := 0) rfl) ?_
    refine EX.go (i := .getfield 45) (len := 3) (pc1 := 52) (st1 := [.int ((wr (wr (hi) 43 12 (0)) 43 13 (0)) 43 8)]) (hi1 := wr (wr (hi) 43 12 (0)) 43 13 (0)) (hl1 := hl) rfl ?_ (fun _ _ _ => rfl)
    refine EX.iconst (v := 3) rfl rfl ?_
    rcases ite_some h with ⟨c3, h⟩ | ⟨c3, h⟩
    · refine EX.go (i := .if_icmp .ne 23) (len := 3) (pc1 := 56) (st1 := []) (hi1 := wr (wr (hi) 43 12 (0)) 43 13 (0)) (hl1 := hl) rfl ?_ (fun _ _ _ => if_pos c3)
      refine EX.aload_n (x := 43) rfl (List.mem_of_getElem? (i := 0) rfl) ?_
      refine EX.iconst (v := 1) rfl rfl ?_
      refine EX.iconst (v := 4) rfl rfl ?_
      obtain ⟨z4, hz4, h⟩ := bnd_some h
      refine EX.callV (b := 43) (as := [.int (1), .int (4)]) (rest := []) (r := some (.int (z4.1))) (hi1 := z4.2.1) (hl1 := z4.2.2) rfl rfl rfl rfl rfl rfl ((b_Tape_readWires ev hz4).mono (by decide)) ?_
      show EX w0 ev 8 m_Tape_readLine 62 [(0, .ref 43)] [.int (z4.1)] (z4.2.1) (z4.2.2) (oI o)
      rcases ite_some h with ⟨c5, h⟩ | ⟨c5, h⟩
      · refine EX.go (i := .ifCond .eq 12) (len := 3) (pc1 := 74) (st1 := []) (hi1 := z4.2.1) (hl1 := z4.2.2) rfl ?_ (fun _ _ _ => if_pos c5)
        refine EX.iconst (v := 0) rfl rfl ?_
        obtain rfl := Option.some.inj h
        exact EX.zret rfl rfl (Or.inl rfl)
      · refine EX.go (i := .ifCond .eq 12) (len := 3) (pc1 := 65) (st1 := []) (hi1 := z4.2.1) (hl1 := z4.2.2) rfl ?_ (fun _ _ _ => if_neg c5)
        refine EX.aload_n (x := 43) rfl (List.mem_of_getElem? (i := 0) rfl) ?_
        refine EX.iconst (v := 2) rfl rfl ?_
        refine EX.iconst (v := 5) rfl rfl ?_
        obtain ⟨z6, hz6, h⟩ := bnd_some h
        refine EX.callV (b := 43) (as := [.int (2), .int (5)]) (rest := []) (r := some (.int (z6.1))) (hi1 := z6.2.1) (hl1 := z6.2.2) rfl rfl rfl rfl rfl rfl ((b_Tape_readWires ev hz6).mono (by decide)) ?_
        show EX w0 ev 8 m_Tape_readLine 71 [(0, .ref 43)] [.int (z6.1)] (z6.2.1) (z6.2.2) (oI o)
        rcases ite_some h with ⟨c7, h⟩ | ⟨c7, h⟩
        · refine EX.go (i := .ifCond .ne 5) (len := 3) (pc1 := 74) (st1 := []) (hi1 := z6.2.1) (hl1 := z6.2.2) rfl ?_ (fun _ _ _ => if_pos c7)
          refine EX.iconst (v := 0) rfl rfl ?_
          obtain rfl := Option.some.inj h
          exact EX.zret rfl rfl (Or.inl rfl)
        · refine EX.go (i := .ifCond .ne 5) (len := 3) (pc1 := 76) (st1 := []) (hi1 := z6.2.1) (hl1 := z6.2.2) rfl ?_ (fun _ _ _ => if_neg c7)
          refine EX.pick [0] ?_ rfl
          exact bJ_Tape_readLine_76 ev h
    · refine EX.go (i := .if_icmp .ne 23) (len := 3) (pc1 := 76) (st1 := []) (hi1 := wr (wr (hi) 43 12 (0)) 43 13 (0)) (hl1 := hl) rfl ?_ (fun _ _ _ => if_neg c3)
      refine EX.pick [0] ?_ rfl
      exact bJ_Tape_readLine_76 ev h
  · refine EX.go (i := .if_icmp .lt 9) (len := 3) (pc1 := 32) (st1 := []) (hi1 := hi) (hl1 := hl) rfl ?_ (fun _ _ _ => if_neg c2)
    refine EX.aload_n (x := 43) rfl (List.mem_of_getElem? (i := 0) rfl) ?_
    refine EX.iconst (v := 5) rfl rfl ?_
    obtain ⟨z10, hz10, h⟩ := bnd_some h
    refine EX.callV (b := 43) (as := [.int (5)]) (rest := []) (r := some (.int (z10.1))) (hi1 := z10.2.1) (hl1 := z10.2.2) rfl rfl rfl rfl rfl rfl ((b_Tape_refuse ev hz10).mono (by decide)) ?_
    show EX w0 ev 8 m_Tape_readLine 37 [(0, .ref 43)] [.int (z10.1)] (z10.2.1) (z10.2.2) (oI o)
    obtain ⟨g11, h⟩ := grp_some h
    obtain rfl := Option.some.inj h
    exact EX.zret rfl rfl g11
def f_Tape_readLine (N : Nat) (hi : HI) (hl : HL) : Option (Int32 × HI × HL) :=
  if (hi 43 8 : Int32) = (3 : Int32) then J_Tape_readLine_23 N (hi) (hl) else if (hi 43 8 : Int32) = (6 : Int32) then J_Tape_readLine_23 N (hi) (hl) else (f_Tape_refuse N (2) (hi) (hl)).bind fun z13 => if (z13.1 : Int32) = 0 ∨ (z13.1 : Int32) = 1 then some (z13.1, z13.2.1, z13.2.2) else none
set_option maxRecDepth 10000 in
set_option maxHeartbeats 4000000 in
theorem b_Tape_readLine (ev : EV) {N : Nat} {hi : HI} {hl : HL} {o : Int32 × HI × HL} (h : f_Tape_readLine N hi hl = some o) : EM w0 ev 9 m_Tape_readLine [.ref 43] hi hl (oI o) := by
  unfold f_Tape_readLine at h
  refine EM.of rfl ?_
  show EX w0 ev 8 m_Tape_readLine 0 [(0, .ref 43)] [] (hi) (hl) (oI o)
  refine EX.aload_n (x := 43) rfl (List.mem_of_getElem? (i := 0) rfl) ?_
  refine EX.go (i := .getfield 45) (len := 3) (pc1 := 4) (st1 := [.int (hi 43 8)]) (hi1 := hi) (hl1 := hl) rfl ?_ (fun _ _ _ => rfl)
  refine EX.iconst (v := 3) rfl rfl ?_
  rcases ite_some h with ⟨c1, h⟩ | ⟨c1, h⟩
  · refine EX.go (i := .if_icmp .eq 18) (len := 3) (pc1 := 23) (st1 := []) (hi1 := hi) (hl1 := hl) rfl ?_ (fun _ _ _ => if_pos c1)
    refine EX.pick [0] ?_ rfl
    exact bJ_Tape_readLine_23 ev h
  · refine EX.go (i := .if_icmp .eq 18) (len := 3) (pc1 := 8) (st1 := []) (hi1 := hi) (hl1 := hl) rfl ?_ (fun _ _ _ => if_neg c1)
    refine EX.aload_n (x := 43) rfl (List.mem_of_getElem? (i := 0) rfl) ?_
    refine EX.go (i := .getfield 45) (len := 3) (pc1 := 12) (st1 := [.int (hi 43 8)]) (hi1 := hi) (hl1 := hl) rfl ?_ (fun _ _ _ => rfl)
    refine EX.bipush (v := 6) rfl rfl ?_
    rcases ite_some h with ⟨c12, h⟩ | ⟨c12, h⟩
    · refine EX.go (i := .if_icmp .eq 9) (len := 3) (pc1 := 23) (st1 := []) (hi1 := hi) (hl1 := hl) rfl ?_ (fun _ _ _ => if_pos c12)
      refine EX.pick [0] ?_ rfl
      exact bJ_Tape_readLine_23 ev h
    · refine EX.go (i := .if_icmp .eq 9) (len := 3) (pc1 := 17) (st1 := []) (hi1 := hi) (hl1 := hl) rfl ?_ (fun _ _ _ => if_neg c12)
      refine EX.aload_n (x := 43) rfl (List.mem_of_getElem? (i := 0) rfl) ?_
      refine EX.iconst (v := 2) rfl rfl ?_
      obtain ⟨z13, hz13, h⟩ := bnd_some h
      refine EX.callV (b := 43) (as := [.int (2)]) (rest := []) (r := some (.int (z13.1))) (hi1 := z13.2.1) (hl1 := z13.2.2) rfl rfl rfl rfl rfl rfl ((b_Tape_refuse ev hz13).mono (by decide)) ?_
      show EX w0 ev 8 m_Tape_readLine 22 [(0, .ref 43)] [.int (z13.1)] (z13.2.1) (z13.2.2) (oI o)
      obtain ⟨g14, h⟩ := grp_some h
      obtain rfl := Option.some.inj h
      exact EX.zret rfl rfl g14
def J_Tape_tell_65 (N : Nat) (v3 : Int32) (s0 : Int32) (hi : HI) (hl : HL) : Option ((Int32 × Int32 × HI × HL) ⊕ (HI × HL)) :=
  some (.inl (s0, v3 + 1, hi, hl))
set_option maxRecDepth 10000 in
set_option maxHeartbeats 4000000 in
theorem bJ_Tape_tell_65 (ev : EV) {N : Nat} {v3 : Int32} {s0 : Int32} {hi : HI} {hl : HL} {z : (Int32 × Int32 × HI × HL) ⊕ (HI × HL)} {OUT : Option Value × HI × HL} (h : J_Tape_tell_65 N v3 s0 hi hl = some z) (hk : Sum.elim (fun s => EX w0 ev 9 m_Tape_tell 29 [(0, .ref 43), (2, .int (s.1)), (3, .int (s.2.1))] [] (s.2.2.1) (s.2.2.2) OUT) (fun x => EX w0 ev 9 m_Tape_tell 72 [] [] (x.1) (x.2) OUT) z) : EX w0 ev 9 m_Tape_tell 65 [(0, .ref 43), (3, .int (v3))] [.int (s0)] (hi) (hl) OUT := by
  unfold J_Tape_tell_65 at h
  refine EX.istore_n (req1 := [(2, .int (s0)), (0, .ref 43), (3, .int (v3))]) rfl rfl rfl ?_
  refine EX.iinc (x := v3) (v := v3 + 1) (req1 := [(3, .int (v3 + 1)), (2, .int (s0)), (0, .ref 43)]) rfl rfl (List.mem_of_getElem? (i := 2) rfl) rfl rfl ?_
  refine EX.go (i := .goto (-40)) (len := 3) (pc1 := 29) (st1 := []) (hi1 := hi) (hl1 := hl) rfl ?_ (fun _ _ _ => rfl)
  obtain rfl := Option.some.inj h
  have hk : EX w0 ev 9 m_Tape_tell 29 [(0, .ref 43), (2, .int (s0)), (3, .int (v3 + 1))] [] (hi) (hl) OUT := hk
  exact EX.pick [2, 1, 0] hk rfl
def J_Tape_tell_64 (N : Nat) (v3 : Int32) (hi : HI) (hl : HL) : Option ((Int32 × Int32 × HI × HL) ⊕ (HI × HL)) :=
  J_Tape_tell_65 N (v3) (0) (hi) (hl)
set_option maxRecDepth 10000 in
set_option maxHeartbeats 4000000 in
theorem bJ_Tape_tell_64 (ev : EV) {N : Nat} {v3 : Int32} {hi : HI} {hl : HL} {z : (Int32 × Int32 × HI × HL) ⊕ (HI × HL)} {OUT : Option Value × HI × HL} (h : J_Tape_tell_64 N v3 hi hl = some z) (hk : Sum.elim (fun s => EX w0 ev 9 m_Tape_tell 29 [(0, .ref 43), (2, .int (s.1)), (3, .int (s.2.1))] [] (s.2.2.1) (s.2.2.2) OUT) (fun x => EX w0 ev 9 m_Tape_tell 72 [] [] (x.1) (x.2) OUT) z) : EX w0 ev 9 m_Tape_tell 64 [(0, .ref 43), (3, .int (v3))] [] (hi) (hl) OUT := by
  unfold J_Tape_tell_64 at h
  refine EX.iconst (v := 0) rfl rfl ?_
  refine EX.pick [0, 1] ?_ rfl
  exact bJ_Tape_tell_65 ev h hk
def B_Tape_tell_29 (N : Nat) (v2 : Int32) (v3 : Int32) (hi : HI) (hl : HL) : Option ((Int32 × Int32 × HI × HL) ⊕ (HI × HL)) :=
  if (12 : Int32) < (v3 : Int32) then some (.inr (hi, hl)) else if (v2 : Int32) = 0 then some (.inr (hi, hl)) else (f_Tape_next N (hi) (hl)).bind fun z3 => if (z3.1 : Int32) = 0 then J_Tape_tell_64 N (v3) (z3.2.1) (z3.2.2) else if (z3.2.1 43 8 : Int32) = 0 then J_Tape_tell_64 N (v3) (z3.2.1) (z3.2.2) else (f_Tape_readLine N (z3.2.1) (z3.2.2)).bind fun z6 => if (z6.1 : Int32) = 0 then J_Tape_tell_64 N (v3) (z6.2.1) (z6.2.2) else J_Tape_tell_65 N (v3) (1) (z6.2.1) (z6.2.2)
set_option maxRecDepth 10000 in
set_option maxHeartbeats 4000000 in
theorem bB_Tape_tell_29 (ev : EV) {N : Nat} {v2 : Int32} {v3 : Int32} {hi : HI} {hl : HL} {z : (Int32 × Int32 × HI × HL) ⊕ (HI × HL)} {OUT : Option Value × HI × HL} (h : B_Tape_tell_29 N v2 v3 hi hl = some z) (hk : Sum.elim (fun s => EX w0 ev 9 m_Tape_tell 29 [(0, .ref 43), (2, .int (s.1)), (3, .int (s.2.1))] [] (s.2.2.1) (s.2.2.2) OUT) (fun x => EX w0 ev 9 m_Tape_tell 72 [] [] (x.1) (x.2) OUT) z) : EX w0 ev 9 m_Tape_tell 29 [(0, .ref 43), (2, .int (v2)), (3, .int (v3))] [] (hi) (hl) OUT := by
  unfold B_Tape_tell_29 at h
  refine EX.iload_n (x := v3) rfl (List.mem_of_getElem? (i := 2) rfl) ?_
  refine EX.bipush (v := 12) rfl rfl ?_
  rcases ite_some h with ⟨c1, h⟩ | ⟨c1, h⟩
  · refine EX.go (i := .if_icmp .gt 40) (len := 3) (pc1 := 72) (st1 := []) (hi1 := hi) (hl1 := hl) rfl ?_ (fun _ _ _ => if_pos c1)
    obtain rfl := Option.some.inj h
    have hk : EX w0 ev 9 m_Tape_tell 72 [] [] (hi) (hl) OUT := hk
    exact EX.pick [] hk rfl
  · refine EX.go (i := .if_icmp .gt 40) (len := 3) (pc1 := 35) (st1 := []) (hi1 := hi) (hl1 := hl) rfl ?_ (fun _ _ _ => if_neg c1)
    refine EX.iload_n (x := v2) rfl (List.mem_of_getElem? (i := 1) rfl) ?_
    rcases ite_some h with ⟨c2, h⟩ | ⟨c2, h⟩
    · refine EX.go (i := .ifCond .eq 36) (len := 3) (pc1 := 72) (st1 := []) (hi1 := hi) (hl1 := hl) rfl ?_ (fun _ _ _ => if_pos c2)
      obtain rfl := Option.some.inj h
      have hk : EX w0 ev 9 m_Tape_tell 72 [] [] (hi) (hl) OUT := hk
      exact EX.pick [] hk rfl
    · refine EX.go (i := .ifCond .eq 36) (len := 3) (pc1 := 39) (st1 := []) (hi1 := hi) (hl1 := hl) rfl ?_ (fun _ _ _ => if_neg c2)
      refine EX.aload_n (x := 43) rfl (List.mem_of_getElem? (i := 0) rfl) ?_
      obtain ⟨z3, hz3, h⟩ := bnd_some h
      refine EX.callV (b := 43) (as := []) (rest := []) (r := some (.int (z3.1))) (hi1 := z3.2.1) (hl1 := z3.2.2) rfl rfl rfl rfl rfl rfl ((b_Tape_next ev hz3).mono (by decide)) ?_
      show EX w0 ev 9 m_Tape_tell 43 [(0, .ref 43), (2, .int (v2)), (3, .int (v3))] [.int (z3.1)] (z3.2.1) (z3.2.2) OUT
      rcases ite_some h with ⟨c4, h⟩ | ⟨c4, h⟩
      · refine EX.go (i := .ifCond .eq 21) (len := 3) (pc1 := 64) (st1 := []) (hi1 := z3.2.1) (hl1 := z3.2.2) rfl ?_ (fun _ _ _ => if_pos c4)
        refine EX.pick [0, 2] ?_ rfl
        exact bJ_Tape_tell_64 ev h hk
      · refine EX.go (i := .ifCond .eq 21) (len := 3) (pc1 := 46) (st1 := []) (hi1 := z3.2.1) (hl1 := z3.2.2) rfl ?_ (fun _ _ _ => if_neg c4)
        refine EX.aload_n (x := 43) rfl (List.mem_of_getElem? (i := 0) rfl) ?_
        refine EX.go (i := .getfield 45) (len := 3) (pc1 := 50) (st1 := [.int (z3.2.1 43 8)]) (hi1 := z3.2.1) (hl1 := z3.2.2) rfl ?_ (fun _ _ _ => rfl)
        rcases ite_some h with ⟨c5, h⟩ | ⟨c5, h⟩
        · refine EX.go (i := .ifCond .eq 14) (len := 3) (pc1 := 64) (st1 := []) (hi1 := z3.2.1) (hl1 := z3.2.2) rfl ?_ (fun _ _ _ => if_pos c5)
          refine EX.pick [0, 2] ?_ rfl
          exact bJ_Tape_tell_64 ev h hk
        · refine EX.go (i := .ifCond .eq 14) (len := 3) (pc1 := 53) (st1 := []) (hi1 := z3.2.1) (hl1 := z3.2.2) rfl ?_ (fun _ _ _ => if_neg c5)
          refine EX.aload_n (x := 43) rfl (List.mem_of_getElem? (i := 0) rfl) ?_
          obtain ⟨z6, hz6, h⟩ := bnd_some h
          refine EX.callV (b := 43) (as := []) (rest := []) (r := some (.int (z6.1))) (hi1 := z6.2.1) (hl1 := z6.2.2) rfl rfl rfl rfl rfl rfl ((b_Tape_readLine ev hz6).mono (by decide)) ?_
          show EX w0 ev 9 m_Tape_tell 57 [(0, .ref 43), (2, .int (v2)), (3, .int (v3))] [.int (z6.1)] (z6.2.1) (z6.2.2) OUT
          rcases ite_some h with ⟨c7, h⟩ | ⟨c7, h⟩
          · refine EX.go (i := .ifCond .eq 7) (len := 3) (pc1 := 64) (st1 := []) (hi1 := z6.2.1) (hl1 := z6.2.2) rfl ?_ (fun _ _ _ => if_pos c7)
            refine EX.pick [0, 2] ?_ rfl
            exact bJ_Tape_tell_64 ev h hk
          · refine EX.go (i := .ifCond .eq 7) (len := 3) (pc1 := 60) (st1 := []) (hi1 := z6.2.1) (hl1 := z6.2.2) rfl ?_ (fun _ _ _ => if_neg c7)
            refine EX.iconst (v := 1) rfl rfl ?_
            refine EX.go (i := .goto 4) (len := 3) (pc1 := 65) (st1 := [.int (1)]) (hi1 := z6.2.1) (hl1 := z6.2.2) rfl ?_ (fun _ _ _ => rfl)
            refine EX.pick [0, 2] ?_ rfl
            exact bJ_Tape_tell_65 ev h hk
def f_Tape_tell (N : Nat) (p1 : Int32) (hi : HI) (hl : HL) : Option (Unit × HI × HL) :=
  (lpN (fun s => B_Tape_tell_29 N s.1 s.2.1 s.2.2.1 s.2.2.2) N (1, 0, wr (wr (wr (wr (wr (hi) 43 7 (p1)) 43 1 (0)) 43 2 (0)) 43 3 (0)) 43 10 (0), hl)).bind fun x8 => some ((), x8.1, x8.2)
set_option maxRecDepth 10000 in
set_option maxHeartbeats 4000000 in
theorem b_Tape_tell (ev : EV) {N : Nat} {p1 : Int32} {hi : HI} {hl : HL} {o : Unit × HI × HL} (h : f_Tape_tell N p1 hi hl = some o) : EM w0 ev 10 m_Tape_tell [.ref 43, .int (p1)] hi hl (oV o) := by
  unfold f_Tape_tell at h
  refine EM.of rfl ?_
  show EX w0 ev 9 m_Tape_tell 0 [(0, .ref 43), (1, .int (p1))] [] (hi) (hl) (oV o)
  refine EX.aload_n (x := 43) rfl (List.mem_of_getElem? (i := 0) rfl) ?_
  refine EX.iload_n (x := p1) rfl (List.mem_of_getElem? (i := 1) rfl) ?_
  refine EX.go (i := .putfield 26) (len := 3) (pc1 := 5) (st1 := []) (hi1 := wr (hi) 43 7 (p1)) (hl1 := hl) rfl ?_ (fun _ _ _ => rfl)
  refine EX.aload_n (x := 43) rfl (List.mem_of_getElem? (i := 0) rfl) ?_
  refine EX.iconst (v := 0) rfl rfl ?_
  refine EX.go (i := .putfield 29) (len := 3) (pc1 := 10) (st1 := []) (hi1 := wr (wr (hi) 43 7 (p1)) 43 1 (0)) (hl1 := hl) rfl ?_ (fun _ _ _ => rfl)
  refine EX.aload_n (x := 43) rfl (List.mem_of_getElem? (i := 0) rfl) ?_
  refine EX.iconst (v := 0) rfl rfl ?_
  refine EX.go (i := .putfield 32) (len := 3) (pc1 := 15) (st1 := []) (hi1 := wr (wr (wr (hi) 43 7 (p1)) 43 1 (0)) 43 2 (0)) (hl1 := hl) rfl ?_ (fun _ _ _ => rfl)
  refine EX.aload_n (x := 43) rfl (List.mem_of_getElem? (i := 0) rfl) ?_
  refine EX.iconst (v := 0) rfl rfl ?_
  refine EX.go (i := .putfield 35) (len := 3) (pc1 := 20) (st1 := []) (hi1 := wr (wr (wr (wr (hi) 43 7 (p1)) 43 1 (0)) 43 2 (0)) 43 3 (0)) (hl1 := hl) rfl ?_ (fun _ _ _ => rfl)
  refine EX.aload_n (x := 43) rfl (List.mem_of_getElem? (i := 0) rfl) ?_
  refine EX.iconst (v := 0) rfl rfl ?_
  refine EX.go (i := .putfield 38) (len := 3) (pc1 := 25) (st1 := []) (hi1 := wr (wr (wr (wr (wr (hi) 43 7 (p1)) 43 1 (0)) 43 2 (0)) 43 3 (0)) 43 10 (0)) (hl1 := hl) rfl ?_ (fun _ _ _ => rfl)
  refine EX.iconst (v := 1) rfl rfl ?_
  refine EX.istore_n (req1 := [(2, .int (1)), (0, .ref 43), (1, .int (p1))]) rfl rfl rfl ?_
  refine EX.iconst (v := 0) rfl rfl ?_
  refine EX.istore_n (req1 := [(3, .int (0)), (2, .int (1)), (0, .ref 43), (1, .int (p1))]) rfl rfl rfl ?_
  obtain ⟨x8, hx8, h⟩ := bnd_some h
  refine EX.pick [2, 1, 0] ?_ rfl
  refine lp_sound (f := fun s => B_Tape_tell_29 N s.1 s.2.1 s.2.2.1 s.2.2.2) (PS := fun s => EX w0 ev 9 m_Tape_tell 29 [(0, .ref 43), (2, .int (s.1)), (3, .int (s.2.1))] [] (s.2.2.1) (s.2.2.2) (oV o)) (PX := fun x => EX w0 ev 9 m_Tape_tell 72 [] [] (x.1) (x.2) (oV o)) ?_ N _ x8 hx8 ?_
  · exact fun s z hz hk => bB_Tape_tell_29 ev hz hk
  show EX w0 ev 9 m_Tape_tell 72 [] [] (x8.1) (x8.2) (oV o)
  obtain rfl := Option.some.inj h
  exact EX.vret rfl rfl
def J_TurnTable_fillDriven_70 (N : Nat) (v2 : Int32) (v3 : Int32) (hi : HI) (hl : HL) : Option ((Int32 × HI × HL) ⊕ (HI × HL)) :=
  some (.inl (v3 + 1, hi, hl))
set_option maxRecDepth 10000 in
set_option maxHeartbeats 4000000 in
theorem bJ_TurnTable_fillDriven_70 (ev : EV) {N : Nat} {v2 : Int32} {v3 : Int32} {hi : HI} {hl : HL} {z : (Int32 × HI × HL) ⊕ (HI × HL)} {OUT : Option Value × HI × HL} (h : J_TurnTable_fillDriven_70 N v2 v3 hi hl = some z) (hk : Sum.elim (fun s => EX w0 ev 1 m_TurnTable_fillDriven 2 [(0, .ref 12), (1, .ref 7), (2, .int (v2)), (3, .int (s.1))] [] (s.2.1) (s.2.2) OUT) (fun x => EX w0 ev 1 m_TurnTable_fillDriven 76 [] [] (x.1) (x.2) OUT) z) : EX w0 ev 1 m_TurnTable_fillDriven 70 [(0, .ref 12), (1, .ref 7), (2, .int (v2)), (3, .int (v3))] [] (hi) (hl) OUT := by
  unfold J_TurnTable_fillDriven_70 at h
  refine EX.iinc (x := v3) (v := v3 + 1) (req1 := [(3, .int (v3 + 1)), (0, .ref 12), (1, .ref 7), (2, .int (v2))]) rfl rfl (List.mem_of_getElem? (i := 3) rfl) rfl rfl ?_
  refine EX.go (i := .goto (-71)) (len := 3) (pc1 := 2) (st1 := []) (hi1 := hi) (hl1 := hl) rfl ?_ (fun _ _ _ => rfl)
  obtain rfl := Option.some.inj h
  have hk : EX w0 ev 1 m_TurnTable_fillDriven 2 [(0, .ref 12), (1, .ref 7), (2, .int (v2)), (3, .int (v3 + 1))] [] (hi) (hl) OUT := hk
  exact EX.pick [1, 2, 3, 0] hk rfl
def B_TurnTable_fillDriven_2 (N : Nat) (v2 : Int32) (v3 : Int32) (hi : HI) (hl : HL) : Option ((Int32 × HI × HL) ⊕ (HI × HL)) :=
  if (v2 : Int32) < (v3 : Int32) then some (.inr (hi, hl)) else if ((v3 &&& ((v2 ^^^ ((-1))))) : Int32) = 0 then if (v3 : Int32) < 0 ∨ 64 ≤ Int32.toNatClampNeg (v3) then none else if ((v2 &&& ((v3 ^^^ ((-1))))) : Int32) < 0 ∨ 64 ≤ Int32.toNatClampNeg ((v2 &&& ((v3 ^^^ ((-1)))))) then none else (f_Ways_drive N (v3) ((v2 &&& ((v3 ^^^ ((-1)))))) (hi) (hl)).bind fun z5 => if (((hi 17 (Int32.toNatClampNeg (v3)) : Int32) + (((2 : Int32) * (hi 17 (Int32.toNatClampNeg ((v2 &&& ((v3 ^^^ ((-1))))))))))) : Int32) < 0 ∨ 729 ≤ Int32.toNatClampNeg (((hi 17 (Int32.toNatClampNeg (v3)) : Int32) + (((2 : Int32) * (hi 17 (Int32.toNatClampNeg ((v2 &&& ((v3 ^^^ ((-1)))))))))))) then none else if (((hi 17 (Int32.toNatClampNeg (v3)) : Int32) + (((2 : Int32) * (hi 17 (Int32.toNatClampNeg ((v2 &&& ((v3 ^^^ ((-1))))))))))) : Int32) < 0 ∨ 729 ≤ Int32.toNatClampNeg (((hi 17 (Int32.toNatClampNeg (v3)) : Int32) + (((2 : Int32) * (hi 17 (Int32.toNatClampNeg ((v2 &&& ((v3 ^^^ ((-1)))))))))))) then none else J_TurnTable_fillDriven_70 N (v2) (v3) (wr (wr (z5.2.1) 13 (Int32.toNatClampNeg (((hi 17 (Int32.toNatClampNeg (v3)) : Int32) + (((2 : Int32) * (hi 17 (Int32.toNatClampNeg ((v2 &&& ((v3 ^^^ ((-1))))))))))))) (z5.2.1 7 1)) 14 (Int32.toNatClampNeg (((hi 17 (Int32.toNatClampNeg (v3)) : Int32) + (((2 : Int32) * (hi 17 (Int32.toNatClampNeg ((v2 &&& ((v3 ^^^ ((-1))))))))))))) (Int32.toInt8 ((Int32.toInt8 ((wr (z5.2.1) 13 (Int32.toNatClampNeg (((hi 17 (Int32.toNatClampNeg (v3)) : Int32) + (((2 : Int32) * (hi 17 (Int32.toNatClampNeg ((v2 &&& ((v3 ^^^ ((-1))))))))))))) (z5.2.1 7 1)) 7 0)).toInt32)).toInt32) (z5.2.2) else J_TurnTable_fillDriven_70 N (v2) (v3) (hi) (hl)
set_option maxRecDepth 10000 in
set_option maxHeartbeats 4000000 in
theorem bB_TurnTable_fillDriven_2 (ev : EV) {N : Nat} {v2 : Int32} {v3 : Int32} {hi : HI} {hl : HL} {z : (Int32 × HI × HL) ⊕ (HI × HL)} {OUT : Option Value × HI × HL} (h : B_TurnTable_fillDriven_2 N v2 v3 hi hl = some z) (hk : Sum.elim (fun s => EX w0 ev 1 m_TurnTable_fillDriven 2 [(0, .ref 12), (1, .ref 7), (2, .int (v2)), (3, .int (s.1))] [] (s.2.1) (s.2.2) OUT) (fun x => EX w0 ev 1 m_TurnTable_fillDriven 76 [] [] (x.1) (x.2) OUT) z) : EX w0 ev 1 m_TurnTable_fillDriven 2 [(0, .ref 12), (1, .ref 7), (2, .int (v2)), (3, .int (v3))] [] (hi) (hl) OUT := by
  unfold B_TurnTable_fillDriven_2 at h
  refine EX.iload_n (x := v3) rfl (List.mem_of_getElem? (i := 3) rfl) ?_
  refine EX.iload_n (x := v2) rfl (List.mem_of_getElem? (i := 2) rfl) ?_
  rcases ite_some h with ⟨c1, h⟩ | ⟨c1, h⟩
  · refine EX.go (i := .if_icmp .gt 72) (len := 3) (pc1 := 76) (st1 := []) (hi1 := hi) (hl1 := hl) rfl ?_ (fun _ _ _ => if_pos c1)
    obtain rfl := Option.some.inj h
    have hk : EX w0 ev 1 m_TurnTable_fillDriven 76 [] [] (hi) (hl) OUT := hk
    exact EX.pick [] hk rfl
  · refine EX.go (i := .if_icmp .gt 72) (len := 3) (pc1 := 7) (st1 := []) (hi1 := hi) (hl1 := hl) rfl ?_ (fun _ _ _ => if_neg c1)
    refine EX.iload_n (x := v3) rfl (List.mem_of_getElem? (i := 3) rfl) ?_
    refine EX.iload_n (x := v2) rfl (List.mem_of_getElem? (i := 2) rfl) ?_
    refine EX.iconst (v := (-1)) rfl rfl ?_
    refine EX.go (i := .ixor) (len := 1) (pc1 := 11) (st1 := [.int ((v2 ^^^ ((-1)))), .int (v3)]) (hi1 := hi) (hl1 := hl) rfl ?_ (fun _ _ _ => rfl)
    refine EX.go (i := .iand) (len := 1) (pc1 := 12) (st1 := [.int ((v3 &&& ((v2 ^^^ ((-1))))))]) (hi1 := hi) (hl1 := hl) rfl ?_ (fun _ _ _ => rfl)
    rcases ite_some h with ⟨c2, h⟩ | ⟨c2, h⟩
    · refine EX.go (i := .ifCond .ne 58) (len := 3) (pc1 := 15) (st1 := []) (hi1 := hi) (hl1 := hl) rfl ?_ (fun _ _ _ => if_pos c2)
      refine EX.iload_n (x := v2) rfl (List.mem_of_getElem? (i := 2) rfl) ?_
      refine EX.iload_n (x := v3) rfl (List.mem_of_getElem? (i := 3) rfl) ?_
      refine EX.iconst (v := (-1)) rfl rfl ?_
      refine EX.go (i := .ixor) (len := 1) (pc1 := 19) (st1 := [.int ((v3 ^^^ ((-1)))), .int (v2)]) (hi1 := hi) (hl1 := hl) rfl ?_ (fun _ _ _ => rfl)
      refine EX.go (i := .iand) (len := 1) (pc1 := 20) (st1 := [.int ((v2 &&& ((v3 ^^^ ((-1))))))]) (hi1 := hi) (hl1 := hl) rfl ?_ (fun _ _ _ => rfl)
      refine EX.istore (req1 := [(4, .int ((v2 &&& ((v3 ^^^ ((-1))))))), (0, .ref 12), (1, .ref 7), (2, .int (v2)), (3, .int (v3))]) rfl rfl rfl ?_
      refine EX.aload_n (x := 12) rfl (List.mem_of_getElem? (i := 1) rfl) ?_
      refine EX.go (i := .getfield 25) (len := 3) (pc1 := 26) (st1 := [.ref 17]) (hi1 := hi) (hl1 := hl) rfl ?_ (fun _ _ _ => rfl)
      refine EX.iload_n (x := v3) rfl (List.mem_of_getElem? (i := 4) rfl) ?_
      obtain ⟨g3, h⟩ := grd_some h
      refine EX.iaload rfl rfl g3 ?_
      refine EX.iconst (v := 2) rfl rfl ?_
      refine EX.aload_n (x := 12) rfl (List.mem_of_getElem? (i := 1) rfl) ?_
      refine EX.go (i := .getfield 25) (len := 3) (pc1 := 33) (st1 := [.ref 17, .int (2), .int (hi 17 (Int32.toNatClampNeg (v3)))]) (hi1 := hi) (hl1 := hl) rfl ?_ (fun _ _ _ => rfl)
      refine EX.iload (x := (v2 &&& ((v3 ^^^ ((-1)))))) rfl (List.mem_of_getElem? (i := 0) rfl) ?_
      obtain ⟨g4, h⟩ := grd_some h
      refine EX.iaload rfl rfl g4 ?_
      refine EX.go (i := .imul) (len := 1) (pc1 := 37) (st1 := [.int (((2 : Int32) * (hi 17 (Int32.toNatClampNeg ((v2 &&& ((v3 ^^^ ((-1)))))))))), .int (hi 17 (Int32.toNatClampNeg (v3)))]) (hi1 := hi) (hl1 := hl) rfl ?_ (fun _ _ _ => rfl)
      refine EX.go (i := .iadd) (len := 1) (pc1 := 38) (st1 := [.int (((hi 17 (Int32.toNatClampNeg (v3)) : Int32) + (((2 : Int32) * (hi 17 (Int32.toNatClampNeg ((v2 &&& ((v3 ^^^ ((-1))))))))))))]) (hi1 := hi) (hl1 := hl) rfl ?_ (fun _ _ _ => rfl)
      refine EX.istore (req1 := [(5, .int (((hi 17 (Int32.toNatClampNeg (v3)) : Int32) + (((2 : Int32) * (hi 17 (Int32.toNatClampNeg ((v2 &&& ((v3 ^^^ ((-1))))))))))))), (4, .int ((v2 &&& ((v3 ^^^ ((-1))))))), (0, .ref 12), (1, .ref 7), (2, .int (v2)), (3, .int (v3))]) rfl rfl rfl ?_
      refine EX.aload_n (x := 7) rfl (List.mem_of_getElem? (i := 3) rfl) ?_
      refine EX.iload_n (x := v3) rfl (List.mem_of_getElem? (i := 5) rfl) ?_
      refine EX.iload (x := (v2 &&& ((v3 ^^^ ((-1)))))) rfl (List.mem_of_getElem? (i := 1) rfl) ?_
      obtain ⟨z5, hz5, h⟩ := bnd_some h
      refine EX.callV (b := 7) (as := [.int (v3), .int ((v2 &&& ((v3 ^^^ ((-1))))))]) (rest := []) (r := none) (hi1 := z5.2.1) (hl1 := z5.2.2) rfl rfl rfl rfl rfl rfl ((b_Ways_drive ev hz5).mono (by decide)) ?_
      show EX w0 ev 1 m_TurnTable_fillDriven 47 [(5, .int (((hi 17 (Int32.toNatClampNeg (v3)) : Int32) + (((2 : Int32) * (hi 17 (Int32.toNatClampNeg ((v2 &&& ((v3 ^^^ ((-1))))))))))))), (4, .int ((v2 &&& ((v3 ^^^ ((-1))))))), (0, .ref 12), (1, .ref 7), (2, .int (v2)), (3, .int (v3))] [] (z5.2.1) (z5.2.2) OUT
      refine EX.aload_n (x := 12) rfl (List.mem_of_getElem? (i := 2) rfl) ?_
      refine EX.go (i := .getfield 9) (len := 3) (pc1 := 51) (st1 := [.ref 13]) (hi1 := z5.2.1) (hl1 := z5.2.2) rfl ?_ (fun _ _ _ => rfl)
      refine EX.iload (x := ((hi 17 (Int32.toNatClampNeg (v3)) : Int32) + (((2 : Int32) * (hi 17 (Int32.toNatClampNeg ((v2 &&& ((v3 ^^^ ((-1)))))))))))) rfl (List.mem_of_getElem? (i := 0) rfl) ?_
      refine EX.aload_n (x := 7) rfl (List.mem_of_getElem? (i := 3) rfl) ?_
      refine EX.go (i := .getfield 72) (len := 3) (pc1 := 57) (st1 := [.int (z5.2.1 7 1), .int (((hi 17 (Int32.toNatClampNeg (v3)) : Int32) + (((2 : Int32) * (hi 17 (Int32.toNatClampNeg ((v2 &&& ((v3 ^^^ ((-1)))))))))))), .ref 13]) (hi1 := z5.2.1) (hl1 := z5.2.2) rfl ?_ (fun _ _ _ => rfl)
      obtain ⟨g6, h⟩ := grd_some h
      refine EX.iastore rfl rfl g6 ?_
      refine EX.aload_n (x := 12) rfl (List.mem_of_getElem? (i := 2) rfl) ?_
      refine EX.go (i := .getfield 15) (len := 3) (pc1 := 62) (st1 := [.ref 14]) (hi1 := wr (z5.2.1) 13 (Int32.toNatClampNeg (((hi 17 (Int32.toNatClampNeg (v3)) : Int32) + (((2 : Int32) * (hi 17 (Int32.toNatClampNeg ((v2 &&& ((v3 ^^^ ((-1))))))))))))) (z5.2.1 7 1)) (hl1 := z5.2.2) rfl ?_ (fun _ _ _ => rfl)
      refine EX.iload (x := ((hi 17 (Int32.toNatClampNeg (v3)) : Int32) + (((2 : Int32) * (hi 17 (Int32.toNatClampNeg ((v2 &&& ((v3 ^^^ ((-1)))))))))))) rfl (List.mem_of_getElem? (i := 0) rfl) ?_
      refine EX.aload_n (x := 7) rfl (List.mem_of_getElem? (i := 3) rfl) ?_
      refine EX.go (i := .getfield 74) (len := 3) (pc1 := 68) (st1 := [.int ((wr (z5.2.1) 13 (Int32.toNatClampNeg (((hi 17 (Int32.toNatClampNeg (v3)) : Int32) + (((2 : Int32) * (hi 17 (Int32.toNatClampNeg ((v2 &&& ((v3 ^^^ ((-1))))))))))))) (z5.2.1 7 1)) 7 0), .int (((hi 17 (Int32.toNatClampNeg (v3)) : Int32) + (((2 : Int32) * (hi 17 (Int32.toNatClampNeg ((v2 &&& ((v3 ^^^ ((-1)))))))))))), .ref 14]) (hi1 := wr (z5.2.1) 13 (Int32.toNatClampNeg (((hi 17 (Int32.toNatClampNeg (v3)) : Int32) + (((2 : Int32) * (hi 17 (Int32.toNatClampNeg ((v2 &&& ((v3 ^^^ ((-1))))))))))))) (z5.2.1 7 1)) (hl1 := z5.2.2) rfl ?_ (fun _ _ _ => rfl)
      refine EX.go (i := .i2b) (len := 1) (pc1 := 69) (st1 := [.int ((Int32.toInt8 ((wr (z5.2.1) 13 (Int32.toNatClampNeg (((hi 17 (Int32.toNatClampNeg (v3)) : Int32) + (((2 : Int32) * (hi 17 (Int32.toNatClampNeg ((v2 &&& ((v3 ^^^ ((-1))))))))))))) (z5.2.1 7 1)) 7 0)).toInt32), .int (((hi 17 (Int32.toNatClampNeg (v3)) : Int32) + (((2 : Int32) * (hi 17 (Int32.toNatClampNeg ((v2 &&& ((v3 ^^^ ((-1)))))))))))), .ref 14]) (hi1 := wr (z5.2.1) 13 (Int32.toNatClampNeg (((hi 17 (Int32.toNatClampNeg (v3)) : Int32) + (((2 : Int32) * (hi 17 (Int32.toNatClampNeg ((v2 &&& ((v3 ^^^ ((-1))))))))))))) (z5.2.1 7 1)) (hl1 := z5.2.2) rfl ?_ (fun _ _ _ => rfl)
      obtain ⟨g7, h⟩ := grd_some h
      refine EX.bastore rfl rfl g7 ?_
      refine EX.pick [2, 3, 4, 5] ?_ rfl
      exact bJ_TurnTable_fillDriven_70 ev h hk
    · refine EX.go (i := .ifCond .ne 58) (len := 3) (pc1 := 70) (st1 := []) (hi1 := hi) (hl1 := hl) rfl ?_ (fun _ _ _ => if_neg c2)
      refine EX.pick [0, 1, 2, 3] ?_ rfl
      exact bJ_TurnTable_fillDriven_70 ev h hk
def f_TurnTable_fillDriven (N : Nat) (p2 : Int32) (hi : HI) (hl : HL) : Option (Unit × HI × HL) :=
  (lpN (fun s => B_TurnTable_fillDriven_2 N (p2) s.1 s.2.1 s.2.2) N (0, hi, hl)).bind fun x8 => some ((), x8.1, x8.2)
set_option maxRecDepth 10000 in
set_option maxHeartbeats 4000000 in
theorem b_TurnTable_fillDriven (ev : EV) {N : Nat} {p2 : Int32} {hi : HI} {hl : HL} {o : Unit × HI × HL} (h : f_TurnTable_fillDriven N p2 hi hl = some o) : EM w0 ev 2 m_TurnTable_fillDriven [.ref 12, .ref 7, .int (p2)] hi hl (oV o) := by
  unfold f_TurnTable_fillDriven at h
  refine EM.of rfl ?_
  show EX w0 ev 1 m_TurnTable_fillDriven 0 [(0, .ref 12), (1, .ref 7), (2, .int (p2))] [] (hi) (hl) (oV o)
  refine EX.iconst (v := 0) rfl rfl ?_
  refine EX.istore_n (req1 := [(3, .int (0)), (0, .ref 12), (1, .ref 7), (2, .int (p2))]) rfl rfl rfl ?_
  obtain ⟨x8, hx8, h⟩ := bnd_some h
  refine EX.pick [1, 2, 3, 0] ?_ rfl
  refine lp_sound (f := fun s => B_TurnTable_fillDriven_2 N (p2) s.1 s.2.1 s.2.2) (PS := fun s => EX w0 ev 1 m_TurnTable_fillDriven 2 [(0, .ref 12), (1, .ref 7), (2, .int (p2)), (3, .int (s.1))] [] (s.2.1) (s.2.2) (oV o)) (PX := fun x => EX w0 ev 1 m_TurnTable_fillDriven 76 [] [] (x.1) (x.2) (oV o)) ?_ N _ x8 hx8 ?_
  · exact fun s z hz hk => bB_TurnTable_fillDriven_2 ev hz hk
  show EX w0 ev 1 m_TurnTable_fillDriven 76 [] [] (x8.1) (x8.2) (oV o)
  obtain rfl := Option.some.inj h
  exact EX.vret rfl rfl
def J_TurnTable_gatherKinds_94 (N : Nat) (v2 : Int32) (hi : HI) (hl : HL) : Option ((Int32 × HI × HL) ⊕ (HI × HL)) :=
  some (.inl (v2 + 1, hi, hl))
set_option maxRecDepth 10000 in
set_option maxHeartbeats 4000000 in
theorem bJ_TurnTable_gatherKinds_94 (ev : EV) {N : Nat} {v2 : Int32} {hi : HI} {hl : HL} {z : (Int32 × HI × HL) ⊕ (HI × HL)} {OUT : Option Value × HI × HL} (h : J_TurnTable_gatherKinds_94 N v2 hi hl = some z) (hk : Sum.elim (fun s => EX w0 ev 1 m_TurnTable_gatherKinds 12 [(0, .ref 12), (1, .ref 41), (2, .int (s.1))] [] (s.2.1) (s.2.2) OUT) (fun x => EX w0 ev 1 m_TurnTable_gatherKinds 100 [] [] (x.1) (x.2) OUT) z) : EX w0 ev 1 m_TurnTable_gatherKinds 94 [(0, .ref 12), (1, .ref 41), (2, .int (v2))] [] (hi) (hl) OUT := by
  unfold J_TurnTable_gatherKinds_94 at h
  refine EX.iinc (x := v2) (v := v2 + 1) (req1 := [(2, .int (v2 + 1)), (0, .ref 12), (1, .ref 41)]) rfl rfl (List.mem_of_getElem? (i := 2) rfl) rfl rfl ?_
  refine EX.go (i := .goto (-85)) (len := 3) (pc1 := 12) (st1 := []) (hi1 := hi) (hl1 := hl) rfl ?_ (fun _ _ _ => rfl)
  obtain rfl := Option.some.inj h
  have hk : EX w0 ev 1 m_TurnTable_gatherKinds 12 [(0, .ref 12), (1, .ref 41), (2, .int (v2 + 1))] [] (hi) (hl) OUT := hk
  exact EX.pick [1, 2, 0] hk rfl
def B_TurnTable_gatherKinds_12 (N : Nat) (v2 : Int32) (hi : HI) (hl : HL) : Option ((Int32 × HI × HL) ⊕ (HI × HL)) :=
  if (hi 12 10 : Int32) ≤ (v2 : Int32) then some (.inr (hi, hl)) else if (v2 : Int32) < 0 ∨ 729 ≤ Int32.toNatClampNeg (v2) then none else if (hi 13 (Int32.toNatClampNeg (v2)) : Int32) = 0 then J_TurnTable_gatherKinds_94 N (v2) (hi) (hl) else if (((hi 13 (Int32.toNatClampNeg (v2)) : Int32) >>> ((6) &&& 31)) : Int32) < 0 ∨ 4096 ≤ Int32.toNatClampNeg (((hi 13 (Int32.toNatClampNeg (v2)) : Int32) >>> ((6) &&& 31))) then none else if ((lg_cmp (((hl 41 (Int32.toNatClampNeg (((hi 13 (Int32.toNatClampNeg (v2)) : Int32) >>> ((6) &&& 31)))) : Int64) &&& (((1 : Int64) <<< (Int32.toInt64 (((hi 13 (Int32.toNatClampNeg (v2)) : Int32) &&& (63))) &&& 63)))) : Int64) (0)) : Int32) = 0 then if (((hi 13 (Int32.toNatClampNeg (v2)) : Int32) >>> ((6) &&& 31)) : Int32) < 0 ∨ 4096 ≤ Int32.toNatClampNeg (((hi 13 (Int32.toNatClampNeg (v2)) : Int32) >>> ((6) &&& 31))) then none else if (((hi 13 (Int32.toNatClampNeg (v2)) : Int32) >>> ((6) &&& 31)) : Int32) < 0 ∨ 4096 ≤ Int32.toNatClampNeg (((hi 13 (Int32.toNatClampNeg (v2)) : Int32) >>> ((6) &&& 31))) then none else if (hi 12 7 : Int32) < 0 ∨ 729 ≤ Int32.toNatClampNeg (hi 12 7) then none else if ((wr (hi) 15 (Int32.toNatClampNeg (hi 12 7)) (hi 13 (Int32.toNatClampNeg (v2)))) 12 7 : Int32) < 0 ∨ 729 ≤ Int32.toNatClampNeg ((wr (hi) 15 (Int32.toNatClampNeg (hi 12 7)) (hi 13 (Int32.toNatClampNeg (v2)))) 12 7) then none else J_TurnTable_gatherKinds_94 N (v2) (wr (wr (wr (hi) 15 (Int32.toNatClampNeg (hi 12 7)) (hi 13 (Int32.toNatClampNeg (v2)))) 16 (Int32.toNatClampNeg ((wr (hi) 15 (Int32.toNatClampNeg (hi 12 7)) (hi 13 (Int32.toNatClampNeg (v2)))) 12 7)) (v2)) 12 7 ((((wr (wr (hi) 15 (Int32.toNatClampNeg (hi 12 7)) (hi 13 (Int32.toNatClampNeg (v2)))) 16 (Int32.toNatClampNeg ((wr (hi) 15 (Int32.toNatClampNeg (hi 12 7)) (hi 13 (Int32.toNatClampNeg (v2)))) 12 7)) (v2)) 12 7 : Int32) + (1)))) (wrL (hl) 41 (Int32.toNatClampNeg (((hi 13 (Int32.toNatClampNeg (v2)) : Int32) >>> ((6) &&& 31)))) (((hl 41 (Int32.toNatClampNeg (((hi 13 (Int32.toNatClampNeg (v2)) : Int32) >>> ((6) &&& 31)))) : Int64) ||| (((1 : Int64) <<< (Int32.toInt64 (((hi 13 (Int32.toNatClampNeg (v2)) : Int32) &&& (63))) &&& 63)))))) else J_TurnTable_gatherKinds_94 N (v2) (hi) (hl)
set_option maxRecDepth 10000 in
set_option maxHeartbeats 4000000 in
theorem bB_TurnTable_gatherKinds_12 (ev : EV) {N : Nat} {v2 : Int32} {hi : HI} {hl : HL} {z : (Int32 × HI × HL) ⊕ (HI × HL)} {OUT : Option Value × HI × HL} (h : B_TurnTable_gatherKinds_12 N v2 hi hl = some z) (hk : Sum.elim (fun s => EX w0 ev 1 m_TurnTable_gatherKinds 12 [(0, .ref 12), (1, .ref 41), (2, .int (s.1))] [] (s.2.1) (s.2.2) OUT) (fun x => EX w0 ev 1 m_TurnTable_gatherKinds 100 [] [] (x.1) (x.2) OUT) z) : EX w0 ev 1 m_TurnTable_gatherKinds 12 [(0, .ref 12), (1, .ref 41), (2, .int (v2))] [] (hi) (hl) OUT := by
  unfold B_TurnTable_gatherKinds_12 at h
  refine EX.iload_n (x := v2) rfl (List.mem_of_getElem? (i := 2) rfl) ?_
  refine EX.aload_n (x := 12) rfl (List.mem_of_getElem? (i := 0) rfl) ?_
  refine EX.go (i := .getfield 46) (len := 3) (pc1 := 17) (st1 := [.int (hi 12 10), .int (v2)]) (hi1 := hi) (hl1 := hl) rfl ?_ (fun _ _ _ => rfl)
  rcases ite_some h with ⟨c2, h⟩ | ⟨c2, h⟩
  · refine EX.go (i := .if_icmp .ge 83) (len := 3) (pc1 := 100) (st1 := []) (hi1 := hi) (hl1 := hl) rfl ?_ (fun _ _ _ => if_pos c2)
    obtain rfl := Option.some.inj h
    have hk : EX w0 ev 1 m_TurnTable_gatherKinds 100 [] [] (hi) (hl) OUT := hk
    exact EX.pick [] hk rfl
  · refine EX.go (i := .if_icmp .ge 83) (len := 3) (pc1 := 20) (st1 := []) (hi1 := hi) (hl1 := hl) rfl ?_ (fun _ _ _ => if_neg c2)
    refine EX.aload_n (x := 12) rfl (List.mem_of_getElem? (i := 0) rfl) ?_
    refine EX.go (i := .getfield 9) (len := 3) (pc1 := 24) (st1 := [.ref 13]) (hi1 := hi) (hl1 := hl) rfl ?_ (fun _ _ _ => rfl)
    refine EX.iload_n (x := v2) rfl (List.mem_of_getElem? (i := 2) rfl) ?_
    obtain ⟨g3, h⟩ := grd_some h
    refine EX.iaload rfl rfl g3 ?_
    refine EX.istore_n (req1 := [(3, .int (hi 13 (Int32.toNatClampNeg (v2)))), (0, .ref 12), (1, .ref 41), (2, .int (v2))]) rfl rfl rfl ?_
    refine EX.lconst (v := 1) rfl rfl ?_
    refine EX.iload_n (x := hi 13 (Int32.toNatClampNeg (v2))) rfl (List.mem_of_getElem? (i := 0) rfl) ?_
    refine EX.bipush (v := 63) rfl rfl ?_
    refine EX.go (i := .iand) (len := 1) (pc1 := 32) (st1 := [.int (((hi 13 (Int32.toNatClampNeg (v2)) : Int32) &&& (63))), .long (1)]) (hi1 := hi) (hl1 := hl) rfl ?_ (fun _ _ _ => rfl)
    refine EX.go (i := .lshl) (len := 1) (pc1 := 33) (st1 := [.long (((1 : Int64) <<< (Int32.toInt64 (((hi 13 (Int32.toNatClampNeg (v2)) : Int32) &&& (63))) &&& 63)))]) (hi1 := hi) (hl1 := hl) rfl ?_ (fun _ _ _ => rfl)
    refine EX.lstore (req1 := [(4, .long (((1 : Int64) <<< (Int32.toInt64 (((hi 13 (Int32.toNatClampNeg (v2)) : Int32) &&& (63))) &&& 63)))), (3, .int (hi 13 (Int32.toNatClampNeg (v2)))), (0, .ref 12), (1, .ref 41), (2, .int (v2))]) rfl rfl rfl ?_
    refine EX.iload_n (x := hi 13 (Int32.toNatClampNeg (v2))) rfl (List.mem_of_getElem? (i := 1) rfl) ?_
    rcases ite_some h with ⟨c4, h⟩ | ⟨c4, h⟩
    · refine EX.go (i := .ifCond .eq 58) (len := 3) (pc1 := 94) (st1 := []) (hi1 := hi) (hl1 := hl) rfl ?_ (fun _ _ _ => if_pos c4)
      refine EX.pick [2, 3, 4] ?_ rfl
      exact bJ_TurnTable_gatherKinds_94 ev h hk
    · refine EX.go (i := .ifCond .eq 58) (len := 3) (pc1 := 39) (st1 := []) (hi1 := hi) (hl1 := hl) rfl ?_ (fun _ _ _ => if_neg c4)
      refine EX.aload_n (x := 41) rfl (List.mem_of_getElem? (i := 3) rfl) ?_
      refine EX.iload_n (x := hi 13 (Int32.toNatClampNeg (v2))) rfl (List.mem_of_getElem? (i := 1) rfl) ?_
      refine EX.bipush (v := 6) rfl rfl ?_
      refine EX.go (i := .ishr) (len := 1) (pc1 := 44) (st1 := [.int (((hi 13 (Int32.toNatClampNeg (v2)) : Int32) >>> ((6) &&& 31))), .ref 41]) (hi1 := hi) (hl1 := hl) rfl ?_ (fun _ _ _ => rfl)
      obtain ⟨g5, h⟩ := grd_some h
      refine EX.laload rfl rfl g5 ?_
      refine EX.lload (x := ((1 : Int64) <<< (Int32.toInt64 (((hi 13 (Int32.toNatClampNeg (v2)) : Int32) &&& (63))) &&& 63))) rfl (List.mem_of_getElem? (i := 0) rfl) ?_
      refine EX.go (i := .land) (len := 1) (pc1 := 48) (st1 := [.long (((hl 41 (Int32.toNatClampNeg (((hi 13 (Int32.toNatClampNeg (v2)) : Int32) >>> ((6) &&& 31)))) : Int64) &&& (((1 : Int64) <<< (Int32.toInt64 (((hi 13 (Int32.toNatClampNeg (v2)) : Int32) &&& (63))) &&& 63)))))]) (hi1 := hi) (hl1 := hl) rfl ?_ (fun _ _ _ => rfl)
      refine EX.lconst (v := 0) rfl rfl ?_
      refine EX.go (i := .lcmp) (len := 1) (pc1 := 50) (st1 := [.int ((lg_cmp (((hl 41 (Int32.toNatClampNeg (((hi 13 (Int32.toNatClampNeg (v2)) : Int32) >>> ((6) &&& 31)))) : Int64) &&& (((1 : Int64) <<< (Int32.toInt64 (((hi 13 (Int32.toNatClampNeg (v2)) : Int32) &&& (63))) &&& 63)))) : Int64) (0)))]) (hi1 := hi) (hl1 := hl) rfl ?_ (fun _ _ _ => rfl)
      rcases ite_some h with ⟨c6, h⟩ | ⟨c6, h⟩
      · refine EX.go (i := .ifCond .ne 44) (len := 3) (pc1 := 53) (st1 := []) (hi1 := hi) (hl1 := hl) rfl ?_ (fun _ _ _ => if_pos c6)
        refine EX.aload_n (x := 41) rfl (List.mem_of_getElem? (i := 3) rfl) ?_
        refine EX.iload_n (x := hi 13 (Int32.toNatClampNeg (v2))) rfl (List.mem_of_getElem? (i := 1) rfl) ?_
        refine EX.bipush (v := 6) rfl rfl ?_
        refine EX.go (i := .ishr) (len := 1) (pc1 := 58) (st1 := [.int (((hi 13 (Int32.toNatClampNeg (v2)) : Int32) >>> ((6) &&& 31))), .ref 41]) (hi1 := hi) (hl1 := hl) rfl ?_ (fun _ _ _ => rfl)
        refine EX.go (i := .dup2) (len := 1) (pc1 := 59) (st1 := [.int (((hi 13 (Int32.toNatClampNeg (v2)) : Int32) >>> ((6) &&& 31))), .ref 41, .int (((hi 13 (Int32.toNatClampNeg (v2)) : Int32) >>> ((6) &&& 31))), .ref 41]) (hi1 := hi) (hl1 := hl) rfl ?_ (fun _ _ _ => rfl)
        obtain ⟨g7, h⟩ := grd_some h
        refine EX.laload rfl rfl g7 ?_
        refine EX.lload (x := ((1 : Int64) <<< (Int32.toInt64 (((hi 13 (Int32.toNatClampNeg (v2)) : Int32) &&& (63))) &&& 63))) rfl (List.mem_of_getElem? (i := 0) rfl) ?_
        refine EX.go (i := .lor) (len := 1) (pc1 := 63) (st1 := [.long (((hl 41 (Int32.toNatClampNeg (((hi 13 (Int32.toNatClampNeg (v2)) : Int32) >>> ((6) &&& 31)))) : Int64) ||| (((1 : Int64) <<< (Int32.toInt64 (((hi 13 (Int32.toNatClampNeg (v2)) : Int32) &&& (63))) &&& 63))))), .int (((hi 13 (Int32.toNatClampNeg (v2)) : Int32) >>> ((6) &&& 31))), .ref 41]) (hi1 := hi) (hl1 := hl) rfl ?_ (fun _ _ _ => rfl)
        obtain ⟨g8, h⟩ := grd_some h
        refine EX.lastore rfl rfl g8 ?_
        refine EX.aload_n (x := 12) rfl (List.mem_of_getElem? (i := 2) rfl) ?_
        refine EX.go (i := .getfield 19) (len := 3) (pc1 := 68) (st1 := [.ref 15]) (hi1 := hi) (hl1 := wrL (hl) 41 (Int32.toNatClampNeg (((hi 13 (Int32.toNatClampNeg (v2)) : Int32) >>> ((6) &&& 31)))) (((hl 41 (Int32.toNatClampNeg (((hi 13 (Int32.toNatClampNeg (v2)) : Int32) >>> ((6) &&& 31)))) : Int64) ||| (((1 : Int64) <<< (Int32.toInt64 (((hi 13 (Int32.toNatClampNeg (v2)) : Int32) &&& (63))) &&& 63)))))) rfl ?_ (fun _ _ _ => rfl)
        refine EX.aload_n (x := 12) rfl (List.mem_of_getElem? (i := 2) rfl) ?_
        refine EX.go (i := .getfield 82) (len := 3) (pc1 := 72) (st1 := [.int (hi 12 7), .ref 15]) (hi1 := hi) (hl1 := wrL (hl) 41 (Int32.toNatClampNeg (((hi 13 (Int32.toNatClampNeg (v2)) : Int32) >>> ((6) &&& 31)))) (((hl 41 (Int32.toNatClampNeg (((hi 13 (Int32.toNatClampNeg (v2)) : Int32) >>> ((6) &&& 31)))) : Int64) ||| (((1 : Int64) <<< (Int32.toInt64 (((hi 13 (Int32.toNatClampNeg (v2)) : Int32) &&& (63))) &&& 63)))))) rfl ?_ (fun _ _ _ => rfl)
        refine EX.iload_n (x := hi 13 (Int32.toNatClampNeg (v2))) rfl (List.mem_of_getElem? (i := 1) rfl) ?_
        obtain ⟨g9, h⟩ := grd_some h
        refine EX.iastore rfl rfl g9 ?_
        refine EX.aload_n (x := 12) rfl (List.mem_of_getElem? (i := 2) rfl) ?_
        refine EX.go (i := .getfield 22) (len := 3) (pc1 := 78) (st1 := [.ref 16]) (hi1 := wr (hi) 15 (Int32.toNatClampNeg (hi 12 7)) (hi 13 (Int32.toNatClampNeg (v2)))) (hl1 := wrL (hl) 41 (Int32.toNatClampNeg (((hi 13 (Int32.toNatClampNeg (v2)) : Int32) >>> ((6) &&& 31)))) (((hl 41 (Int32.toNatClampNeg (((hi 13 (Int32.toNatClampNeg (v2)) : Int32) >>> ((6) &&& 31)))) : Int64) ||| (((1 : Int64) <<< (Int32.toInt64 (((hi 13 (Int32.toNatClampNeg (v2)) : Int32) &&& (63))) &&& 63)))))) rfl ?_ (fun _ _ _ => rfl)
        refine EX.aload_n (x := 12) rfl (List.mem_of_getElem? (i := 2) rfl) ?_
        refine EX.go (i := .getfield 82) (len := 3) (pc1 := 82) (st1 := [.int ((wr (hi) 15 (Int32.toNatClampNeg (hi 12 7)) (hi 13 (Int32.toNatClampNeg (v2)))) 12 7), .ref 16]) (hi1 := wr (hi) 15 (Int32.toNatClampNeg (hi 12 7)) (hi 13 (Int32.toNatClampNeg (v2)))) (hl1 := wrL (hl) 41 (Int32.toNatClampNeg (((hi 13 (Int32.toNatClampNeg (v2)) : Int32) >>> ((6) &&& 31)))) (((hl 41 (Int32.toNatClampNeg (((hi 13 (Int32.toNatClampNeg (v2)) : Int32) >>> ((6) &&& 31)))) : Int64) ||| (((1 : Int64) <<< (Int32.toInt64 (((hi 13 (Int32.toNatClampNeg (v2)) : Int32) &&& (63))) &&& 63)))))) rfl ?_ (fun _ _ _ => rfl)
        refine EX.iload_n (x := v2) rfl (List.mem_of_getElem? (i := 4) rfl) ?_
        obtain ⟨g10, h⟩ := grd_some h
        refine EX.iastore rfl rfl g10 ?_
        refine EX.aload_n (x := 12) rfl (List.mem_of_getElem? (i := 2) rfl) ?_
        refine EX.go (i := .dup) (len := 1) (pc1 := 86) (st1 := [.ref 12, .ref 12]) (hi1 := wr (wr (hi) 15 (Int32.toNatClampNeg (hi 12 7)) (hi 13 (Int32.toNatClampNeg (v2)))) 16 (Int32.toNatClampNeg ((wr (hi) 15 (Int32.toNatClampNeg (hi 12 7)) (hi 13 (Int32.toNatClampNeg (v2)))) 12 7)) (v2)) (hl1 := wrL (hl) 41 (Int32.toNatClampNeg (((hi 13 (Int32.toNatClampNeg (v2)) : Int32) >>> ((6) &&& 31)))) (((hl 41 (Int32.toNatClampNeg (((hi 13 (Int32.toNatClampNeg (v2)) : Int32) >>> ((6) &&& 31)))) : Int64) ||| (((1 : Int64) <<< (Int32.toInt64 (((hi 13 (Int32.toNatClampNeg (v2)) : Int32) &&& (63))) &&& 63)))))) rfl ?_ (fun _ _ _ => rfl)
        refine EX.go (i := .getfield 82) (len := 3) (pc1 := 89) (st1 := [.int ((wr (wr (hi) 15 (Int32.toNatClampNeg (hi 12 7)) (hi 13 (Int32.toNatClampNeg (v2)))) 16 (Int32.toNatClampNeg ((wr (hi) 15 (Int32.toNatClampNeg (hi 12 7)) (hi 13 (Int32.toNatClampNeg (v2)))) 12 7)) (v2)) 12 7), .ref 12]) (hi1 := wr (wr (hi) 15 (Int32.toNatClampNeg (hi 12 7)) (hi 13 (Int32.toNatClampNeg (v2)))) 16 (Int32.toNatClampNeg ((wr (hi) 15 (Int32.toNatClampNeg (hi 12 7)) (hi 13 (Int32.toNatClampNeg (v2)))) 12 7)) (v2)) (hl1 := wrL (hl) 41 (Int32.toNatClampNeg (((hi 13 (Int32.toNatClampNeg (v2)) : Int32) >>> ((6) &&& 31)))) (((hl 41 (Int32.toNatClampNeg (((hi 13 (Int32.toNatClampNeg (v2)) : Int32) >>> ((6) &&& 31)))) : Int64) ||| (((1 : Int64) <<< (Int32.toInt64 (((hi 13 (Int32.toNatClampNeg (v2)) : Int32) &&& (63))) &&& 63)))))) rfl ?_ (fun _ _ _ => rfl)
        refine EX.iconst (v := 1) rfl rfl ?_
        refine EX.go (i := .iadd) (len := 1) (pc1 := 91) (st1 := [.int ((((wr (wr (hi) 15 (Int32.toNatClampNeg (hi 12 7)) (hi 13 (Int32.toNatClampNeg (v2)))) 16 (Int32.toNatClampNeg ((wr (hi) 15 (Int32.toNatClampNeg (hi 12 7)) (hi 13 (Int32.toNatClampNeg (v2)))) 12 7)) (v2)) 12 7 : Int32) + (1))), .ref 12]) (hi1 := wr (wr (hi) 15 (Int32.toNatClampNeg (hi 12 7)) (hi 13 (Int32.toNatClampNeg (v2)))) 16 (Int32.toNatClampNeg ((wr (hi) 15 (Int32.toNatClampNeg (hi 12 7)) (hi 13 (Int32.toNatClampNeg (v2)))) 12 7)) (v2)) (hl1 := wrL (hl) 41 (Int32.toNatClampNeg (((hi 13 (Int32.toNatClampNeg (v2)) : Int32) >>> ((6) &&& 31)))) (((hl 41 (Int32.toNatClampNeg (((hi 13 (Int32.toNatClampNeg (v2)) : Int32) >>> ((6) &&& 31)))) : Int64) ||| (((1 : Int64) <<< (Int32.toInt64 (((hi 13 (Int32.toNatClampNeg (v2)) : Int32) &&& (63))) &&& 63)))))) rfl ?_ (fun _ _ _ => rfl)
        refine EX.go (i := .putfield 82) (len := 3) (pc1 := 94) (st1 := []) (hi1 := wr (wr (wr (hi) 15 (Int32.toNatClampNeg (hi 12 7)) (hi 13 (Int32.toNatClampNeg (v2)))) 16 (Int32.toNatClampNeg ((wr (hi) 15 (Int32.toNatClampNeg (hi 12 7)) (hi 13 (Int32.toNatClampNeg (v2)))) 12 7)) (v2)) 12 7 ((((wr (wr (hi) 15 (Int32.toNatClampNeg (hi 12 7)) (hi 13 (Int32.toNatClampNeg (v2)))) 16 (Int32.toNatClampNeg ((wr (hi) 15 (Int32.toNatClampNeg (hi 12 7)) (hi 13 (Int32.toNatClampNeg (v2)))) 12 7)) (v2)) 12 7 : Int32) + (1)))) (hl1 := wrL (hl) 41 (Int32.toNatClampNeg (((hi 13 (Int32.toNatClampNeg (v2)) : Int32) >>> ((6) &&& 31)))) (((hl 41 (Int32.toNatClampNeg (((hi 13 (Int32.toNatClampNeg (v2)) : Int32) >>> ((6) &&& 31)))) : Int64) ||| (((1 : Int64) <<< (Int32.toInt64 (((hi 13 (Int32.toNatClampNeg (v2)) : Int32) &&& (63))) &&& 63)))))) rfl ?_ (fun _ _ _ => rfl)
        refine EX.pick [2, 3, 4] ?_ rfl
        exact bJ_TurnTable_gatherKinds_94 ev h hk
      · refine EX.go (i := .ifCond .ne 44) (len := 3) (pc1 := 94) (st1 := []) (hi1 := hi) (hl1 := hl) rfl ?_ (fun _ _ _ => if_neg c6)
        refine EX.pick [2, 3, 4] ?_ rfl
        exact bJ_TurnTable_gatherKinds_94 ev h hk
def f_TurnTable_gatherKinds (N : Nat) (hi : HI) (hl : HL) : Option (Unit × HI × HL) :=
  (f_Arrays_fill N (0) (hi) (hl)).bind fun z1 => (lpN (fun s => B_TurnTable_gatherKinds_12 N s.1 s.2.1 s.2.2) N (0, wr (z1.2.1) 12 7 (0), z1.2.2)).bind fun x11 => some ((), x11.1, x11.2)
set_option maxRecDepth 10000 in
set_option maxHeartbeats 4000000 in
theorem b_TurnTable_gatherKinds (ev : EV) {N : Nat} {hi : HI} {hl : HL} {o : Unit × HI × HL} (h : f_TurnTable_gatherKinds N hi hl = some o) : EM w0 ev 2 m_TurnTable_gatherKinds [.ref 12, .ref 41] hi hl (oV o) := by
  unfold f_TurnTable_gatherKinds at h
  refine EM.of rfl ?_
  show EX w0 ev 1 m_TurnTable_gatherKinds 0 [(0, .ref 12), (1, .ref 41)] [] (hi) (hl) (oV o)
  refine EX.aload_n (x := 41) rfl (List.mem_of_getElem? (i := 1) rfl) ?_
  refine EX.lconst (v := 0) rfl rfl ?_
  obtain ⟨z1, hz1, h⟩ := bnd_some h
  refine EX.callS (as := [.ref 41, .long (0)]) (rest := []) (r := none) (hi1 := z1.2.1) (hl1 := z1.2.2) rfl rfl rfl rfl rfl rfl ((b_Arrays_fill ev hz1).mono (by decide)) ?_
  show EX w0 ev 1 m_TurnTable_gatherKinds 5 [(0, .ref 12), (1, .ref 41)] [] (z1.2.1) (z1.2.2) (oV o)
  refine EX.aload_n (x := 12) rfl (List.mem_of_getElem? (i := 0) rfl) ?_
  refine EX.iconst (v := 0) rfl rfl ?_
  refine EX.go (i := .putfield 82) (len := 3) (pc1 := 10) (st1 := []) (hi1 := wr (z1.2.1) 12 7 (0)) (hl1 := z1.2.2) rfl ?_ (fun _ _ _ => rfl)
  refine EX.iconst (v := 0) rfl rfl ?_
  refine EX.istore_n (req1 := [(2, .int (0)), (0, .ref 12), (1, .ref 41)]) rfl rfl rfl ?_
  obtain ⟨x11, hx11, h⟩ := bnd_some h
  refine EX.pick [1, 2, 0] ?_ rfl
  refine lp_sound (f := fun s => B_TurnTable_gatherKinds_12 N s.1 s.2.1 s.2.2) (PS := fun s => EX w0 ev 1 m_TurnTable_gatherKinds 12 [(0, .ref 12), (1, .ref 41), (2, .int (s.1))] [] (s.2.1) (s.2.2) (oV o)) (PX := fun x => EX w0 ev 1 m_TurnTable_gatherKinds 100 [] [] (x.1) (x.2) (oV o)) ?_ N _ x11 hx11 ?_
  · exact fun s z hz hk => bB_TurnTable_gatherKinds_12 ev hz hk
  show EX w0 ev 1 m_TurnTable_gatherKinds 100 [] [] (x11.1) (x11.2) (oV o)
  obtain rfl := Option.some.inj h
  exact EX.vret rfl rfl
def J_TurnTable_tally_99 (N : Nat) (v1 : Int32) (hi : HI) (hl : HL) : Option ((Int32 × HI × HL) ⊕ (HI × HL)) :=
  some (.inl (v1 + 1, hi, hl))
set_option maxRecDepth 10000 in
set_option maxHeartbeats 4000000 in
theorem bJ_TurnTable_tally_99 (ev : EV) {N : Nat} {v1 : Int32} {hi : HI} {hl : HL} {z : (Int32 × HI × HL) ⊕ (HI × HL)} {OUT : Option Value × HI × HL} (h : J_TurnTable_tally_99 N v1 hi hl = some z) (hk : Sum.elim (fun s => EX w0 ev 1 m_TurnTable_tally 22 [(0, .ref 12), (1, .int (s.1))] [] (s.2.1) (s.2.2) OUT) (fun x => EX w0 ev 1 m_TurnTable_tally 105 [] [] (x.1) (x.2) OUT) z) : EX w0 ev 1 m_TurnTable_tally 99 [(0, .ref 12), (1, .int (v1))] [] (hi) (hl) OUT := by
  unfold J_TurnTable_tally_99 at h
  refine EX.iinc (x := v1) (v := v1 + 1) (req1 := [(1, .int (v1 + 1)), (0, .ref 12)]) rfl rfl (List.mem_of_getElem? (i := 1) rfl) rfl rfl ?_
  refine EX.go (i := .goto (-80)) (len := 3) (pc1 := 22) (st1 := []) (hi1 := hi) (hl1 := hl) rfl ?_ (fun _ _ _ => rfl)
  obtain rfl := Option.some.inj h
  have hk : EX w0 ev 1 m_TurnTable_tally 22 [(0, .ref 12), (1, .int (v1 + 1))] [] (hi) (hl) OUT := hk
  exact EX.pick [1, 0] hk rfl
def J_TurnTable_tally_77 (N : Nat) (v1 : Int32) (v2 : Int32) (s0 : Int32) (s1 : Int32) (hi : HI) (hl : HL) : Option ((Int32 × HI × HL) ⊕ (HI × HL)) :=
  if (v2 : Int32) ≤ ((wr (hi) 12 4 ((s1 + s0))) 12 5 : Int32) then J_TurnTable_tally_99 N (v1) (wr (hi) 12 4 ((s1 + s0))) (hl) else J_TurnTable_tally_99 N (v1) (wr (wr (wr (hi) 12 4 ((s1 + s0))) 12 5 (v2)) 12 6 (v1)) (hl)
set_option maxRecDepth 10000 in
set_option maxHeartbeats 4000000 in
theorem bJ_TurnTable_tally_77 (ev : EV) {N : Nat} {v1 : Int32} {v2 : Int32} {s0 : Int32} {s1 : Int32} {hi : HI} {hl : HL} {z : (Int32 × HI × HL) ⊕ (HI × HL)} {OUT : Option Value × HI × HL} (h : J_TurnTable_tally_77 N v1 v2 s0 s1 hi hl = some z) (hk : Sum.elim (fun s => EX w0 ev 1 m_TurnTable_tally 22 [(0, .ref 12), (1, .int (s.1))] [] (s.2.1) (s.2.2) OUT) (fun x => EX w0 ev 1 m_TurnTable_tally 105 [] [] (x.1) (x.2) OUT) z) : EX w0 ev 1 m_TurnTable_tally 77 [(0, .ref 12), (1, .int (v1)), (2, .int (v2))] [.int (s0), .int (s1), .ref 12] (hi) (hl) OUT := by
  unfold J_TurnTable_tally_77 at h
  refine EX.go (i := .iadd) (len := 1) (pc1 := 78) (st1 := [.int ((s1 + s0)), .ref 12]) (hi1 := hi) (hl1 := hl) rfl ?_ (fun _ _ _ => rfl)
  refine EX.go (i := .putfield 88) (len := 3) (pc1 := 81) (st1 := []) (hi1 := wr (hi) 12 4 ((s1 + s0))) (hl1 := hl) rfl ?_ (fun _ _ _ => rfl)
  refine EX.iload_n (x := v2) rfl (List.mem_of_getElem? (i := 2) rfl) ?_
  refine EX.aload_n (x := 12) rfl (List.mem_of_getElem? (i := 0) rfl) ?_
  refine EX.go (i := .getfield 91) (len := 3) (pc1 := 86) (st1 := [.int ((wr (hi) 12 4 ((s1 + s0))) 12 5), .int (v2)]) (hi1 := wr (hi) 12 4 ((s1 + s0))) (hl1 := hl) rfl ?_ (fun _ _ _ => rfl)
  rcases ite_some h with ⟨c7, h⟩ | ⟨c7, h⟩
  · refine EX.go (i := .if_icmp .le 13) (len := 3) (pc1 := 99) (st1 := []) (hi1 := wr (hi) 12 4 ((s1 + s0))) (hl1 := hl) rfl ?_ (fun _ _ _ => if_pos c7)
    refine EX.pick [0, 1] ?_ rfl
    exact bJ_TurnTable_tally_99 ev h hk
  · refine EX.go (i := .if_icmp .le 13) (len := 3) (pc1 := 89) (st1 := []) (hi1 := wr (hi) 12 4 ((s1 + s0))) (hl1 := hl) rfl ?_ (fun _ _ _ => if_neg c7)
    refine EX.aload_n (x := 12) rfl (List.mem_of_getElem? (i := 0) rfl) ?_
    refine EX.iload_n (x := v2) rfl (List.mem_of_getElem? (i := 2) rfl) ?_
    refine EX.go (i := .putfield 91) (len := 3) (pc1 := 94) (st1 := []) (hi1 := wr (wr (hi) 12 4 ((s1 + s0))) 12 5 (v2)) (hl1 := hl) rfl ?_ (fun _ _ _ => rfl)
    refine EX.aload_n (x := 12) rfl (List.mem_of_getElem? (i := 0) rfl) ?_
    refine EX.iload_n (x := v1) rfl (List.mem_of_getElem? (i := 1) rfl) ?_
    refine EX.go (i := .putfield 94) (len := 3) (pc1 := 99) (st1 := []) (hi1 := wr (wr (wr (hi) 12 4 ((s1 + s0))) 12 5 (v2)) 12 6 (v1)) (hl1 := hl) rfl ?_ (fun _ _ _ => rfl)
    refine EX.pick [0, 1] ?_ rfl
    exact bJ_TurnTable_tally_99 ev h hk
def J_TurnTable_tally_59 (N : Nat) (v1 : Int32) (v2 : Int32) (s0 : Int32) (s1 : Int32) (hi : HI) (hl : HL) : Option ((Int32 × HI × HL) ⊕ (HI × HL)) :=
  if (v2 : Int32) ≤ 0 then J_TurnTable_tally_77 N (v1) (v2) (0) ((wr (hi) 12 3 ((s1 + s0))) 12 4) (wr (hi) 12 3 ((s1 + s0))) (hl) else J_TurnTable_tally_77 N (v1) (v2) (1) ((wr (hi) 12 3 ((s1 + s0))) 12 4) (wr (hi) 12 3 ((s1 + s0))) (hl)
set_option maxRecDepth 10000 in
set_option maxHeartbeats 4000000 in
theorem bJ_TurnTable_tally_59 (ev : EV) {N : Nat} {v1 : Int32} {v2 : Int32} {s0 : Int32} {s1 : Int32} {hi : HI} {hl : HL} {z : (Int32 × HI × HL) ⊕ (HI × HL)} {OUT : Option Value × HI × HL} (h : J_TurnTable_tally_59 N v1 v2 s0 s1 hi hl = some z) (hk : Sum.elim (fun s => EX w0 ev 1 m_TurnTable_tally 22 [(0, .ref 12), (1, .int (s.1))] [] (s.2.1) (s.2.2) OUT) (fun x => EX w0 ev 1 m_TurnTable_tally 105 [] [] (x.1) (x.2) OUT) z) : EX w0 ev 1 m_TurnTable_tally 59 [(0, .ref 12), (1, .int (v1)), (2, .int (v2))] [.int (s0), .int (s1), .ref 12] (hi) (hl) OUT := by
  unfold J_TurnTable_tally_59 at h
  refine EX.go (i := .iadd) (len := 1) (pc1 := 60) (st1 := [.int ((s1 + s0)), .ref 12]) (hi1 := hi) (hl1 := hl) rfl ?_ (fun _ _ _ => rfl)
  refine EX.go (i := .putfield 85) (len := 3) (pc1 := 63) (st1 := []) (hi1 := wr (hi) 12 3 ((s1 + s0))) (hl1 := hl) rfl ?_ (fun _ _ _ => rfl)
  refine EX.aload_n (x := 12) rfl (List.mem_of_getElem? (i := 0) rfl) ?_
  refine EX.go (i := .dup) (len := 1) (pc1 := 65) (st1 := [.ref 12, .ref 12]) (hi1 := wr (hi) 12 3 ((s1 + s0))) (hl1 := hl) rfl ?_ (fun _ _ _ => rfl)
  refine EX.go (i := .getfield 88) (len := 3) (pc1 := 68) (st1 := [.int ((wr (hi) 12 3 ((s1 + s0))) 12 4), .ref 12]) (hi1 := wr (hi) 12 3 ((s1 + s0))) (hl1 := hl) rfl ?_ (fun _ _ _ => rfl)
  refine EX.iload_n (x := v2) rfl (List.mem_of_getElem? (i := 2) rfl) ?_
  rcases ite_some h with ⟨c6, h⟩ | ⟨c6, h⟩
  · refine EX.go (i := .ifCond .le 7) (len := 3) (pc1 := 76) (st1 := [.int ((wr (hi) 12 3 ((s1 + s0))) 12 4), .ref 12]) (hi1 := wr (hi) 12 3 ((s1 + s0))) (hl1 := hl) rfl ?_ (fun _ _ _ => if_pos c6)
    refine EX.iconst (v := 0) rfl rfl ?_
    refine EX.pick [0, 1, 2] ?_ rfl
    exact bJ_TurnTable_tally_77 ev h hk
  · refine EX.go (i := .ifCond .le 7) (len := 3) (pc1 := 72) (st1 := [.int ((wr (hi) 12 3 ((s1 + s0))) 12 4), .ref 12]) (hi1 := wr (hi) 12 3 ((s1 + s0))) (hl1 := hl) rfl ?_ (fun _ _ _ => if_neg c6)
    refine EX.iconst (v := 1) rfl rfl ?_
    refine EX.go (i := .goto 4) (len := 3) (pc1 := 77) (st1 := [.int (1), .int ((wr (hi) 12 3 ((s1 + s0))) 12 4), .ref 12]) (hi1 := wr (hi) 12 3 ((s1 + s0))) (hl1 := hl) rfl ?_ (fun _ _ _ => rfl)
    refine EX.pick [0, 1, 2] ?_ rfl
    exact bJ_TurnTable_tally_77 ev h hk
def B_TurnTable_tally_22 (N : Nat) (v1 : Int32) (hi : HI) (hl : HL) : Option ((Int32 × HI × HL) ⊕ (HI × HL)) :=
  if (hi 12 10 : Int32) ≤ (v1 : Int32) then some (.inr (hi, hl)) else if (v1 : Int32) < 0 ∨ 729 ≤ Int32.toNatClampNeg (v1) then none else (f_Integer_bitCount N (hi 13 (Int32.toNatClampNeg (v1))) (hi) (hl)).bind fun z3 => if (v1 : Int32) < 0 ∨ 729 ≤ Int32.toNatClampNeg (v1) then none else if (z3.2.1 14 (Int32.toNatClampNeg (v1)) : Int32) = 0 then J_TurnTable_tally_59 N (v1) (z3.1) (1) (z3.2.1 12 3) (z3.2.1) (z3.2.2) else J_TurnTable_tally_59 N (v1) (z3.1) (0) (z3.2.1 12 3) (z3.2.1) (z3.2.2)
set_option maxRecDepth 10000 in
set_option maxHeartbeats 4000000 in
theorem bB_TurnTable_tally_22 (ev : EV) {N : Nat} {v1 : Int32} {hi : HI} {hl : HL} {z : (Int32 × HI × HL) ⊕ (HI × HL)} {OUT : Option Value × HI × HL} (h : B_TurnTable_tally_22 N v1 hi hl = some z) (hk : Sum.elim (fun s => EX w0 ev 1 m_TurnTable_tally 22 [(0, .ref 12), (1, .int (s.1))] [] (s.2.1) (s.2.2) OUT) (fun x => EX w0 ev 1 m_TurnTable_tally 105 [] [] (x.1) (x.2) OUT) z) : EX w0 ev 1 m_TurnTable_tally 22 [(0, .ref 12), (1, .int (v1))] [] (hi) (hl) OUT := by
  unfold B_TurnTable_tally_22 at h
  refine EX.iload_n (x := v1) rfl (List.mem_of_getElem? (i := 1) rfl) ?_
  refine EX.aload_n (x := 12) rfl (List.mem_of_getElem? (i := 0) rfl) ?_
  refine EX.go (i := .getfield 46) (len := 3) (pc1 := 27) (st1 := [.int (hi 12 10), .int (v1)]) (hi1 := hi) (hl1 := hl) rfl ?_ (fun _ _ _ => rfl)
  rcases ite_some h with ⟨c1, h⟩ | ⟨c1, h⟩
  · refine EX.go (i := .if_icmp .ge 78) (len := 3) (pc1 := 105) (st1 := []) (hi1 := hi) (hl1 := hl) rfl ?_ (fun _ _ _ => if_pos c1)
    obtain rfl := Option.some.inj h
    have hk : EX w0 ev 1 m_TurnTable_tally 105 [] [] (hi) (hl) OUT := hk
    exact EX.pick [] hk rfl
  · refine EX.go (i := .if_icmp .ge 78) (len := 3) (pc1 := 30) (st1 := []) (hi1 := hi) (hl1 := hl) rfl ?_ (fun _ _ _ => if_neg c1)
    refine EX.aload_n (x := 12) rfl (List.mem_of_getElem? (i := 0) rfl) ?_
    refine EX.go (i := .getfield 9) (len := 3) (pc1 := 34) (st1 := [.ref 13]) (hi1 := hi) (hl1 := hl) rfl ?_ (fun _ _ _ => rfl)
    refine EX.iload_n (x := v1) rfl (List.mem_of_getElem? (i := 1) rfl) ?_
    obtain ⟨g2, h⟩ := grd_some h
    refine EX.iaload rfl rfl g2 ?_
    obtain ⟨z3, hz3, h⟩ := bnd_some h
    refine EX.callS (as := [.int (hi 13 (Int32.toNatClampNeg (v1)))]) (rest := []) (r := some (.int (z3.1))) (hi1 := z3.2.1) (hl1 := z3.2.2) rfl rfl rfl rfl rfl rfl ((b_Integer_bitCount ev hz3).mono (by decide)) ?_
    show EX w0 ev 1 m_TurnTable_tally 39 [(0, .ref 12), (1, .int (v1))] [.int (z3.1)] (z3.2.1) (z3.2.2) OUT
    refine EX.istore_n (req1 := [(2, .int (z3.1)), (0, .ref 12), (1, .int (v1))]) rfl rfl rfl ?_
    refine EX.aload_n (x := 12) rfl (List.mem_of_getElem? (i := 1) rfl) ?_
    refine EX.go (i := .dup) (len := 1) (pc1 := 42) (st1 := [.ref 12, .ref 12]) (hi1 := z3.2.1) (hl1 := z3.2.2) rfl ?_ (fun _ _ _ => rfl)
    refine EX.go (i := .getfield 85) (len := 3) (pc1 := 45) (st1 := [.int (z3.2.1 12 3), .ref 12]) (hi1 := z3.2.1) (hl1 := z3.2.2) rfl ?_ (fun _ _ _ => rfl)
    refine EX.aload_n (x := 12) rfl (List.mem_of_getElem? (i := 1) rfl) ?_
    refine EX.go (i := .getfield 15) (len := 3) (pc1 := 49) (st1 := [.ref 14, .int (z3.2.1 12 3), .ref 12]) (hi1 := z3.2.1) (hl1 := z3.2.2) rfl ?_ (fun _ _ _ => rfl)
    refine EX.iload_n (x := v1) rfl (List.mem_of_getElem? (i := 2) rfl) ?_
    obtain ⟨g4, h⟩ := grd_some h
    refine EX.baload rfl rfl g4 ?_
    rcases ite_some h with ⟨c5, h⟩ | ⟨c5, h⟩
    · refine EX.go (i := .ifCond .ne 7) (len := 3) (pc1 := 54) (st1 := [.int (z3.2.1 12 3), .ref 12]) (hi1 := z3.2.1) (hl1 := z3.2.2) rfl ?_ (fun _ _ _ => if_pos c5)
      refine EX.iconst (v := 1) rfl rfl ?_
      refine EX.go (i := .goto 4) (len := 3) (pc1 := 59) (st1 := [.int (1), .int (z3.2.1 12 3), .ref 12]) (hi1 := z3.2.1) (hl1 := z3.2.2) rfl ?_ (fun _ _ _ => rfl)
      refine EX.pick [1, 2, 0] ?_ rfl
      exact bJ_TurnTable_tally_59 ev h hk
    · refine EX.go (i := .ifCond .ne 7) (len := 3) (pc1 := 58) (st1 := [.int (z3.2.1 12 3), .ref 12]) (hi1 := z3.2.1) (hl1 := z3.2.2) rfl ?_ (fun _ _ _ => if_neg c5)
      refine EX.iconst (v := 0) rfl rfl ?_
      refine EX.pick [1, 2, 0] ?_ rfl
      exact bJ_TurnTable_tally_59 ev h hk
def f_TurnTable_tally (N : Nat) (hi : HI) (hl : HL) : Option (Unit × HI × HL) :=
  (lpN (fun s => B_TurnTable_tally_22 N s.1 s.2.1 s.2.2) N (0, wr (wr (wr (wr (hi) 12 3 (0)) 12 4 (0)) 12 5 (0)) 12 6 (0), hl)).bind fun x8 => some ((), x8.1, x8.2)
set_option maxRecDepth 10000 in
set_option maxHeartbeats 4000000 in
theorem b_TurnTable_tally (ev : EV) {N : Nat} {hi : HI} {hl : HL} {o : Unit × HI × HL} (h : f_TurnTable_tally N hi hl = some o) : EM w0 ev 2 m_TurnTable_tally [.ref 12] hi hl (oV o) := by
  unfold f_TurnTable_tally at h
  refine EM.of rfl ?_
  show EX w0 ev 1 m_TurnTable_tally 0 [(0, .ref 12)] [] (hi) (hl) (oV o)
  refine EX.aload_n (x := 12) rfl (List.mem_of_getElem? (i := 0) rfl) ?_
  refine EX.iconst (v := 0) rfl rfl ?_
  refine EX.go (i := .putfield 85) (len := 3) (pc1 := 5) (st1 := []) (hi1 := wr (hi) 12 3 (0)) (hl1 := hl) rfl ?_ (fun _ _ _ => rfl)
  refine EX.aload_n (x := 12) rfl (List.mem_of_getElem? (i := 0) rfl) ?_
  refine EX.iconst (v := 0) rfl rfl ?_
  refine EX.go (i := .putfield 88) (len := 3) (pc1 := 10) (st1 := []) (hi1 := wr (wr (hi) 12 3 (0)) 12 4 (0)) (hl1 := hl) rfl ?_ (fun _ _ _ => rfl)
  refine EX.aload_n (x := 12) rfl (List.mem_of_getElem? (i := 0) rfl) ?_
  refine EX.iconst (v := 0) rfl rfl ?_
  refine EX.go (i := .putfield 91) (len := 3) (pc1 := 15) (st1 := []) (hi1 := wr (wr (wr (hi) 12 3 (0)) 12 4 (0)) 12 5 (0)) (hl1 := hl) rfl ?_ (fun _ _ _ => rfl)
  refine EX.aload_n (x := 12) rfl (List.mem_of_getElem? (i := 0) rfl) ?_
  refine EX.iconst (v := 0) rfl rfl ?_
  refine EX.go (i := .putfield 94) (len := 3) (pc1 := 20) (st1 := []) (hi1 := wr (wr (wr (wr (hi) 12 3 (0)) 12 4 (0)) 12 5 (0)) 12 6 (0)) (hl1 := hl) rfl ?_ (fun _ _ _ => rfl)
  refine EX.iconst (v := 0) rfl rfl ?_
  refine EX.istore_n (req1 := [(1, .int (0)), (0, .ref 12)]) rfl rfl rfl ?_
  obtain ⟨x8, hx8, h⟩ := bnd_some h
  refine EX.pick [1, 0] ?_ rfl
  refine lp_sound (f := fun s => B_TurnTable_tally_22 N s.1 s.2.1 s.2.2) (PS := fun s => EX w0 ev 1 m_TurnTable_tally 22 [(0, .ref 12), (1, .int (s.1))] [] (s.2.1) (s.2.2) (oV o)) (PX := fun x => EX w0 ev 1 m_TurnTable_tally 105 [] [] (x.1) (x.2) (oV o)) ?_ N _ x8 hx8 ?_
  · exact fun s z hz hk => bB_TurnTable_tally_22 ev hz hk
  show EX w0 ev 1 m_TurnTable_tally 105 [] [] (x8.1) (x8.2) (oV o)
  obtain rfl := Option.some.inj h
  exact EX.vret rfl rfl
def B_TurnTable_fill_34 (N : Nat) (v4 : Int32) (v5 : Int32) (hi : HI) (hl : HL) : Option ((Int32 × HI × HL) ⊕ (HI × HL)) :=
  if (v4 : Int32) < (v5 : Int32) then some (.inr (hi, hl)) else (f_Ways_leave N (v5) (hi) (hl)).bind fun z4 => (f_TurnTable_fillDriven N ((v4 &&& ((v5 ^^^ ((-1)))))) (z4.2.1) (z4.2.2)).bind fun z5 => some (.inl (v5 + 1, z5.2.1, z5.2.2))
set_option maxRecDepth 10000 in
set_option maxHeartbeats 4000000 in
theorem bB_TurnTable_fill_34 (ev : EV) {N : Nat} {v4 : Int32} {v5 : Int32} {hi : HI} {hl : HL} {z : (Int32 × HI × HL) ⊕ (HI × HL)} {OUT : Option Value × HI × HL} (h : B_TurnTable_fill_34 N v4 v5 hi hl = some z) (hk : Sum.elim (fun s => EX w0 ev 3 m_TurnTable_fill 34 [(0, .ref 12), (2, .ref 7), (3, .ref 41), (4, .int (v4)), (5, .int (s.1))] [] (s.2.1) (s.2.2) OUT) (fun x => EX w0 ev 3 m_TurnTable_fill 65 [(0, .ref 12), (3, .ref 41)] [] (x.1) (x.2) OUT) z) : EX w0 ev 3 m_TurnTable_fill 34 [(0, .ref 12), (2, .ref 7), (3, .ref 41), (4, .int (v4)), (5, .int (v5))] [] (hi) (hl) OUT := by
  unfold B_TurnTable_fill_34 at h
  refine EX.iload (x := v5) rfl (List.mem_of_getElem? (i := 4) rfl) ?_
  refine EX.iload (x := v4) rfl (List.mem_of_getElem? (i := 3) rfl) ?_
  rcases ite_some h with ⟨c3, h⟩ | ⟨c3, h⟩
  · refine EX.go (i := .if_icmp .gt 27) (len := 3) (pc1 := 65) (st1 := []) (hi1 := hi) (hl1 := hl) rfl ?_ (fun _ _ _ => if_pos c3)
    obtain rfl := Option.some.inj h
    have hk : EX w0 ev 3 m_TurnTable_fill 65 [(0, .ref 12), (3, .ref 41)] [] (hi) (hl) OUT := hk
    exact EX.pick [0, 2] hk rfl
  · refine EX.go (i := .if_icmp .gt 27) (len := 3) (pc1 := 41) (st1 := []) (hi1 := hi) (hl1 := hl) rfl ?_ (fun _ _ _ => if_neg c3)
    refine EX.aload_n (x := 7) rfl (List.mem_of_getElem? (i := 1) rfl) ?_
    refine EX.iload (x := v5) rfl (List.mem_of_getElem? (i := 4) rfl) ?_
    obtain ⟨z4, hz4, h⟩ := bnd_some h
    refine EX.callV (b := 7) (as := [.int (v5)]) (rest := []) (r := none) (hi1 := z4.2.1) (hl1 := z4.2.2) rfl rfl rfl rfl rfl rfl ((b_Ways_leave ev hz4).mono (by decide)) ?_
    show EX w0 ev 3 m_TurnTable_fill 47 [(0, .ref 12), (2, .ref 7), (3, .ref 41), (4, .int (v4)), (5, .int (v5))] [] (z4.2.1) (z4.2.2) OUT
    refine EX.aload_n (x := 12) rfl (List.mem_of_getElem? (i := 0) rfl) ?_
    refine EX.aload_n (x := 7) rfl (List.mem_of_getElem? (i := 1) rfl) ?_
    refine EX.iload (x := v4) rfl (List.mem_of_getElem? (i := 3) rfl) ?_
    refine EX.iload (x := v5) rfl (List.mem_of_getElem? (i := 4) rfl) ?_
    refine EX.iconst (v := (-1)) rfl rfl ?_
    refine EX.go (i := .ixor) (len := 1) (pc1 := 55) (st1 := [.int ((v5 ^^^ ((-1)))), .int (v4), .ref 7, .ref 12]) (hi1 := z4.2.1) (hl1 := z4.2.2) rfl ?_ (fun _ _ _ => rfl)
    refine EX.go (i := .iand) (len := 1) (pc1 := 56) (st1 := [.int ((v4 &&& ((v5 ^^^ ((-1)))))), .ref 7, .ref 12]) (hi1 := z4.2.1) (hl1 := z4.2.2) rfl ?_ (fun _ _ _ => rfl)
    obtain ⟨z5, hz5, h⟩ := bnd_some h
    refine EX.callV (b := 12) (as := [.ref 7, .int ((v4 &&& ((v5 ^^^ ((-1))))))]) (rest := []) (r := none) (hi1 := z5.2.1) (hl1 := z5.2.2) rfl rfl rfl rfl rfl rfl ((b_TurnTable_fillDriven ev hz5).mono (by decide)) ?_
    show EX w0 ev 3 m_TurnTable_fill 59 [(0, .ref 12), (2, .ref 7), (3, .ref 41), (4, .int (v4)), (5, .int (v5))] [] (z5.2.1) (z5.2.2) OUT
    refine EX.iinc (x := v5) (v := v5 + 1) (req1 := [(5, .int (v5 + 1)), (0, .ref 12), (2, .ref 7), (3, .ref 41), (4, .int (v4))]) rfl rfl (List.mem_of_getElem? (i := 4) rfl) rfl rfl ?_
    refine EX.go (i := .goto (-28)) (len := 3) (pc1 := 34) (st1 := []) (hi1 := z5.2.1) (hl1 := z5.2.2) rfl ?_ (fun _ _ _ => rfl)
    obtain rfl := Option.some.inj h
    have hk : EX w0 ev 3 m_TurnTable_fill 34 [(0, .ref 12), (2, .ref 7), (3, .ref 41), (4, .int (v4)), (5, .int (v5 + 1))] [] (z5.2.1) (z5.2.2) OUT := hk
    exact EX.pick [1, 2, 3, 4, 0] hk rfl
def f_TurnTable_fill (N : Nat) (hi : HI) (hl : HL) : Option (Unit × HI × HL) :=
  (f_Ways_load N (5) (hi) (hl)).bind fun z1 => if (z1.2.1 1 0 : Int32) < 0 ∨ 7 ≤ Int32.toNatClampNeg (z1.2.1 1 0) then none else (lpN (fun s => B_TurnTable_fill_34 N (((((1 : Int32) <<< (((wr (z1.2.1) 12 10 ((powT.getD (z1.2.1 1 0).toNatClampNeg 0))) 1 0) &&& 31)) : Int32) - (1))) s.1 s.2.1 s.2.2) N (0, wr (z1.2.1) 12 10 ((powT.getD (z1.2.1 1 0).toNatClampNeg 0)), z1.2.2)).bind fun x6 => (f_TurnTable_gatherKinds N (x6.1) (x6.2)).bind fun z7 => (f_TurnTable_tally N (z7.2.1) (z7.2.2)).bind fun z8 => some ((), wr (z8.2.1) 12 0 (1), z8.2.2)
set_option maxRecDepth 10000 in
set_option maxHeartbeats 4000000 in
theorem b_TurnTable_fill (ev : EV) {N : Nat} {hi : HI} {hl : HL} {o : Unit × HI × HL} (h : f_TurnTable_fill N hi hl = some o) : EM w0 ev 4 m_TurnTable_fill [.ref 12, .ref 1, .ref 7, .ref 41] hi hl (oV o) := by
  unfold f_TurnTable_fill at h
  refine EM.of rfl ?_
  show EX w0 ev 3 m_TurnTable_fill 0 [(0, .ref 12), (1, .ref 1), (2, .ref 7), (3, .ref 41)] [] (hi) (hl) (oV o)
  refine EX.aload_n (x := 7) rfl (List.mem_of_getElem? (i := 2) rfl) ?_
  refine EX.aload_n (x := 1) rfl (List.mem_of_getElem? (i := 1) rfl) ?_
  refine EX.aload_n (x := 1) rfl (List.mem_of_getElem? (i := 1) rfl) ?_
  refine EX.go (i := .getfield 28) (len := 3) (pc1 := 6) (st1 := [.ref 5, .ref 1, .ref 7]) (hi1 := hi) (hl1 := hl) rfl ?_ (fun _ _ _ => rfl)
  obtain ⟨z1, hz1, h⟩ := bnd_some h
  refine EX.callV (b := 7) (as := [.ref 1, .ref 5]) (rest := []) (r := none) (hi1 := z1.2.1) (hl1 := z1.2.2) rfl rfl rfl rfl rfl rfl ((b_Ways_load ev hz1).mono (by decide)) ?_
  show EX w0 ev 3 m_TurnTable_fill 9 [(0, .ref 12), (1, .ref 1), (2, .ref 7), (3, .ref 41)] [] (z1.2.1) (z1.2.2) (oV o)
  refine EX.aload_n (x := 12) rfl (List.mem_of_getElem? (i := 0) rfl) ?_
  refine EX.go (i := .getstatic 39) (len := 3) (pc1 := 13) (st1 := [.ref 1000000, .ref 12]) (hi1 := z1.2.1) (hl1 := z1.2.2) rfl ?_ (fun _ _ _ => rfl)
  refine EX.aload_n (x := 1) rfl (List.mem_of_getElem? (i := 1) rfl) ?_
  refine EX.go (i := .getfield 42) (len := 3) (pc1 := 17) (st1 := [.int (z1.2.1 1 0), .ref 1000000, .ref 12]) (hi1 := z1.2.1) (hl1 := z1.2.2) rfl ?_ (fun _ _ _ => rfl)
  obtain ⟨g2, h⟩ := grd_some h
  refine EX.ialoadR (v := .int ((powT.getD (z1.2.1 1 0).toNatClampNeg 0))) rfl rfl rfl g2 rfl ?_
  refine EX.go (i := .putfield 46) (len := 3) (pc1 := 21) (st1 := []) (hi1 := wr (z1.2.1) 12 10 ((powT.getD (z1.2.1 1 0).toNatClampNeg 0))) (hl1 := z1.2.2) rfl ?_ (fun _ _ _ => rfl)
  refine EX.iconst (v := 1) rfl rfl ?_
  refine EX.aload_n (x := 1) rfl (List.mem_of_getElem? (i := 1) rfl) ?_
  refine EX.go (i := .getfield 42) (len := 3) (pc1 := 26) (st1 := [.int ((wr (z1.2.1) 12 10 ((powT.getD (z1.2.1 1 0).toNatClampNeg 0))) 1 0), .int (1)]) (hi1 := wr (z1.2.1) 12 10 ((powT.getD (z1.2.1 1 0).toNatClampNeg 0))) (hl1 := z1.2.2) rfl ?_ (fun _ _ _ => rfl)
  refine EX.go (i := .ishl) (len := 1) (pc1 := 27) (st1 := [.int (((1 : Int32) <<< (((wr (z1.2.1) 12 10 ((powT.getD (z1.2.1 1 0).toNatClampNeg 0))) 1 0) &&& 31)))]) (hi1 := wr (z1.2.1) 12 10 ((powT.getD (z1.2.1 1 0).toNatClampNeg 0))) (hl1 := z1.2.2) rfl ?_ (fun _ _ _ => rfl)
  refine EX.iconst (v := 1) rfl rfl ?_
  refine EX.go (i := .isub) (len := 1) (pc1 := 29) (st1 := [.int (((((1 : Int32) <<< (((wr (z1.2.1) 12 10 ((powT.getD (z1.2.1 1 0).toNatClampNeg 0))) 1 0) &&& 31)) : Int32) - (1)))]) (hi1 := wr (z1.2.1) 12 10 ((powT.getD (z1.2.1 1 0).toNatClampNeg 0))) (hl1 := z1.2.2) rfl ?_ (fun _ _ _ => rfl)
  refine EX.istore (req1 := [(4, .int (((((1 : Int32) <<< (((wr (z1.2.1) 12 10 ((powT.getD (z1.2.1 1 0).toNatClampNeg 0))) 1 0) &&& 31)) : Int32) - (1)))), (0, .ref 12), (1, .ref 1), (2, .ref 7), (3, .ref 41)]) rfl rfl rfl ?_
  refine EX.iconst (v := 0) rfl rfl ?_
  refine EX.istore (req1 := [(5, .int (0)), (4, .int (((((1 : Int32) <<< (((wr (z1.2.1) 12 10 ((powT.getD (z1.2.1 1 0).toNatClampNeg 0))) 1 0) &&& 31)) : Int32) - (1)))), (0, .ref 12), (1, .ref 1), (2, .ref 7), (3, .ref 41)]) rfl rfl rfl ?_
  obtain ⟨x6, hx6, h⟩ := bnd_some h
  refine EX.pick [2, 4, 5, 1, 0] ?_ rfl
  refine lp_sound (f := fun s => B_TurnTable_fill_34 N (((((1 : Int32) <<< (((wr (z1.2.1) 12 10 ((powT.getD (z1.2.1 1 0).toNatClampNeg 0))) 1 0) &&& 31)) : Int32) - (1))) s.1 s.2.1 s.2.2) (PS := fun s => EX w0 ev 3 m_TurnTable_fill 34 [(0, .ref 12), (2, .ref 7), (3, .ref 41), (4, .int (((((1 : Int32) <<< (((wr (z1.2.1) 12 10 ((powT.getD (z1.2.1 1 0).toNatClampNeg 0))) 1 0) &&& 31)) : Int32) - (1)))), (5, .int (s.1))] [] (s.2.1) (s.2.2) (oV o)) (PX := fun x => EX w0 ev 3 m_TurnTable_fill 65 [(0, .ref 12), (3, .ref 41)] [] (x.1) (x.2) (oV o)) ?_ N _ x6 hx6 ?_
  · exact fun s z hz hk => bB_TurnTable_fill_34 ev hz hk
  show EX w0 ev 3 m_TurnTable_fill 65 [(0, .ref 12), (3, .ref 41)] [] (x6.1) (x6.2) (oV o)
  refine EX.aload_n (x := 12) rfl (List.mem_of_getElem? (i := 0) rfl) ?_
  refine EX.aload_n (x := 41) rfl (List.mem_of_getElem? (i := 1) rfl) ?_
  obtain ⟨z7, hz7, h⟩ := bnd_some h
  refine EX.callV (b := 12) (as := [.ref 41]) (rest := []) (r := none) (hi1 := z7.2.1) (hl1 := z7.2.2) rfl rfl rfl rfl rfl rfl ((b_TurnTable_gatherKinds ev hz7).mono (by decide)) ?_
  show EX w0 ev 3 m_TurnTable_fill 70 [(0, .ref 12), (3, .ref 41)] [] (z7.2.1) (z7.2.2) (oV o)
  refine EX.aload_n (x := 12) rfl (List.mem_of_getElem? (i := 0) rfl) ?_
  obtain ⟨z8, hz8, h⟩ := bnd_some h
  refine EX.callV (b := 12) (as := []) (rest := []) (r := none) (hi1 := z8.2.1) (hl1 := z8.2.2) rfl rfl rfl rfl rfl rfl ((b_TurnTable_tally ev hz8).mono (by decide)) ?_
  show EX w0 ev 3 m_TurnTable_fill 74 [(0, .ref 12), (3, .ref 41)] [] (z8.2.1) (z8.2.2) (oV o)
  refine EX.aload_n (x := 12) rfl (List.mem_of_getElem? (i := 0) rfl) ?_
  refine EX.iconst (v := 1) rfl rfl ?_
  refine EX.go (i := .putfield 64) (len := 3) (pc1 := 79) (st1 := []) (hi1 := wr (z8.2.1) 12 0 (1)) (hl1 := z8.2.2) rfl ?_ (fun _ _ _ => rfl)
  obtain rfl := Option.some.inj h
  exact EX.vret rfl rfl
def B_TurnTable_leastTurnOf_2 (N : Nat) (v1 : Int32) (v2 : Int32) (hi : HI) (hl : HL) : Option ((Int32 × HI × HL) ⊕ (Nat × Int32 × HI × HL)) :=
  if (hi 12 7 : Int32) ≤ (v2 : Int32) then some (.inr (0, v2, hi, hl)) else if (v2 : Int32) < 0 ∨ 729 ≤ Int32.toNatClampNeg (v2) then none else if (hi 15 (Int32.toNatClampNeg (v2)) : Int32) = (v1 : Int32) then some (.inr (1, v2, hi, hl)) else some (.inl (v2 + 1, hi, hl))
set_option maxRecDepth 10000 in
set_option maxHeartbeats 4000000 in
theorem bB_TurnTable_leastTurnOf_2 (ev : EV) {N : Nat} {v1 : Int32} {v2 : Int32} {hi : HI} {hl : HL} {z : (Int32 × HI × HL) ⊕ (Nat × Int32 × HI × HL)} {OUT : Option Value × HI × HL} (h : B_TurnTable_leastTurnOf_2 N v1 v2 hi hl = some z) (hk : Sum.elim (fun s => EX w0 ev 0 m_TurnTable_leastTurnOf 2 [(0, .ref 12), (1, .int (v1)), (2, .int (s.1))] [] (s.2.1) (s.2.2) OUT) (fun x => (x.1 = 0 → EX w0 ev 0 m_TurnTable_leastTurnOf 33 [] [] (x.2.2.1) (x.2.2.2) OUT) ∧ (x.1 = 1 → EX w0 ev 0 m_TurnTable_leastTurnOf 20 [(0, .ref 12), (2, .int (x.2.1))] [] (x.2.2.1) (x.2.2.2) OUT)) z) : EX w0 ev 0 m_TurnTable_leastTurnOf 2 [(0, .ref 12), (1, .int (v1)), (2, .int (v2))] [] (hi) (hl) OUT := by
  unfold B_TurnTable_leastTurnOf_2 at h
  refine EX.iload_n (x := v2) rfl (List.mem_of_getElem? (i := 2) rfl) ?_
  refine EX.aload_n (x := 12) rfl (List.mem_of_getElem? (i := 0) rfl) ?_
  refine EX.go (i := .getfield 82) (len := 3) (pc1 := 7) (st1 := [.int (hi 12 7), .int (v2)]) (hi1 := hi) (hl1 := hl) rfl ?_ (fun _ _ _ => rfl)
  rcases ite_some h with ⟨c1, h⟩ | ⟨c1, h⟩
  · refine EX.go (i := .if_icmp .ge 26) (len := 3) (pc1 := 33) (st1 := []) (hi1 := hi) (hl1 := hl) rfl ?_ (fun _ _ _ => if_pos c1)
    obtain rfl := Option.some.inj h
    have hk := hk.1 rfl
    have hk : EX w0 ev 0 m_TurnTable_leastTurnOf 33 [] [] (hi) (hl) OUT := hk
    exact EX.pick [] hk rfl
  · refine EX.go (i := .if_icmp .ge 26) (len := 3) (pc1 := 10) (st1 := []) (hi1 := hi) (hl1 := hl) rfl ?_ (fun _ _ _ => if_neg c1)
    refine EX.aload_n (x := 12) rfl (List.mem_of_getElem? (i := 0) rfl) ?_
    refine EX.go (i := .getfield 19) (len := 3) (pc1 := 14) (st1 := [.ref 15]) (hi1 := hi) (hl1 := hl) rfl ?_ (fun _ _ _ => rfl)
    refine EX.iload_n (x := v2) rfl (List.mem_of_getElem? (i := 2) rfl) ?_
    obtain ⟨g2, h⟩ := grd_some h
    refine EX.iaload rfl rfl g2 ?_
    refine EX.iload_n (x := v1) rfl (List.mem_of_getElem? (i := 1) rfl) ?_
    rcases ite_some h with ⟨c3, h⟩ | ⟨c3, h⟩
    · refine EX.go (i := .if_icmp .ne 10) (len := 3) (pc1 := 20) (st1 := []) (hi1 := hi) (hl1 := hl) rfl ?_ (fun _ _ _ => if_pos c3)
      obtain rfl := Option.some.inj h
      have hk := hk.2 rfl
      have hk : EX w0 ev 0 m_TurnTable_leastTurnOf 20 [(0, .ref 12), (2, .int (v2))] [] (hi) (hl) OUT := hk
      exact EX.pick [0, 2] hk rfl
    · refine EX.go (i := .if_icmp .ne 10) (len := 3) (pc1 := 27) (st1 := []) (hi1 := hi) (hl1 := hl) rfl ?_ (fun _ _ _ => if_neg c3)
      refine EX.iinc (x := v2) (v := v2 + 1) (req1 := [(2, .int (v2 + 1)), (0, .ref 12), (1, .int (v1))]) rfl rfl (List.mem_of_getElem? (i := 2) rfl) rfl rfl ?_
      refine EX.go (i := .goto (-28)) (len := 3) (pc1 := 2) (st1 := []) (hi1 := hi) (hl1 := hl) rfl ?_ (fun _ _ _ => rfl)
      obtain rfl := Option.some.inj h
      have hk : EX w0 ev 0 m_TurnTable_leastTurnOf 2 [(0, .ref 12), (1, .int (v1)), (2, .int (v2 + 1))] [] (hi) (hl) OUT := hk
      exact EX.pick [1, 2, 0] hk rfl
def f_TurnTable_leastTurnOf (N : Nat) (p1 : Int32) (hi : HI) (hl : HL) : Option (Int32 × HI × HL) :=
  (lpN (fun s => B_TurnTable_leastTurnOf_2 N (p1) s.1 s.2.1 s.2.2) N (0, hi, hl)).bind fun x4 => if x4.1 = 0 then some ((-4), x4.2.2.1, x4.2.2.2) else if (x4.2.1 : Int32) < 0 ∨ 729 ≤ Int32.toNatClampNeg (x4.2.1) then none else some (x4.2.2.1 16 (Int32.toNatClampNeg (x4.2.1)), x4.2.2.1, x4.2.2.2)
set_option maxRecDepth 10000 in
set_option maxHeartbeats 4000000 in
theorem b_TurnTable_leastTurnOf (ev : EV) {N : Nat} {p1 : Int32} {hi : HI} {hl : HL} {o : Int32 × HI × HL} (h : f_TurnTable_leastTurnOf N p1 hi hl = some o) : EM w0 ev 1 m_TurnTable_leastTurnOf [.ref 12, .int (p1)] hi hl (oI o) := by
  unfold f_TurnTable_leastTurnOf at h
  refine EM.of rfl ?_
  show EX w0 ev 0 m_TurnTable_leastTurnOf 0 [(0, .ref 12), (1, .int (p1))] [] (hi) (hl) (oI o)
  refine EX.iconst (v := 0) rfl rfl ?_
  refine EX.istore_n (req1 := [(2, .int (0)), (0, .ref 12), (1, .int (p1))]) rfl rfl rfl ?_
  obtain ⟨x4, hx4, h⟩ := bnd_some h
  refine EX.pick [1, 2, 0] ?_ rfl
  refine lp_sound (f := fun s => B_TurnTable_leastTurnOf_2 N (p1) s.1 s.2.1 s.2.2) (PS := fun s => EX w0 ev 0 m_TurnTable_leastTurnOf 2 [(0, .ref 12), (1, .int (p1)), (2, .int (s.1))] [] (s.2.1) (s.2.2) (oI o)) (PX := fun x => (x.1 = 0 → EX w0 ev 0 m_TurnTable_leastTurnOf 33 [] [] (x.2.2.1) (x.2.2.2) (oI o)) ∧ (x.1 = 1 → EX w0 ev 0 m_TurnTable_leastTurnOf 20 [(0, .ref 12), (2, .int (x.2.1))] [] (x.2.2.1) (x.2.2.2) (oI o))) ?_ N _ x4 hx4 ?_
  · exact fun s z hz hk => bB_TurnTable_leastTurnOf_2 ev hz hk
  rcases ite_some h with ⟨c5, h⟩ | ⟨c5, h⟩
  · refine ⟨fun _ => ?_, fun e9 => absurd (c5.symm.trans e9) (by decide)⟩
    show EX w0 ev 0 m_TurnTable_leastTurnOf 33 [] [] (x4.2.2.1) (x4.2.2.2) (oI o)
    refine EX.bipush (v := (-4)) rfl rfl ?_
    obtain rfl := Option.some.inj h
    exact EX.iret rfl rfl
  · refine ⟨fun e9 => absurd e9 c5, fun _ => ?_⟩
    show EX w0 ev 0 m_TurnTable_leastTurnOf 20 [(0, .ref 12), (2, .int (x4.2.1))] [] (x4.2.2.1) (x4.2.2.2) (oI o)
    refine EX.aload_n (x := 12) rfl (List.mem_of_getElem? (i := 0) rfl) ?_
    refine EX.go (i := .getfield 22) (len := 3) (pc1 := 24) (st1 := [.ref 16]) (hi1 := x4.2.2.1) (hl1 := x4.2.2.2) rfl ?_ (fun _ _ _ => rfl)
    refine EX.iload_n (x := x4.2.1) rfl (List.mem_of_getElem? (i := 1) rfl) ?_
    obtain ⟨g6, h⟩ := grd_some h
    refine EX.iaload rfl rfl g6 ?_
    obtain rfl := Option.some.inj h
    exact EX.iret rfl rfl
def J_TurnTable_isFree_16 (N : Nat) (hi : HI) (hl : HL) : Option (Int32 × HI × HL) :=
  some (0, hi, hl)
set_option maxRecDepth 10000 in
set_option maxHeartbeats 4000000 in
theorem bJ_TurnTable_isFree_16 (ev : EV) {N : Nat} {hi : HI} {hl : HL} {o : Int32 × HI × HL} (h : J_TurnTable_isFree_16 N hi hl = some o) : EX w0 ev 0 m_TurnTable_isFree 16 [] [] (hi) (hl) (oI o) := by
  unfold J_TurnTable_isFree_16 at h
  refine EX.iconst (v := 0) rfl rfl ?_
  obtain rfl := Option.some.inj h
  exact EX.zret rfl rfl (Or.inl rfl)
def f_TurnTable_isFree (N : Nat) (p0 : Int32) (p1 : Int32) (hi : HI) (hl : HL) : Option (Int32 × HI × HL) :=
  if (p1 : Int32) ≤ 0 then J_TurnTable_isFree_16 N (hi) (hl) else if (p1 : Int32) = 0 then none else if (((((p0 : Int32) / (p1)) : Int32) - (((p0 : Int32) / (p1)) : Int32) / (3) * (3)) : Int32) = 0 then some (1, hi, hl) else J_TurnTable_isFree_16 N (hi) (hl)
set_option maxRecDepth 10000 in
set_option maxHeartbeats 4000000 in
theorem b_TurnTable_isFree (ev : EV) {N : Nat} {p0 : Int32} {p1 : Int32} {hi : HI} {hl : HL} {o : Int32 × HI × HL} (h : f_TurnTable_isFree N p0 p1 hi hl = some o) : EM w0 ev 1 m_TurnTable_isFree [.int (p0), .int (p1)] hi hl (oI o) := by
  unfold f_TurnTable_isFree at h
  refine EM.of rfl ?_
  show EX w0 ev 0 m_TurnTable_isFree 0 [(0, .int (p0)), (1, .int (p1))] [] (hi) (hl) (oI o)
  refine EX.iload_n (x := p1) rfl (List.mem_of_getElem? (i := 1) rfl) ?_
  rcases ite_some h with ⟨c1, h⟩ | ⟨c1, h⟩
  · refine EX.go (i := .ifCond .le 15) (len := 3) (pc1 := 16) (st1 := []) (hi1 := hi) (hl1 := hl) rfl ?_ (fun _ _ _ => if_pos c1)
    refine EX.pick [] ?_ rfl
    exact bJ_TurnTable_isFree_16 ev h
  · refine EX.go (i := .ifCond .le 15) (len := 3) (pc1 := 4) (st1 := []) (hi1 := hi) (hl1 := hl) rfl ?_ (fun _ _ _ => if_neg c1)
    refine EX.iload_n (x := p0) rfl (List.mem_of_getElem? (i := 0) rfl) ?_
    refine EX.iload_n (x := p1) rfl (List.mem_of_getElem? (i := 1) rfl) ?_
    obtain ⟨g2, h⟩ := grd_some h
    refine EX.go (i := .idiv) (len := 1) (pc1 := 7) (st1 := [.int (((p0 : Int32) / (p1)))]) (hi1 := hi) (hl1 := hl) rfl ?_ (fun _ _ _ => if_neg g2)
    refine EX.iconst (v := 3) rfl rfl ?_
    refine EX.go (i := .irem) (len := 1) (pc1 := 9) (st1 := [.int (((((p0 : Int32) / (p1)) : Int32) - (((p0 : Int32) / (p1)) : Int32) / (3) * (3)))]) (hi1 := hi) (hl1 := hl) rfl ?_ (fun _ _ _ => rfl)
    rcases ite_some h with ⟨c3, h⟩ | ⟨c3, h⟩
    · refine EX.go (i := .ifCond .ne 7) (len := 3) (pc1 := 12) (st1 := []) (hi1 := hi) (hl1 := hl) rfl ?_ (fun _ _ _ => if_pos c3)
      refine EX.iconst (v := 1) rfl rfl ?_
      refine EX.go (i := .goto 4) (len := 3) (pc1 := 17) (st1 := [.int (1)]) (hi1 := hi) (hl1 := hl) rfl ?_ (fun _ _ _ => rfl)
      obtain rfl := Option.some.inj h
      exact EX.zret rfl rfl (Or.inr rfl)
    · refine EX.go (i := .ifCond .ne 7) (len := 3) (pc1 := 16) (st1 := []) (hi1 := hi) (hl1 := hl) rfl ?_ (fun _ _ _ => if_neg c3)
      refine EX.pick [] ?_ rfl
      exact bJ_TurnTable_isFree_16 ev h
def J_TurnTable_leastTurnAstray_59 (N : Nat) (v1 : Int32) (v2 : Int32) (v3 : Int32) (v4 : Int32) (hi : HI) (hl : HL) : Option ((Int32 × HI × HL) ⊕ (Nat × Int32 × HI × HL)) :=
  some (.inl (v4 + 1, hi, hl))
set_option maxRecDepth 10000 in
set_option maxHeartbeats 4000000 in
theorem bJ_TurnTable_leastTurnAstray_59 (ev : EV) {N : Nat} {v1 : Int32} {v2 : Int32} {v3 : Int32} {v4 : Int32} {hi : HI} {hl : HL} {z : (Int32 × HI × HL) ⊕ (Nat × Int32 × HI × HL)} {OUT : Option Value × HI × HL} (h : J_TurnTable_leastTurnAstray_59 N v1 v2 v3 v4 hi hl = some z) (hk : Sum.elim (fun s => EX w0 ev 1 m_TurnTable_leastTurnAstray 3 [(0, .ref 12), (1, .int (v1)), (2, .int (v2)), (3, .int (v3)), (4, .int (s.1))] [] (s.2.1) (s.2.2) OUT) (fun x => (x.1 = 0 → EX w0 ev 1 m_TurnTable_leastTurnAstray 65 [] [] (x.2.2.1) (x.2.2.2) OUT) ∧ (x.1 = 1 → EX w0 ev 1 m_TurnTable_leastTurnAstray 56 [(4, .int (x.2.1))] [] (x.2.2.1) (x.2.2.2) OUT)) z) : EX w0 ev 1 m_TurnTable_leastTurnAstray 59 [(0, .ref 12), (1, .int (v1)), (2, .int (v2)), (3, .int (v3)), (4, .int (v4))] [] (hi) (hl) OUT := by
  unfold J_TurnTable_leastTurnAstray_59 at h
  refine EX.iinc (x := v4) (v := v4 + 1) (req1 := [(4, .int (v4 + 1)), (0, .ref 12), (1, .int (v1)), (2, .int (v2)), (3, .int (v3))]) rfl rfl (List.mem_of_getElem? (i := 4) rfl) rfl rfl ?_
  refine EX.go (i := .goto (-59)) (len := 3) (pc1 := 3) (st1 := []) (hi1 := hi) (hl1 := hl) rfl ?_ (fun _ _ _ => rfl)
  obtain rfl := Option.some.inj h
  have hk : EX w0 ev 1 m_TurnTable_leastTurnAstray 3 [(0, .ref 12), (1, .int (v1)), (2, .int (v2)), (3, .int (v3)), (4, .int (v4 + 1))] [] (hi) (hl) OUT := hk
  exact EX.pick [1, 2, 3, 4, 0] hk rfl
def J_TurnTable_leastTurnAstray_35 (N : Nat) (v1 : Int32) (v2 : Int32) (v3 : Int32) (v4 : Int32) (s0 : Int32) (hi : HI) (hl : HL) : Option ((Int32 × HI × HL) ⊕ (Nat × Int32 × HI × HL)) :=
  if (s0 : Int32) = 0 then J_TurnTable_leastTurnAstray_59 N (v1) (v2) (v3) (v4) (hi) (hl) else if (v4 : Int32) < 0 ∨ 729 ≤ Int32.toNatClampNeg (v4) then none else if (((((hi 13 (Int32.toNatClampNeg (v4)) : Int32) >>> (v1 &&& 31)) : Int32) &&& (1)) : Int32) = 0 then J_TurnTable_leastTurnAstray_59 N (v1) (v2) (v3) (v4) (hi) (hl) else some (.inr (1, v4, hi, hl))
set_option maxRecDepth 10000 in
set_option maxHeartbeats 4000000 in
theorem bJ_TurnTable_leastTurnAstray_35 (ev : EV) {N : Nat} {v1 : Int32} {v2 : Int32} {v3 : Int32} {v4 : Int32} {s0 : Int32} {hi : HI} {hl : HL} {z : (Int32 × HI × HL) ⊕ (Nat × Int32 × HI × HL)} {OUT : Option Value × HI × HL} (h : J_TurnTable_leastTurnAstray_35 N v1 v2 v3 v4 s0 hi hl = some z) (hk : Sum.elim (fun s => EX w0 ev 1 m_TurnTable_leastTurnAstray 3 [(0, .ref 12), (1, .int (v1)), (2, .int (v2)), (3, .int (v3)), (4, .int (s.1))] [] (s.2.1) (s.2.2) OUT) (fun x => (x.1 = 0 → EX w0 ev 1 m_TurnTable_leastTurnAstray 65 [] [] (x.2.2.1) (x.2.2.2) OUT) ∧ (x.1 = 1 → EX w0 ev 1 m_TurnTable_leastTurnAstray 56 [(4, .int (x.2.1))] [] (x.2.2.1) (x.2.2.2) OUT)) z) : EX w0 ev 1 m_TurnTable_leastTurnAstray 35 [(0, .ref 12), (1, .int (v1)), (2, .int (v2)), (3, .int (v3)), (4, .int (v4))] [.int (s0)] (hi) (hl) OUT := by
  unfold J_TurnTable_leastTurnAstray_35 at h
  refine EX.istore (req1 := [(5, .int (s0)), (0, .ref 12), (1, .int (v1)), (2, .int (v2)), (3, .int (v3)), (4, .int (v4))]) rfl rfl rfl ?_
  refine EX.iload (x := s0) rfl (List.mem_of_getElem? (i := 0) rfl) ?_
  rcases ite_some h with ⟨c6, h⟩ | ⟨c6, h⟩
  · refine EX.go (i := .ifCond .eq 20) (len := 3) (pc1 := 59) (st1 := []) (hi1 := hi) (hl1 := hl) rfl ?_ (fun _ _ _ => if_pos c6)
    refine EX.pick [1, 2, 3, 4, 5] ?_ rfl
    exact bJ_TurnTable_leastTurnAstray_59 ev h hk
  · refine EX.go (i := .ifCond .eq 20) (len := 3) (pc1 := 42) (st1 := []) (hi1 := hi) (hl1 := hl) rfl ?_ (fun _ _ _ => if_neg c6)
    refine EX.aload_n (x := 12) rfl (List.mem_of_getElem? (i := 1) rfl) ?_
    refine EX.go (i := .getfield 9) (len := 3) (pc1 := 46) (st1 := [.ref 13]) (hi1 := hi) (hl1 := hl) rfl ?_ (fun _ _ _ => rfl)
    refine EX.iload (x := v4) rfl (List.mem_of_getElem? (i := 5) rfl) ?_
    obtain ⟨g7, h⟩ := grd_some h
    refine EX.iaload rfl rfl g7 ?_
    refine EX.iload_n (x := v1) rfl (List.mem_of_getElem? (i := 2) rfl) ?_
    refine EX.go (i := .ishr) (len := 1) (pc1 := 51) (st1 := [.int (((hi 13 (Int32.toNatClampNeg (v4)) : Int32) >>> (v1 &&& 31)))]) (hi1 := hi) (hl1 := hl) rfl ?_ (fun _ _ _ => rfl)
    refine EX.iconst (v := 1) rfl rfl ?_
    refine EX.go (i := .iand) (len := 1) (pc1 := 53) (st1 := [.int (((((hi 13 (Int32.toNatClampNeg (v4)) : Int32) >>> (v1 &&& 31)) : Int32) &&& (1)))]) (hi1 := hi) (hl1 := hl) rfl ?_ (fun _ _ _ => rfl)
    rcases ite_some h with ⟨c8, h⟩ | ⟨c8, h⟩
    · refine EX.go (i := .ifCond .eq 6) (len := 3) (pc1 := 59) (st1 := []) (hi1 := hi) (hl1 := hl) rfl ?_ (fun _ _ _ => if_pos c8)
      refine EX.pick [1, 2, 3, 4, 5] ?_ rfl
      exact bJ_TurnTable_leastTurnAstray_59 ev h hk
    · refine EX.go (i := .ifCond .eq 6) (len := 3) (pc1 := 56) (st1 := []) (hi1 := hi) (hl1 := hl) rfl ?_ (fun _ _ _ => if_neg c8)
      obtain rfl := Option.some.inj h
      have hk := hk.2 rfl
      have hk : EX w0 ev 1 m_TurnTable_leastTurnAstray 56 [(4, .int (v4))] [] (hi) (hl) OUT := hk
      exact EX.pick [5] hk rfl
def J_TurnTable_leastTurnAstray_30 (N : Nat) (v1 : Int32) (v2 : Int32) (v3 : Int32) (v4 : Int32) (hi : HI) (hl : HL) : Option ((Int32 × HI × HL) ⊕ (Nat × Int32 × HI × HL)) :=
  J_TurnTable_leastTurnAstray_35 N (v1) (v2) (v3) (v4) (1) (hi) (hl)
set_option maxRecDepth 10000 in
set_option maxHeartbeats 4000000 in
theorem bJ_TurnTable_leastTurnAstray_30 (ev : EV) {N : Nat} {v1 : Int32} {v2 : Int32} {v3 : Int32} {v4 : Int32} {hi : HI} {hl : HL} {z : (Int32 × HI × HL) ⊕ (Nat × Int32 × HI × HL)} {OUT : Option Value × HI × HL} (h : J_TurnTable_leastTurnAstray_30 N v1 v2 v3 v4 hi hl = some z) (hk : Sum.elim (fun s => EX w0 ev 1 m_TurnTable_leastTurnAstray 3 [(0, .ref 12), (1, .int (v1)), (2, .int (v2)), (3, .int (v3)), (4, .int (s.1))] [] (s.2.1) (s.2.2) OUT) (fun x => (x.1 = 0 → EX w0 ev 1 m_TurnTable_leastTurnAstray 65 [] [] (x.2.2.1) (x.2.2.2) OUT) ∧ (x.1 = 1 → EX w0 ev 1 m_TurnTable_leastTurnAstray 56 [(4, .int (x.2.1))] [] (x.2.2.1) (x.2.2.2) OUT)) z) : EX w0 ev 1 m_TurnTable_leastTurnAstray 30 [(0, .ref 12), (1, .int (v1)), (2, .int (v2)), (3, .int (v3)), (4, .int (v4))] [] (hi) (hl) OUT := by
  unfold J_TurnTable_leastTurnAstray_30 at h
  refine EX.iconst (v := 1) rfl rfl ?_
  refine EX.go (i := .goto 4) (len := 3) (pc1 := 35) (st1 := [.int (1)]) (hi1 := hi) (hl1 := hl) rfl ?_ (fun _ _ _ => rfl)
  refine EX.pick [0, 1, 2, 3, 4] ?_ rfl
  exact bJ_TurnTable_leastTurnAstray_35 ev h hk
def B_TurnTable_leastTurnAstray_3 (N : Nat) (v1 : Int32) (v2 : Int32) (v3 : Int32) (v4 : Int32) (hi : HI) (hl : HL) : Option ((Int32 × HI × HL) ⊕ (Nat × Int32 × HI × HL)) :=
  if (hi 12 10 : Int32) ≤ (v4 : Int32) then some (.inr (0, v4, hi, hl)) else (f_TurnTable_isFree N (v4) (v2) (hi) (hl)).bind fun z2 => if (z2.1 : Int32) = 0 then (f_TurnTable_isFree N (v4) (v3) (z2.2.1) (z2.2.2)).bind fun z4 => if (z4.1 : Int32) = 0 then J_TurnTable_leastTurnAstray_35 N (v1) (v2) (v3) (v4) (0) (z4.2.1) (z4.2.2) else J_TurnTable_leastTurnAstray_30 N (v1) (v2) (v3) (v4) (z4.2.1) (z4.2.2) else J_TurnTable_leastTurnAstray_30 N (v1) (v2) (v3) (v4) (z2.2.1) (z2.2.2)
set_option maxRecDepth 10000 in
set_option maxHeartbeats 4000000 in
theorem bB_TurnTable_leastTurnAstray_3 (ev : EV) {N : Nat} {v1 : Int32} {v2 : Int32} {v3 : Int32} {v4 : Int32} {hi : HI} {hl : HL} {z : (Int32 × HI × HL) ⊕ (Nat × Int32 × HI × HL)} {OUT : Option Value × HI × HL} (h : B_TurnTable_leastTurnAstray_3 N v1 v2 v3 v4 hi hl = some z) (hk : Sum.elim (fun s => EX w0 ev 1 m_TurnTable_leastTurnAstray 3 [(0, .ref 12), (1, .int (v1)), (2, .int (v2)), (3, .int (v3)), (4, .int (s.1))] [] (s.2.1) (s.2.2) OUT) (fun x => (x.1 = 0 → EX w0 ev 1 m_TurnTable_leastTurnAstray 65 [] [] (x.2.2.1) (x.2.2.2) OUT) ∧ (x.1 = 1 → EX w0 ev 1 m_TurnTable_leastTurnAstray 56 [(4, .int (x.2.1))] [] (x.2.2.1) (x.2.2.2) OUT)) z) : EX w0 ev 1 m_TurnTable_leastTurnAstray 3 [(0, .ref 12), (1, .int (v1)), (2, .int (v2)), (3, .int (v3)), (4, .int (v4))] [] (hi) (hl) OUT := by
  unfold B_TurnTable_leastTurnAstray_3 at h
  refine EX.iload (x := v4) rfl (List.mem_of_getElem? (i := 4) rfl) ?_
  refine EX.aload_n (x := 12) rfl (List.mem_of_getElem? (i := 0) rfl) ?_
  refine EX.go (i := .getfield 46) (len := 3) (pc1 := 9) (st1 := [.int (hi 12 10), .int (v4)]) (hi1 := hi) (hl1 := hl) rfl ?_ (fun _ _ _ => rfl)
  rcases ite_some h with ⟨c1, h⟩ | ⟨c1, h⟩
  · refine EX.go (i := .if_icmp .ge 56) (len := 3) (pc1 := 65) (st1 := []) (hi1 := hi) (hl1 := hl) rfl ?_ (fun _ _ _ => if_pos c1)
    obtain rfl := Option.some.inj h
    have hk := hk.1 rfl
    have hk : EX w0 ev 1 m_TurnTable_leastTurnAstray 65 [] [] (hi) (hl) OUT := hk
    exact EX.pick [] hk rfl
  · refine EX.go (i := .if_icmp .ge 56) (len := 3) (pc1 := 12) (st1 := []) (hi1 := hi) (hl1 := hl) rfl ?_ (fun _ _ _ => if_neg c1)
    refine EX.iload (x := v4) rfl (List.mem_of_getElem? (i := 4) rfl) ?_
    refine EX.iload_n (x := v2) rfl (List.mem_of_getElem? (i := 2) rfl) ?_
    obtain ⟨z2, hz2, h⟩ := bnd_some h
    refine EX.callS (as := [.int (v4), .int (v2)]) (rest := []) (r := some (.int (z2.1))) (hi1 := z2.2.1) (hl1 := z2.2.2) rfl rfl rfl rfl rfl rfl ((b_TurnTable_isFree ev hz2).mono (by decide)) ?_
    show EX w0 ev 1 m_TurnTable_leastTurnAstray 18 [(0, .ref 12), (1, .int (v1)), (2, .int (v2)), (3, .int (v3)), (4, .int (v4))] [.int (z2.1)] (z2.2.1) (z2.2.2) OUT
    rcases ite_some h with ⟨c3, h⟩ | ⟨c3, h⟩
    · refine EX.go (i := .ifCond .ne 12) (len := 3) (pc1 := 21) (st1 := []) (hi1 := z2.2.1) (hl1 := z2.2.2) rfl ?_ (fun _ _ _ => if_pos c3)
      refine EX.iload (x := v4) rfl (List.mem_of_getElem? (i := 4) rfl) ?_
      refine EX.iload_n (x := v3) rfl (List.mem_of_getElem? (i := 3) rfl) ?_
      obtain ⟨z4, hz4, h⟩ := bnd_some h
      refine EX.callS (as := [.int (v4), .int (v3)]) (rest := []) (r := some (.int (z4.1))) (hi1 := z4.2.1) (hl1 := z4.2.2) rfl rfl rfl rfl rfl rfl ((b_TurnTable_isFree ev hz4).mono (by decide)) ?_
      show EX w0 ev 1 m_TurnTable_leastTurnAstray 27 [(0, .ref 12), (1, .int (v1)), (2, .int (v2)), (3, .int (v3)), (4, .int (v4))] [.int (z4.1)] (z4.2.1) (z4.2.2) OUT
      rcases ite_some h with ⟨c5, h⟩ | ⟨c5, h⟩
      · refine EX.go (i := .ifCond .eq 7) (len := 3) (pc1 := 34) (st1 := []) (hi1 := z4.2.1) (hl1 := z4.2.2) rfl ?_ (fun _ _ _ => if_pos c5)
        refine EX.iconst (v := 0) rfl rfl ?_
        refine EX.pick [0, 1, 2, 3, 4] ?_ rfl
        exact bJ_TurnTable_leastTurnAstray_35 ev h hk
      · refine EX.go (i := .ifCond .eq 7) (len := 3) (pc1 := 30) (st1 := []) (hi1 := z4.2.1) (hl1 := z4.2.2) rfl ?_ (fun _ _ _ => if_neg c5)
        refine EX.pick [0, 1, 2, 3, 4] ?_ rfl
        exact bJ_TurnTable_leastTurnAstray_30 ev h hk
    · refine EX.go (i := .ifCond .ne 12) (len := 3) (pc1 := 30) (st1 := []) (hi1 := z2.2.1) (hl1 := z2.2.2) rfl ?_ (fun _ _ _ => if_neg c3)
      refine EX.pick [0, 1, 2, 3, 4] ?_ rfl
      exact bJ_TurnTable_leastTurnAstray_30 ev h hk
def f_TurnTable_leastTurnAstray (N : Nat) (p1 : Int32) (p2 : Int32) (p3 : Int32) (hi : HI) (hl : HL) : Option (Int32 × HI × HL) :=
  (lpN (fun s => B_TurnTable_leastTurnAstray_3 N (p1) (p2) (p3) s.1 s.2.1 s.2.2) N (0, hi, hl)).bind fun x9 => if x9.1 = 0 then some ((-4), x9.2.2.1, x9.2.2.2) else some (x9.2.1, x9.2.2.1, x9.2.2.2)
set_option maxRecDepth 10000 in
set_option maxHeartbeats 4000000 in
theorem b_TurnTable_leastTurnAstray (ev : EV) {N : Nat} {p1 : Int32} {p2 : Int32} {p3 : Int32} {hi : HI} {hl : HL} {o : Int32 × HI × HL} (h : f_TurnTable_leastTurnAstray N p1 p2 p3 hi hl = some o) : EM w0 ev 2 m_TurnTable_leastTurnAstray [.ref 12, .int (p1), .int (p2), .int (p3)] hi hl (oI o) := by
  unfold f_TurnTable_leastTurnAstray at h
  refine EM.of rfl ?_
  show EX w0 ev 1 m_TurnTable_leastTurnAstray 0 [(0, .ref 12), (1, .int (p1)), (2, .int (p2)), (3, .int (p3))] [] (hi) (hl) (oI o)
  refine EX.iconst (v := 0) rfl rfl ?_
  refine EX.istore (req1 := [(4, .int (0)), (0, .ref 12), (1, .int (p1)), (2, .int (p2)), (3, .int (p3))]) rfl rfl rfl ?_
  obtain ⟨x9, hx9, h⟩ := bnd_some h
  refine EX.pick [1, 2, 3, 4, 0] ?_ rfl
  refine lp_sound (f := fun s => B_TurnTable_leastTurnAstray_3 N (p1) (p2) (p3) s.1 s.2.1 s.2.2) (PS := fun s => EX w0 ev 1 m_TurnTable_leastTurnAstray 3 [(0, .ref 12), (1, .int (p1)), (2, .int (p2)), (3, .int (p3)), (4, .int (s.1))] [] (s.2.1) (s.2.2) (oI o)) (PX := fun x => (x.1 = 0 → EX w0 ev 1 m_TurnTable_leastTurnAstray 65 [] [] (x.2.2.1) (x.2.2.2) (oI o)) ∧ (x.1 = 1 → EX w0 ev 1 m_TurnTable_leastTurnAstray 56 [(4, .int (x.2.1))] [] (x.2.2.1) (x.2.2.2) (oI o))) ?_ N _ x9 hx9 ?_
  · exact fun s z hz hk => bB_TurnTable_leastTurnAstray_3 ev hz hk
  rcases ite_some h with ⟨c10, h⟩ | ⟨c10, h⟩
  · refine ⟨fun _ => ?_, fun e9 => absurd (c10.symm.trans e9) (by decide)⟩
    show EX w0 ev 1 m_TurnTable_leastTurnAstray 65 [] [] (x9.2.2.1) (x9.2.2.2) (oI o)
    refine EX.bipush (v := (-4)) rfl rfl ?_
    obtain rfl := Option.some.inj h
    exact EX.iret rfl rfl
  · refine ⟨fun e9 => absurd e9 c10, fun _ => ?_⟩
    show EX w0 ev 1 m_TurnTable_leastTurnAstray 56 [(4, .int (x9.2.1))] [] (x9.2.2.1) (x9.2.2.2) (oI o)
    refine EX.iload (x := x9.2.1) rfl (List.mem_of_getElem? (i := 0) rfl) ?_
    obtain rfl := Option.some.inj h
    exact EX.iret rfl rfl
def J_Unions_order_61 (N : Nat) (v2 : Int32) (v3 : Int32) (hi : HI) (hl : HL) : Option ((Int32 × HI × HL) ⊕ (HI × HL)) :=
  some (.inl (v3 + 1, hi, hl))
set_option maxRecDepth 10000 in
set_option maxHeartbeats 4000000 in
theorem bJ_Unions_order_61 (ev : EV) {N : Nat} {v2 : Int32} {v3 : Int32} {hi : HI} {hl : HL} {z : (Int32 × HI × HL) ⊕ (HI × HL)} {OUT : Option Value × HI × HL} (h : J_Unions_order_61 N v2 v3 hi hl = some z) (hk : Sum.elim (fun s => EX w0 ev 0 m_Unions_order 15 [(0, .ref 38), (1, .ref 12), (2, .int (v2)), (3, .int (s.1))] [] (s.2.1) (s.2.2) OUT) (fun x => EX w0 ev 0 m_Unions_order 67 [(0, .ref 38), (1, .ref 12), (2, .int (v2))] [] (x.1) (x.2) OUT) z) : EX w0 ev 0 m_Unions_order 61 [(0, .ref 38), (1, .ref 12), (2, .int (v2)), (3, .int (v3))] [] (hi) (hl) OUT := by
  unfold J_Unions_order_61 at h
  refine EX.iinc (x := v3) (v := v3 + 1) (req1 := [(3, .int (v3 + 1)), (0, .ref 38), (1, .ref 12), (2, .int (v2))]) rfl rfl (List.mem_of_getElem? (i := 3) rfl) rfl rfl ?_
  refine EX.go (i := .goto (-49)) (len := 3) (pc1 := 15) (st1 := []) (hi1 := hi) (hl1 := hl) rfl ?_ (fun _ _ _ => rfl)
  obtain rfl := Option.some.inj h
  have hk : EX w0 ev 0 m_Unions_order 15 [(0, .ref 38), (1, .ref 12), (2, .int (v2)), (3, .int (v3 + 1))] [] (hi) (hl) OUT := hk
  exact EX.pick [1, 2, 3, 0] hk rfl
def B_Unions_order_15 (N : Nat) (v2 : Int32) (v3 : Int32) (hi : HI) (hl : HL) : Option ((Int32 × HI × HL) ⊕ (HI × HL)) :=
  if (hi 12 7 : Int32) ≤ (v3 : Int32) then some (.inr (hi, hl)) else if (v3 : Int32) < 0 ∨ 729 ≤ Int32.toNatClampNeg (v3) then none else if (((hi 15 (Int32.toNatClampNeg (v3)) : Int32) >>> ((10) &&& 31)) : Int32) = (v2 : Int32) then if (v3 : Int32) < 0 ∨ 729 ≤ Int32.toNatClampNeg (v3) then none else if (hi 38 2 : Int32) < 0 ∨ 729 ≤ Int32.toNatClampNeg (hi 38 2) then none else J_Unions_order_61 N (v2) (v3) (wr (wr (hi) 40 (Int32.toNatClampNeg (hi 38 2)) (hi 15 (Int32.toNatClampNeg (v3)))) 38 2 ((((wr (hi) 40 (Int32.toNatClampNeg (hi 38 2)) (hi 15 (Int32.toNatClampNeg (v3)))) 38 2 : Int32) + (1)))) (hl) else J_Unions_order_61 N (v2) (v3) (hi) (hl)
set_option maxRecDepth 10000 in
set_option maxHeartbeats 4000000 in
theorem bB_Unions_order_15 (ev : EV) {N : Nat} {v2 : Int32} {v3 : Int32} {hi : HI} {hl : HL} {z : (Int32 × HI × HL) ⊕ (HI × HL)} {OUT : Option Value × HI × HL} (h : B_Unions_order_15 N v2 v3 hi hl = some z) (hk : Sum.elim (fun s => EX w0 ev 0 m_Unions_order 15 [(0, .ref 38), (1, .ref 12), (2, .int (v2)), (3, .int (s.1))] [] (s.2.1) (s.2.2) OUT) (fun x => EX w0 ev 0 m_Unions_order 67 [(0, .ref 38), (1, .ref 12), (2, .int (v2))] [] (x.1) (x.2) OUT) z) : EX w0 ev 0 m_Unions_order 15 [(0, .ref 38), (1, .ref 12), (2, .int (v2)), (3, .int (v3))] [] (hi) (hl) OUT := by
  unfold B_Unions_order_15 at h
  refine EX.iload_n (x := v3) rfl (List.mem_of_getElem? (i := 3) rfl) ?_
  refine EX.aload_n (x := 12) rfl (List.mem_of_getElem? (i := 1) rfl) ?_
  refine EX.go (i := .getfield 53) (len := 3) (pc1 := 20) (st1 := [.int (hi 12 7), .int (v3)]) (hi1 := hi) (hl1 := hl) rfl ?_ (fun _ _ _ => rfl)
  rcases ite_some h with ⟨c2, h⟩ | ⟨c2, h⟩
  · refine EX.go (i := .if_icmp .ge 47) (len := 3) (pc1 := 67) (st1 := []) (hi1 := hi) (hl1 := hl) rfl ?_ (fun _ _ _ => if_pos c2)
    obtain rfl := Option.some.inj h
    have hk : EX w0 ev 0 m_Unions_order 67 [(0, .ref 38), (1, .ref 12), (2, .int (v2))] [] (hi) (hl) OUT := hk
    exact EX.pick [0, 1, 2] hk rfl
  · refine EX.go (i := .if_icmp .ge 47) (len := 3) (pc1 := 23) (st1 := []) (hi1 := hi) (hl1 := hl) rfl ?_ (fun _ _ _ => if_neg c2)
    refine EX.aload_n (x := 12) rfl (List.mem_of_getElem? (i := 1) rfl) ?_
    refine EX.go (i := .getfield 56) (len := 3) (pc1 := 27) (st1 := [.ref 15]) (hi1 := hi) (hl1 := hl) rfl ?_ (fun _ _ _ => rfl)
    refine EX.iload_n (x := v3) rfl (List.mem_of_getElem? (i := 3) rfl) ?_
    obtain ⟨g3, h⟩ := grd_some h
    refine EX.iaload rfl rfl g3 ?_
    refine EX.bipush (v := 10) rfl rfl ?_
    refine EX.go (i := .ishr) (len := 1) (pc1 := 32) (st1 := [.int (((hi 15 (Int32.toNatClampNeg (v3)) : Int32) >>> ((10) &&& 31)))]) (hi1 := hi) (hl1 := hl) rfl ?_ (fun _ _ _ => rfl)
    refine EX.iload_n (x := v2) rfl (List.mem_of_getElem? (i := 2) rfl) ?_
    rcases ite_some h with ⟨c4, h⟩ | ⟨c4, h⟩
    · refine EX.go (i := .if_icmp .ne 28) (len := 3) (pc1 := 36) (st1 := []) (hi1 := hi) (hl1 := hl) rfl ?_ (fun _ _ _ => if_pos c4)
      refine EX.aload_n (x := 38) rfl (List.mem_of_getElem? (i := 0) rfl) ?_
      refine EX.go (i := .getfield 15) (len := 3) (pc1 := 40) (st1 := [.ref 40]) (hi1 := hi) (hl1 := hl) rfl ?_ (fun _ _ _ => rfl)
      refine EX.aload_n (x := 38) rfl (List.mem_of_getElem? (i := 0) rfl) ?_
      refine EX.go (i := .getfield 50) (len := 3) (pc1 := 44) (st1 := [.int (hi 38 2), .ref 40]) (hi1 := hi) (hl1 := hl) rfl ?_ (fun _ _ _ => rfl)
      refine EX.aload_n (x := 12) rfl (List.mem_of_getElem? (i := 1) rfl) ?_
      refine EX.go (i := .getfield 56) (len := 3) (pc1 := 48) (st1 := [.ref 15, .int (hi 38 2), .ref 40]) (hi1 := hi) (hl1 := hl) rfl ?_ (fun _ _ _ => rfl)
      refine EX.iload_n (x := v3) rfl (List.mem_of_getElem? (i := 3) rfl) ?_
      obtain ⟨g5, h⟩ := grd_some h
      refine EX.iaload rfl rfl g5 ?_
      obtain ⟨g6, h⟩ := grd_some h
      refine EX.iastore rfl rfl g6 ?_
      refine EX.aload_n (x := 38) rfl (List.mem_of_getElem? (i := 0) rfl) ?_
      refine EX.go (i := .dup) (len := 1) (pc1 := 53) (st1 := [.ref 38, .ref 38]) (hi1 := wr (hi) 40 (Int32.toNatClampNeg (hi 38 2)) (hi 15 (Int32.toNatClampNeg (v3)))) (hl1 := hl) rfl ?_ (fun _ _ _ => rfl)
      refine EX.go (i := .getfield 50) (len := 3) (pc1 := 56) (st1 := [.int ((wr (hi) 40 (Int32.toNatClampNeg (hi 38 2)) (hi 15 (Int32.toNatClampNeg (v3)))) 38 2), .ref 38]) (hi1 := wr (hi) 40 (Int32.toNatClampNeg (hi 38 2)) (hi 15 (Int32.toNatClampNeg (v3)))) (hl1 := hl) rfl ?_ (fun _ _ _ => rfl)
      refine EX.iconst (v := 1) rfl rfl ?_
      refine EX.go (i := .iadd) (len := 1) (pc1 := 58) (st1 := [.int ((((wr (hi) 40 (Int32.toNatClampNeg (hi 38 2)) (hi 15 (Int32.toNatClampNeg (v3)))) 38 2 : Int32) + (1))), .ref 38]) (hi1 := wr (hi) 40 (Int32.toNatClampNeg (hi 38 2)) (hi 15 (Int32.toNatClampNeg (v3)))) (hl1 := hl) rfl ?_ (fun _ _ _ => rfl)
      refine EX.go (i := .putfield 50) (len := 3) (pc1 := 61) (st1 := []) (hi1 := wr (wr (hi) 40 (Int32.toNatClampNeg (hi 38 2)) (hi 15 (Int32.toNatClampNeg (v3)))) 38 2 ((((wr (hi) 40 (Int32.toNatClampNeg (hi 38 2)) (hi 15 (Int32.toNatClampNeg (v3)))) 38 2 : Int32) + (1)))) (hl1 := hl) rfl ?_ (fun _ _ _ => rfl)
      refine EX.pick [0, 1, 2, 3] ?_ rfl
      exact bJ_Unions_order_61 ev h hk
    · refine EX.go (i := .if_icmp .ne 28) (len := 3) (pc1 := 61) (st1 := []) (hi1 := hi) (hl1 := hl) rfl ?_ (fun _ _ _ => if_neg c4)
      refine EX.pick [0, 1, 2, 3] ?_ rfl
      exact bJ_Unions_order_61 ev h hk
def B_Unions_order_7 (N : Nat) (v2 : Int32) (hi : HI) (hl : HL) : Option ((Int32 × HI × HL) ⊕ (HI × HL)) :=
  if (64 : Int32) ≤ (v2 : Int32) then some (.inr (hi, hl)) else (lpN (fun s => B_Unions_order_15 N (v2) s.1 s.2.1 s.2.2) N (0, hi, hl)).bind fun x7 => some (.inl (v2 + 1, x7.1, x7.2))
set_option maxRecDepth 10000 in
set_option maxHeartbeats 4000000 in
theorem bB_Unions_order_7 (ev : EV) {N : Nat} {v2 : Int32} {hi : HI} {hl : HL} {z : (Int32 × HI × HL) ⊕ (HI × HL)} {OUT : Option Value × HI × HL} (h : B_Unions_order_7 N v2 hi hl = some z) (hk : Sum.elim (fun s => EX w0 ev 0 m_Unions_order 7 [(0, .ref 38), (1, .ref 12), (2, .int (s.1))] [] (s.2.1) (s.2.2) OUT) (fun x => EX w0 ev 0 m_Unions_order 73 [] [] (x.1) (x.2) OUT) z) : EX w0 ev 0 m_Unions_order 7 [(0, .ref 38), (1, .ref 12), (2, .int (v2))] [] (hi) (hl) OUT := by
  unfold B_Unions_order_7 at h
  refine EX.iload_n (x := v2) rfl (List.mem_of_getElem? (i := 2) rfl) ?_
  refine EX.bipush (v := 64) rfl rfl ?_
  rcases ite_some h with ⟨c1, h⟩ | ⟨c1, h⟩
  · refine EX.go (i := .if_icmp .ge 63) (len := 3) (pc1 := 73) (st1 := []) (hi1 := hi) (hl1 := hl) rfl ?_ (fun _ _ _ => if_pos c1)
    obtain rfl := Option.some.inj h
    have hk : EX w0 ev 0 m_Unions_order 73 [] [] (hi) (hl) OUT := hk
    exact EX.pick [] hk rfl
  · refine EX.go (i := .if_icmp .ge 63) (len := 3) (pc1 := 13) (st1 := []) (hi1 := hi) (hl1 := hl) rfl ?_ (fun _ _ _ => if_neg c1)
    refine EX.iconst (v := 0) rfl rfl ?_
    refine EX.istore_n (req1 := [(3, .int (0)), (0, .ref 38), (1, .ref 12), (2, .int (v2))]) rfl rfl rfl ?_
    obtain ⟨x7, hx7, h⟩ := bnd_some h
    refine EX.pick [1, 2, 3, 0] ?_ rfl
    refine lp_sound (f := fun s => B_Unions_order_15 N (v2) s.1 s.2.1 s.2.2) (PS := fun s => EX w0 ev 0 m_Unions_order 15 [(0, .ref 38), (1, .ref 12), (2, .int (v2)), (3, .int (s.1))] [] (s.2.1) (s.2.2) OUT) (PX := fun x => EX w0 ev 0 m_Unions_order 67 [(0, .ref 38), (1, .ref 12), (2, .int (v2))] [] (x.1) (x.2) OUT) ?_ N _ x7 hx7 ?_
    · exact fun s z hz hk => bB_Unions_order_15 ev hz hk
    show EX w0 ev 0 m_Unions_order 67 [(0, .ref 38), (1, .ref 12), (2, .int (v2))] [] (x7.1) (x7.2) OUT
    refine EX.iinc (x := v2) (v := v2 + 1) (req1 := [(2, .int (v2 + 1)), (0, .ref 38), (1, .ref 12)]) rfl rfl (List.mem_of_getElem? (i := 2) rfl) rfl rfl ?_
    refine EX.go (i := .goto (-63)) (len := 3) (pc1 := 7) (st1 := []) (hi1 := x7.1) (hl1 := x7.2) rfl ?_ (fun _ _ _ => rfl)
    obtain rfl := Option.some.inj h
    have hk : EX w0 ev 0 m_Unions_order 7 [(0, .ref 38), (1, .ref 12), (2, .int (v2 + 1))] [] (x7.1) (x7.2) OUT := hk
    exact EX.pick [1, 2, 0] hk rfl
def f_Unions_order (N : Nat) (hi : HI) (hl : HL) : Option (Unit × HI × HL) :=
  (lpN (fun s => B_Unions_order_7 N s.1 s.2.1 s.2.2) N (0, wr (hi) 38 2 (0), hl)).bind fun x8 => some ((), x8.1, x8.2)
set_option maxRecDepth 10000 in
set_option maxHeartbeats 4000000 in
theorem b_Unions_order (ev : EV) {N : Nat} {hi : HI} {hl : HL} {o : Unit × HI × HL} (h : f_Unions_order N hi hl = some o) : EM w0 ev 1 m_Unions_order [.ref 38, .ref 12] hi hl (oV o) := by
  unfold f_Unions_order at h
  refine EM.of rfl ?_
  show EX w0 ev 0 m_Unions_order 0 [(0, .ref 38), (1, .ref 12)] [] (hi) (hl) (oV o)
  refine EX.aload_n (x := 38) rfl (List.mem_of_getElem? (i := 0) rfl) ?_
  refine EX.iconst (v := 0) rfl rfl ?_
  refine EX.go (i := .putfield 50) (len := 3) (pc1 := 5) (st1 := []) (hi1 := wr (hi) 38 2 (0)) (hl1 := hl) rfl ?_ (fun _ _ _ => rfl)
  refine EX.iconst (v := 0) rfl rfl ?_
  refine EX.istore_n (req1 := [(2, .int (0)), (0, .ref 38), (1, .ref 12)]) rfl rfl rfl ?_
  obtain ⟨x8, hx8, h⟩ := bnd_some h
  refine EX.pick [1, 2, 0] ?_ rfl
  refine lp_sound (f := fun s => B_Unions_order_7 N s.1 s.2.1 s.2.2) (PS := fun s => EX w0 ev 0 m_Unions_order 7 [(0, .ref 38), (1, .ref 12), (2, .int (s.1))] [] (s.2.1) (s.2.2) (oV o)) (PX := fun x => EX w0 ev 0 m_Unions_order 73 [] [] (x.1) (x.2) (oV o)) ?_ N _ x8 hx8 ?_
  · exact fun s z hz hk => bB_Unions_order_7 ev hz hk
  show EX w0 ev 0 m_Unions_order 73 [] [] (x8.1) (x8.2) (oV o)
  obtain rfl := Option.some.inj h
  exact EX.vret rfl rfl
def J_Unions_raise_50 (N : Nat) (v2 : Int32) (v3 : Int64) (v5 : Int32) (hi : HI) (hl : HL) : Option ((Int64 × Int32 × HI × HL) ⊕ (Int64 × HI × HL)) :=
  some (.inl (v3, v5 + 1, hi, hl))
set_option maxRecDepth 10000 in
set_option maxHeartbeats 4000000 in
theorem bJ_Unions_raise_50 (ev : EV) {N : Nat} {v2 : Int32} {v3 : Int64} {v5 : Int32} {hi : HI} {hl : HL} {z : (Int64 × Int32 × HI × HL) ⊕ (Int64 × HI × HL)} {OUT : Option Value × HI × HL} (h : J_Unions_raise_50 N v2 v3 v5 hi hl = some z) (hk : Sum.elim (fun s => EX w0 ev 0 m_Unions_raise 5 [(2, .int (v2)), (3, .long (s.1)), (5, .int (s.2.1))] [] (s.2.2.1) (s.2.2.2) OUT) (fun x => EX w0 ev 0 m_Unions_raise 56 [(3, .long (x.1))] [] (x.2.1) (x.2.2) OUT) z) : EX w0 ev 0 m_Unions_raise 50 [(2, .int (v2)), (3, .long (v3)), (5, .int (v5))] [] (hi) (hl) OUT := by
  unfold J_Unions_raise_50 at h
  refine EX.iinc (x := v5) (v := v5 + 1) (req1 := [(5, .int (v5 + 1)), (2, .int (v2)), (3, .long (v3))]) rfl rfl (List.mem_of_getElem? (i := 2) rfl) rfl rfl ?_
  refine EX.go (i := .goto (-48)) (len := 3) (pc1 := 5) (st1 := []) (hi1 := hi) (hl1 := hl) rfl ?_ (fun _ _ _ => rfl)
  obtain rfl := Option.some.inj h
  have hk : EX w0 ev 0 m_Unions_raise 5 [(2, .int (v2)), (3, .long (v3)), (5, .int (v5 + 1))] [] (hi) (hl) OUT := hk
  exact EX.pick [1, 2, 0] hk rfl
def B_Unions_raise_5 (N : Nat) (v2 : Int32) (v3 : Int64) (v5 : Int32) (hi : HI) (hl : HL) : Option ((Int64 × Int32 × HI × HL) ⊕ (Int64 × HI × HL)) :=
  if (6 : Int32) ≤ (v5 : Int32) then some (.inr (v3, hi, hl)) else if ((((v2 >>> (v5 &&& 31)) : Int32) &&& (1)) : Int32) = 0 then J_Unions_raise_50 N (v2) (v3) (v5) (hi) (hl) else if (v5 : Int32) < 0 ∨ 6 ≤ Int32.toNatClampNeg (v5) then none else if (v5 : Int32) < 0 ∨ 6 ≤ Int32.toNatClampNeg (v5) then none else J_Unions_raise_50 N (v2) ((((v3 &&& ((withT.getD (v5).toNatClampNeg 0))) : Int64) ||| ((((v3 &&& ((((withT.getD (v5).toNatClampNeg 0) : Int64) ^^^ ((-1))))) : Int64) <<< (Int32.toInt64 (((1 : Int32) <<< (v5 &&& 31))) &&& 63))))) (v5) (hi) (hl)
set_option maxRecDepth 10000 in
set_option maxHeartbeats 4000000 in
theorem bB_Unions_raise_5 (ev : EV) {N : Nat} {v2 : Int32} {v3 : Int64} {v5 : Int32} {hi : HI} {hl : HL} {z : (Int64 × Int32 × HI × HL) ⊕ (Int64 × HI × HL)} {OUT : Option Value × HI × HL} (h : B_Unions_raise_5 N v2 v3 v5 hi hl = some z) (hk : Sum.elim (fun s => EX w0 ev 0 m_Unions_raise 5 [(2, .int (v2)), (3, .long (s.1)), (5, .int (s.2.1))] [] (s.2.2.1) (s.2.2.2) OUT) (fun x => EX w0 ev 0 m_Unions_raise 56 [(3, .long (x.1))] [] (x.2.1) (x.2.2) OUT) z) : EX w0 ev 0 m_Unions_raise 5 [(2, .int (v2)), (3, .long (v3)), (5, .int (v5))] [] (hi) (hl) OUT := by
  unfold B_Unions_raise_5 at h
  refine EX.iload (x := v5) rfl (List.mem_of_getElem? (i := 2) rfl) ?_
  refine EX.go (i := .getstatic 75) (len := 3) (pc1 := 10) (st1 := [.ref 1000001, .int (v5)]) (hi1 := hi) (hl1 := hl) rfl ?_ (fun _ _ _ => rfl)
  refine EX.go (i := .arraylength) (len := 1) (pc1 := 11) (st1 := [.int (6), .int (v5)]) (hi1 := hi) (hl1 := hl) rfl ?_ (fun _ _ _ => rfl)
  rcases ite_some h with ⟨c1, h⟩ | ⟨c1, h⟩
  · refine EX.go (i := .if_icmp .ge 45) (len := 3) (pc1 := 56) (st1 := []) (hi1 := hi) (hl1 := hl) rfl ?_ (fun _ _ _ => if_pos c1)
    obtain rfl := Option.some.inj h
    have hk : EX w0 ev 0 m_Unions_raise 56 [(3, .long (v3))] [] (hi) (hl) OUT := hk
    exact EX.pick [1] hk rfl
  · refine EX.go (i := .if_icmp .ge 45) (len := 3) (pc1 := 14) (st1 := []) (hi1 := hi) (hl1 := hl) rfl ?_ (fun _ _ _ => if_neg c1)
    refine EX.iload_n (x := v2) rfl (List.mem_of_getElem? (i := 0) rfl) ?_
    refine EX.iload (x := v5) rfl (List.mem_of_getElem? (i := 2) rfl) ?_
    refine EX.go (i := .ishr) (len := 1) (pc1 := 18) (st1 := [.int ((v2 >>> (v5 &&& 31)))]) (hi1 := hi) (hl1 := hl) rfl ?_ (fun _ _ _ => rfl)
    refine EX.iconst (v := 1) rfl rfl ?_
    refine EX.go (i := .iand) (len := 1) (pc1 := 20) (st1 := [.int ((((v2 >>> (v5 &&& 31)) : Int32) &&& (1)))]) (hi1 := hi) (hl1 := hl) rfl ?_ (fun _ _ _ => rfl)
    rcases ite_some h with ⟨c2, h⟩ | ⟨c2, h⟩
    · refine EX.go (i := .ifCond .eq 30) (len := 3) (pc1 := 50) (st1 := []) (hi1 := hi) (hl1 := hl) rfl ?_ (fun _ _ _ => if_pos c2)
      refine EX.pick [0, 1, 2] ?_ rfl
      exact bJ_Unions_raise_50 ev h hk
    · refine EX.go (i := .ifCond .eq 30) (len := 3) (pc1 := 23) (st1 := []) (hi1 := hi) (hl1 := hl) rfl ?_ (fun _ _ _ => if_neg c2)
      refine EX.lload_n (x := v3) rfl (List.mem_of_getElem? (i := 1) rfl) ?_
      refine EX.go (i := .getstatic 75) (len := 3) (pc1 := 27) (st1 := [.ref 1000001, .long (v3)]) (hi1 := hi) (hl1 := hl) rfl ?_ (fun _ _ _ => rfl)
      refine EX.iload (x := v5) rfl (List.mem_of_getElem? (i := 2) rfl) ?_
      obtain ⟨g3, h⟩ := grd_some h
      refine EX.laloadR (v := .long ((withT.getD (v5).toNatClampNeg 0))) rfl rfl rfl g3 rfl ?_
      refine EX.go (i := .land) (len := 1) (pc1 := 31) (st1 := [.long ((v3 &&& ((withT.getD (v5).toNatClampNeg 0))))]) (hi1 := hi) (hl1 := hl) rfl ?_ (fun _ _ _ => rfl)
      refine EX.lload_n (x := v3) rfl (List.mem_of_getElem? (i := 1) rfl) ?_
      refine EX.go (i := .getstatic 75) (len := 3) (pc1 := 35) (st1 := [.ref 1000001, .long (v3), .long ((v3 &&& ((withT.getD (v5).toNatClampNeg 0))))]) (hi1 := hi) (hl1 := hl) rfl ?_ (fun _ _ _ => rfl)
      refine EX.iload (x := v5) rfl (List.mem_of_getElem? (i := 2) rfl) ?_
      obtain ⟨g4, h⟩ := grd_some h
      refine EX.laloadR (v := .long ((withT.getD (v5).toNatClampNeg 0))) rfl rfl rfl g4 rfl ?_
      refine EX.go (i := .ldc2_w 63) (len := 3) (pc1 := 41) (st1 := [.long ((-1)), .long ((withT.getD (v5).toNatClampNeg 0)), .long (v3), .long ((v3 &&& ((withT.getD (v5).toNatClampNeg 0))))]) (hi1 := hi) (hl1 := hl) rfl ?_ (fun _ _ _ => rfl)
      refine EX.go (i := .lxor) (len := 1) (pc1 := 42) (st1 := [.long ((((withT.getD (v5).toNatClampNeg 0) : Int64) ^^^ ((-1)))), .long (v3), .long ((v3 &&& ((withT.getD (v5).toNatClampNeg 0))))]) (hi1 := hi) (hl1 := hl) rfl ?_ (fun _ _ _ => rfl)
      refine EX.go (i := .land) (len := 1) (pc1 := 43) (st1 := [.long ((v3 &&& ((((withT.getD (v5).toNatClampNeg 0) : Int64) ^^^ ((-1)))))), .long ((v3 &&& ((withT.getD (v5).toNatClampNeg 0))))]) (hi1 := hi) (hl1 := hl) rfl ?_ (fun _ _ _ => rfl)
      refine EX.iconst (v := 1) rfl rfl ?_
      refine EX.iload (x := v5) rfl (List.mem_of_getElem? (i := 2) rfl) ?_
      refine EX.go (i := .ishl) (len := 1) (pc1 := 47) (st1 := [.int (((1 : Int32) <<< (v5 &&& 31))), .long ((v3 &&& ((((withT.getD (v5).toNatClampNeg 0) : Int64) ^^^ ((-1)))))), .long ((v3 &&& ((withT.getD (v5).toNatClampNeg 0))))]) (hi1 := hi) (hl1 := hl) rfl ?_ (fun _ _ _ => rfl)
      refine EX.go (i := .lshl) (len := 1) (pc1 := 48) (st1 := [.long ((((v3 &&& ((((withT.getD (v5).toNatClampNeg 0) : Int64) ^^^ ((-1))))) : Int64) <<< (Int32.toInt64 (((1 : Int32) <<< (v5 &&& 31))) &&& 63))), .long ((v3 &&& ((withT.getD (v5).toNatClampNeg 0))))]) (hi1 := hi) (hl1 := hl) rfl ?_ (fun _ _ _ => rfl)
      refine EX.go (i := .lor) (len := 1) (pc1 := 49) (st1 := [.long ((((v3 &&& ((withT.getD (v5).toNatClampNeg 0))) : Int64) ||| ((((v3 &&& ((((withT.getD (v5).toNatClampNeg 0) : Int64) ^^^ ((-1))))) : Int64) <<< (Int32.toInt64 (((1 : Int32) <<< (v5 &&& 31))) &&& 63)))))]) (hi1 := hi) (hl1 := hl) rfl ?_ (fun _ _ _ => rfl)
      refine EX.lstore_n (req1 := [(3, .long ((((v3 &&& ((withT.getD (v5).toNatClampNeg 0))) : Int64) ||| ((((v3 &&& ((((withT.getD (v5).toNatClampNeg 0) : Int64) ^^^ ((-1))))) : Int64) <<< (Int32.toInt64 (((1 : Int32) <<< (v5 &&& 31))) &&& 63)))))), (2, .int (v2)), (5, .int (v5))]) rfl rfl rfl ?_
      refine EX.pick [1, 0, 2] ?_ rfl
      exact bJ_Unions_raise_50 ev h hk
def f_Unions_raise (N : Nat) (p0 : Int64) (p2 : Int32) (hi : HI) (hl : HL) : Option (Int64 × HI × HL) :=
  (lpN (fun s => B_Unions_raise_5 N (p2) s.1 s.2.1 s.2.2.1 s.2.2.2) N (p0, 0, hi, hl)).bind fun x5 => some (x5.1, x5.2.1, x5.2.2)
set_option maxRecDepth 10000 in
set_option maxHeartbeats 4000000 in
theorem b_Unions_raise (ev : EV) {N : Nat} {p0 : Int64} {p2 : Int32} {hi : HI} {hl : HL} {o : Int64 × HI × HL} (h : f_Unions_raise N p0 p2 hi hl = some o) : EM w0 ev 1 m_Unions_raise [.long (p0), .int (p2)] hi hl (oL o) := by
  unfold f_Unions_raise at h
  refine EM.of rfl ?_
  show EX w0 ev 0 m_Unions_raise 0 [(0, .long (p0)), (2, .int (p2))] [] (hi) (hl) (oL o)
  refine EX.lload_n (x := p0) rfl (List.mem_of_getElem? (i := 0) rfl) ?_
  refine EX.lstore_n (req1 := [(3, .long (p0)), (0, .long (p0)), (2, .int (p2))]) rfl rfl rfl ?_
  refine EX.iconst (v := 0) rfl rfl ?_
  refine EX.istore (req1 := [(5, .int (0)), (3, .long (p0)), (0, .long (p0)), (2, .int (p2))]) rfl rfl rfl ?_
  obtain ⟨x5, hx5, h⟩ := bnd_some h
  refine EX.pick [3, 1, 0] ?_ rfl
  refine lp_sound (f := fun s => B_Unions_raise_5 N (p2) s.1 s.2.1 s.2.2.1 s.2.2.2) (PS := fun s => EX w0 ev 0 m_Unions_raise 5 [(2, .int (p2)), (3, .long (s.1)), (5, .int (s.2.1))] [] (s.2.2.1) (s.2.2.2) (oL o)) (PX := fun x => EX w0 ev 0 m_Unions_raise 56 [(3, .long (x.1))] [] (x.2.1) (x.2.2) (oL o)) ?_ N _ x5 hx5 ?_
  · exact fun s z hz hk => bB_Unions_raise_5 ev hz hk
  show EX w0 ev 0 m_Unions_raise 56 [(3, .long (x5.1))] [] (x5.2.1) (x5.2.2) (oL o)
  refine EX.lload_n (x := x5.1) rfl (List.mem_of_getElem? (i := 0) rfl) ?_
  obtain rfl := Option.some.inj h
  exact EX.lret rfl rfl
def J_Unions_join_49 (N : Nat) (v1 : Int32) (v2 : Int64) (v4 : Int64) (v6 : Int32) (v7 : Int32) (hi : HI) (hl : HL) : Option ((Int64 × Int32 × Int32 × HI × HL) ⊕ (HI × HL)) :=
  if hi 38 5 = 42 then if (v7 : Int32) < 0 ∨ 729 ≤ Int32.toNatClampNeg (v7) then none else if (((2048 : Int32) + ((v1 ||| (((hi 40 (Int32.toNatClampNeg (v7)) : Int32) &&& (1023)))))) : Int32) < 0 ∨ 4096 ≤ Int32.toNatClampNeg (((2048 : Int32) + ((v1 ||| (((hi 40 (Int32.toNatClampNeg (v7)) : Int32) &&& (1023))))))) then none else if (((2048 : Int32) + ((v1 ||| (((hi 40 (Int32.toNatClampNeg (v7)) : Int32) &&& (1023)))))) : Int32) < 0 ∨ 4096 ≤ Int32.toNatClampNeg (((2048 : Int32) + ((v1 ||| (((hi 40 (Int32.toNatClampNeg (v7)) : Int32) &&& (1023))))))) then none else some (.inl (v4, v6, v7 + 1, hi, wrL (hl) 41 (Int32.toNatClampNeg (((2048 : Int32) + ((v1 ||| (((hi 40 (Int32.toNatClampNeg (v7)) : Int32) &&& (1023)))))))) (((hl 41 (Int32.toNatClampNeg (((2048 : Int32) + ((v1 ||| (((hi 40 (Int32.toNatClampNeg (v7)) : Int32) &&& (1023)))))))) : Int64) ||| v4)))) else none
set_option maxRecDepth 10000 in
set_option maxHeartbeats 4000000 in
theorem bJ_Unions_join_49 (ev : EV) {N : Nat} {v1 : Int32} {v2 : Int64} {v4 : Int64} {v6 : Int32} {v7 : Int32} {hi : HI} {hl : HL} {z : (Int64 × Int32 × Int32 × HI × HL) ⊕ (HI × HL)} {OUT : Option Value × HI × HL} (h : J_Unions_join_49 N v1 v2 v4 v6 v7 hi hl = some z) (hk : Sum.elim (fun s => EX w0 ev 1 m_Unions_join 9 [(0, .ref 38), (1, .int (v1)), (2, .long (v2)), (4, .long (s.1)), (6, .int (s.2.1)), (7, .int (s.2.2.1))] [] (s.2.2.2.1) (s.2.2.2.2) OUT) (fun x => EX w0 ev 1 m_Unions_join 82 [] [] (x.1) (x.2) OUT) z) : EX w0 ev 1 m_Unions_join 49 [(0, .ref 38), (1, .int (v1)), (2, .long (v2)), (4, .long (v4)), (6, .int (v6)), (7, .int (v7))] [] (hi) (hl) OUT := by
  unfold J_Unions_join_49 at h
  refine EX.aload_n (x := 38) rfl (List.mem_of_getElem? (i := 0) rfl) ?_
  obtain ⟨g4, h⟩ := grp_some h
  refine EX.getfieldV (v := .ref 41) rfl rfl rfl rfl (fv3 rfl g4) ?_
  refine EX.sipush (v := 2048) rfl rfl ?_
  refine EX.iload_n (x := v1) rfl (List.mem_of_getElem? (i := 1) rfl) ?_
  refine EX.aload_n (x := 38) rfl (List.mem_of_getElem? (i := 0) rfl) ?_
  refine EX.go (i := .getfield 15) (len := 3) (pc1 := 61) (st1 := [.ref 40, .int (v1), .int (2048), .ref 41]) (hi1 := hi) (hl1 := hl) rfl ?_ (fun _ _ _ => rfl)
  refine EX.iload (x := v7) rfl (List.mem_of_getElem? (i := 5) rfl) ?_
  obtain ⟨g5, h⟩ := grd_some h
  refine EX.iaload rfl rfl g5 ?_
  refine EX.sipush (v := 1023) rfl rfl ?_
  refine EX.go (i := .iand) (len := 1) (pc1 := 68) (st1 := [.int (((hi 40 (Int32.toNatClampNeg (v7)) : Int32) &&& (1023))), .int (v1), .int (2048), .ref 41]) (hi1 := hi) (hl1 := hl) rfl ?_ (fun _ _ _ => rfl)
  refine EX.go (i := .ior) (len := 1) (pc1 := 69) (st1 := [.int ((v1 ||| (((hi 40 (Int32.toNatClampNeg (v7)) : Int32) &&& (1023))))), .int (2048), .ref 41]) (hi1 := hi) (hl1 := hl) rfl ?_ (fun _ _ _ => rfl)
  refine EX.go (i := .iadd) (len := 1) (pc1 := 70) (st1 := [.int (((2048 : Int32) + ((v1 ||| (((hi 40 (Int32.toNatClampNeg (v7)) : Int32) &&& (1023))))))), .ref 41]) (hi1 := hi) (hl1 := hl) rfl ?_ (fun _ _ _ => rfl)
  refine EX.go (i := .dup2) (len := 1) (pc1 := 71) (st1 := [.int (((2048 : Int32) + ((v1 ||| (((hi 40 (Int32.toNatClampNeg (v7)) : Int32) &&& (1023))))))), .ref 41, .int (((2048 : Int32) + ((v1 ||| (((hi 40 (Int32.toNatClampNeg (v7)) : Int32) &&& (1023))))))), .ref 41]) (hi1 := hi) (hl1 := hl) rfl ?_ (fun _ _ _ => rfl)
  obtain ⟨g6, h⟩ := grd_some h
  refine EX.laload rfl rfl g6 ?_
  refine EX.lload (x := v4) rfl (List.mem_of_getElem? (i := 3) rfl) ?_
  refine EX.go (i := .lor) (len := 1) (pc1 := 75) (st1 := [.long (((hl 41 (Int32.toNatClampNeg (((2048 : Int32) + ((v1 ||| (((hi 40 (Int32.toNatClampNeg (v7)) : Int32) &&& (1023)))))))) : Int64) ||| v4)), .int (((2048 : Int32) + ((v1 ||| (((hi 40 (Int32.toNatClampNeg (v7)) : Int32) &&& (1023))))))), .ref 41]) (hi1 := hi) (hl1 := hl) rfl ?_ (fun _ _ _ => rfl)
  obtain ⟨g7, h⟩ := grd_some h
  refine EX.lastore rfl rfl g7 ?_
  refine EX.iinc (x := v7) (v := v7 + 1) (req1 := [(7, .int (v7 + 1)), (0, .ref 38), (1, .int (v1)), (2, .long (v2)), (4, .long (v4)), (6, .int (v6))]) rfl rfl (List.mem_of_getElem? (i := 5) rfl) rfl rfl ?_
  refine EX.go (i := .goto (-70)) (len := 3) (pc1 := 9) (st1 := []) (hi1 := hi) (hl1 := wrL (hl) 41 (Int32.toNatClampNeg (((2048 : Int32) + ((v1 ||| (((hi 40 (Int32.toNatClampNeg (v7)) : Int32) &&& (1023)))))))) (((hl 41 (Int32.toNatClampNeg (((2048 : Int32) + ((v1 ||| (((hi 40 (Int32.toNatClampNeg (v7)) : Int32) &&& (1023)))))))) : Int64) ||| v4))) rfl ?_ (fun _ _ _ => rfl)
  obtain rfl := Option.some.inj h
  have hk : EX w0 ev 1 m_Unions_join 9 [(0, .ref 38), (1, .int (v1)), (2, .long (v2)), (4, .long (v4)), (6, .int (v6)), (7, .int (v7 + 1))] [] (hi) (wrL (hl) 41 (Int32.toNatClampNeg (((2048 : Int32) + ((v1 ||| (((hi 40 (Int32.toNatClampNeg (v7)) : Int32) &&& (1023)))))))) (((hl 41 (Int32.toNatClampNeg (((2048 : Int32) + ((v1 ||| (((hi 40 (Int32.toNatClampNeg (v7)) : Int32) &&& (1023)))))))) : Int64) ||| v4))) OUT := hk
  exact EX.pick [1, 2, 3, 4, 5, 0] hk rfl
def B_Unions_join_9 (N : Nat) (v1 : Int32) (v2 : Int64) (v4 : Int64) (v6 : Int32) (v7 : Int32) (hi : HI) (hl : HL) : Option ((Int64 × Int32 × Int32 × HI × HL) ⊕ (HI × HL)) :=
  if (hi 38 2 : Int32) ≤ (v7 : Int32) then some (.inr (hi, hl)) else if (v7 : Int32) < 0 ∨ 729 ≤ Int32.toNatClampNeg (v7) then none else if (((hi 40 (Int32.toNatClampNeg (v7)) : Int32) >>> ((10) &&& 31)) : Int32) = (v6 : Int32) then J_Unions_join_49 N (v1) (v2) (v4) (v6) (v7) (hi) (hl) else (f_Unions_raise N (v2) (((hi 40 (Int32.toNatClampNeg (v7)) : Int32) >>> ((10) &&& 31))) (hi) (hl)).bind fun z8 => J_Unions_join_49 N (v1) (v2) (z8.1) (((hi 40 (Int32.toNatClampNeg (v7)) : Int32) >>> ((10) &&& 31))) (v7) (z8.2.1) (z8.2.2)
set_option maxRecDepth 10000 in
set_option maxHeartbeats 4000000 in
theorem bB_Unions_join_9 (ev : EV) {N : Nat} {v1 : Int32} {v2 : Int64} {v4 : Int64} {v6 : Int32} {v7 : Int32} {hi : HI} {hl : HL} {z : (Int64 × Int32 × Int32 × HI × HL) ⊕ (HI × HL)} {OUT : Option Value × HI × HL} (h : B_Unions_join_9 N v1 v2 v4 v6 v7 hi hl = some z) (hk : Sum.elim (fun s => EX w0 ev 1 m_Unions_join 9 [(0, .ref 38), (1, .int (v1)), (2, .long (v2)), (4, .long (s.1)), (6, .int (s.2.1)), (7, .int (s.2.2.1))] [] (s.2.2.2.1) (s.2.2.2.2) OUT) (fun x => EX w0 ev 1 m_Unions_join 82 [] [] (x.1) (x.2) OUT) z) : EX w0 ev 1 m_Unions_join 9 [(0, .ref 38), (1, .int (v1)), (2, .long (v2)), (4, .long (v4)), (6, .int (v6)), (7, .int (v7))] [] (hi) (hl) OUT := by
  unfold B_Unions_join_9 at h
  refine EX.iload (x := v7) rfl (List.mem_of_getElem? (i := 5) rfl) ?_
  refine EX.aload_n (x := 38) rfl (List.mem_of_getElem? (i := 0) rfl) ?_
  refine EX.go (i := .getfield 50) (len := 3) (pc1 := 15) (st1 := [.int (hi 38 2), .int (v7)]) (hi1 := hi) (hl1 := hl) rfl ?_ (fun _ _ _ => rfl)
  rcases ite_some h with ⟨c1, h⟩ | ⟨c1, h⟩
  · refine EX.go (i := .if_icmp .ge 67) (len := 3) (pc1 := 82) (st1 := []) (hi1 := hi) (hl1 := hl) rfl ?_ (fun _ _ _ => if_pos c1)
    obtain rfl := Option.some.inj h
    have hk : EX w0 ev 1 m_Unions_join 82 [] [] (hi) (hl) OUT := hk
    exact EX.pick [] hk rfl
  · refine EX.go (i := .if_icmp .ge 67) (len := 3) (pc1 := 18) (st1 := []) (hi1 := hi) (hl1 := hl) rfl ?_ (fun _ _ _ => if_neg c1)
    refine EX.aload_n (x := 38) rfl (List.mem_of_getElem? (i := 0) rfl) ?_
    refine EX.go (i := .getfield 15) (len := 3) (pc1 := 22) (st1 := [.ref 40]) (hi1 := hi) (hl1 := hl) rfl ?_ (fun _ _ _ => rfl)
    refine EX.iload (x := v7) rfl (List.mem_of_getElem? (i := 5) rfl) ?_
    obtain ⟨g2, h⟩ := grd_some h
    refine EX.iaload rfl rfl g2 ?_
    refine EX.bipush (v := 10) rfl rfl ?_
    refine EX.go (i := .ishr) (len := 1) (pc1 := 28) (st1 := [.int (((hi 40 (Int32.toNatClampNeg (v7)) : Int32) >>> ((10) &&& 31)))]) (hi1 := hi) (hl1 := hl) rfl ?_ (fun _ _ _ => rfl)
    refine EX.istore (req1 := [(8, .int (((hi 40 (Int32.toNatClampNeg (v7)) : Int32) >>> ((10) &&& 31)))), (0, .ref 38), (1, .int (v1)), (2, .long (v2)), (4, .long (v4)), (6, .int (v6)), (7, .int (v7))]) rfl rfl rfl ?_
    refine EX.iload (x := ((hi 40 (Int32.toNatClampNeg (v7)) : Int32) >>> ((10) &&& 31))) rfl (List.mem_of_getElem? (i := 0) rfl) ?_
    refine EX.iload (x := v6) rfl (List.mem_of_getElem? (i := 5) rfl) ?_
    rcases ite_some h with ⟨c3, h⟩ | ⟨c3, h⟩
    · refine EX.go (i := .if_icmp .eq 15) (len := 3) (pc1 := 49) (st1 := []) (hi1 := hi) (hl1 := hl) rfl ?_ (fun _ _ _ => if_pos c3)
      refine EX.pick [1, 2, 3, 4, 5, 6] ?_ rfl
      exact bJ_Unions_join_49 ev h hk
    · refine EX.go (i := .if_icmp .eq 15) (len := 3) (pc1 := 37) (st1 := []) (hi1 := hi) (hl1 := hl) rfl ?_ (fun _ _ _ => if_neg c3)
      refine EX.lload_n (x := v2) rfl (List.mem_of_getElem? (i := 3) rfl) ?_
      refine EX.iload (x := ((hi 40 (Int32.toNatClampNeg (v7)) : Int32) >>> ((10) &&& 31))) rfl (List.mem_of_getElem? (i := 0) rfl) ?_
      obtain ⟨z8, hz8, h⟩ := bnd_some h
      refine EX.callS (as := [.long (v2), .int (((hi 40 (Int32.toNatClampNeg (v7)) : Int32) >>> ((10) &&& 31)))]) (rest := []) (r := some (.long (z8.1))) (hi1 := z8.2.1) (hl1 := z8.2.2) rfl rfl rfl rfl rfl rfl ((b_Unions_raise ev hz8).mono (by decide)) ?_
      show EX w0 ev 1 m_Unions_join 43 [(8, .int (((hi 40 (Int32.toNatClampNeg (v7)) : Int32) >>> ((10) &&& 31)))), (0, .ref 38), (1, .int (v1)), (2, .long (v2)), (4, .long (v4)), (6, .int (v6)), (7, .int (v7))] [.long (z8.1)] (z8.2.1) (z8.2.2) OUT
      refine EX.lstore (req1 := [(4, .long (z8.1)), (8, .int (((hi 40 (Int32.toNatClampNeg (v7)) : Int32) >>> ((10) &&& 31)))), (0, .ref 38), (1, .int (v1)), (2, .long (v2)), (6, .int (v6)), (7, .int (v7))]) rfl rfl rfl ?_
      refine EX.iload (x := ((hi 40 (Int32.toNatClampNeg (v7)) : Int32) >>> ((10) &&& 31))) rfl (List.mem_of_getElem? (i := 1) rfl) ?_
      refine EX.istore (req1 := [(6, .int (((hi 40 (Int32.toNatClampNeg (v7)) : Int32) >>> ((10) &&& 31)))), (4, .long (z8.1)), (8, .int (((hi 40 (Int32.toNatClampNeg (v7)) : Int32) >>> ((10) &&& 31)))), (0, .ref 38), (1, .int (v1)), (2, .long (v2)), (7, .int (v7))]) rfl rfl rfl ?_
      refine EX.pick [3, 4, 5, 1, 0, 6] ?_ rfl
      exact bJ_Unions_join_49 ev h hk
def f_Unions_join (N : Nat) (p1 : Int32) (p2 : Int64) (hi : HI) (hl : HL) : Option (Unit × HI × HL) :=
  (lpN (fun s => B_Unions_join_9 N (p1) (p2) s.1 s.2.1 s.2.2.1 s.2.2.2.1 s.2.2.2.2) N (p2, 0, 0, hi, hl)).bind fun x9 => some ((), x9.1, x9.2)
set_option maxRecDepth 10000 in
set_option maxHeartbeats 4000000 in
theorem b_Unions_join (ev : EV) {N : Nat} {p1 : Int32} {p2 : Int64} {hi : HI} {hl : HL} {o : Unit × HI × HL} (h : f_Unions_join N p1 p2 hi hl = some o) : EM w0 ev 2 m_Unions_join [.ref 38, .int (p1), .long (p2)] hi hl (oV o) := by
  unfold f_Unions_join at h
  refine EM.of rfl ?_
  show EX w0 ev 1 m_Unions_join 0 [(0, .ref 38), (1, .int (p1)), (2, .long (p2))] [] (hi) (hl) (oV o)
  refine EX.lload_n (x := p2) rfl (List.mem_of_getElem? (i := 2) rfl) ?_
  refine EX.lstore (req1 := [(4, .long (p2)), (0, .ref 38), (1, .int (p1)), (2, .long (p2))]) rfl rfl rfl ?_
  refine EX.iconst (v := 0) rfl rfl ?_
  refine EX.istore (req1 := [(6, .int (0)), (4, .long (p2)), (0, .ref 38), (1, .int (p1)), (2, .long (p2))]) rfl rfl rfl ?_
  refine EX.iconst (v := 0) rfl rfl ?_
  refine EX.istore (req1 := [(7, .int (0)), (6, .int (0)), (4, .long (p2)), (0, .ref 38), (1, .int (p1)), (2, .long (p2))]) rfl rfl rfl ?_
  obtain ⟨x9, hx9, h⟩ := bnd_some h
  refine EX.pick [3, 4, 5, 2, 1, 0] ?_ rfl
  refine lp_sound (f := fun s => B_Unions_join_9 N (p1) (p2) s.1 s.2.1 s.2.2.1 s.2.2.2.1 s.2.2.2.2) (PS := fun s => EX w0 ev 1 m_Unions_join 9 [(0, .ref 38), (1, .int (p1)), (2, .long (p2)), (4, .long (s.1)), (6, .int (s.2.1)), (7, .int (s.2.2.1))] [] (s.2.2.2.1) (s.2.2.2.2) (oV o)) (PX := fun x => EX w0 ev 1 m_Unions_join 82 [] [] (x.1) (x.2) (oV o)) ?_ N _ x9 hx9 ?_
  · exact fun s z hz hk => bB_Unions_join_9 ev hz hk
  show EX w0 ev 1 m_Unions_join 82 [] [] (x9.1) (x9.2) (oV o)
  obtain rfl := Option.some.inj h
  exact EX.vret rfl rfl
def f_Long_bitCount (N : Nat) (p0 : Int64) (hi : HI) (hl : HL) : Option (Int32 × HI × HL) :=
  some ((((Int64.toInt32 ((((((((((((((((p0 - (((((Int64.toUInt64 p0 >>> ((Int32.toInt64 (1)).toUInt64 &&& Int64.toUInt64 63)).toInt64) : Int64) &&& (6148914691236517205)))) : Int64) &&& (3689348814741910323)) : Int64) + (((((Int64.toUInt64 ((p0 - (((((Int64.toUInt64 p0 >>> ((Int32.toInt64 (1)).toUInt64 &&& Int64.toUInt64 63)).toInt64) : Int64) &&& (6148914691236517205)))) : Int64) >>> ((Int32.toInt64 (2)).toUInt64 &&& Int64.toUInt64 63)).toInt64) : Int64) &&& (3689348814741910323)))) : Int64) + (((Int64.toUInt64 ((((((p0 - (((((Int64.toUInt64 p0 >>> ((Int32.toInt64 (1)).toUInt64 &&& Int64.toUInt64 63)).toInt64) : Int64) &&& (6148914691236517205)))) : Int64) &&& (3689348814741910323)) : Int64) + (((((Int64.toUInt64 ((p0 - (((((Int64.toUInt64 p0 >>> ((Int32.toInt64 (1)).toUInt64 &&& Int64.toUInt64 63)).toInt64) : Int64) &&& (6148914691236517205)))) : Int64) >>> ((Int32.toInt64 (2)).toUInt64 &&& Int64.toUInt64 63)).toInt64) : Int64) &&& (3689348814741910323)))) : Int64) >>> ((Int32.toInt64 (4)).toUInt64 &&& Int64.toUInt64 63)).toInt64))) : Int64) &&& (1085102592571150095)) : Int64) + (((Int64.toUInt64 ((((((((((p0 - (((((Int64.toUInt64 p0 >>> ((Int32.toInt64 (1)).toUInt64 &&& Int64.toUInt64 63)).toInt64) : Int64) &&& (6148914691236517205)))) : Int64) &&& (3689348814741910323)) : Int64) + (((((Int64.toUInt64 ((p0 - (((((Int64.toUInt64 p0 >>> ((Int32.toInt64 (1)).toUInt64 &&& Int64.toUInt64 63)).toInt64) : Int64) &&& (6148914691236517205)))) : Int64) >>> ((Int32.toInt64 (2)).toUInt64 &&& Int64.toUInt64 63)).toInt64) : Int64) &&& (3689348814741910323)))) : Int64) + (((Int64.toUInt64 ((((((p0 - (((((Int64.toUInt64 p0 >>> ((Int32.toInt64 (1)).toUInt64 &&& Int64.toUInt64 63)).toInt64) : Int64) &&& (6148914691236517205)))) : Int64) &&& (3689348814741910323)) : Int64) + (((((Int64.toUInt64 ((p0 - (((((Int64.toUInt64 p0 >>> ((Int32.toInt64 (1)).toUInt64 &&& Int64.toUInt64 63)).toInt64) : Int64) &&& (6148914691236517205)))) : Int64) >>> ((Int32.toInt64 (2)).toUInt64 &&& Int64.toUInt64 63)).toInt64) : Int64) &&& (3689348814741910323)))) : Int64) >>> ((Int32.toInt64 (4)).toUInt64 &&& Int64.toUInt64 63)).toInt64))) : Int64) &&& (1085102592571150095)) : Int64) >>> ((Int32.toInt64 (8)).toUInt64 &&& Int64.toUInt64 63)).toInt64))) : Int64) + (((Int64.toUInt64 ((((((((((((p0 - (((((Int64.toUInt64 p0 >>> ((Int32.toInt64 (1)).toUInt64 &&& Int64.toUInt64 63)).toInt64) : Int64) &&& (6148914691236517205)))) : Int64) &&& (3689348814741910323)) : Int64) + (((((Int64.toUInt64 ((p0 - (((((Int64.toUInt64 p0 >>> ((Int32.toInt64 (1)).toUInt64 &&& Int64.toUInt64 63)).toInt64) : Int64) &&& (6148914691236517205)))) : Int64) >>> ((Int32.toInt64 (2)).toUInt64 &&& Int64.toUInt64 63)).toInt64) : Int64) &&& (3689348814741910323)))) : Int64) + (((Int64.toUInt64 ((((((p0 - (((((Int64.toUInt64 p0 >>> ((Int32.toInt64 (1)).toUInt64 &&& Int64.toUInt64 63)).toInt64) : Int64) &&& (6148914691236517205)))) : Int64) &&& (3689348814741910323)) : Int64) + (((((Int64.toUInt64 ((p0 - (((((Int64.toUInt64 p0 >>> ((Int32.toInt64 (1)).toUInt64 &&& Int64.toUInt64 63)).toInt64) : Int64) &&& (6148914691236517205)))) : Int64) >>> ((Int32.toInt64 (2)).toUInt64 &&& Int64.toUInt64 63)).toInt64) : Int64) &&& (3689348814741910323)))) : Int64) >>> ((Int32.toInt64 (4)).toUInt64 &&& Int64.toUInt64 63)).toInt64))) : Int64) &&& (1085102592571150095)) : Int64) + (((Int64.toUInt64 ((((((((((p0 - (((((Int64.toUInt64 p0 >>> ((Int32.toInt64 (1)).toUInt64 &&& Int64.toUInt64 63)).toInt64) : Int64) &&& (6148914691236517205)))) : Int64) &&& (3689348814741910323)) : Int64) + (((((Int64.toUInt64 ((p0 - (((((Int64.toUInt64 p0 >>> ((Int32.toInt64 (1)).toUInt64 &&& Int64.toUInt64 63)).toInt64) : Int64) &&& (6148914691236517205)))) : Int64) >>> ((Int32.toInt64 (2)).toUInt64 &&& Int64.toUInt64 63)).toInt64) : Int64) &&& (3689348814741910323)))) : Int64) + (((Int64.toUInt64 ((((((p0 - (((((Int64.toUInt64 p0 >>> ((Int32.toInt64 (1)).toUInt64 &&& Int64.toUInt64 63)).toInt64) : Int64) &&& (6148914691236517205)))) : Int64) &&& (3689348814741910323)) : Int64) + (((((Int64.toUInt64 ((p0 - (((((Int64.toUInt64 p0 >>> ((Int32.toInt64 (1)).toUInt64 &&& Int64.toUInt64 63)).toInt64) : Int64) &&& (6148914691236517205)))) : Int64) >>> ((Int32.toInt64 (2)).toUInt64 &&& Int64.toUInt64 63)).toInt64) : Int64) &&& (3689348814741910323)))) : Int64) >>> ((Int32.toInt64 (4)).toUInt64 &&& Int64.toUInt64 63)).toInt64))) : Int64) &&& (1085102592571150095)) : Int64) >>> ((Int32.toInt64 (8)).toUInt64 &&& Int64.toUInt64 63)).toInt64))) : Int64) >>> ((Int32.toInt64 (16)).toUInt64 &&& Int64.toUInt64 63)).toInt64))) : Int64) + (((Int64.toUInt64 ((((((((((((((p0 - (((((Int64.toUInt64 p0 >>> ((Int32.toInt64 (1)).toUInt64 &&& Int64.toUInt64 63)).toInt64) : Int64) &&& (6148914691236517205)))) : Int64) &&& (3689348814741910323)) : Int64) + (((((Int64.toUInt64 ((p0 - (((((Int64.toUInt64 p0 >>> ((Int32.toInt64 (1)).toUInt64 &&& Int64.toUInt64 63)).toInt64) : Int64) &&& (6148914691236517205)))) : Int64) >>> ((Int32.toInt64 (2)).toUInt64 &&& Int64.toUInt64 63)).toInt64) : Int64) &&& (3689348814741910323)))) : Int64) + (((Int64.toUInt64 ((((((p0 - (((((Int64.toUInt64 p0 >>> ((Int32.toInt64 (1)).toUInt64 &&& Int64.toUInt64 63)).toInt64) : Int64) &&& (6148914691236517205)))) : Int64) &&& (3689348814741910323)) : Int64) + (((((Int64.toUInt64 ((p0 - (((((Int64.toUInt64 p0 >>> ((Int32.toInt64 (1)).toUInt64 &&& Int64.toUInt64 63)).toInt64) : Int64) &&& (6148914691236517205)))) : Int64) >>> ((Int32.toInt64 (2)).toUInt64 &&& Int64.toUInt64 63)).toInt64) : Int64) &&& (3689348814741910323)))) : Int64) >>> ((Int32.toInt64 (4)).toUInt64 &&& Int64.toUInt64 63)).toInt64))) : Int64) &&& (1085102592571150095)) : Int64) + (((Int64.toUInt64 ((((((((((p0 - (((((Int64.toUInt64 p0 >>> ((Int32.toInt64 (1)).toUInt64 &&& Int64.toUInt64 63)).toInt64) : Int64) &&& (6148914691236517205)))) : Int64) &&& (3689348814741910323)) : Int64) + (((((Int64.toUInt64 ((p0 - (((((Int64.toUInt64 p0 >>> ((Int32.toInt64 (1)).toUInt64 &&& Int64.toUInt64 63)).toInt64) : Int64) &&& (6148914691236517205)))) : Int64) >>> ((Int32.toInt64 (2)).toUInt64 &&& Int64.toUInt64 63)).toInt64) : Int64) &&& (3689348814741910323)))) : Int64) + (((Int64.toUInt64 ((((((p0 - (((((Int64.toUInt64 p0 >>> ((Int32.toInt64 (1)).toUInt64 &&& Int64.toUInt64 63)).toInt64) : Int64) &&& (6148914691236517205)))) : Int64) &&& (3689348814741910323)) : Int64) + (((((Int64.toUInt64 ((p0 - (((((Int64.toUInt64 p0 >>> ((Int32.toInt64 (1)).toUInt64 &&& Int64.toUInt64 63)).toInt64) : Int64) &&& (6148914691236517205)))) : Int64) >>> ((Int32.toInt64 (2)).toUInt64 &&& Int64.toUInt64 63)).toInt64) : Int64) &&& (3689348814741910323)))) : Int64) >>> ((Int32.toInt64 (4)).toUInt64 &&& Int64.toUInt64 63)).toInt64))) : Int64) &&& (1085102592571150095)) : Int64) >>> ((Int32.toInt64 (8)).toUInt64 &&& Int64.toUInt64 63)).toInt64))) : Int64) + (((Int64.toUInt64 ((((((((((((p0 - (((((Int64.toUInt64 p0 >>> ((Int32.toInt64 (1)).toUInt64 &&& Int64.toUInt64 63)).toInt64) : Int64) &&& (6148914691236517205)))) : Int64) &&& (3689348814741910323)) : Int64) + (((((Int64.toUInt64 ((p0 - (((((Int64.toUInt64 p0 >>> ((Int32.toInt64 (1)).toUInt64 &&& Int64.toUInt64 63)).toInt64) : Int64) &&& (6148914691236517205)))) : Int64) >>> ((Int32.toInt64 (2)).toUInt64 &&& Int64.toUInt64 63)).toInt64) : Int64) &&& (3689348814741910323)))) : Int64) + (((Int64.toUInt64 ((((((p0 - (((((Int64.toUInt64 p0 >>> ((Int32.toInt64 (1)).toUInt64 &&& Int64.toUInt64 63)).toInt64) : Int64) &&& (6148914691236517205)))) : Int64) &&& (3689348814741910323)) : Int64) + (((((Int64.toUInt64 ((p0 - (((((Int64.toUInt64 p0 >>> ((Int32.toInt64 (1)).toUInt64 &&& Int64.toUInt64 63)).toInt64) : Int64) &&& (6148914691236517205)))) : Int64) >>> ((Int32.toInt64 (2)).toUInt64 &&& Int64.toUInt64 63)).toInt64) : Int64) &&& (3689348814741910323)))) : Int64) >>> ((Int32.toInt64 (4)).toUInt64 &&& Int64.toUInt64 63)).toInt64))) : Int64) &&& (1085102592571150095)) : Int64) + (((Int64.toUInt64 ((((((((((p0 - (((((Int64.toUInt64 p0 >>> ((Int32.toInt64 (1)).toUInt64 &&& Int64.toUInt64 63)).toInt64) : Int64) &&& (6148914691236517205)))) : Int64) &&& (3689348814741910323)) : Int64) + (((((Int64.toUInt64 ((p0 - (((((Int64.toUInt64 p0 >>> ((Int32.toInt64 (1)).toUInt64 &&& Int64.toUInt64 63)).toInt64) : Int64) &&& (6148914691236517205)))) : Int64) >>> ((Int32.toInt64 (2)).toUInt64 &&& Int64.toUInt64 63)).toInt64) : Int64) &&& (3689348814741910323)))) : Int64) + (((Int64.toUInt64 ((((((p0 - (((((Int64.toUInt64 p0 >>> ((Int32.toInt64 (1)).toUInt64 &&& Int64.toUInt64 63)).toInt64) : Int64) &&& (6148914691236517205)))) : Int64) &&& (3689348814741910323)) : Int64) + (((((Int64.toUInt64 ((p0 - (((((Int64.toUInt64 p0 >>> ((Int32.toInt64 (1)).toUInt64 &&& Int64.toUInt64 63)).toInt64) : Int64) &&& (6148914691236517205)))) : Int64) >>> ((Int32.toInt64 (2)).toUInt64 &&& Int64.toUInt64 63)).toInt64) : Int64) &&& (3689348814741910323)))) : Int64) >>> ((Int32.toInt64 (4)).toUInt64 &&& Int64.toUInt64 63)).toInt64))) : Int64) &&& (1085102592571150095)) : Int64) >>> ((Int32.toInt64 (8)).toUInt64 &&& Int64.toUInt64 63)).toInt64))) : Int64) >>> ((Int32.toInt64 (16)).toUInt64 &&& Int64.toUInt64 63)).toInt64))) : Int64) >>> ((Int32.toInt64 (32)).toUInt64 &&& Int64.toUInt64 63)).toInt64))))) : Int32) &&& (127)), hi, hl)
set_option maxRecDepth 10000 in
set_option maxHeartbeats 4000000 in
theorem b_Long_bitCount (ev : EV) {N : Nat} {p0 : Int64} {hi : HI} {hl : HL} {o : Int32 × HI × HL} (h : f_Long_bitCount N p0 hi hl = some o) : EM w0 ev 1 m_Long_bitCount [.long (p0)] hi hl (oI o) := by
  unfold f_Long_bitCount at h
  refine EM.of rfl ?_
  show EX w0 ev 0 m_Long_bitCount 0 [(0, .long (p0))] [] (hi) (hl) (oI o)
  refine EX.lload_n (x := p0) rfl (List.mem_of_getElem? (i := 0) rfl) ?_
  refine EX.lload_n (x := p0) rfl (List.mem_of_getElem? (i := 0) rfl) ?_
  refine EX.iconst (v := 1) rfl rfl ?_
  refine EX.go (i := .lushr) (len := 1) (pc1 := 4) (st1 := [.long (((Int64.toUInt64 p0 >>> ((Int32.toInt64 (1)).toUInt64 &&& Int64.toUInt64 63)).toInt64)), .long (p0)]) (hi1 := hi) (hl1 := hl) rfl ?_ (fun _ _ _ => rfl)
  refine EX.go (i := .ldc2_w 314) (len := 3) (pc1 := 7) (st1 := [.long (6148914691236517205), .long (((Int64.toUInt64 p0 >>> ((Int32.toInt64 (1)).toUInt64 &&& Int64.toUInt64 63)).toInt64)), .long (p0)]) (hi1 := hi) (hl1 := hl) rfl ?_ (fun _ _ _ => rfl)
  refine EX.go (i := .land) (len := 1) (pc1 := 8) (st1 := [.long (((((Int64.toUInt64 p0 >>> ((Int32.toInt64 (1)).toUInt64 &&& Int64.toUInt64 63)).toInt64) : Int64) &&& (6148914691236517205))), .long (p0)]) (hi1 := hi) (hl1 := hl) rfl ?_ (fun _ _ _ => rfl)
  refine EX.go (i := .lsub) (len := 1) (pc1 := 9) (st1 := [.long ((p0 - (((((Int64.toUInt64 p0 >>> ((Int32.toInt64 (1)).toUInt64 &&& Int64.toUInt64 63)).toInt64) : Int64) &&& (6148914691236517205)))))]) (hi1 := hi) (hl1 := hl) rfl ?_ (fun _ _ _ => rfl)
  refine EX.lstore_n (req1 := [(0, .long ((p0 - (((((Int64.toUInt64 p0 >>> ((Int32.toInt64 (1)).toUInt64 &&& Int64.toUInt64 63)).toInt64) : Int64) &&& (6148914691236517205))))))]) rfl rfl rfl ?_
  refine EX.lload_n (x := (p0 - (((((Int64.toUInt64 p0 >>> ((Int32.toInt64 (1)).toUInt64 &&& Int64.toUInt64 63)).toInt64) : Int64) &&& (6148914691236517205))))) rfl (List.mem_of_getElem? (i := 0) rfl) ?_
  refine EX.go (i := .ldc2_w 316) (len := 3) (pc1 := 14) (st1 := [.long (3689348814741910323), .long ((p0 - (((((Int64.toUInt64 p0 >>> ((Int32.toInt64 (1)).toUInt64 &&& Int64.toUInt64 63)).toInt64) : Int64) &&& (6148914691236517205)))))]) (hi1 := hi) (hl1 := hl) rfl ?_ (fun _ _ _ => rfl)
  refine EX.go (i := .land) (len := 1) (pc1 := 15) (st1 := [.long ((((p0 - (((((Int64.toUInt64 p0 >>> ((Int32.toInt64 (1)).toUInt64 &&& Int64.toUInt64 63)).toInt64) : Int64) &&& (6148914691236517205)))) : Int64) &&& (3689348814741910323)))]) (hi1 := hi) (hl1 := hl) rfl ?_ (fun _ _ _ => rfl)
  refine EX.lload_n (x := (p0 - (((((Int64.toUInt64 p0 >>> ((Int32.toInt64 (1)).toUInt64 &&& Int64.toUInt64 63)).toInt64) : Int64) &&& (6148914691236517205))))) rfl (List.mem_of_getElem? (i := 0) rfl) ?_
  refine EX.iconst (v := 2) rfl rfl ?_
  refine EX.go (i := .lushr) (len := 1) (pc1 := 18) (st1 := [.long (((Int64.toUInt64 ((p0 - (((((Int64.toUInt64 p0 >>> ((Int32.toInt64 (1)).toUInt64 &&& Int64.toUInt64 63)).toInt64) : Int64) &&& (6148914691236517205)))) : Int64) >>> ((Int32.toInt64 (2)).toUInt64 &&& Int64.toUInt64 63)).toInt64)), .long ((((p0 - (((((Int64.toUInt64 p0 >>> ((Int32.toInt64 (1)).toUInt64 &&& Int64.toUInt64 63)).toInt64) : Int64) &&& (6148914691236517205)))) : Int64) &&& (3689348814741910323)))]) (hi1 := hi) (hl1 := hl) rfl ?_ (fun _ _ _ => rfl)
  refine EX.go (i := .ldc2_w 316) (len := 3) (pc1 := 21) (st1 := [.long (3689348814741910323), .long (((Int64.toUInt64 ((p0 - (((((Int64.toUInt64 p0 >>> ((Int32.toInt64 (1)).toUInt64 &&& Int64.toUInt64 63)).toInt64) : Int64) &&& (6148914691236517205)))) : Int64) >>> ((Int32.toInt64 (2)).toUInt64 &&& Int64.toUInt64 63)).toInt64)), .long ((((p0 - (((((Int64.toUInt64 p0 >>> ((Int32.toInt64 (1)).toUInt64 &&& Int64.toUInt64 63)).toInt64) : Int64) &&& (6148914691236517205)))) : Int64) &&& (3689348814741910323)))]) (hi1 := hi) (hl1 := hl) rfl ?_ (fun _ _ _ => rfl)
  refine EX.go (i := .land) (len := 1) (pc1 := 22) (st1 := [.long (((((Int64.toUInt64 ((p0 - (((((Int64.toUInt64 p0 >>> ((Int32.toInt64 (1)).toUInt64 &&& Int64.toUInt64 63)).toInt64) : Int64) &&& (6148914691236517205)))) : Int64) >>> ((Int32.toInt64 (2)).toUInt64 &&& Int64.toUInt64 63)).toInt64) : Int64) &&& (3689348814741910323))), .long ((((p0 - (((((Int64.toUInt64 p0 >>> ((Int32.toInt64 (1)).toUInt64 &&& Int64.toUInt64 63)).toInt64) : Int64) &&& (6148914691236517205)))) : Int64) &&& (3689348814741910323)))]) (hi1 := hi) (hl1 := hl) rfl ?_ (fun _ _ _ => rfl)
  refine EX.go (i := .ladd) (len := 1) (pc1 := 23) (st1 := [.long ((((((p0 - (((((Int64.toUInt64 p0 >>> ((Int32.toInt64 (1)).toUInt64 &&& Int64.toUInt64 63)).toInt64) : Int64) &&& (6148914691236517205)))) : Int64) &&& (3689348814741910323)) : Int64) + (((((Int64.toUInt64 ((p0 - (((((Int64.toUInt64 p0 >>> ((Int32.toInt64 (1)).toUInt64 &&& Int64.toUInt64 63)).toInt64) : Int64) &&& (6148914691236517205)))) : Int64) >>> ((Int32.toInt64 (2)).toUInt64 &&& Int64.toUInt64 63)).toInt64) : Int64) &&& (3689348814741910323)))))]) (hi1 := hi) (hl1 := hl) rfl ?_ (fun _ _ _ => rfl)
  refine EX.lstore_n (req1 := [(0, .long ((((((p0 - (((((Int64.toUInt64 p0 >>> ((Int32.toInt64 (1)).toUInt64 &&& Int64.toUInt64 63)).toInt64) : Int64) &&& (6148914691236517205)))) : Int64) &&& (3689348814741910323)) : Int64) + (((((Int64.toUInt64 ((p0 - (((((Int64.toUInt64 p0 >>> ((Int32.toInt64 (1)).toUInt64 &&& Int64.toUInt64 63)).toInt64) : Int64) &&& (6148914691236517205)))) : Int64) >>> ((Int32.toInt64 (2)).toUInt64 &&& Int64.toUInt64 63)).toInt64) : Int64) &&& (3689348814741910323))))))]) rfl rfl rfl ?_
  refine EX.lload_n (x := (((((p0 - (((((Int64.toUInt64 p0 >>> ((Int32.toInt64 (1)).toUInt64 &&& Int64.toUInt64 63)).toInt64) : Int64) &&& (6148914691236517205)))) : Int64) &&& (3689348814741910323)) : Int64) + (((((Int64.toUInt64 ((p0 - (((((Int64.toUInt64 p0 >>> ((Int32.toInt64 (1)).toUInt64 &&& Int64.toUInt64 63)).toInt64) : Int64) &&& (6148914691236517205)))) : Int64) >>> ((Int32.toInt64 (2)).toUInt64 &&& Int64.toUInt64 63)).toInt64) : Int64) &&& (3689348814741910323))))) rfl (List.mem_of_getElem? (i := 0) rfl) ?_
  refine EX.lload_n (x := (((((p0 - (((((Int64.toUInt64 p0 >>> ((Int32.toInt64 (1)).toUInt64 &&& Int64.toUInt64 63)).toInt64) : Int64) &&& (6148914691236517205)))) : Int64) &&& (3689348814741910323)) : Int64) + (((((Int64.toUInt64 ((p0 - (((((Int64.toUInt64 p0 >>> ((Int32.toInt64 (1)).toUInt64 &&& Int64.toUInt64 63)).toInt64) : Int64) &&& (6148914691236517205)))) : Int64) >>> ((Int32.toInt64 (2)).toUInt64 &&& Int64.toUInt64 63)).toInt64) : Int64) &&& (3689348814741910323))))) rfl (List.mem_of_getElem? (i := 0) rfl) ?_
  refine EX.iconst (v := 4) rfl rfl ?_
  refine EX.go (i := .lushr) (len := 1) (pc1 := 28) (st1 := [.long (((Int64.toUInt64 ((((((p0 - (((((Int64.toUInt64 p0 >>> ((Int32.toInt64 (1)).toUInt64 &&& Int64.toUInt64 63)).toInt64) : Int64) &&& (6148914691236517205)))) : Int64) &&& (3689348814741910323)) : Int64) + (((((Int64.toUInt64 ((p0 - (((((Int64.toUInt64 p0 >>> ((Int32.toInt64 (1)).toUInt64 &&& Int64.toUInt64 63)).toInt64) : Int64) &&& (6148914691236517205)))) : Int64) >>> ((Int32.toInt64 (2)).toUInt64 &&& Int64.toUInt64 63)).toInt64) : Int64) &&& (3689348814741910323)))) : Int64) >>> ((Int32.toInt64 (4)).toUInt64 &&& Int64.toUInt64 63)).toInt64)), .long ((((((p0 - (((((Int64.toUInt64 p0 >>> ((Int32.toInt64 (1)).toUInt64 &&& Int64.toUInt64 63)).toInt64) : Int64) &&& (6148914691236517205)))) : Int64) &&& (3689348814741910323)) : Int64) + (((((Int64.toUInt64 ((p0 - (((((Int64.toUInt64 p0 >>> ((Int32.toInt64 (1)).toUInt64 &&& Int64.toUInt64 63)).toInt64) : Int64) &&& (6148914691236517205)))) : Int64) >>> ((Int32.toInt64 (2)).toUInt64 &&& Int64.toUInt64 63)).toInt64) : Int64) &&& (3689348814741910323)))))]) (hi1 := hi) (hl1 := hl) rfl ?_ (fun _ _ _ => rfl)
  refine EX.go (i := .ladd) (len := 1) (pc1 := 29) (st1 := [.long ((((((((p0 - (((((Int64.toUInt64 p0 >>> ((Int32.toInt64 (1)).toUInt64 &&& Int64.toUInt64 63)).toInt64) : Int64) &&& (6148914691236517205)))) : Int64) &&& (3689348814741910323)) : Int64) + (((((Int64.toUInt64 ((p0 - (((((Int64.toUInt64 p0 >>> ((Int32.toInt64 (1)).toUInt64 &&& Int64.toUInt64 63)).toInt64) : Int64) &&& (6148914691236517205)))) : Int64) >>> ((Int32.toInt64 (2)).toUInt64 &&& Int64.toUInt64 63)).toInt64) : Int64) &&& (3689348814741910323)))) : Int64) + (((Int64.toUInt64 ((((((p0 - (((((Int64.toUInt64 p0 >>> ((Int32.toInt64 (1)).toUInt64 &&& Int64.toUInt64 63)).toInt64) : Int64) &&& (6148914691236517205)))) : Int64) &&& (3689348814741910323)) : Int64) + (((((Int64.toUInt64 ((p0 - (((((Int64.toUInt64 p0 >>> ((Int32.toInt64 (1)).toUInt64 &&& Int64.toUInt64 63)).toInt64) : Int64) &&& (6148914691236517205)))) : Int64) >>> ((Int32.toInt64 (2)).toUInt64 &&& Int64.toUInt64 63)).toInt64) : Int64) &&& (3689348814741910323)))) : Int64) >>> ((Int32.toInt64 (4)).toUInt64 &&& Int64.toUInt64 63)).toInt64))))]) (hi1 := hi) (hl1 := hl) rfl ?_ (fun _ _ _ => rfl)
  refine EX.go (i := .ldc2_w 318) (len := 3) (pc1 := 32) (st1 := [.long (1085102592571150095), .long ((((((((p0 - (((((Int64.toUInt64 p0 >>> ((Int32.toInt64 (1)).toUInt64 &&& Int64.toUInt64 63)).toInt64) : Int64) &&& (6148914691236517205)))) : Int64) &&& (3689348814741910323)) : Int64) + (((((Int64.toUInt64 ((p0 - (((((Int64.toUInt64 p0 >>> ((Int32.toInt64 (1)).toUInt64 &&& Int64.toUInt64 63)).toInt64) : Int64) &&& (6148914691236517205)))) : Int64) >>> ((Int32.toInt64 (2)).toUInt64 &&& Int64.toUInt64 63)).toInt64) : Int64) &&& (3689348814741910323)))) : Int64) + (((Int64.toUInt64 ((((((p0 - (((((Int64.toUInt64 p0 >>> ((Int32.toInt64 (1)).toUInt64 &&& Int64.toUInt64 63)).toInt64) : Int64) &&& (6148914691236517205)))) : Int64) &&& (3689348814741910323)) : Int64) + (((((Int64.toUInt64 ((p0 - (((((Int64.toUInt64 p0 >>> ((Int32.toInt64 (1)).toUInt64 &&& Int64.toUInt64 63)).toInt64) : Int64) &&& (6148914691236517205)))) : Int64) >>> ((Int32.toInt64 (2)).toUInt64 &&& Int64.toUInt64 63)).toInt64) : Int64) &&& (3689348814741910323)))) : Int64) >>> ((Int32.toInt64 (4)).toUInt64 &&& Int64.toUInt64 63)).toInt64))))]) (hi1 := hi) (hl1 := hl) rfl ?_ (fun _ _ _ => rfl)
  refine EX.go (i := .land) (len := 1) (pc1 := 33) (st1 := [.long ((((((((((p0 - (((((Int64.toUInt64 p0 >>> ((Int32.toInt64 (1)).toUInt64 &&& Int64.toUInt64 63)).toInt64) : Int64) &&& (6148914691236517205)))) : Int64) &&& (3689348814741910323)) : Int64) + (((((Int64.toUInt64 ((p0 - (((((Int64.toUInt64 p0 >>> ((Int32.toInt64 (1)).toUInt64 &&& Int64.toUInt64 63)).toInt64) : Int64) &&& (6148914691236517205)))) : Int64) >>> ((Int32.toInt64 (2)).toUInt64 &&& Int64.toUInt64 63)).toInt64) : Int64) &&& (3689348814741910323)))) : Int64) + (((Int64.toUInt64 ((((((p0 - (((((Int64.toUInt64 p0 >>> ((Int32.toInt64 (1)).toUInt64 &&& Int64.toUInt64 63)).toInt64) : Int64) &&& (6148914691236517205)))) : Int64) &&& (3689348814741910323)) : Int64) + (((((Int64.toUInt64 ((p0 - (((((Int64.toUInt64 p0 >>> ((Int32.toInt64 (1)).toUInt64 &&& Int64.toUInt64 63)).toInt64) : Int64) &&& (6148914691236517205)))) : Int64) >>> ((Int32.toInt64 (2)).toUInt64 &&& Int64.toUInt64 63)).toInt64) : Int64) &&& (3689348814741910323)))) : Int64) >>> ((Int32.toInt64 (4)).toUInt64 &&& Int64.toUInt64 63)).toInt64))) : Int64) &&& (1085102592571150095)))]) (hi1 := hi) (hl1 := hl) rfl ?_ (fun _ _ _ => rfl)
  refine EX.lstore_n (req1 := [(0, .long ((((((((((p0 - (((((Int64.toUInt64 p0 >>> ((Int32.toInt64 (1)).toUInt64 &&& Int64.toUInt64 63)).toInt64) : Int64) &&& (6148914691236517205)))) : Int64) &&& (3689348814741910323)) : Int64) + (((((Int64.toUInt64 ((p0 - (((((Int64.toUInt64 p0 >>> ((Int32.toInt64 (1)).toUInt64 &&& Int64.toUInt64 63)).toInt64) : Int64) &&& (6148914691236517205)))) : Int64) >>> ((Int32.toInt64 (2)).toUInt64 &&& Int64.toUInt64 63)).toInt64) : Int64) &&& (3689348814741910323)))) : Int64) + (((Int64.toUInt64 ((((((p0 - (((((Int64.toUInt64 p0 >>> ((Int32.toInt64 (1)).toUInt64 &&& Int64.toUInt64 63)).toInt64) : Int64) &&& (6148914691236517205)))) : Int64) &&& (3689348814741910323)) : Int64) + (((((Int64.toUInt64 ((p0 - (((((Int64.toUInt64 p0 >>> ((Int32.toInt64 (1)).toUInt64 &&& Int64.toUInt64 63)).toInt64) : Int64) &&& (6148914691236517205)))) : Int64) >>> ((Int32.toInt64 (2)).toUInt64 &&& Int64.toUInt64 63)).toInt64) : Int64) &&& (3689348814741910323)))) : Int64) >>> ((Int32.toInt64 (4)).toUInt64 &&& Int64.toUInt64 63)).toInt64))) : Int64) &&& (1085102592571150095))))]) rfl rfl rfl ?_
  refine EX.lload_n (x := (((((((((p0 - (((((Int64.toUInt64 p0 >>> ((Int32.toInt64 (1)).toUInt64 &&& Int64.toUInt64 63)).toInt64) : Int64) &&& (6148914691236517205)))) : Int64) &&& (3689348814741910323)) : Int64) + (((((Int64.toUInt64 ((p0 - (((((Int64.toUInt64 p0 >>> ((Int32.toInt64 (1)).toUInt64 &&& Int64.toUInt64 63)).toInt64) : Int64) &&& (6148914691236517205)))) : Int64) >>> ((Int32.toInt64 (2)).toUInt64 &&& Int64.toUInt64 63)).toInt64) : Int64) &&& (3689348814741910323)))) : Int64) + (((Int64.toUInt64 ((((((p0 - (((((Int64.toUInt64 p0 >>> ((Int32.toInt64 (1)).toUInt64 &&& Int64.toUInt64 63)).toInt64) : Int64) &&& (6148914691236517205)))) : Int64) &&& (3689348814741910323)) : Int64) + (((((Int64.toUInt64 ((p0 - (((((Int64.toUInt64 p0 >>> ((Int32.toInt64 (1)).toUInt64 &&& Int64.toUInt64 63)).toInt64) : Int64) &&& (6148914691236517205)))) : Int64) >>> ((Int32.toInt64 (2)).toUInt64 &&& Int64.toUInt64 63)).toInt64) : Int64) &&& (3689348814741910323)))) : Int64) >>> ((Int32.toInt64 (4)).toUInt64 &&& Int64.toUInt64 63)).toInt64))) : Int64) &&& (1085102592571150095))) rfl (List.mem_of_getElem? (i := 0) rfl) ?_
  refine EX.lload_n (x := (((((((((p0 - (((((Int64.toUInt64 p0 >>> ((Int32.toInt64 (1)).toUInt64 &&& Int64.toUInt64 63)).toInt64) : Int64) &&& (6148914691236517205)))) : Int64) &&& (3689348814741910323)) : Int64) + (((((Int64.toUInt64 ((p0 - (((((Int64.toUInt64 p0 >>> ((Int32.toInt64 (1)).toUInt64 &&& Int64.toUInt64 63)).toInt64) : Int64) &&& (6148914691236517205)))) : Int64) >>> ((Int32.toInt64 (2)).toUInt64 &&& Int64.toUInt64 63)).toInt64) : Int64) &&& (3689348814741910323)))) : Int64) + (((Int64.toUInt64 ((((((p0 - (((((Int64.toUInt64 p0 >>> ((Int32.toInt64 (1)).toUInt64 &&& Int64.toUInt64 63)).toInt64) : Int64) &&& (6148914691236517205)))) : Int64) &&& (3689348814741910323)) : Int64) + (((((Int64.toUInt64 ((p0 - (((((Int64.toUInt64 p0 >>> ((Int32.toInt64 (1)).toUInt64 &&& Int64.toUInt64 63)).toInt64) : Int64) &&& (6148914691236517205)))) : Int64) >>> ((Int32.toInt64 (2)).toUInt64 &&& Int64.toUInt64 63)).toInt64) : Int64) &&& (3689348814741910323)))) : Int64) >>> ((Int32.toInt64 (4)).toUInt64 &&& Int64.toUInt64 63)).toInt64))) : Int64) &&& (1085102592571150095))) rfl (List.mem_of_getElem? (i := 0) rfl) ?_
  refine EX.bipush (v := 8) rfl rfl ?_
  refine EX.go (i := .lushr) (len := 1) (pc1 := 39) (st1 := [.long (((Int64.toUInt64 ((((((((((p0 - (((((Int64.toUInt64 p0 >>> ((Int32.toInt64 (1)).toUInt64 &&& Int64.toUInt64 63)).toInt64) : Int64) &&& (6148914691236517205)))) : Int64) &&& (3689348814741910323)) : Int64) + (((((Int64.toUInt64 ((p0 - (((((Int64.toUInt64 p0 >>> ((Int32.toInt64 (1)).toUInt64 &&& Int64.toUInt64 63)).toInt64) : Int64) &&& (6148914691236517205)))) : Int64) >>> ((Int32.toInt64 (2)).toUInt64 &&& Int64.toUInt64 63)).toInt64) : Int64) &&& (3689348814741910323)))) : Int64) + (((Int64.toUInt64 ((((((p0 - (((((Int64.toUInt64 p0 >>> ((Int32.toInt64 (1)).toUInt64 &&& Int64.toUInt64 63)).toInt64) : Int64) &&& (6148914691236517205)))) : Int64) &&& (3689348814741910323)) : Int64) + (((((Int64.toUInt64 ((p0 - (((((Int64.toUInt64 p0 >>> ((Int32.toInt64 (1)).toUInt64 &&& Int64.toUInt64 63)).toInt64) : Int64) &&& (6148914691236517205)))) : Int64) >>> ((Int32.toInt64 (2)).toUInt64 &&& Int64.toUInt64 63)).toInt64) : Int64) &&& (3689348814741910323)))) : Int64) >>> ((Int32.toInt64 (4)).toUInt64 &&& Int64.toUInt64 63)).toInt64))) : Int64) &&& (1085102592571150095)) : Int64) >>> ((Int32.toInt64 (8)).toUInt64 &&& Int64.toUInt64 63)).toInt64)), .long ((((((((((p0 - (((((Int64.toUInt64 p0 >>> ((Int32.toInt64 (1)).toUInt64 &&& Int64.toUInt64 63)).toInt64) : Int64) &&& (6148914691236517205)))) : Int64) &&& (3689348814741910323)) : Int64) + (((((Int64.toUInt64 ((p0 - (((((Int64.toUInt64 p0 >>> ((Int32.toInt64 (1)).toUInt64 &&& Int64.toUInt64 63)).toInt64) : Int64) &&& (6148914691236517205)))) : Int64) >>> ((Int32.toInt64 (2)).toUInt64 &&& Int64.toUInt64 63)).toInt64) : Int64) &&& (3689348814741910323)))) : Int64) + (((Int64.toUInt64 ((((((p0 - (((((Int64.toUInt64 p0 >>> ((Int32.toInt64 (1)).toUInt64 &&& Int64.toUInt64 63)).toInt64) : Int64) &&& (6148914691236517205)))) : Int64) &&& (3689348814741910323)) : Int64) + (((((Int64.toUInt64 ((p0 - (((((Int64.toUInt64 p0 >>> ((Int32.toInt64 (1)).toUInt64 &&& Int64.toUInt64 63)).toInt64) : Int64) &&& (6148914691236517205)))) : Int64) >>> ((Int32.toInt64 (2)).toUInt64 &&& Int64.toUInt64 63)).toInt64) : Int64) &&& (3689348814741910323)))) : Int64) >>> ((Int32.toInt64 (4)).toUInt64 &&& Int64.toUInt64 63)).toInt64))) : Int64) &&& (1085102592571150095)))]) (hi1 := hi) (hl1 := hl) rfl ?_ (fun _ _ _ => rfl)
  refine EX.go (i := .ladd) (len := 1) (pc1 := 40) (st1 := [.long ((((((((((((p0 - (((((Int64.toUInt64 p0 >>> ((Int32.toInt64 (1)).toUInt64 &&& Int64.toUInt64 63)).toInt64) : Int64) &&& (6148914691236517205)))) : Int64) &&& (3689348814741910323)) : Int64) + (((((Int64.toUInt64 ((p0 - (((((Int64.toUInt64 p0 >>> ((Int32.toInt64 (1)).toUInt64 &&& Int64.toUInt64 63)).toInt64) : Int64) &&& (6148914691236517205)))) : Int64) >>> ((Int32.toInt64 (2)).toUInt64 &&& Int64.toUInt64 63)).toInt64) : Int64) &&& (3689348814741910323)))) : Int64) + (((Int64.toUInt64 ((((((p0 - (((((Int64.toUInt64 p0 >>> ((Int32.toInt64 (1)).toUInt64 &&& Int64.toUInt64 63)).toInt64) : Int64) &&& (6148914691236517205)))) : Int64) &&& (3689348814741910323)) : Int64) + (((((Int64.toUInt64 ((p0 - (((((Int64.toUInt64 p0 >>> ((Int32.toInt64 (1)).toUInt64 &&& Int64.toUInt64 63)).toInt64) : Int64) &&& (6148914691236517205)))) : Int64) >>> ((Int32.toInt64 (2)).toUInt64 &&& Int64.toUInt64 63)).toInt64) : Int64) &&& (3689348814741910323)))) : Int64) >>> ((Int32.toInt64 (4)).toUInt64 &&& Int64.toUInt64 63)).toInt64))) : Int64) &&& (1085102592571150095)) : Int64) + (((Int64.toUInt64 ((((((((((p0 - (((((Int64.toUInt64 p0 >>> ((Int32.toInt64 (1)).toUInt64 &&& Int64.toUInt64 63)).toInt64) : Int64) &&& (6148914691236517205)))) : Int64) &&& (3689348814741910323)) : Int64) + (((((Int64.toUInt64 ((p0 - (((((Int64.toUInt64 p0 >>> ((Int32.toInt64 (1)).toUInt64 &&& Int64.toUInt64 63)).toInt64) : Int64) &&& (6148914691236517205)))) : Int64) >>> ((Int32.toInt64 (2)).toUInt64 &&& Int64.toUInt64 63)).toInt64) : Int64) &&& (3689348814741910323)))) : Int64) + (((Int64.toUInt64 ((((((p0 - (((((Int64.toUInt64 p0 >>> ((Int32.toInt64 (1)).toUInt64 &&& Int64.toUInt64 63)).toInt64) : Int64) &&& (6148914691236517205)))) : Int64) &&& (3689348814741910323)) : Int64) + (((((Int64.toUInt64 ((p0 - (((((Int64.toUInt64 p0 >>> ((Int32.toInt64 (1)).toUInt64 &&& Int64.toUInt64 63)).toInt64) : Int64) &&& (6148914691236517205)))) : Int64) >>> ((Int32.toInt64 (2)).toUInt64 &&& Int64.toUInt64 63)).toInt64) : Int64) &&& (3689348814741910323)))) : Int64) >>> ((Int32.toInt64 (4)).toUInt64 &&& Int64.toUInt64 63)).toInt64))) : Int64) &&& (1085102592571150095)) : Int64) >>> ((Int32.toInt64 (8)).toUInt64 &&& Int64.toUInt64 63)).toInt64))))]) (hi1 := hi) (hl1 := hl) rfl ?_ (fun _ _ _ => rfl)
  refine EX.lstore_n (req1 := [(0, .long ((((((((((((p0 - (((((Int64.toUInt64 p0 >>> ((Int32.toInt64 (1)).toUInt64 &&& Int64.toUInt64 63)).toInt64) : Int64) &&& (6148914691236517205)))) : Int64) &&& (3689348814741910323)) : Int64) + (((((Int64.toUInt64 ((p0 - (((((Int64.toUInt64 p0 >>> ((Int32.toInt64 (1)).toUInt64 &&& Int64.toUInt64 63)).toInt64) : Int64) &&& (6148914691236517205)))) : Int64) >>> ((Int32.toInt64 (2)).toUInt64 &&& Int64.toUInt64 63)).toInt64) : Int64) &&& (3689348814741910323)))) : Int64) + (((Int64.toUInt64 ((((((p0 - (((((Int64.toUInt64 p0 >>> ((Int32.toInt64 (1)).toUInt64 &&& Int64.toUInt64 63)).toInt64) : Int64) &&& (6148914691236517205)))) : Int64) &&& (3689348814741910323)) : Int64) + (((((Int64.toUInt64 ((p0 - (((((Int64.toUInt64 p0 >>> ((Int32.toInt64 (1)).toUInt64 &&& Int64.toUInt64 63)).toInt64) : Int64) &&& (6148914691236517205)))) : Int64) >>> ((Int32.toInt64 (2)).toUInt64 &&& Int64.toUInt64 63)).toInt64) : Int64) &&& (3689348814741910323)))) : Int64) >>> ((Int32.toInt64 (4)).toUInt64 &&& Int64.toUInt64 63)).toInt64))) : Int64) &&& (1085102592571150095)) : Int64) + (((Int64.toUInt64 ((((((((((p0 - (((((Int64.toUInt64 p0 >>> ((Int32.toInt64 (1)).toUInt64 &&& Int64.toUInt64 63)).toInt64) : Int64) &&& (6148914691236517205)))) : Int64) &&& (3689348814741910323)) : Int64) + (((((Int64.toUInt64 ((p0 - (((((Int64.toUInt64 p0 >>> ((Int32.toInt64 (1)).toUInt64 &&& Int64.toUInt64 63)).toInt64) : Int64) &&& (6148914691236517205)))) : Int64) >>> ((Int32.toInt64 (2)).toUInt64 &&& Int64.toUInt64 63)).toInt64) : Int64) &&& (3689348814741910323)))) : Int64) + (((Int64.toUInt64 ((((((p0 - (((((Int64.toUInt64 p0 >>> ((Int32.toInt64 (1)).toUInt64 &&& Int64.toUInt64 63)).toInt64) : Int64) &&& (6148914691236517205)))) : Int64) &&& (3689348814741910323)) : Int64) + (((((Int64.toUInt64 ((p0 - (((((Int64.toUInt64 p0 >>> ((Int32.toInt64 (1)).toUInt64 &&& Int64.toUInt64 63)).toInt64) : Int64) &&& (6148914691236517205)))) : Int64) >>> ((Int32.toInt64 (2)).toUInt64 &&& Int64.toUInt64 63)).toInt64) : Int64) &&& (3689348814741910323)))) : Int64) >>> ((Int32.toInt64 (4)).toUInt64 &&& Int64.toUInt64 63)).toInt64))) : Int64) &&& (1085102592571150095)) : Int64) >>> ((Int32.toInt64 (8)).toUInt64 &&& Int64.toUInt64 63)).toInt64)))))]) rfl rfl rfl ?_
  refine EX.lload_n (x := (((((((((((p0 - (((((Int64.toUInt64 p0 >>> ((Int32.toInt64 (1)).toUInt64 &&& Int64.toUInt64 63)).toInt64) : Int64) &&& (6148914691236517205)))) : Int64) &&& (3689348814741910323)) : Int64) + (((((Int64.toUInt64 ((p0 - (((((Int64.toUInt64 p0 >>> ((Int32.toInt64 (1)).toUInt64 &&& Int64.toUInt64 63)).toInt64) : Int64) &&& (6148914691236517205)))) : Int64) >>> ((Int32.toInt64 (2)).toUInt64 &&& Int64.toUInt64 63)).toInt64) : Int64) &&& (3689348814741910323)))) : Int64) + (((Int64.toUInt64 ((((((p0 - (((((Int64.toUInt64 p0 >>> ((Int32.toInt64 (1)).toUInt64 &&& Int64.toUInt64 63)).toInt64) : Int64) &&& (6148914691236517205)))) : Int64) &&& (3689348814741910323)) : Int64) + (((((Int64.toUInt64 ((p0 - (((((Int64.toUInt64 p0 >>> ((Int32.toInt64 (1)).toUInt64 &&& Int64.toUInt64 63)).toInt64) : Int64) &&& (6148914691236517205)))) : Int64) >>> ((Int32.toInt64 (2)).toUInt64 &&& Int64.toUInt64 63)).toInt64) : Int64) &&& (3689348814741910323)))) : Int64) >>> ((Int32.toInt64 (4)).toUInt64 &&& Int64.toUInt64 63)).toInt64))) : Int64) &&& (1085102592571150095)) : Int64) + (((Int64.toUInt64 ((((((((((p0 - (((((Int64.toUInt64 p0 >>> ((Int32.toInt64 (1)).toUInt64 &&& Int64.toUInt64 63)).toInt64) : Int64) &&& (6148914691236517205)))) : Int64) &&& (3689348814741910323)) : Int64) + (((((Int64.toUInt64 ((p0 - (((((Int64.toUInt64 p0 >>> ((Int32.toInt64 (1)).toUInt64 &&& Int64.toUInt64 63)).toInt64) : Int64) &&& (6148914691236517205)))) : Int64) >>> ((Int32.toInt64 (2)).toUInt64 &&& Int64.toUInt64 63)).toInt64) : Int64) &&& (3689348814741910323)))) : Int64) + (((Int64.toUInt64 ((((((p0 - (((((Int64.toUInt64 p0 >>> ((Int32.toInt64 (1)).toUInt64 &&& Int64.toUInt64 63)).toInt64) : Int64) &&& (6148914691236517205)))) : Int64) &&& (3689348814741910323)) : Int64) + (((((Int64.toUInt64 ((p0 - (((((Int64.toUInt64 p0 >>> ((Int32.toInt64 (1)).toUInt64 &&& Int64.toUInt64 63)).toInt64) : Int64) &&& (6148914691236517205)))) : Int64) >>> ((Int32.toInt64 (2)).toUInt64 &&& Int64.toUInt64 63)).toInt64) : Int64) &&& (3689348814741910323)))) : Int64) >>> ((Int32.toInt64 (4)).toUInt64 &&& Int64.toUInt64 63)).toInt64))) : Int64) &&& (1085102592571150095)) : Int64) >>> ((Int32.toInt64 (8)).toUInt64 &&& Int64.toUInt64 63)).toInt64)))) rfl (List.mem_of_getElem? (i := 0) rfl) ?_
  refine EX.lload_n (x := (((((((((((p0 - (((((Int64.toUInt64 p0 >>> ((Int32.toInt64 (1)).toUInt64 &&& Int64.toUInt64 63)).toInt64) : Int64) &&& (6148914691236517205)))) : Int64) &&& (3689348814741910323)) : Int64) + (((((Int64.toUInt64 ((p0 - (((((Int64.toUInt64 p0 >>> ((Int32.toInt64 (1)).toUInt64 &&& Int64.toUInt64 63)).toInt64) : Int64) &&& (6148914691236517205)))) : Int64) >>> ((Int32.toInt64 (2)).toUInt64 &&& Int64.toUInt64 63)).toInt64) : Int64) &&& (3689348814741910323)))) : Int64) + (((Int64.toUInt64 ((((((p0 - (((((Int64.toUInt64 p0 >>> ((Int32.toInt64 (1)).toUInt64 &&& Int64.toUInt64 63)).toInt64) : Int64) &&& (6148914691236517205)))) : Int64) &&& (3689348814741910323)) : Int64) + (((((Int64.toUInt64 ((p0 - (((((Int64.toUInt64 p0 >>> ((Int32.toInt64 (1)).toUInt64 &&& Int64.toUInt64 63)).toInt64) : Int64) &&& (6148914691236517205)))) : Int64) >>> ((Int32.toInt64 (2)).toUInt64 &&& Int64.toUInt64 63)).toInt64) : Int64) &&& (3689348814741910323)))) : Int64) >>> ((Int32.toInt64 (4)).toUInt64 &&& Int64.toUInt64 63)).toInt64))) : Int64) &&& (1085102592571150095)) : Int64) + (((Int64.toUInt64 ((((((((((p0 - (((((Int64.toUInt64 p0 >>> ((Int32.toInt64 (1)).toUInt64 &&& Int64.toUInt64 63)).toInt64) : Int64) &&& (6148914691236517205)))) : Int64) &&& (3689348814741910323)) : Int64) + (((((Int64.toUInt64 ((p0 - (((((Int64.toUInt64 p0 >>> ((Int32.toInt64 (1)).toUInt64 &&& Int64.toUInt64 63)).toInt64) : Int64) &&& (6148914691236517205)))) : Int64) >>> ((Int32.toInt64 (2)).toUInt64 &&& Int64.toUInt64 63)).toInt64) : Int64) &&& (3689348814741910323)))) : Int64) + (((Int64.toUInt64 ((((((p0 - (((((Int64.toUInt64 p0 >>> ((Int32.toInt64 (1)).toUInt64 &&& Int64.toUInt64 63)).toInt64) : Int64) &&& (6148914691236517205)))) : Int64) &&& (3689348814741910323)) : Int64) + (((((Int64.toUInt64 ((p0 - (((((Int64.toUInt64 p0 >>> ((Int32.toInt64 (1)).toUInt64 &&& Int64.toUInt64 63)).toInt64) : Int64) &&& (6148914691236517205)))) : Int64) >>> ((Int32.toInt64 (2)).toUInt64 &&& Int64.toUInt64 63)).toInt64) : Int64) &&& (3689348814741910323)))) : Int64) >>> ((Int32.toInt64 (4)).toUInt64 &&& Int64.toUInt64 63)).toInt64))) : Int64) &&& (1085102592571150095)) : Int64) >>> ((Int32.toInt64 (8)).toUInt64 &&& Int64.toUInt64 63)).toInt64)))) rfl (List.mem_of_getElem? (i := 0) rfl) ?_
  refine EX.bipush (v := 16) rfl rfl ?_
  refine EX.go (i := .lushr) (len := 1) (pc1 := 46) (st1 := [.long (((Int64.toUInt64 ((((((((((((p0 - (((((Int64.toUInt64 p0 >>> ((Int32.toInt64 (1)).toUInt64 &&& Int64.toUInt64 63)).toInt64) : Int64) &&& (6148914691236517205)))) : Int64) &&& (3689348814741910323)) : Int64) + (((((Int64.toUInt64 ((p0 - (((((Int64.toUInt64 p0 >>> ((Int32.toInt64 (1)).toUInt64 &&& Int64.toUInt64 63)).toInt64) : Int64) &&& (6148914691236517205)))) : Int64) >>> ((Int32.toInt64 (2)).toUInt64 &&& Int64.toUInt64 63)).toInt64) : Int64) &&& (3689348814741910323)))) : Int64) + (((Int64.toUInt64 ((((((p0 - (((((Int64.toUInt64 p0 >>> ((Int32.toInt64 (1)).toUInt64 &&& Int64.toUInt64 63)).toInt64) : Int64) &&& (6148914691236517205)))) : Int64) &&& (3689348814741910323)) : Int64) + (((((Int64.toUInt64 ((p0 - (((((Int64.toUInt64 p0 >>> ((Int32.toInt64 (1)).toUInt64 &&& Int64.toUInt64 63)).toInt64) : Int64) &&& (6148914691236517205)))) : Int64) >>> ((Int32.toInt64 (2)).toUInt64 &&& Int64.toUInt64 63)).toInt64) : Int64) &&& (3689348814741910323)))) : Int64) >>> ((Int32.toInt64 (4)).toUInt64 &&& Int64.toUInt64 63)).toInt64))) : Int64) &&& (1085102592571150095)) : Int64) + (((Int64.toUInt64 ((((((((((p0 - (((((Int64.toUInt64 p0 >>> ((Int32.toInt64 (1)).toUInt64 &&& Int64.toUInt64 63)).toInt64) : Int64) &&& (6148914691236517205)))) : Int64) &&& (3689348814741910323)) : Int64) + (((((Int64.toUInt64 ((p0 - (((((Int64.toUInt64 p0 >>> ((Int32.toInt64 (1)).toUInt64 &&& Int64.toUInt64 63)).toInt64) : Int64) &&& (6148914691236517205)))) : Int64) >>> ((Int32.toInt64 (2)).toUInt64 &&& Int64.toUInt64 63)).toInt64) : Int64) &&& (3689348814741910323)))) : Int64) + (((Int64.toUInt64 ((((((p0 - (((((Int64.toUInt64 p0 >>> ((Int32.toInt64 (1)).toUInt64 &&& Int64.toUInt64 63)).toInt64) : Int64) &&& (6148914691236517205)))) : Int64) &&& (3689348814741910323)) : Int64) + (((((Int64.toUInt64 ((p0 - (((((Int64.toUInt64 p0 >>> ((Int32.toInt64 (1)).toUInt64 &&& Int64.toUInt64 63)).toInt64) : Int64) &&& (6148914691236517205)))) : Int64) >>> ((Int32.toInt64 (2)).toUInt64 &&& Int64.toUInt64 63)).toInt64) : Int64) &&& (3689348814741910323)))) : Int64) >>> ((Int32.toInt64 (4)).toUInt64 &&& Int64.toUInt64 63)).toInt64))) : Int64) &&& (1085102592571150095)) : Int64) >>> ((Int32.toInt64 (8)).toUInt64 &&& Int64.toUInt64 63)).toInt64))) : Int64) >>> ((Int32.toInt64 (16)).toUInt64 &&& Int64.toUInt64 63)).toInt64)), .long ((((((((((((p0 - (((((Int64.toUInt64 p0 >>> ((Int32.toInt64 (1)).toUInt64 &&& Int64.toUInt64 63)).toInt64) : Int64) &&& (6148914691236517205)))) : Int64) &&& (3689348814741910323)) : Int64) + (((((Int64.toUInt64 ((p0 - (((((Int64.toUInt64 p0 >>> ((Int32.toInt64 (1)).toUInt64 &&& Int64.toUInt64 63)).toInt64) : Int64) &&& (6148914691236517205)))) : Int64) >>> ((Int32.toInt64 (2)).toUInt64 &&& Int64.toUInt64 63)).toInt64) : Int64) &&& (3689348814741910323)))) : Int64) + (((Int64.toUInt64 ((((((p0 - (((((Int64.toUInt64 p0 >>> ((Int32.toInt64 (1)).toUInt64 &&& Int64.toUInt64 63)).toInt64) : Int64) &&& (6148914691236517205)))) : Int64) &&& (3689348814741910323)) : Int64) + (((((Int64.toUInt64 ((p0 - (((((Int64.toUInt64 p0 >>> ((Int32.toInt64 (1)).toUInt64 &&& Int64.toUInt64 63)).toInt64) : Int64) &&& (6148914691236517205)))) : Int64) >>> ((Int32.toInt64 (2)).toUInt64 &&& Int64.toUInt64 63)).toInt64) : Int64) &&& (3689348814741910323)))) : Int64) >>> ((Int32.toInt64 (4)).toUInt64 &&& Int64.toUInt64 63)).toInt64))) : Int64) &&& (1085102592571150095)) : Int64) + (((Int64.toUInt64 ((((((((((p0 - (((((Int64.toUInt64 p0 >>> ((Int32.toInt64 (1)).toUInt64 &&& Int64.toUInt64 63)).toInt64) : Int64) &&& (6148914691236517205)))) : Int64) &&& (3689348814741910323)) : Int64) + (((((Int64.toUInt64 ((p0 - (((((Int64.toUInt64 p0 >>> ((Int32.toInt64 (1)).toUInt64 &&& Int64.toUInt64 63)).toInt64) : Int64) &&& (6148914691236517205)))) : Int64) >>> ((Int32.toInt64 (2)).toUInt64 &&& Int64.toUInt64 63)).toInt64) : Int64) &&& (3689348814741910323)))) : Int64) + (((Int64.toUInt64 ((((((p0 - (((((Int64.toUInt64 p0 >>> ((Int32.toInt64 (1)).toUInt64 &&& Int64.toUInt64 63)).toInt64) : Int64) &&& (6148914691236517205)))) : Int64) &&& (3689348814741910323)) : Int64) + (((((Int64.toUInt64 ((p0 - (((((Int64.toUInt64 p0 >>> ((Int32.toInt64 (1)).toUInt64 &&& Int64.toUInt64 63)).toInt64) : Int64) &&& (6148914691236517205)))) : Int64) >>> ((Int32.toInt64 (2)).toUInt64 &&& Int64.toUInt64 63)).toInt64) : Int64) &&& (3689348814741910323)))) : Int64) >>> ((Int32.toInt64 (4)).toUInt64 &&& Int64.toUInt64 63)).toInt64))) : Int64) &&& (1085102592571150095)) : Int64) >>> ((Int32.toInt64 (8)).toUInt64 &&& Int64.toUInt64 63)).toInt64))))]) (hi1 := hi) (hl1 := hl) rfl ?_ (fun _ _ _ => rfl)
  refine EX.go (i := .ladd) (len := 1) (pc1 := 47) (st1 := [.long ((((((((((((((p0 - (((((Int64.toUInt64 p0 >>> ((Int32.toInt64 (1)).toUInt64 &&& Int64.toUInt64 63)).toInt64) : Int64) &&& (6148914691236517205)))) : Int64) &&& (3689348814741910323)) : Int64) + (((((Int64.toUInt64 ((p0 - (((((Int64.toUInt64 p0 >>> ((Int32.toInt64 (1)).toUInt64 &&& Int64.toUInt64 63)).toInt64) : Int64) &&& (6148914691236517205)))) : Int64) >>> ((Int32.toInt64 (2)).toUInt64 &&& Int64.toUInt64 63)).toInt64) : Int64) &&& (3689348814741910323)))) : Int64) + (((Int64.toUInt64 ((((((p0 - (((((Int64.toUInt64 p0 >>> ((Int32.toInt64 (1)).toUInt64 &&& Int64.toUInt64 63)).toInt64) : Int64) &&& (6148914691236517205)))) : Int64) &&& (3689348814741910323)) : Int64) + (((((Int64.toUInt64 ((p0 - (((((Int64.toUInt64 p0 >>> ((Int32.toInt64 (1)).toUInt64 &&& Int64.toUInt64 63)).toInt64) : Int64) &&& (6148914691236517205)))) : Int64) >>> ((Int32.toInt64 (2)).toUInt64 &&& Int64.toUInt64 63)).toInt64) : Int64) &&& (3689348814741910323)))) : Int64) >>> ((Int32.toInt64 (4)).toUInt64 &&& Int64.toUInt64 63)).toInt64))) : Int64) &&& (1085102592571150095)) : Int64) + (((Int64.toUInt64 ((((((((((p0 - (((((Int64.toUInt64 p0 >>> ((Int32.toInt64 (1)).toUInt64 &&& Int64.toUInt64 63)).toInt64) : Int64) &&& (6148914691236517205)))) : Int64) &&& (3689348814741910323)) : Int64) + (((((Int64.toUInt64 ((p0 - (((((Int64.toUInt64 p0 >>> ((Int32.toInt64 (1)).toUInt64 &&& Int64.toUInt64 63)).toInt64) : Int64) &&& (6148914691236517205)))) : Int64) >>> ((Int32.toInt64 (2)).toUInt64 &&& Int64.toUInt64 63)).toInt64) : Int64) &&& (3689348814741910323)))) : Int64) + (((Int64.toUInt64 ((((((p0 - (((((Int64.toUInt64 p0 >>> ((Int32.toInt64 (1)).toUInt64 &&& Int64.toUInt64 63)).toInt64) : Int64) &&& (6148914691236517205)))) : Int64) &&& (3689348814741910323)) : Int64) + (((((Int64.toUInt64 ((p0 - (((((Int64.toUInt64 p0 >>> ((Int32.toInt64 (1)).toUInt64 &&& Int64.toUInt64 63)).toInt64) : Int64) &&& (6148914691236517205)))) : Int64) >>> ((Int32.toInt64 (2)).toUInt64 &&& Int64.toUInt64 63)).toInt64) : Int64) &&& (3689348814741910323)))) : Int64) >>> ((Int32.toInt64 (4)).toUInt64 &&& Int64.toUInt64 63)).toInt64))) : Int64) &&& (1085102592571150095)) : Int64) >>> ((Int32.toInt64 (8)).toUInt64 &&& Int64.toUInt64 63)).toInt64))) : Int64) + (((Int64.toUInt64 ((((((((((((p0 - (((((Int64.toUInt64 p0 >>> ((Int32.toInt64 (1)).toUInt64 &&& Int64.toUInt64 63)).toInt64) : Int64) &&& (6148914691236517205)))) : Int64) &&& (3689348814741910323)) : Int64) + (((((Int64.toUInt64 ((p0 - (((((Int64.toUInt64 p0 >>> ((Int32.toInt64 (1)).toUInt64 &&& Int64.toUInt64 63)).toInt64) : Int64) &&& (6148914691236517205)))) : Int64) >>> ((Int32.toInt64 (2)).toUInt64 &&& Int64.toUInt64 63)).toInt64) : Int64) &&& (3689348814741910323)))) : Int64) + (((Int64.toUInt64 ((((((p0 - (((((Int64.toUInt64 p0 >>> ((Int32.toInt64 (1)).toUInt64 &&& Int64.toUInt64 63)).toInt64) : Int64) &&& (6148914691236517205)))) : Int64) &&& (3689348814741910323)) : Int64) + (((((Int64.toUInt64 ((p0 - (((((Int64.toUInt64 p0 >>> ((Int32.toInt64 (1)).toUInt64 &&& Int64.toUInt64 63)).toInt64) : Int64) &&& (6148914691236517205)))) : Int64) >>> ((Int32.toInt64 (2)).toUInt64 &&& Int64.toUInt64 63)).toInt64) : Int64) &&& (3689348814741910323)))) : Int64) >>> ((Int32.toInt64 (4)).toUInt64 &&& Int64.toUInt64 63)).toInt64))) : Int64) &&& (1085102592571150095)) : Int64) + (((Int64.toUInt64 ((((((((((p0 - (((((Int64.toUInt64 p0 >>> ((Int32.toInt64 (1)).toUInt64 &&& Int64.toUInt64 63)).toInt64) : Int64) &&& (6148914691236517205)))) : Int64) &&& (3689348814741910323)) : Int64) + (((((Int64.toUInt64 ((p0 - (((((Int64.toUInt64 p0 >>> ((Int32.toInt64 (1)).toUInt64 &&& Int64.toUInt64 63)).toInt64) : Int64) &&& (6148914691236517205)))) : Int64) >>> ((Int32.toInt64 (2)).toUInt64 &&& Int64.toUInt64 63)).toInt64) : Int64) &&& (3689348814741910323)))) : Int64) + (((Int64.toUInt64 ((((((p0 - (((((Int64.toUInt64 p0 >>> ((Int32.toInt64 (1)).toUInt64 &&& Int64.toUInt64 63)).toInt64) : Int64) &&& (6148914691236517205)))) : Int64) &&& (3689348814741910323)) : Int64) + (((((Int64.toUInt64 ((p0 - (((((Int64.toUInt64 p0 >>> ((Int32.toInt64 (1)).toUInt64 &&& Int64.toUInt64 63)).toInt64) : Int64) &&& (6148914691236517205)))) : Int64) >>> ((Int32.toInt64 (2)).toUInt64 &&& Int64.toUInt64 63)).toInt64) : Int64) &&& (3689348814741910323)))) : Int64) >>> ((Int32.toInt64 (4)).toUInt64 &&& Int64.toUInt64 63)).toInt64))) : Int64) &&& (1085102592571150095)) : Int64) >>> ((Int32.toInt64 (8)).toUInt64 &&& Int64.toUInt64 63)).toInt64))) : Int64) >>> ((Int32.toInt64 (16)).toUInt64 &&& Int64.toUInt64 63)).toInt64))))]) (hi1 := hi) (hl1 := hl) rfl ?_ (fun _ _ _ => rfl)
  refine EX.lstore_n (req1 := [(0, .long ((((((((((((((p0 - (((((Int64.toUInt64 p0 >>> ((Int32.toInt64 (1)).toUInt64 &&& Int64.toUInt64 63)).toInt64) : Int64) &&& (6148914691236517205)))) : Int64) &&& (3689348814741910323)) : Int64) + (((((Int64.toUInt64 ((p0 - (((((Int64.toUInt64 p0 >>> ((Int32.toInt64 (1)).toUInt64 &&& Int64.toUInt64 63)).toInt64) : Int64) &&& (6148914691236517205)))) : Int64) >>> ((Int32.toInt64 (2)).toUInt64 &&& Int64.toUInt64 63)).toInt64) : Int64) &&& (3689348814741910323)))) : Int64) + (((Int64.toUInt64 ((((((p0 - (((((Int64.toUInt64 p0 >>> ((Int32.toInt64 (1)).toUInt64 &&& Int64.toUInt64 63)).toInt64) : Int64) &&& (6148914691236517205)))) : Int64) &&& (3689348814741910323)) : Int64) + (((((Int64.toUInt64 ((p0 - (((((Int64.toUInt64 p0 >>> ((Int32.toInt64 (1)).toUInt64 &&& Int64.toUInt64 63)).toInt64) : Int64) &&& (6148914691236517205)))) : Int64) >>> ((Int32.toInt64 (2)).toUInt64 &&& Int64.toUInt64 63)).toInt64) : Int64) &&& (3689348814741910323)))) : Int64) >>> ((Int32.toInt64 (4)).toUInt64 &&& Int64.toUInt64 63)).toInt64))) : Int64) &&& (1085102592571150095)) : Int64) + (((Int64.toUInt64 ((((((((((p0 - (((((Int64.toUInt64 p0 >>> ((Int32.toInt64 (1)).toUInt64 &&& Int64.toUInt64 63)).toInt64) : Int64) &&& (6148914691236517205)))) : Int64) &&& (3689348814741910323)) : Int64) + (((((Int64.toUInt64 ((p0 - (((((Int64.toUInt64 p0 >>> ((Int32.toInt64 (1)).toUInt64 &&& Int64.toUInt64 63)).toInt64) : Int64) &&& (6148914691236517205)))) : Int64) >>> ((Int32.toInt64 (2)).toUInt64 &&& Int64.toUInt64 63)).toInt64) : Int64) &&& (3689348814741910323)))) : Int64) + (((Int64.toUInt64 ((((((p0 - (((((Int64.toUInt64 p0 >>> ((Int32.toInt64 (1)).toUInt64 &&& Int64.toUInt64 63)).toInt64) : Int64) &&& (6148914691236517205)))) : Int64) &&& (3689348814741910323)) : Int64) + (((((Int64.toUInt64 ((p0 - (((((Int64.toUInt64 p0 >>> ((Int32.toInt64 (1)).toUInt64 &&& Int64.toUInt64 63)).toInt64) : Int64) &&& (6148914691236517205)))) : Int64) >>> ((Int32.toInt64 (2)).toUInt64 &&& Int64.toUInt64 63)).toInt64) : Int64) &&& (3689348814741910323)))) : Int64) >>> ((Int32.toInt64 (4)).toUInt64 &&& Int64.toUInt64 63)).toInt64))) : Int64) &&& (1085102592571150095)) : Int64) >>> ((Int32.toInt64 (8)).toUInt64 &&& Int64.toUInt64 63)).toInt64))) : Int64) + (((Int64.toUInt64 ((((((((((((p0 - (((((Int64.toUInt64 p0 >>> ((Int32.toInt64 (1)).toUInt64 &&& Int64.toUInt64 63)).toInt64) : Int64) &&& (6148914691236517205)))) : Int64) &&& (3689348814741910323)) : Int64) + (((((Int64.toUInt64 ((p0 - (((((Int64.toUInt64 p0 >>> ((Int32.toInt64 (1)).toUInt64 &&& Int64.toUInt64 63)).toInt64) : Int64) &&& (6148914691236517205)))) : Int64) >>> ((Int32.toInt64 (2)).toUInt64 &&& Int64.toUInt64 63)).toInt64) : Int64) &&& (3689348814741910323)))) : Int64) + (((Int64.toUInt64 ((((((p0 - (((((Int64.toUInt64 p0 >>> ((Int32.toInt64 (1)).toUInt64 &&& Int64.toUInt64 63)).toInt64) : Int64) &&& (6148914691236517205)))) : Int64) &&& (3689348814741910323)) : Int64) + (((((Int64.toUInt64 ((p0 - (((((Int64.toUInt64 p0 >>> ((Int32.toInt64 (1)).toUInt64 &&& Int64.toUInt64 63)).toInt64) : Int64) &&& (6148914691236517205)))) : Int64) >>> ((Int32.toInt64 (2)).toUInt64 &&& Int64.toUInt64 63)).toInt64) : Int64) &&& (3689348814741910323)))) : Int64) >>> ((Int32.toInt64 (4)).toUInt64 &&& Int64.toUInt64 63)).toInt64))) : Int64) &&& (1085102592571150095)) : Int64) + (((Int64.toUInt64 ((((((((((p0 - (((((Int64.toUInt64 p0 >>> ((Int32.toInt64 (1)).toUInt64 &&& Int64.toUInt64 63)).toInt64) : Int64) &&& (6148914691236517205)))) : Int64) &&& (3689348814741910323)) : Int64) + (((((Int64.toUInt64 ((p0 - (((((Int64.toUInt64 p0 >>> ((Int32.toInt64 (1)).toUInt64 &&& Int64.toUInt64 63)).toInt64) : Int64) &&& (6148914691236517205)))) : Int64) >>> ((Int32.toInt64 (2)).toUInt64 &&& Int64.toUInt64 63)).toInt64) : Int64) &&& (3689348814741910323)))) : Int64) + (((Int64.toUInt64 ((((((p0 - (((((Int64.toUInt64 p0 >>> ((Int32.toInt64 (1)).toUInt64 &&& Int64.toUInt64 63)).toInt64) : Int64) &&& (6148914691236517205)))) : Int64) &&& (3689348814741910323)) : Int64) + (((((Int64.toUInt64 ((p0 - (((((Int64.toUInt64 p0 >>> ((Int32.toInt64 (1)).toUInt64 &&& Int64.toUInt64 63)).toInt64) : Int64) &&& (6148914691236517205)))) : Int64) >>> ((Int32.toInt64 (2)).toUInt64 &&& Int64.toUInt64 63)).toInt64) : Int64) &&& (3689348814741910323)))) : Int64) >>> ((Int32.toInt64 (4)).toUInt64 &&& Int64.toUInt64 63)).toInt64))) : Int64) &&& (1085102592571150095)) : Int64) >>> ((Int32.toInt64 (8)).toUInt64 &&& Int64.toUInt64 63)).toInt64))) : Int64) >>> ((Int32.toInt64 (16)).toUInt64 &&& Int64.toUInt64 63)).toInt64)))))]) rfl rfl rfl ?_
  refine EX.lload_n (x := (((((((((((((p0 - (((((Int64.toUInt64 p0 >>> ((Int32.toInt64 (1)).toUInt64 &&& Int64.toUInt64 63)).toInt64) : Int64) &&& (6148914691236517205)))) : Int64) &&& (3689348814741910323)) : Int64) + (((((Int64.toUInt64 ((p0 - (((((Int64.toUInt64 p0 >>> ((Int32.toInt64 (1)).toUInt64 &&& Int64.toUInt64 63)).toInt64) : Int64) &&& (6148914691236517205)))) : Int64) >>> ((Int32.toInt64 (2)).toUInt64 &&& Int64.toUInt64 63)).toInt64) : Int64) &&& (3689348814741910323)))) : Int64) + (((Int64.toUInt64 ((((((p0 - (((((Int64.toUInt64 p0 >>> ((Int32.toInt64 (1)).toUInt64 &&& Int64.toUInt64 63)).toInt64) : Int64) &&& (6148914691236517205)))) : Int64) &&& (3689348814741910323)) : Int64) + (((((Int64.toUInt64 ((p0 - (((((Int64.toUInt64 p0 >>> ((Int32.toInt64 (1)).toUInt64 &&& Int64.toUInt64 63)).toInt64) : Int64) &&& (6148914691236517205)))) : Int64) >>> ((Int32.toInt64 (2)).toUInt64 &&& Int64.toUInt64 63)).toInt64) : Int64) &&& (3689348814741910323)))) : Int64) >>> ((Int32.toInt64 (4)).toUInt64 &&& Int64.toUInt64 63)).toInt64))) : Int64) &&& (1085102592571150095)) : Int64) + (((Int64.toUInt64 ((((((((((p0 - (((((Int64.toUInt64 p0 >>> ((Int32.toInt64 (1)).toUInt64 &&& Int64.toUInt64 63)).toInt64) : Int64) &&& (6148914691236517205)))) : Int64) &&& (3689348814741910323)) : Int64) + (((((Int64.toUInt64 ((p0 - (((((Int64.toUInt64 p0 >>> ((Int32.toInt64 (1)).toUInt64 &&& Int64.toUInt64 63)).toInt64) : Int64) &&& (6148914691236517205)))) : Int64) >>> ((Int32.toInt64 (2)).toUInt64 &&& Int64.toUInt64 63)).toInt64) : Int64) &&& (3689348814741910323)))) : Int64) + (((Int64.toUInt64 ((((((p0 - (((((Int64.toUInt64 p0 >>> ((Int32.toInt64 (1)).toUInt64 &&& Int64.toUInt64 63)).toInt64) : Int64) &&& (6148914691236517205)))) : Int64) &&& (3689348814741910323)) : Int64) + (((((Int64.toUInt64 ((p0 - (((((Int64.toUInt64 p0 >>> ((Int32.toInt64 (1)).toUInt64 &&& Int64.toUInt64 63)).toInt64) : Int64) &&& (6148914691236517205)))) : Int64) >>> ((Int32.toInt64 (2)).toUInt64 &&& Int64.toUInt64 63)).toInt64) : Int64) &&& (3689348814741910323)))) : Int64) >>> ((Int32.toInt64 (4)).toUInt64 &&& Int64.toUInt64 63)).toInt64))) : Int64) &&& (1085102592571150095)) : Int64) >>> ((Int32.toInt64 (8)).toUInt64 &&& Int64.toUInt64 63)).toInt64))) : Int64) + (((Int64.toUInt64 ((((((((((((p0 - (((((Int64.toUInt64 p0 >>> ((Int32.toInt64 (1)).toUInt64 &&& Int64.toUInt64 63)).toInt64) : Int64) &&& (6148914691236517205)))) : Int64) &&& (3689348814741910323)) : Int64) + (((((Int64.toUInt64 ((p0 - (((((Int64.toUInt64 p0 >>> ((Int32.toInt64 (1)).toUInt64 &&& Int64.toUInt64 63)).toInt64) : Int64) &&& (6148914691236517205)))) : Int64) >>> ((Int32.toInt64 (2)).toUInt64 &&& Int64.toUInt64 63)).toInt64) : Int64) &&& (3689348814741910323)))) : Int64) + (((Int64.toUInt64 ((((((p0 - (((((Int64.toUInt64 p0 >>> ((Int32.toInt64 (1)).toUInt64 &&& Int64.toUInt64 63)).toInt64) : Int64) &&& (6148914691236517205)))) : Int64) &&& (3689348814741910323)) : Int64) + (((((Int64.toUInt64 ((p0 - (((((Int64.toUInt64 p0 >>> ((Int32.toInt64 (1)).toUInt64 &&& Int64.toUInt64 63)).toInt64) : Int64) &&& (6148914691236517205)))) : Int64) >>> ((Int32.toInt64 (2)).toUInt64 &&& Int64.toUInt64 63)).toInt64) : Int64) &&& (3689348814741910323)))) : Int64) >>> ((Int32.toInt64 (4)).toUInt64 &&& Int64.toUInt64 63)).toInt64))) : Int64) &&& (1085102592571150095)) : Int64) + (((Int64.toUInt64 ((((((((((p0 - (((((Int64.toUInt64 p0 >>> ((Int32.toInt64 (1)).toUInt64 &&& Int64.toUInt64 63)).toInt64) : Int64) &&& (6148914691236517205)))) : Int64) &&& (3689348814741910323)) : Int64) + (((((Int64.toUInt64 ((p0 - (((((Int64.toUInt64 p0 >>> ((Int32.toInt64 (1)).toUInt64 &&& Int64.toUInt64 63)).toInt64) : Int64) &&& (6148914691236517205)))) : Int64) >>> ((Int32.toInt64 (2)).toUInt64 &&& Int64.toUInt64 63)).toInt64) : Int64) &&& (3689348814741910323)))) : Int64) + (((Int64.toUInt64 ((((((p0 - (((((Int64.toUInt64 p0 >>> ((Int32.toInt64 (1)).toUInt64 &&& Int64.toUInt64 63)).toInt64) : Int64) &&& (6148914691236517205)))) : Int64) &&& (3689348814741910323)) : Int64) + (((((Int64.toUInt64 ((p0 - (((((Int64.toUInt64 p0 >>> ((Int32.toInt64 (1)).toUInt64 &&& Int64.toUInt64 63)).toInt64) : Int64) &&& (6148914691236517205)))) : Int64) >>> ((Int32.toInt64 (2)).toUInt64 &&& Int64.toUInt64 63)).toInt64) : Int64) &&& (3689348814741910323)))) : Int64) >>> ((Int32.toInt64 (4)).toUInt64 &&& Int64.toUInt64 63)).toInt64))) : Int64) &&& (1085102592571150095)) : Int64) >>> ((Int32.toInt64 (8)).toUInt64 &&& Int64.toUInt64 63)).toInt64))) : Int64) >>> ((Int32.toInt64 (16)).toUInt64 &&& Int64.toUInt64 63)).toInt64)))) rfl (List.mem_of_getElem? (i := 0) rfl) ?_
  refine EX.lload_n (x := (((((((((((((p0 - (((((Int64.toUInt64 p0 >>> ((Int32.toInt64 (1)).toUInt64 &&& Int64.toUInt64 63)).toInt64) : Int64) &&& (6148914691236517205)))) : Int64) &&& (3689348814741910323)) : Int64) + (((((Int64.toUInt64 ((p0 - (((((Int64.toUInt64 p0 >>> ((Int32.toInt64 (1)).toUInt64 &&& Int64.toUInt64 63)).toInt64) : Int64) &&& (6148914691236517205)))) : Int64) >>> ((Int32.toInt64 (2)).toUInt64 &&& Int64.toUInt64 63)).toInt64) : Int64) &&& (3689348814741910323)))) : Int64) + (((Int64.toUInt64 ((((((p0 - (((((Int64.toUInt64 p0 >>> ((Int32.toInt64 (1)).toUInt64 &&& Int64.toUInt64 63)).toInt64) : Int64) &&& (6148914691236517205)))) : Int64) &&& (3689348814741910323)) : Int64) + (((((Int64.toUInt64 ((p0 - (((((Int64.toUInt64 p0 >>> ((Int32.toInt64 (1)).toUInt64 &&& Int64.toUInt64 63)).toInt64) : Int64) &&& (6148914691236517205)))) : Int64) >>> ((Int32.toInt64 (2)).toUInt64 &&& Int64.toUInt64 63)).toInt64) : Int64) &&& (3689348814741910323)))) : Int64) >>> ((Int32.toInt64 (4)).toUInt64 &&& Int64.toUInt64 63)).toInt64))) : Int64) &&& (1085102592571150095)) : Int64) + (((Int64.toUInt64 ((((((((((p0 - (((((Int64.toUInt64 p0 >>> ((Int32.toInt64 (1)).toUInt64 &&& Int64.toUInt64 63)).toInt64) : Int64) &&& (6148914691236517205)))) : Int64) &&& (3689348814741910323)) : Int64) + (((((Int64.toUInt64 ((p0 - (((((Int64.toUInt64 p0 >>> ((Int32.toInt64 (1)).toUInt64 &&& Int64.toUInt64 63)).toInt64) : Int64) &&& (6148914691236517205)))) : Int64) >>> ((Int32.toInt64 (2)).toUInt64 &&& Int64.toUInt64 63)).toInt64) : Int64) &&& (3689348814741910323)))) : Int64) + (((Int64.toUInt64 ((((((p0 - (((((Int64.toUInt64 p0 >>> ((Int32.toInt64 (1)).toUInt64 &&& Int64.toUInt64 63)).toInt64) : Int64) &&& (6148914691236517205)))) : Int64) &&& (3689348814741910323)) : Int64) + (((((Int64.toUInt64 ((p0 - (((((Int64.toUInt64 p0 >>> ((Int32.toInt64 (1)).toUInt64 &&& Int64.toUInt64 63)).toInt64) : Int64) &&& (6148914691236517205)))) : Int64) >>> ((Int32.toInt64 (2)).toUInt64 &&& Int64.toUInt64 63)).toInt64) : Int64) &&& (3689348814741910323)))) : Int64) >>> ((Int32.toInt64 (4)).toUInt64 &&& Int64.toUInt64 63)).toInt64))) : Int64) &&& (1085102592571150095)) : Int64) >>> ((Int32.toInt64 (8)).toUInt64 &&& Int64.toUInt64 63)).toInt64))) : Int64) + (((Int64.toUInt64 ((((((((((((p0 - (((((Int64.toUInt64 p0 >>> ((Int32.toInt64 (1)).toUInt64 &&& Int64.toUInt64 63)).toInt64) : Int64) &&& (6148914691236517205)))) : Int64) &&& (3689348814741910323)) : Int64) + (((((Int64.toUInt64 ((p0 - (((((Int64.toUInt64 p0 >>> ((Int32.toInt64 (1)).toUInt64 &&& Int64.toUInt64 63)).toInt64) : Int64) &&& (6148914691236517205)))) : Int64) >>> ((Int32.toInt64 (2)).toUInt64 &&& Int64.toUInt64 63)).toInt64) : Int64) &&& (3689348814741910323)))) : Int64) + (((Int64.toUInt64 ((((((p0 - (((((Int64.toUInt64 p0 >>> ((Int32.toInt64 (1)).toUInt64 &&& Int64.toUInt64 63)).toInt64) : Int64) &&& (6148914691236517205)))) : Int64) &&& (3689348814741910323)) : Int64) + (((((Int64.toUInt64 ((p0 - (((((Int64.toUInt64 p0 >>> ((Int32.toInt64 (1)).toUInt64 &&& Int64.toUInt64 63)).toInt64) : Int64) &&& (6148914691236517205)))) : Int64) >>> ((Int32.toInt64 (2)).toUInt64 &&& Int64.toUInt64 63)).toInt64) : Int64) &&& (3689348814741910323)))) : Int64) >>> ((Int32.toInt64 (4)).toUInt64 &&& Int64.toUInt64 63)).toInt64))) : Int64) &&& (1085102592571150095)) : Int64) + (((Int64.toUInt64 ((((((((((p0 - (((((Int64.toUInt64 p0 >>> ((Int32.toInt64 (1)).toUInt64 &&& Int64.toUInt64 63)).toInt64) : Int64) &&& (6148914691236517205)))) : Int64) &&& (3689348814741910323)) : Int64) + (((((Int64.toUInt64 ((p0 - (((((Int64.toUInt64 p0 >>> ((Int32.toInt64 (1)).toUInt64 &&& Int64.toUInt64 63)).toInt64) : Int64) &&& (6148914691236517205)))) : Int64) >>> ((Int32.toInt64 (2)).toUInt64 &&& Int64.toUInt64 63)).toInt64) : Int64) &&& (3689348814741910323)))) : Int64) + (((Int64.toUInt64 ((((((p0 - (((((Int64.toUInt64 p0 >>> ((Int32.toInt64 (1)).toUInt64 &&& Int64.toUInt64 63)).toInt64) : Int64) &&& (6148914691236517205)))) : Int64) &&& (3689348814741910323)) : Int64) + (((((Int64.toUInt64 ((p0 - (((((Int64.toUInt64 p0 >>> ((Int32.toInt64 (1)).toUInt64 &&& Int64.toUInt64 63)).toInt64) : Int64) &&& (6148914691236517205)))) : Int64) >>> ((Int32.toInt64 (2)).toUInt64 &&& Int64.toUInt64 63)).toInt64) : Int64) &&& (3689348814741910323)))) : Int64) >>> ((Int32.toInt64 (4)).toUInt64 &&& Int64.toUInt64 63)).toInt64))) : Int64) &&& (1085102592571150095)) : Int64) >>> ((Int32.toInt64 (8)).toUInt64 &&& Int64.toUInt64 63)).toInt64))) : Int64) >>> ((Int32.toInt64 (16)).toUInt64 &&& Int64.toUInt64 63)).toInt64)))) rfl (List.mem_of_getElem? (i := 0) rfl) ?_
  refine EX.bipush (v := 32) rfl rfl ?_
  refine EX.go (i := .lushr) (len := 1) (pc1 := 53) (st1 := [.long (((Int64.toUInt64 ((((((((((((((p0 - (((((Int64.toUInt64 p0 >>> ((Int32.toInt64 (1)).toUInt64 &&& Int64.toUInt64 63)).toInt64) : Int64) &&& (6148914691236517205)))) : Int64) &&& (3689348814741910323)) : Int64) + (((((Int64.toUInt64 ((p0 - (((((Int64.toUInt64 p0 >>> ((Int32.toInt64 (1)).toUInt64 &&& Int64.toUInt64 63)).toInt64) : Int64) &&& (6148914691236517205)))) : Int64) >>> ((Int32.toInt64 (2)).toUInt64 &&& Int64.toUInt64 63)).toInt64) : Int64) &&& (3689348814741910323)))) : Int64) + (((Int64.toUInt64 ((((((p0 - (((((Int64.toUInt64 p0 >>> ((Int32.toInt64 (1)).toUInt64 &&& Int64.toUInt64 63)).toInt64) : Int64) &&& (6148914691236517205)))) : Int64) &&& (3689348814741910323)) : Int64) + (((((Int64.toUInt64 ((p0 - (((((Int64.toUInt64 p0 >>> ((Int32.toInt64 (1)).toUInt64 &&& Int64.toUInt64 63)).toInt64) : Int64) &&& (6148914691236517205)))) : Int64) >>> ((Int32.toInt64 (2)).toUInt64 &&& Int64.toUInt64 63)).toInt64) : Int64) &&& (3689348814741910323)))) : Int64) >>> ((Int32.toInt64 (4)).toUInt64 &&& Int64.toUInt64 63)).toInt64))) : Int64) &&& (1085102592571150095)) : Int64) + (((Int64.toUInt64 ((((((((((p0 - (((((Int64.toUInt64 p0 >>> ((Int32.toInt64 (1)).toUInt64 &&& Int64.toUInt64 63)).toInt64) : Int64) &&& (6148914691236517205)))) : Int64) &&& (3689348814741910323)) : Int64) + (((((Int64.toUInt64 ((p0 - (((((Int64.toUInt64 p0 >>> ((Int32.toInt64 (1)).toUInt64 &&& Int64.toUInt64 63)).toInt64) : Int64) &&& (6148914691236517205)))) : Int64) >>> ((Int32.toInt64 (2)).toUInt64 &&& Int64.toUInt64 63)).toInt64) : Int64) &&& (3689348814741910323)))) : Int64) + (((Int64.toUInt64 ((((((p0 - (((((Int64.toUInt64 p0 >>> ((Int32.toInt64 (1)).toUInt64 &&& Int64.toUInt64 63)).toInt64) : Int64) &&& (6148914691236517205)))) : Int64) &&& (3689348814741910323)) : Int64) + (((((Int64.toUInt64 ((p0 - (((((Int64.toUInt64 p0 >>> ((Int32.toInt64 (1)).toUInt64 &&& Int64.toUInt64 63)).toInt64) : Int64) &&& (6148914691236517205)))) : Int64) >>> ((Int32.toInt64 (2)).toUInt64 &&& Int64.toUInt64 63)).toInt64) : Int64) &&& (3689348814741910323)))) : Int64) >>> ((Int32.toInt64 (4)).toUInt64 &&& Int64.toUInt64 63)).toInt64))) : Int64) &&& (1085102592571150095)) : Int64) >>> ((Int32.toInt64 (8)).toUInt64 &&& Int64.toUInt64 63)).toInt64))) : Int64) + (((Int64.toUInt64 ((((((((((((p0 - (((((Int64.toUInt64 p0 >>> ((Int32.toInt64 (1)).toUInt64 &&& Int64.toUInt64 63)).toInt64) : Int64) &&& (6148914691236517205)))) : Int64) &&& (3689348814741910323)) : Int64) + (((((Int64.toUInt64 ((p0 - (((((Int64.toUInt64 p0 >>> ((Int32.toInt64 (1)).toUInt64 &&& Int64.toUInt64 63)).toInt64) : Int64) &&& (6148914691236517205)))) : Int64) >>> ((Int32.toInt64 (2)).toUInt64 &&& Int64.toUInt64 63)).toInt64) : Int64) &&& (3689348814741910323)))) : Int64) + (((Int64.toUInt64 ((((((p0 - (((((Int64.toUInt64 p0 >>> ((Int32.toInt64 (1)).toUInt64 &&& Int64.toUInt64 63)).toInt64) : Int64) &&& (6148914691236517205)))) : Int64) &&& (3689348814741910323)) : Int64) + (((((Int64.toUInt64 ((p0 - (((((Int64.toUInt64 p0 >>> ((Int32.toInt64 (1)).toUInt64 &&& Int64.toUInt64 63)).toInt64) : Int64) &&& (6148914691236517205)))) : Int64) >>> ((Int32.toInt64 (2)).toUInt64 &&& Int64.toUInt64 63)).toInt64) : Int64) &&& (3689348814741910323)))) : Int64) >>> ((Int32.toInt64 (4)).toUInt64 &&& Int64.toUInt64 63)).toInt64))) : Int64) &&& (1085102592571150095)) : Int64) + (((Int64.toUInt64 ((((((((((p0 - (((((Int64.toUInt64 p0 >>> ((Int32.toInt64 (1)).toUInt64 &&& Int64.toUInt64 63)).toInt64) : Int64) &&& (6148914691236517205)))) : Int64) &&& (3689348814741910323)) : Int64) + (((((Int64.toUInt64 ((p0 - (((((Int64.toUInt64 p0 >>> ((Int32.toInt64 (1)).toUInt64 &&& Int64.toUInt64 63)).toInt64) : Int64) &&& (6148914691236517205)))) : Int64) >>> ((Int32.toInt64 (2)).toUInt64 &&& Int64.toUInt64 63)).toInt64) : Int64) &&& (3689348814741910323)))) : Int64) + (((Int64.toUInt64 ((((((p0 - (((((Int64.toUInt64 p0 >>> ((Int32.toInt64 (1)).toUInt64 &&& Int64.toUInt64 63)).toInt64) : Int64) &&& (6148914691236517205)))) : Int64) &&& (3689348814741910323)) : Int64) + (((((Int64.toUInt64 ((p0 - (((((Int64.toUInt64 p0 >>> ((Int32.toInt64 (1)).toUInt64 &&& Int64.toUInt64 63)).toInt64) : Int64) &&& (6148914691236517205)))) : Int64) >>> ((Int32.toInt64 (2)).toUInt64 &&& Int64.toUInt64 63)).toInt64) : Int64) &&& (3689348814741910323)))) : Int64) >>> ((Int32.toInt64 (4)).toUInt64 &&& Int64.toUInt64 63)).toInt64))) : Int64) &&& (1085102592571150095)) : Int64) >>> ((Int32.toInt64 (8)).toUInt64 &&& Int64.toUInt64 63)).toInt64))) : Int64) >>> ((Int32.toInt64 (16)).toUInt64 &&& Int64.toUInt64 63)).toInt64))) : Int64) >>> ((Int32.toInt64 (32)).toUInt64 &&& Int64.toUInt64 63)).toInt64)), .long ((((((((((((((p0 - (((((Int64.toUInt64 p0 >>> ((Int32.toInt64 (1)).toUInt64 &&& Int64.toUInt64 63)).toInt64) : Int64) &&& (6148914691236517205)))) : Int64) &&& (3689348814741910323)) : Int64) + (((((Int64.toUInt64 ((p0 - (((((Int64.toUInt64 p0 >>> ((Int32.toInt64 (1)).toUInt64 &&& Int64.toUInt64 63)).toInt64) : Int64) &&& (6148914691236517205)))) : Int64) >>> ((Int32.toInt64 (2)).toUInt64 &&& Int64.toUInt64 63)).toInt64) : Int64) &&& (3689348814741910323)))) : Int64) + (((Int64.toUInt64 ((((((p0 - (((((Int64.toUInt64 p0 >>> ((Int32.toInt64 (1)).toUInt64 &&& Int64.toUInt64 63)).toInt64) : Int64) &&& (6148914691236517205)))) : Int64) &&& (3689348814741910323)) : Int64) + (((((Int64.toUInt64 ((p0 - (((((Int64.toUInt64 p0 >>> ((Int32.toInt64 (1)).toUInt64 &&& Int64.toUInt64 63)).toInt64) : Int64) &&& (6148914691236517205)))) : Int64) >>> ((Int32.toInt64 (2)).toUInt64 &&& Int64.toUInt64 63)).toInt64) : Int64) &&& (3689348814741910323)))) : Int64) >>> ((Int32.toInt64 (4)).toUInt64 &&& Int64.toUInt64 63)).toInt64))) : Int64) &&& (1085102592571150095)) : Int64) + (((Int64.toUInt64 ((((((((((p0 - (((((Int64.toUInt64 p0 >>> ((Int32.toInt64 (1)).toUInt64 &&& Int64.toUInt64 63)).toInt64) : Int64) &&& (6148914691236517205)))) : Int64) &&& (3689348814741910323)) : Int64) + (((((Int64.toUInt64 ((p0 - (((((Int64.toUInt64 p0 >>> ((Int32.toInt64 (1)).toUInt64 &&& Int64.toUInt64 63)).toInt64) : Int64) &&& (6148914691236517205)))) : Int64) >>> ((Int32.toInt64 (2)).toUInt64 &&& Int64.toUInt64 63)).toInt64) : Int64) &&& (3689348814741910323)))) : Int64) + (((Int64.toUInt64 ((((((p0 - (((((Int64.toUInt64 p0 >>> ((Int32.toInt64 (1)).toUInt64 &&& Int64.toUInt64 63)).toInt64) : Int64) &&& (6148914691236517205)))) : Int64) &&& (3689348814741910323)) : Int64) + (((((Int64.toUInt64 ((p0 - (((((Int64.toUInt64 p0 >>> ((Int32.toInt64 (1)).toUInt64 &&& Int64.toUInt64 63)).toInt64) : Int64) &&& (6148914691236517205)))) : Int64) >>> ((Int32.toInt64 (2)).toUInt64 &&& Int64.toUInt64 63)).toInt64) : Int64) &&& (3689348814741910323)))) : Int64) >>> ((Int32.toInt64 (4)).toUInt64 &&& Int64.toUInt64 63)).toInt64))) : Int64) &&& (1085102592571150095)) : Int64) >>> ((Int32.toInt64 (8)).toUInt64 &&& Int64.toUInt64 63)).toInt64))) : Int64) + (((Int64.toUInt64 ((((((((((((p0 - (((((Int64.toUInt64 p0 >>> ((Int32.toInt64 (1)).toUInt64 &&& Int64.toUInt64 63)).toInt64) : Int64) &&& (6148914691236517205)))) : Int64) &&& (3689348814741910323)) : Int64) + (((((Int64.toUInt64 ((p0 - (((((Int64.toUInt64 p0 >>> ((Int32.toInt64 (1)).toUInt64 &&& Int64.toUInt64 63)).toInt64) : Int64) &&& (6148914691236517205)))) : Int64) >>> ((Int32.toInt64 (2)).toUInt64 &&& Int64.toUInt64 63)).toInt64) : Int64) &&& (3689348814741910323)))) : Int64) + (((Int64.toUInt64 ((((((p0 - (((((Int64.toUInt64 p0 >>> ((Int32.toInt64 (1)).toUInt64 &&& Int64.toUInt64 63)).toInt64) : Int64) &&& (6148914691236517205)))) : Int64) &&& (3689348814741910323)) : Int64) + (((((Int64.toUInt64 ((p0 - (((((Int64.toUInt64 p0 >>> ((Int32.toInt64 (1)).toUInt64 &&& Int64.toUInt64 63)).toInt64) : Int64) &&& (6148914691236517205)))) : Int64) >>> ((Int32.toInt64 (2)).toUInt64 &&& Int64.toUInt64 63)).toInt64) : Int64) &&& (3689348814741910323)))) : Int64) >>> ((Int32.toInt64 (4)).toUInt64 &&& Int64.toUInt64 63)).toInt64))) : Int64) &&& (1085102592571150095)) : Int64) + (((Int64.toUInt64 ((((((((((p0 - (((((Int64.toUInt64 p0 >>> ((Int32.toInt64 (1)).toUInt64 &&& Int64.toUInt64 63)).toInt64) : Int64) &&& (6148914691236517205)))) : Int64) &&& (3689348814741910323)) : Int64) + (((((Int64.toUInt64 ((p0 - (((((Int64.toUInt64 p0 >>> ((Int32.toInt64 (1)).toUInt64 &&& Int64.toUInt64 63)).toInt64) : Int64) &&& (6148914691236517205)))) : Int64) >>> ((Int32.toInt64 (2)).toUInt64 &&& Int64.toUInt64 63)).toInt64) : Int64) &&& (3689348814741910323)))) : Int64) + (((Int64.toUInt64 ((((((p0 - (((((Int64.toUInt64 p0 >>> ((Int32.toInt64 (1)).toUInt64 &&& Int64.toUInt64 63)).toInt64) : Int64) &&& (6148914691236517205)))) : Int64) &&& (3689348814741910323)) : Int64) + (((((Int64.toUInt64 ((p0 - (((((Int64.toUInt64 p0 >>> ((Int32.toInt64 (1)).toUInt64 &&& Int64.toUInt64 63)).toInt64) : Int64) &&& (6148914691236517205)))) : Int64) >>> ((Int32.toInt64 (2)).toUInt64 &&& Int64.toUInt64 63)).toInt64) : Int64) &&& (3689348814741910323)))) : Int64) >>> ((Int32.toInt64 (4)).toUInt64 &&& Int64.toUInt64 63)).toInt64))) : Int64) &&& (1085102592571150095)) : Int64) >>> ((Int32.toInt64 (8)).toUInt64 &&& Int64.toUInt64 63)).toInt64))) : Int64) >>> ((Int32.toInt64 (16)).toUInt64 &&& Int64.toUInt64 63)).toInt64))))]) (hi1 := hi) (hl1 := hl) rfl ?_ (fun _ _ _ => rfl)
  refine EX.go (i := .ladd) (len := 1) (pc1 := 54) (st1 := [.long ((((((((((((((((p0 - (((((Int64.toUInt64 p0 >>> ((Int32.toInt64 (1)).toUInt64 &&& Int64.toUInt64 63)).toInt64) : Int64) &&& (6148914691236517205)))) : Int64) &&& (3689348814741910323)) : Int64) + (((((Int64.toUInt64 ((p0 - (((((Int64.toUInt64 p0 >>> ((Int32.toInt64 (1)).toUInt64 &&& Int64.toUInt64 63)).toInt64) : Int64) &&& (6148914691236517205)))) : Int64) >>> ((Int32.toInt64 (2)).toUInt64 &&& Int64.toUInt64 63)).toInt64) : Int64) &&& (3689348814741910323)))) : Int64) + (((Int64.toUInt64 ((((((p0 - (((((Int64.toUInt64 p0 >>> ((Int32.toInt64 (1)).toUInt64 &&& Int64.toUInt64 63)).toInt64) : Int64) &&& (6148914691236517205)))) : Int64) &&& (3689348814741910323)) : Int64) + (((((Int64.toUInt64 ((p0 - (((((Int64.toUInt64 p0 >>> ((Int32.toInt64 (1)).toUInt64 &&& Int64.toUInt64 63)).toInt64) : Int64) &&& (6148914691236517205)))) : Int64) >>> ((Int32.toInt64 (2)).toUInt64 &&& Int64.toUInt64 63)).toInt64) : Int64) &&& (3689348814741910323)))) : Int64) >>> ((Int32.toInt64 (4)).toUInt64 &&& Int64.toUInt64 63)).toInt64))) : Int64) &&& (1085102592571150095)) : Int64) + (((Int64.toUInt64 ((((((((((p0 - (((((Int64.toUInt64 p0 >>> ((Int32.toInt64 (1)).toUInt64 &&& Int64.toUInt64 63)).toInt64) : Int64) &&& (6148914691236517205)))) : Int64) &&& (3689348814741910323)) : Int64) + (((((Int64.toUInt64 ((p0 - (((((Int64.toUInt64 p0 >>> ((Int32.toInt64 (1)).toUInt64 &&& Int64.toUInt64 63)).toInt64) : Int64) &&& (6148914691236517205)))) : Int64) >>> ((Int32.toInt64 (2)).toUInt64 &&& Int64.toUInt64 63)).toInt64) : Int64) &&& (3689348814741910323)))) : Int64) + (((Int64.toUInt64 ((((((p0 - (((((Int64.toUInt64 p0 >>> ((Int32.toInt64 (1)).toUInt64 &&& Int64.toUInt64 63)).toInt64) : Int64) &&& (6148914691236517205)))) : Int64) &&& (3689348814741910323)) : Int64) + (((((Int64.toUInt64 ((p0 - (((((Int64.toUInt64 p0 >>> ((Int32.toInt64 (1)).toUInt64 &&& Int64.toUInt64 63)).toInt64) : Int64) &&& (6148914691236517205)))) : Int64) >>> ((Int32.toInt64 (2)).toUInt64 &&& Int64.toUInt64 63)).toInt64) : Int64) &&& (3689348814741910323)))) : Int64) >>> ((Int32.toInt64 (4)).toUInt64 &&& Int64.toUInt64 63)).toInt64))) : Int64) &&& (1085102592571150095)) : Int64) >>> ((Int32.toInt64 (8)).toUInt64 &&& Int64.toUInt64 63)).toInt64))) : Int64) + (((Int64.toUInt64 ((((((((((((p0 - (((((Int64.toUInt64 p0 >>> ((Int32.toInt64 (1)).toUInt64 &&& Int64.toUInt64 63)).toInt64) : Int64) &&& (6148914691236517205)))) : Int64) &&& (3689348814741910323)) : Int64) + (((((Int64.toUInt64 ((p0 - (((((Int64.toUInt64 p0 >>> ((Int32.toInt64 (1)).toUInt64 &&& Int64.toUInt64 63)).toInt64) : Int64) &&& (6148914691236517205)))) : Int64) >>> ((Int32.toInt64 (2)).toUInt64 &&& Int64.toUInt64 63)).toInt64) : Int64) &&& (3689348814741910323)))) : Int64) + (((Int64.toUInt64 ((((((p0 - (((((Int64.toUInt64 p0 >>> ((Int32.toInt64 (1)).toUInt64 &&& Int64.toUInt64 63)).toInt64) : Int64) &&& (6148914691236517205)))) : Int64) &&& (3689348814741910323)) : Int64) + (((((Int64.toUInt64 ((p0 - (((((Int64.toUInt64 p0 >>> ((Int32.toInt64 (1)).toUInt64 &&& Int64.toUInt64 63)).toInt64) : Int64) &&& (6148914691236517205)))) : Int64) >>> ((Int32.toInt64 (2)).toUInt64 &&& Int64.toUInt64 63)).toInt64) : Int64) &&& (3689348814741910323)))) : Int64) >>> ((Int32.toInt64 (4)).toUInt64 &&& Int64.toUInt64 63)).toInt64))) : Int64) &&& (1085102592571150095)) : Int64) + (((Int64.toUInt64 ((((((((((p0 - (((((Int64.toUInt64 p0 >>> ((Int32.toInt64 (1)).toUInt64 &&& Int64.toUInt64 63)).toInt64) : Int64) &&& (6148914691236517205)))) : Int64) &&& (3689348814741910323)) : Int64) + (((((Int64.toUInt64 ((p0 - (((((Int64.toUInt64 p0 >>> ((Int32.toInt64 (1)).toUInt64 &&& Int64.toUInt64 63)).toInt64) : Int64) &&& (6148914691236517205)))) : Int64) >>> ((Int32.toInt64 (2)).toUInt64 &&& Int64.toUInt64 63)).toInt64) : Int64) &&& (3689348814741910323)))) : Int64) + (((Int64.toUInt64 ((((((p0 - (((((Int64.toUInt64 p0 >>> ((Int32.toInt64 (1)).toUInt64 &&& Int64.toUInt64 63)).toInt64) : Int64) &&& (6148914691236517205)))) : Int64) &&& (3689348814741910323)) : Int64) + (((((Int64.toUInt64 ((p0 - (((((Int64.toUInt64 p0 >>> ((Int32.toInt64 (1)).toUInt64 &&& Int64.toUInt64 63)).toInt64) : Int64) &&& (6148914691236517205)))) : Int64) >>> ((Int32.toInt64 (2)).toUInt64 &&& Int64.toUInt64 63)).toInt64) : Int64) &&& (3689348814741910323)))) : Int64) >>> ((Int32.toInt64 (4)).toUInt64 &&& Int64.toUInt64 63)).toInt64))) : Int64) &&& (1085102592571150095)) : Int64) >>> ((Int32.toInt64 (8)).toUInt64 &&& Int64.toUInt64 63)).toInt64))) : Int64) >>> ((Int32.toInt64 (16)).toUInt64 &&& Int64.toUInt64 63)).toInt64))) : Int64) + (((Int64.toUInt64 ((((((((((((((p0 - (((((Int64.toUInt64 p0 >>> ((Int32.toInt64 (1)).toUInt64 &&& Int64.toUInt64 63)).toInt64) : Int64) &&& (6148914691236517205)))) : Int64) &&& (3689348814741910323)) : Int64) + (((((Int64.toUInt64 ((p0 - (((((Int64.toUInt64 p0 >>> ((Int32.toInt64 (1)).toUInt64 &&& Int64.toUInt64 63)).toInt64) : Int64) &&& (6148914691236517205)))) : Int64) >>> ((Int32.toInt64 (2)).toUInt64 &&& Int64.toUInt64 63)).toInt64) : Int64) &&& (3689348814741910323)))) : Int64) + (((Int64.toUInt64 ((((((p0 - (((((Int64.toUInt64 p0 >>> ((Int32.toInt64 (1)).toUInt64 &&& Int64.toUInt64 63)).toInt64) : Int64) &&& (6148914691236517205)))) : Int64) &&& (3689348814741910323)) : Int64) + (((((Int64.toUInt64 ((p0 - (((((Int64.toUInt64 p0 >>> ((Int32.toInt64 (1)).toUInt64 &&& Int64.toUInt64 63)).toInt64) : Int64) &&& (6148914691236517205)))) : Int64) >>> ((Int32.toInt64 (2)).toUInt64 &&& Int64.toUInt64 63)).toInt64) : Int64) &&& (3689348814741910323)))) : Int64) >>> ((Int32.toInt64 (4)).toUInt64 &&& Int64.toUInt64 63)).toInt64))) : Int64) &&& (1085102592571150095)) : Int64) + (((Int64.toUInt64 ((((((((((p0 - (((((Int64.toUInt64 p0 >>> ((Int32.toInt64 (1)).toUInt64 &&& Int64.toUInt64 63)).toInt64) : Int64) &&& (6148914691236517205)))) : Int64) &&& (3689348814741910323)) : Int64) + (((((Int64.toUInt64 ((p0 - (((((Int64.toUInt64 p0 >>> ((Int32.toInt64 (1)).toUInt64 &&& Int64.toUInt64 63)).toInt64) : Int64) &&& (6148914691236517205)))) : Int64) >>> ((Int32.toInt64 (2)).toUInt64 &&& Int64.toUInt64 63)).toInt64) : Int64) &&& (3689348814741910323)))) : Int64) + (((Int64.toUInt64 ((((((p0 - (((((Int64.toUInt64 p0 >>> ((Int32.toInt64 (1)).toUInt64 &&& Int64.toUInt64 63)).toInt64) : Int64) &&& (6148914691236517205)))) : Int64) &&& (3689348814741910323)) : Int64) + (((((Int64.toUInt64 ((p0 - (((((Int64.toUInt64 p0 >>> ((Int32.toInt64 (1)).toUInt64 &&& Int64.toUInt64 63)).toInt64) : Int64) &&& (6148914691236517205)))) : Int64) >>> ((Int32.toInt64 (2)).toUInt64 &&& Int64.toUInt64 63)).toInt64) : Int64) &&& (3689348814741910323)))) : Int64) >>> ((Int32.toInt64 (4)).toUInt64 &&& Int64.toUInt64 63)).toInt64))) : Int64) &&& (1085102592571150095)) : Int64) >>> ((Int32.toInt64 (8)).toUInt64 &&& Int64.toUInt64 63)).toInt64))) : Int64) + (((Int64.toUInt64 ((((((((((((p0 - (((((Int64.toUInt64 p0 >>> ((Int32.toInt64 (1)).toUInt64 &&& Int64.toUInt64 63)).toInt64) : Int64) &&& (6148914691236517205)))) : Int64) &&& (3689348814741910323)) : Int64) + (((((Int64.toUInt64 ((p0 - (((((Int64.toUInt64 p0 >>> ((Int32.toInt64 (1)).toUInt64 &&& Int64.toUInt64 63)).toInt64) : Int64) &&& (6148914691236517205)))) : Int64) >>> ((Int32.toInt64 (2)).toUInt64 &&& Int64.toUInt64 63)).toInt64) : Int64) &&& (3689348814741910323)))) : Int64) + (((Int64.toUInt64 ((((((p0 - (((((Int64.toUInt64 p0 >>> ((Int32.toInt64 (1)).toUInt64 &&& Int64.toUInt64 63)).toInt64) : Int64) &&& (6148914691236517205)))) : Int64) &&& (3689348814741910323)) : Int64) + (((((Int64.toUInt64 ((p0 - (((((Int64.toUInt64 p0 >>> ((Int32.toInt64 (1)).toUInt64 &&& Int64.toUInt64 63)).toInt64) : Int64) &&& (6148914691236517205)))) : Int64) >>> ((Int32.toInt64 (2)).toUInt64 &&& Int64.toUInt64 63)).toInt64) : Int64) &&& (3689348814741910323)))) : Int64) >>> ((Int32.toInt64 (4)).toUInt64 &&& Int64.toUInt64 63)).toInt64))) : Int64) &&& (1085102592571150095)) : Int64) + (((Int64.toUInt64 ((((((((((p0 - (((((Int64.toUInt64 p0 >>> ((Int32.toInt64 (1)).toUInt64 &&& Int64.toUInt64 63)).toInt64) : Int64) &&& (6148914691236517205)))) : Int64) &&& (3689348814741910323)) : Int64) + (((((Int64.toUInt64 ((p0 - (((((Int64.toUInt64 p0 >>> ((Int32.toInt64 (1)).toUInt64 &&& Int64.toUInt64 63)).toInt64) : Int64) &&& (6148914691236517205)))) : Int64) >>> ((Int32.toInt64 (2)).toUInt64 &&& Int64.toUInt64 63)).toInt64) : Int64) &&& (3689348814741910323)))) : Int64) + (((Int64.toUInt64 ((((((p0 - (((((Int64.toUInt64 p0 >>> ((Int32.toInt64 (1)).toUInt64 &&& Int64.toUInt64 63)).toInt64) : Int64) &&& (6148914691236517205)))) : Int64) &&& (3689348814741910323)) : Int64) + (((((Int64.toUInt64 ((p0 - (((((Int64.toUInt64 p0 >>> ((Int32.toInt64 (1)).toUInt64 &&& Int64.toUInt64 63)).toInt64) : Int64) &&& (6148914691236517205)))) : Int64) >>> ((Int32.toInt64 (2)).toUInt64 &&& Int64.toUInt64 63)).toInt64) : Int64) &&& (3689348814741910323)))) : Int64) >>> ((Int32.toInt64 (4)).toUInt64 &&& Int64.toUInt64 63)).toInt64))) : Int64) &&& (1085102592571150095)) : Int64) >>> ((Int32.toInt64 (8)).toUInt64 &&& Int64.toUInt64 63)).toInt64))) : Int64) >>> ((Int32.toInt64 (16)).toUInt64 &&& Int64.toUInt64 63)).toInt64))) : Int64) >>> ((Int32.toInt64 (32)).toUInt64 &&& Int64.toUInt64 63)).toInt64))))]) (hi1 := hi) (hl1 := hl) rfl ?_ (fun _ _ _ => rfl)
  refine EX.lstore_n (req1 := [(0, .long ((((((((((((((((p0 - (((((Int64.toUInt64 p0 >>> ((Int32.toInt64 (1)).toUInt64 &&& Int64.toUInt64 63)).toInt64) : Int64) &&& (6148914691236517205)))) : Int64) &&& (3689348814741910323)) : Int64) + (((((Int64.toUInt64 ((p0 - (((((Int64.toUInt64 p0 >>> ((Int32.toInt64 (1)).toUInt64 &&& Int64.toUInt64 63)).toInt64) : Int64) &&& (6148914691236517205)))) : Int64) >>> ((Int32.toInt64 (2)).toUInt64 &&& Int64.toUInt64 63)).toInt64) : Int64) &&& (3689348814741910323)))) : Int64) + (((Int64.toUInt64 ((((((p0 - (((((Int64.toUInt64 p0 >>> ((Int32.toInt64 (1)).toUInt64 &&& Int64.toUInt64 63)).toInt64) : Int64) &&& (6148914691236517205)))) : Int64) &&& (3689348814741910323)) : Int64) + (((((Int64.toUInt64 ((p0 - (((((Int64.toUInt64 p0 >>> ((Int32.toInt64 (1)).toUInt64 &&& Int64.toUInt64 63)).toInt64) : Int64) &&& (6148914691236517205)))) : Int64) >>> ((Int32.toInt64 (2)).toUInt64 &&& Int64.toUInt64 63)).toInt64) : Int64) &&& (3689348814741910323)))) : Int64) >>> ((Int32.toInt64 (4)).toUInt64 &&& Int64.toUInt64 63)).toInt64))) : Int64) &&& (1085102592571150095)) : Int64) + (((Int64.toUInt64 ((((((((((p0 - (((((Int64.toUInt64 p0 >>> ((Int32.toInt64 (1)).toUInt64 &&& Int64.toUInt64 63)).toInt64) : Int64) &&& (6148914691236517205)))) : Int64) &&& (3689348814741910323)) : Int64) + (((((Int64.toUInt64 ((p0 - (((((Int64.toUInt64 p0 >>> ((Int32.toInt64 (1)).toUInt64 &&& Int64.toUInt64 63)).toInt64) : Int64) &&& (6148914691236517205)))) : Int64) >>> ((Int32.toInt64 (2)).toUInt64 &&& Int64.toUInt64 63)).toInt64) : Int64) &&& (3689348814741910323)))) : Int64) + (((Int64.toUInt64 ((((((p0 - (((((Int64.toUInt64 p0 >>> ((Int32.toInt64 (1)).toUInt64 &&& Int64.toUInt64 63)).toInt64) : Int64) &&& (6148914691236517205)))) : Int64) &&& (3689348814741910323)) : Int64) + (((((Int64.toUInt64 ((p0 - (((((Int64.toUInt64 p0 >>> ((Int32.toInt64 (1)).toUInt64 &&& Int64.toUInt64 63)).toInt64) : Int64) &&& (6148914691236517205)))) : Int64) >>> ((Int32.toInt64 (2)).toUInt64 &&& Int64.toUInt64 63)).toInt64) : Int64) &&& (3689348814741910323)))) : Int64) >>> ((Int32.toInt64 (4)).toUInt64 &&& Int64.toUInt64 63)).toInt64))) : Int64) &&& (1085102592571150095)) : Int64) >>> ((Int32.toInt64 (8)).toUInt64 &&& Int64.toUInt64 63)).toInt64))) : Int64) + (((Int64.toUInt64 ((((((((((((p0 - (((((Int64.toUInt64 p0 >>> ((Int32.toInt64 (1)).toUInt64 &&& Int64.toUInt64 63)).toInt64) : Int64) &&& (6148914691236517205)))) : Int64) &&& (3689348814741910323)) : Int64) + (((((Int64.toUInt64 ((p0 - (((((Int64.toUInt64 p0 >>> ((Int32.toInt64 (1)).toUInt64 &&& Int64.toUInt64 63)).toInt64) : Int64) &&& (6148914691236517205)))) : Int64) >>> ((Int32.toInt64 (2)).toUInt64 &&& Int64.toUInt64 63)).toInt64) : Int64) &&& (3689348814741910323)))) : Int64) + (((Int64.toUInt64 ((((((p0 - (((((Int64.toUInt64 p0 >>> ((Int32.toInt64 (1)).toUInt64 &&& Int64.toUInt64 63)).toInt64) : Int64) &&& (6148914691236517205)))) : Int64) &&& (3689348814741910323)) : Int64) + (((((Int64.toUInt64 ((p0 - (((((Int64.toUInt64 p0 >>> ((Int32.toInt64 (1)).toUInt64 &&& Int64.toUInt64 63)).toInt64) : Int64) &&& (6148914691236517205)))) : Int64) >>> ((Int32.toInt64 (2)).toUInt64 &&& Int64.toUInt64 63)).toInt64) : Int64) &&& (3689348814741910323)))) : Int64) >>> ((Int32.toInt64 (4)).toUInt64 &&& Int64.toUInt64 63)).toInt64))) : Int64) &&& (1085102592571150095)) : Int64) + (((Int64.toUInt64 ((((((((((p0 - (((((Int64.toUInt64 p0 >>> ((Int32.toInt64 (1)).toUInt64 &&& Int64.toUInt64 63)).toInt64) : Int64) &&& (6148914691236517205)))) : Int64) &&& (3689348814741910323)) : Int64) + (((((Int64.toUInt64 ((p0 - (((((Int64.toUInt64 p0 >>> ((Int32.toInt64 (1)).toUInt64 &&& Int64.toUInt64 63)).toInt64) : Int64) &&& (6148914691236517205)))) : Int64) >>> ((Int32.toInt64 (2)).toUInt64 &&& Int64.toUInt64 63)).toInt64) : Int64) &&& (3689348814741910323)))) : Int64) + (((Int64.toUInt64 ((((((p0 - (((((Int64.toUInt64 p0 >>> ((Int32.toInt64 (1)).toUInt64 &&& Int64.toUInt64 63)).toInt64) : Int64) &&& (6148914691236517205)))) : Int64) &&& (3689348814741910323)) : Int64) + (((((Int64.toUInt64 ((p0 - (((((Int64.toUInt64 p0 >>> ((Int32.toInt64 (1)).toUInt64 &&& Int64.toUInt64 63)).toInt64) : Int64) &&& (6148914691236517205)))) : Int64) >>> ((Int32.toInt64 (2)).toUInt64 &&& Int64.toUInt64 63)).toInt64) : Int64) &&& (3689348814741910323)))) : Int64) >>> ((Int32.toInt64 (4)).toUInt64 &&& Int64.toUInt64 63)).toInt64))) : Int64) &&& (1085102592571150095)) : Int64) >>> ((Int32.toInt64 (8)).toUInt64 &&& Int64.toUInt64 63)).toInt64))) : Int64) >>> ((Int32.toInt64 (16)).toUInt64 &&& Int64.toUInt64 63)).toInt64))) : Int64) + (((Int64.toUInt64 ((((((((((((((p0 - (((((Int64.toUInt64 p0 >>> ((Int32.toInt64 (1)).toUInt64 &&& Int64.toUInt64 63)).toInt64) : Int64) &&& (6148914691236517205)))) : Int64) &&& (3689348814741910323)) : Int64) + (((((Int64.toUInt64 ((p0 - (((((Int64.toUInt64 p0 >>> ((Int32.toInt64 (1)).toUInt64 &&& Int64.toUInt64 63)).toInt64) : Int64) &&& (6148914691236517205)))) : Int64) >>> ((Int32.toInt64 (2)).toUInt64 &&& Int64.toUInt64 63)).toInt64) : Int64) &&& (3689348814741910323)))) : Int64) + (((Int64.toUInt64 ((((((p0 - (((((Int64.toUInt64 p0 >>> ((Int32.toInt64 (1)).toUInt64 &&& Int64.toUInt64 63)).toInt64) : Int64) &&& (6148914691236517205)))) : Int64) &&& (3689348814741910323)) : Int64) + (((((Int64.toUInt64 ((p0 - (((((Int64.toUInt64 p0 >>> ((Int32.toInt64 (1)).toUInt64 &&& Int64.toUInt64 63)).toInt64) : Int64) &&& (6148914691236517205)))) : Int64) >>> ((Int32.toInt64 (2)).toUInt64 &&& Int64.toUInt64 63)).toInt64) : Int64) &&& (3689348814741910323)))) : Int64) >>> ((Int32.toInt64 (4)).toUInt64 &&& Int64.toUInt64 63)).toInt64))) : Int64) &&& (1085102592571150095)) : Int64) + (((Int64.toUInt64 ((((((((((p0 - (((((Int64.toUInt64 p0 >>> ((Int32.toInt64 (1)).toUInt64 &&& Int64.toUInt64 63)).toInt64) : Int64) &&& (6148914691236517205)))) : Int64) &&& (3689348814741910323)) : Int64) + (((((Int64.toUInt64 ((p0 - (((((Int64.toUInt64 p0 >>> ((Int32.toInt64 (1)).toUInt64 &&& Int64.toUInt64 63)).toInt64) : Int64) &&& (6148914691236517205)))) : Int64) >>> ((Int32.toInt64 (2)).toUInt64 &&& Int64.toUInt64 63)).toInt64) : Int64) &&& (3689348814741910323)))) : Int64) + (((Int64.toUInt64 ((((((p0 - (((((Int64.toUInt64 p0 >>> ((Int32.toInt64 (1)).toUInt64 &&& Int64.toUInt64 63)).toInt64) : Int64) &&& (6148914691236517205)))) : Int64) &&& (3689348814741910323)) : Int64) + (((((Int64.toUInt64 ((p0 - (((((Int64.toUInt64 p0 >>> ((Int32.toInt64 (1)).toUInt64 &&& Int64.toUInt64 63)).toInt64) : Int64) &&& (6148914691236517205)))) : Int64) >>> ((Int32.toInt64 (2)).toUInt64 &&& Int64.toUInt64 63)).toInt64) : Int64) &&& (3689348814741910323)))) : Int64) >>> ((Int32.toInt64 (4)).toUInt64 &&& Int64.toUInt64 63)).toInt64))) : Int64) &&& (1085102592571150095)) : Int64) >>> ((Int32.toInt64 (8)).toUInt64 &&& Int64.toUInt64 63)).toInt64))) : Int64) + (((Int64.toUInt64 ((((((((((((p0 - (((((Int64.toUInt64 p0 >>> ((Int32.toInt64 (1)).toUInt64 &&& Int64.toUInt64 63)).toInt64) : Int64) &&& (6148914691236517205)))) : Int64) &&& (3689348814741910323)) : Int64) + (((((Int64.toUInt64 ((p0 - (((((Int64.toUInt64 p0 >>> ((Int32.toInt64 (1)).toUInt64 &&& Int64.toUInt64 63)).toInt64) : Int64) &&& (6148914691236517205)))) : Int64) >>> ((Int32.toInt64 (2)).toUInt64 &&& Int64.toUInt64 63)).toInt64) : Int64) &&& (3689348814741910323)))) : Int64) + (((Int64.toUInt64 ((((((p0 - (((((Int64.toUInt64 p0 >>> ((Int32.toInt64 (1)).toUInt64 &&& Int64.toUInt64 63)).toInt64) : Int64) &&& (6148914691236517205)))) : Int64) &&& (3689348814741910323)) : Int64) + (((((Int64.toUInt64 ((p0 - (((((Int64.toUInt64 p0 >>> ((Int32.toInt64 (1)).toUInt64 &&& Int64.toUInt64 63)).toInt64) : Int64) &&& (6148914691236517205)))) : Int64) >>> ((Int32.toInt64 (2)).toUInt64 &&& Int64.toUInt64 63)).toInt64) : Int64) &&& (3689348814741910323)))) : Int64) >>> ((Int32.toInt64 (4)).toUInt64 &&& Int64.toUInt64 63)).toInt64))) : Int64) &&& (1085102592571150095)) : Int64) + (((Int64.toUInt64 ((((((((((p0 - (((((Int64.toUInt64 p0 >>> ((Int32.toInt64 (1)).toUInt64 &&& Int64.toUInt64 63)).toInt64) : Int64) &&& (6148914691236517205)))) : Int64) &&& (3689348814741910323)) : Int64) + (((((Int64.toUInt64 ((p0 - (((((Int64.toUInt64 p0 >>> ((Int32.toInt64 (1)).toUInt64 &&& Int64.toUInt64 63)).toInt64) : Int64) &&& (6148914691236517205)))) : Int64) >>> ((Int32.toInt64 (2)).toUInt64 &&& Int64.toUInt64 63)).toInt64) : Int64) &&& (3689348814741910323)))) : Int64) + (((Int64.toUInt64 ((((((p0 - (((((Int64.toUInt64 p0 >>> ((Int32.toInt64 (1)).toUInt64 &&& Int64.toUInt64 63)).toInt64) : Int64) &&& (6148914691236517205)))) : Int64) &&& (3689348814741910323)) : Int64) + (((((Int64.toUInt64 ((p0 - (((((Int64.toUInt64 p0 >>> ((Int32.toInt64 (1)).toUInt64 &&& Int64.toUInt64 63)).toInt64) : Int64) &&& (6148914691236517205)))) : Int64) >>> ((Int32.toInt64 (2)).toUInt64 &&& Int64.toUInt64 63)).toInt64) : Int64) &&& (3689348814741910323)))) : Int64) >>> ((Int32.toInt64 (4)).toUInt64 &&& Int64.toUInt64 63)).toInt64))) : Int64) &&& (1085102592571150095)) : Int64) >>> ((Int32.toInt64 (8)).toUInt64 &&& Int64.toUInt64 63)).toInt64))) : Int64) >>> ((Int32.toInt64 (16)).toUInt64 &&& Int64.toUInt64 63)).toInt64))) : Int64) >>> ((Int32.toInt64 (32)).toUInt64 &&& Int64.toUInt64 63)).toInt64)))))]) rfl rfl rfl ?_
  refine EX.lload_n (x := (((((((((((((((p0 - (((((Int64.toUInt64 p0 >>> ((Int32.toInt64 (1)).toUInt64 &&& Int64.toUInt64 63)).toInt64) : Int64) &&& (6148914691236517205)))) : Int64) &&& (3689348814741910323)) : Int64) + (((((Int64.toUInt64 ((p0 - (((((Int64.toUInt64 p0 >>> ((Int32.toInt64 (1)).toUInt64 &&& Int64.toUInt64 63)).toInt64) : Int64) &&& (6148914691236517205)))) : Int64) >>> ((Int32.toInt64 (2)).toUInt64 &&& Int64.toUInt64 63)).toInt64) : Int64) &&& (3689348814741910323)))) : Int64) + (((Int64.toUInt64 ((((((p0 - (((((Int64.toUInt64 p0 >>> ((Int32.toInt64 (1)).toUInt64 &&& Int64.toUInt64 63)).toInt64) : Int64) &&& (6148914691236517205)))) : Int64) &&& (3689348814741910323)) : Int64) + (((((Int64.toUInt64 ((p0 - (((((Int64.toUInt64 p0 >>> ((Int32.toInt64 (1)).toUInt64 &&& Int64.toUInt64 63)).toInt64) : Int64) &&& (6148914691236517205)))) : Int64) >>> ((Int32.toInt64 (2)).toUInt64 &&& Int64.toUInt64 63)).toInt64) : Int64) &&& (3689348814741910323)))) : Int64) >>> ((Int32.toInt64 (4)).toUInt64 &&& Int64.toUInt64 63)).toInt64))) : Int64) &&& (1085102592571150095)) : Int64) + (((Int64.toUInt64 ((((((((((p0 - (((((Int64.toUInt64 p0 >>> ((Int32.toInt64 (1)).toUInt64 &&& Int64.toUInt64 63)).toInt64) : Int64) &&& (6148914691236517205)))) : Int64) &&& (3689348814741910323)) : Int64) + (((((Int64.toUInt64 ((p0 - (((((Int64.toUInt64 p0 >>> ((Int32.toInt64 (1)).toUInt64 &&& Int64.toUInt64 63)).toInt64) : Int64) &&& (6148914691236517205)))) : Int64) >>> ((Int32.toInt64 (2)).toUInt64 &&& Int64.toUInt64 63)).toInt64) : Int64) &&& (3689348814741910323)))) : Int64) + (((Int64.toUInt64 ((((((p0 - (((((Int64.toUInt64 p0 >>> ((Int32.toInt64 (1)).toUInt64 &&& Int64.toUInt64 63)).toInt64) : Int64) &&& (6148914691236517205)))) : Int64) &&& (3689348814741910323)) : Int64) + (((((Int64.toUInt64 ((p0 - (((((Int64.toUInt64 p0 >>> ((Int32.toInt64 (1)).toUInt64 &&& Int64.toUInt64 63)).toInt64) : Int64) &&& (6148914691236517205)))) : Int64) >>> ((Int32.toInt64 (2)).toUInt64 &&& Int64.toUInt64 63)).toInt64) : Int64) &&& (3689348814741910323)))) : Int64) >>> ((Int32.toInt64 (4)).toUInt64 &&& Int64.toUInt64 63)).toInt64))) : Int64) &&& (1085102592571150095)) : Int64) >>> ((Int32.toInt64 (8)).toUInt64 &&& Int64.toUInt64 63)).toInt64))) : Int64) + (((Int64.toUInt64 ((((((((((((p0 - (((((Int64.toUInt64 p0 >>> ((Int32.toInt64 (1)).toUInt64 &&& Int64.toUInt64 63)).toInt64) : Int64) &&& (6148914691236517205)))) : Int64) &&& (3689348814741910323)) : Int64) + (((((Int64.toUInt64 ((p0 - (((((Int64.toUInt64 p0 >>> ((Int32.toInt64 (1)).toUInt64 &&& Int64.toUInt64 63)).toInt64) : Int64) &&& (6148914691236517205)))) : Int64) >>> ((Int32.toInt64 (2)).toUInt64 &&& Int64.toUInt64 63)).toInt64) : Int64) &&& (3689348814741910323)))) : Int64) + (((Int64.toUInt64 ((((((p0 - (((((Int64.toUInt64 p0 >>> ((Int32.toInt64 (1)).toUInt64 &&& Int64.toUInt64 63)).toInt64) : Int64) &&& (6148914691236517205)))) : Int64) &&& (3689348814741910323)) : Int64) + (((((Int64.toUInt64 ((p0 - (((((Int64.toUInt64 p0 >>> ((Int32.toInt64 (1)).toUInt64 &&& Int64.toUInt64 63)).toInt64) : Int64) &&& (6148914691236517205)))) : Int64) >>> ((Int32.toInt64 (2)).toUInt64 &&& Int64.toUInt64 63)).toInt64) : Int64) &&& (3689348814741910323)))) : Int64) >>> ((Int32.toInt64 (4)).toUInt64 &&& Int64.toUInt64 63)).toInt64))) : Int64) &&& (1085102592571150095)) : Int64) + (((Int64.toUInt64 ((((((((((p0 - (((((Int64.toUInt64 p0 >>> ((Int32.toInt64 (1)).toUInt64 &&& Int64.toUInt64 63)).toInt64) : Int64) &&& (6148914691236517205)))) : Int64) &&& (3689348814741910323)) : Int64) + (((((Int64.toUInt64 ((p0 - (((((Int64.toUInt64 p0 >>> ((Int32.toInt64 (1)).toUInt64 &&& Int64.toUInt64 63)).toInt64) : Int64) &&& (6148914691236517205)))) : Int64) >>> ((Int32.toInt64 (2)).toUInt64 &&& Int64.toUInt64 63)).toInt64) : Int64) &&& (3689348814741910323)))) : Int64) + (((Int64.toUInt64 ((((((p0 - (((((Int64.toUInt64 p0 >>> ((Int32.toInt64 (1)).toUInt64 &&& Int64.toUInt64 63)).toInt64) : Int64) &&& (6148914691236517205)))) : Int64) &&& (3689348814741910323)) : Int64) + (((((Int64.toUInt64 ((p0 - (((((Int64.toUInt64 p0 >>> ((Int32.toInt64 (1)).toUInt64 &&& Int64.toUInt64 63)).toInt64) : Int64) &&& (6148914691236517205)))) : Int64) >>> ((Int32.toInt64 (2)).toUInt64 &&& Int64.toUInt64 63)).toInt64) : Int64) &&& (3689348814741910323)))) : Int64) >>> ((Int32.toInt64 (4)).toUInt64 &&& Int64.toUInt64 63)).toInt64))) : Int64) &&& (1085102592571150095)) : Int64) >>> ((Int32.toInt64 (8)).toUInt64 &&& Int64.toUInt64 63)).toInt64))) : Int64) >>> ((Int32.toInt64 (16)).toUInt64 &&& Int64.toUInt64 63)).toInt64))) : Int64) + (((Int64.toUInt64 ((((((((((((((p0 - (((((Int64.toUInt64 p0 >>> ((Int32.toInt64 (1)).toUInt64 &&& Int64.toUInt64 63)).toInt64) : Int64) &&& (6148914691236517205)))) : Int64) &&& (3689348814741910323)) : Int64) + (((((Int64.toUInt64 ((p0 - (((((Int64.toUInt64 p0 >>> ((Int32.toInt64 (1)).toUInt64 &&& Int64.toUInt64 63)).toInt64) : Int64) &&& (6148914691236517205)))) : Int64) >>> ((Int32.toInt64 (2)).toUInt64 &&& Int64.toUInt64 63)).toInt64) : Int64) &&& (3689348814741910323)))) : Int64) + (((Int64.toUInt64 ((((((p0 - (((((Int64.toUInt64 p0 >>> ((Int32.toInt64 (1)).toUInt64 &&& Int64.toUInt64 63)).toInt64) : Int64) &&& (6148914691236517205)))) : Int64) &&& (3689348814741910323)) : Int64) + (((((Int64.toUInt64 ((p0 - (((((Int64.toUInt64 p0 >>> ((Int32.toInt64 (1)).toUInt64 &&& Int64.toUInt64 63)).toInt64) : Int64) &&& (6148914691236517205)))) : Int64) >>> ((Int32.toInt64 (2)).toUInt64 &&& Int64.toUInt64 63)).toInt64) : Int64) &&& (3689348814741910323)))) : Int64) >>> ((Int32.toInt64 (4)).toUInt64 &&& Int64.toUInt64 63)).toInt64))) : Int64) &&& (1085102592571150095)) : Int64) + (((Int64.toUInt64 ((((((((((p0 - (((((Int64.toUInt64 p0 >>> ((Int32.toInt64 (1)).toUInt64 &&& Int64.toUInt64 63)).toInt64) : Int64) &&& (6148914691236517205)))) : Int64) &&& (3689348814741910323)) : Int64) + (((((Int64.toUInt64 ((p0 - (((((Int64.toUInt64 p0 >>> ((Int32.toInt64 (1)).toUInt64 &&& Int64.toUInt64 63)).toInt64) : Int64) &&& (6148914691236517205)))) : Int64) >>> ((Int32.toInt64 (2)).toUInt64 &&& Int64.toUInt64 63)).toInt64) : Int64) &&& (3689348814741910323)))) : Int64) + (((Int64.toUInt64 ((((((p0 - (((((Int64.toUInt64 p0 >>> ((Int32.toInt64 (1)).toUInt64 &&& Int64.toUInt64 63)).toInt64) : Int64) &&& (6148914691236517205)))) : Int64) &&& (3689348814741910323)) : Int64) + (((((Int64.toUInt64 ((p0 - (((((Int64.toUInt64 p0 >>> ((Int32.toInt64 (1)).toUInt64 &&& Int64.toUInt64 63)).toInt64) : Int64) &&& (6148914691236517205)))) : Int64) >>> ((Int32.toInt64 (2)).toUInt64 &&& Int64.toUInt64 63)).toInt64) : Int64) &&& (3689348814741910323)))) : Int64) >>> ((Int32.toInt64 (4)).toUInt64 &&& Int64.toUInt64 63)).toInt64))) : Int64) &&& (1085102592571150095)) : Int64) >>> ((Int32.toInt64 (8)).toUInt64 &&& Int64.toUInt64 63)).toInt64))) : Int64) + (((Int64.toUInt64 ((((((((((((p0 - (((((Int64.toUInt64 p0 >>> ((Int32.toInt64 (1)).toUInt64 &&& Int64.toUInt64 63)).toInt64) : Int64) &&& (6148914691236517205)))) : Int64) &&& (3689348814741910323)) : Int64) + (((((Int64.toUInt64 ((p0 - (((((Int64.toUInt64 p0 >>> ((Int32.toInt64 (1)).toUInt64 &&& Int64.toUInt64 63)).toInt64) : Int64) &&& (6148914691236517205)))) : Int64) >>> ((Int32.toInt64 (2)).toUInt64 &&& Int64.toUInt64 63)).toInt64) : Int64) &&& (3689348814741910323)))) : Int64) + (((Int64.toUInt64 ((((((p0 - (((((Int64.toUInt64 p0 >>> ((Int32.toInt64 (1)).toUInt64 &&& Int64.toUInt64 63)).toInt64) : Int64) &&& (6148914691236517205)))) : Int64) &&& (3689348814741910323)) : Int64) + (((((Int64.toUInt64 ((p0 - (((((Int64.toUInt64 p0 >>> ((Int32.toInt64 (1)).toUInt64 &&& Int64.toUInt64 63)).toInt64) : Int64) &&& (6148914691236517205)))) : Int64) >>> ((Int32.toInt64 (2)).toUInt64 &&& Int64.toUInt64 63)).toInt64) : Int64) &&& (3689348814741910323)))) : Int64) >>> ((Int32.toInt64 (4)).toUInt64 &&& Int64.toUInt64 63)).toInt64))) : Int64) &&& (1085102592571150095)) : Int64) + (((Int64.toUInt64 ((((((((((p0 - (((((Int64.toUInt64 p0 >>> ((Int32.toInt64 (1)).toUInt64 &&& Int64.toUInt64 63)).toInt64) : Int64) &&& (6148914691236517205)))) : Int64) &&& (3689348814741910323)) : Int64) + (((((Int64.toUInt64 ((p0 - (((((Int64.toUInt64 p0 >>> ((Int32.toInt64 (1)).toUInt64 &&& Int64.toUInt64 63)).toInt64) : Int64) &&& (6148914691236517205)))) : Int64) >>> ((Int32.toInt64 (2)).toUInt64 &&& Int64.toUInt64 63)).toInt64) : Int64) &&& (3689348814741910323)))) : Int64) + (((Int64.toUInt64 ((((((p0 - (((((Int64.toUInt64 p0 >>> ((Int32.toInt64 (1)).toUInt64 &&& Int64.toUInt64 63)).toInt64) : Int64) &&& (6148914691236517205)))) : Int64) &&& (3689348814741910323)) : Int64) + (((((Int64.toUInt64 ((p0 - (((((Int64.toUInt64 p0 >>> ((Int32.toInt64 (1)).toUInt64 &&& Int64.toUInt64 63)).toInt64) : Int64) &&& (6148914691236517205)))) : Int64) >>> ((Int32.toInt64 (2)).toUInt64 &&& Int64.toUInt64 63)).toInt64) : Int64) &&& (3689348814741910323)))) : Int64) >>> ((Int32.toInt64 (4)).toUInt64 &&& Int64.toUInt64 63)).toInt64))) : Int64) &&& (1085102592571150095)) : Int64) >>> ((Int32.toInt64 (8)).toUInt64 &&& Int64.toUInt64 63)).toInt64))) : Int64) >>> ((Int32.toInt64 (16)).toUInt64 &&& Int64.toUInt64 63)).toInt64))) : Int64) >>> ((Int32.toInt64 (32)).toUInt64 &&& Int64.toUInt64 63)).toInt64)))) rfl (List.mem_of_getElem? (i := 0) rfl) ?_
  refine EX.go (i := .l2i) (len := 1) (pc1 := 57) (st1 := [.int ((Int64.toInt32 ((((((((((((((((p0 - (((((Int64.toUInt64 p0 >>> ((Int32.toInt64 (1)).toUInt64 &&& Int64.toUInt64 63)).toInt64) : Int64) &&& (6148914691236517205)))) : Int64) &&& (3689348814741910323)) : Int64) + (((((Int64.toUInt64 ((p0 - (((((Int64.toUInt64 p0 >>> ((Int32.toInt64 (1)).toUInt64 &&& Int64.toUInt64 63)).toInt64) : Int64) &&& (6148914691236517205)))) : Int64) >>> ((Int32.toInt64 (2)).toUInt64 &&& Int64.toUInt64 63)).toInt64) : Int64) &&& (3689348814741910323)))) : Int64) + (((Int64.toUInt64 ((((((p0 - (((((Int64.toUInt64 p0 >>> ((Int32.toInt64 (1)).toUInt64 &&& Int64.toUInt64 63)).toInt64) : Int64) &&& (6148914691236517205)))) : Int64) &&& (3689348814741910323)) : Int64) + (((((Int64.toUInt64 ((p0 - (((((Int64.toUInt64 p0 >>> ((Int32.toInt64 (1)).toUInt64 &&& Int64.toUInt64 63)).toInt64) : Int64) &&& (6148914691236517205)))) : Int64) >>> ((Int32.toInt64 (2)).toUInt64 &&& Int64.toUInt64 63)).toInt64) : Int64) &&& (3689348814741910323)))) : Int64) >>> ((Int32.toInt64 (4)).toUInt64 &&& Int64.toUInt64 63)).toInt64))) : Int64) &&& (1085102592571150095)) : Int64) + (((Int64.toUInt64 ((((((((((p0 - (((((Int64.toUInt64 p0 >>> ((Int32.toInt64 (1)).toUInt64 &&& Int64.toUInt64 63)).toInt64) : Int64) &&& (6148914691236517205)))) : Int64) &&& (3689348814741910323)) : Int64) + (((((Int64.toUInt64 ((p0 - (((((Int64.toUInt64 p0 >>> ((Int32.toInt64 (1)).toUInt64 &&& Int64.toUInt64 63)).toInt64) : Int64) &&& (6148914691236517205)))) : Int64) >>> ((Int32.toInt64 (2)).toUInt64 &&& Int64.toUInt64 63)).toInt64) : Int64) &&& (3689348814741910323)))) : Int64) + (((Int64.toUInt64 ((((((p0 - (((((Int64.toUInt64 p0 >>> ((Int32.toInt64 (1)).toUInt64 &&& Int64.toUInt64 63)).toInt64) : Int64) &&& (6148914691236517205)))) : Int64) &&& (3689348814741910323)) : Int64) + (((((Int64.toUInt64 ((p0 - (((((Int64.toUInt64 p0 >>> ((Int32.toInt64 (1)).toUInt64 &&& Int64.toUInt64 63)).toInt64) : Int64) &&& (6148914691236517205)))) : Int64) >>> ((Int32.toInt64 (2)).toUInt64 &&& Int64.toUInt64 63)).toInt64) : Int64) &&& (3689348814741910323)))) : Int64) >>> ((Int32.toInt64 (4)).toUInt64 &&& Int64.toUInt64 63)).toInt64))) : Int64) &&& (1085102592571150095)) : Int64) >>> ((Int32.toInt64 (8)).toUInt64 &&& Int64.toUInt64 63)).toInt64))) : Int64) + (((Int64.toUInt64 ((((((((((((p0 - (((((Int64.toUInt64 p0 >>> ((Int32.toInt64 (1)).toUInt64 &&& Int64.toUInt64 63)).toInt64) : Int64) &&& (6148914691236517205)))) : Int64) &&& (3689348814741910323)) : Int64) + (((((Int64.toUInt64 ((p0 - (((((Int64.toUInt64 p0 >>> ((Int32.toInt64 (1)).toUInt64 &&& Int64.toUInt64 63)).toInt64) : Int64) &&& (6148914691236517205)))) : Int64) >>> ((Int32.toInt64 (2)).toUInt64 &&& Int64.toUInt64 63)).toInt64) : Int64) &&& (3689348814741910323)))) : Int64) + (((Int64.toUInt64 ((((((p0 - (((((Int64.toUInt64 p0 >>> ((Int32.toInt64 (1)).toUInt64 &&& Int64.toUInt64 63)).toInt64) : Int64) &&& (6148914691236517205)))) : Int64) &&& (3689348814741910323)) : Int64) + (((((Int64.toUInt64 ((p0 - (((((Int64.toUInt64 p0 >>> ((Int32.toInt64 (1)).toUInt64 &&& Int64.toUInt64 63)).toInt64) : Int64) &&& (6148914691236517205)))) : Int64) >>> ((Int32.toInt64 (2)).toUInt64 &&& Int64.toUInt64 63)).toInt64) : Int64) &&& (3689348814741910323)))) : Int64) >>> ((Int32.toInt64 (4)).toUInt64 &&& Int64.toUInt64 63)).toInt64))) : Int64) &&& (1085102592571150095)) : Int64) + (((Int64.toUInt64 ((((((((((p0 - (((((Int64.toUInt64 p0 >>> ((Int32.toInt64 (1)).toUInt64 &&& Int64.toUInt64 63)).toInt64) : Int64) &&& (6148914691236517205)))) : Int64) &&& (3689348814741910323)) : Int64) + (((((Int64.toUInt64 ((p0 - (((((Int64.toUInt64 p0 >>> ((Int32.toInt64 (1)).toUInt64 &&& Int64.toUInt64 63)).toInt64) : Int64) &&& (6148914691236517205)))) : Int64) >>> ((Int32.toInt64 (2)).toUInt64 &&& Int64.toUInt64 63)).toInt64) : Int64) &&& (3689348814741910323)))) : Int64) + (((Int64.toUInt64 ((((((p0 - (((((Int64.toUInt64 p0 >>> ((Int32.toInt64 (1)).toUInt64 &&& Int64.toUInt64 63)).toInt64) : Int64) &&& (6148914691236517205)))) : Int64) &&& (3689348814741910323)) : Int64) + (((((Int64.toUInt64 ((p0 - (((((Int64.toUInt64 p0 >>> ((Int32.toInt64 (1)).toUInt64 &&& Int64.toUInt64 63)).toInt64) : Int64) &&& (6148914691236517205)))) : Int64) >>> ((Int32.toInt64 (2)).toUInt64 &&& Int64.toUInt64 63)).toInt64) : Int64) &&& (3689348814741910323)))) : Int64) >>> ((Int32.toInt64 (4)).toUInt64 &&& Int64.toUInt64 63)).toInt64))) : Int64) &&& (1085102592571150095)) : Int64) >>> ((Int32.toInt64 (8)).toUInt64 &&& Int64.toUInt64 63)).toInt64))) : Int64) >>> ((Int32.toInt64 (16)).toUInt64 &&& Int64.toUInt64 63)).toInt64))) : Int64) + (((Int64.toUInt64 ((((((((((((((p0 - (((((Int64.toUInt64 p0 >>> ((Int32.toInt64 (1)).toUInt64 &&& Int64.toUInt64 63)).toInt64) : Int64) &&& (6148914691236517205)))) : Int64) &&& (3689348814741910323)) : Int64) + (((((Int64.toUInt64 ((p0 - (((((Int64.toUInt64 p0 >>> ((Int32.toInt64 (1)).toUInt64 &&& Int64.toUInt64 63)).toInt64) : Int64) &&& (6148914691236517205)))) : Int64) >>> ((Int32.toInt64 (2)).toUInt64 &&& Int64.toUInt64 63)).toInt64) : Int64) &&& (3689348814741910323)))) : Int64) + (((Int64.toUInt64 ((((((p0 - (((((Int64.toUInt64 p0 >>> ((Int32.toInt64 (1)).toUInt64 &&& Int64.toUInt64 63)).toInt64) : Int64) &&& (6148914691236517205)))) : Int64) &&& (3689348814741910323)) : Int64) + (((((Int64.toUInt64 ((p0 - (((((Int64.toUInt64 p0 >>> ((Int32.toInt64 (1)).toUInt64 &&& Int64.toUInt64 63)).toInt64) : Int64) &&& (6148914691236517205)))) : Int64) >>> ((Int32.toInt64 (2)).toUInt64 &&& Int64.toUInt64 63)).toInt64) : Int64) &&& (3689348814741910323)))) : Int64) >>> ((Int32.toInt64 (4)).toUInt64 &&& Int64.toUInt64 63)).toInt64))) : Int64) &&& (1085102592571150095)) : Int64) + (((Int64.toUInt64 ((((((((((p0 - (((((Int64.toUInt64 p0 >>> ((Int32.toInt64 (1)).toUInt64 &&& Int64.toUInt64 63)).toInt64) : Int64) &&& (6148914691236517205)))) : Int64) &&& (3689348814741910323)) : Int64) + (((((Int64.toUInt64 ((p0 - (((((Int64.toUInt64 p0 >>> ((Int32.toInt64 (1)).toUInt64 &&& Int64.toUInt64 63)).toInt64) : Int64) &&& (6148914691236517205)))) : Int64) >>> ((Int32.toInt64 (2)).toUInt64 &&& Int64.toUInt64 63)).toInt64) : Int64) &&& (3689348814741910323)))) : Int64) + (((Int64.toUInt64 ((((((p0 - (((((Int64.toUInt64 p0 >>> ((Int32.toInt64 (1)).toUInt64 &&& Int64.toUInt64 63)).toInt64) : Int64) &&& (6148914691236517205)))) : Int64) &&& (3689348814741910323)) : Int64) + (((((Int64.toUInt64 ((p0 - (((((Int64.toUInt64 p0 >>> ((Int32.toInt64 (1)).toUInt64 &&& Int64.toUInt64 63)).toInt64) : Int64) &&& (6148914691236517205)))) : Int64) >>> ((Int32.toInt64 (2)).toUInt64 &&& Int64.toUInt64 63)).toInt64) : Int64) &&& (3689348814741910323)))) : Int64) >>> ((Int32.toInt64 (4)).toUInt64 &&& Int64.toUInt64 63)).toInt64))) : Int64) &&& (1085102592571150095)) : Int64) >>> ((Int32.toInt64 (8)).toUInt64 &&& Int64.toUInt64 63)).toInt64))) : Int64) + (((Int64.toUInt64 ((((((((((((p0 - (((((Int64.toUInt64 p0 >>> ((Int32.toInt64 (1)).toUInt64 &&& Int64.toUInt64 63)).toInt64) : Int64) &&& (6148914691236517205)))) : Int64) &&& (3689348814741910323)) : Int64) + (((((Int64.toUInt64 ((p0 - (((((Int64.toUInt64 p0 >>> ((Int32.toInt64 (1)).toUInt64 &&& Int64.toUInt64 63)).toInt64) : Int64) &&& (6148914691236517205)))) : Int64) >>> ((Int32.toInt64 (2)).toUInt64 &&& Int64.toUInt64 63)).toInt64) : Int64) &&& (3689348814741910323)))) : Int64) + (((Int64.toUInt64 ((((((p0 - (((((Int64.toUInt64 p0 >>> ((Int32.toInt64 (1)).toUInt64 &&& Int64.toUInt64 63)).toInt64) : Int64) &&& (6148914691236517205)))) : Int64) &&& (3689348814741910323)) : Int64) + (((((Int64.toUInt64 ((p0 - (((((Int64.toUInt64 p0 >>> ((Int32.toInt64 (1)).toUInt64 &&& Int64.toUInt64 63)).toInt64) : Int64) &&& (6148914691236517205)))) : Int64) >>> ((Int32.toInt64 (2)).toUInt64 &&& Int64.toUInt64 63)).toInt64) : Int64) &&& (3689348814741910323)))) : Int64) >>> ((Int32.toInt64 (4)).toUInt64 &&& Int64.toUInt64 63)).toInt64))) : Int64) &&& (1085102592571150095)) : Int64) + (((Int64.toUInt64 ((((((((((p0 - (((((Int64.toUInt64 p0 >>> ((Int32.toInt64 (1)).toUInt64 &&& Int64.toUInt64 63)).toInt64) : Int64) &&& (6148914691236517205)))) : Int64) &&& (3689348814741910323)) : Int64) + (((((Int64.toUInt64 ((p0 - (((((Int64.toUInt64 p0 >>> ((Int32.toInt64 (1)).toUInt64 &&& Int64.toUInt64 63)).toInt64) : Int64) &&& (6148914691236517205)))) : Int64) >>> ((Int32.toInt64 (2)).toUInt64 &&& Int64.toUInt64 63)).toInt64) : Int64) &&& (3689348814741910323)))) : Int64) + (((Int64.toUInt64 ((((((p0 - (((((Int64.toUInt64 p0 >>> ((Int32.toInt64 (1)).toUInt64 &&& Int64.toUInt64 63)).toInt64) : Int64) &&& (6148914691236517205)))) : Int64) &&& (3689348814741910323)) : Int64) + (((((Int64.toUInt64 ((p0 - (((((Int64.toUInt64 p0 >>> ((Int32.toInt64 (1)).toUInt64 &&& Int64.toUInt64 63)).toInt64) : Int64) &&& (6148914691236517205)))) : Int64) >>> ((Int32.toInt64 (2)).toUInt64 &&& Int64.toUInt64 63)).toInt64) : Int64) &&& (3689348814741910323)))) : Int64) >>> ((Int32.toInt64 (4)).toUInt64 &&& Int64.toUInt64 63)).toInt64))) : Int64) &&& (1085102592571150095)) : Int64) >>> ((Int32.toInt64 (8)).toUInt64 &&& Int64.toUInt64 63)).toInt64))) : Int64) >>> ((Int32.toInt64 (16)).toUInt64 &&& Int64.toUInt64 63)).toInt64))) : Int64) >>> ((Int32.toInt64 (32)).toUInt64 &&& Int64.toUInt64 63)).toInt64))))))]) (hi1 := hi) (hl1 := hl) rfl ?_ (fun _ _ _ => rfl)
  refine EX.bipush (v := 127) rfl rfl ?_
  refine EX.go (i := .iand) (len := 1) (pc1 := 60) (st1 := [.int ((((Int64.toInt32 ((((((((((((((((p0 - (((((Int64.toUInt64 p0 >>> ((Int32.toInt64 (1)).toUInt64 &&& Int64.toUInt64 63)).toInt64) : Int64) &&& (6148914691236517205)))) : Int64) &&& (3689348814741910323)) : Int64) + (((((Int64.toUInt64 ((p0 - (((((Int64.toUInt64 p0 >>> ((Int32.toInt64 (1)).toUInt64 &&& Int64.toUInt64 63)).toInt64) : Int64) &&& (6148914691236517205)))) : Int64) >>> ((Int32.toInt64 (2)).toUInt64 &&& Int64.toUInt64 63)).toInt64) : Int64) &&& (3689348814741910323)))) : Int64) + (((Int64.toUInt64 ((((((p0 - (((((Int64.toUInt64 p0 >>> ((Int32.toInt64 (1)).toUInt64 &&& Int64.toUInt64 63)).toInt64) : Int64) &&& (6148914691236517205)))) : Int64) &&& (3689348814741910323)) : Int64) + (((((Int64.toUInt64 ((p0 - (((((Int64.toUInt64 p0 >>> ((Int32.toInt64 (1)).toUInt64 &&& Int64.toUInt64 63)).toInt64) : Int64) &&& (6148914691236517205)))) : Int64) >>> ((Int32.toInt64 (2)).toUInt64 &&& Int64.toUInt64 63)).toInt64) : Int64) &&& (3689348814741910323)))) : Int64) >>> ((Int32.toInt64 (4)).toUInt64 &&& Int64.toUInt64 63)).toInt64))) : Int64) &&& (1085102592571150095)) : Int64) + (((Int64.toUInt64 ((((((((((p0 - (((((Int64.toUInt64 p0 >>> ((Int32.toInt64 (1)).toUInt64 &&& Int64.toUInt64 63)).toInt64) : Int64) &&& (6148914691236517205)))) : Int64) &&& (3689348814741910323)) : Int64) + (((((Int64.toUInt64 ((p0 - (((((Int64.toUInt64 p0 >>> ((Int32.toInt64 (1)).toUInt64 &&& Int64.toUInt64 63)).toInt64) : Int64) &&& (6148914691236517205)))) : Int64) >>> ((Int32.toInt64 (2)).toUInt64 &&& Int64.toUInt64 63)).toInt64) : Int64) &&& (3689348814741910323)))) : Int64) + (((Int64.toUInt64 ((((((p0 - (((((Int64.toUInt64 p0 >>> ((Int32.toInt64 (1)).toUInt64 &&& Int64.toUInt64 63)).toInt64) : Int64) &&& (6148914691236517205)))) : Int64) &&& (3689348814741910323)) : Int64) + (((((Int64.toUInt64 ((p0 - (((((Int64.toUInt64 p0 >>> ((Int32.toInt64 (1)).toUInt64 &&& Int64.toUInt64 63)).toInt64) : Int64) &&& (6148914691236517205)))) : Int64) >>> ((Int32.toInt64 (2)).toUInt64 &&& Int64.toUInt64 63)).toInt64) : Int64) &&& (3689348814741910323)))) : Int64) >>> ((Int32.toInt64 (4)).toUInt64 &&& Int64.toUInt64 63)).toInt64))) : Int64) &&& (1085102592571150095)) : Int64) >>> ((Int32.toInt64 (8)).toUInt64 &&& Int64.toUInt64 63)).toInt64))) : Int64) + (((Int64.toUInt64 ((((((((((((p0 - (((((Int64.toUInt64 p0 >>> ((Int32.toInt64 (1)).toUInt64 &&& Int64.toUInt64 63)).toInt64) : Int64) &&& (6148914691236517205)))) : Int64) &&& (3689348814741910323)) : Int64) + (((((Int64.toUInt64 ((p0 - (((((Int64.toUInt64 p0 >>> ((Int32.toInt64 (1)).toUInt64 &&& Int64.toUInt64 63)).toInt64) : Int64) &&& (6148914691236517205)))) : Int64) >>> ((Int32.toInt64 (2)).toUInt64 &&& Int64.toUInt64 63)).toInt64) : Int64) &&& (3689348814741910323)))) : Int64) + (((Int64.toUInt64 ((((((p0 - (((((Int64.toUInt64 p0 >>> ((Int32.toInt64 (1)).toUInt64 &&& Int64.toUInt64 63)).toInt64) : Int64) &&& (6148914691236517205)))) : Int64) &&& (3689348814741910323)) : Int64) + (((((Int64.toUInt64 ((p0 - (((((Int64.toUInt64 p0 >>> ((Int32.toInt64 (1)).toUInt64 &&& Int64.toUInt64 63)).toInt64) : Int64) &&& (6148914691236517205)))) : Int64) >>> ((Int32.toInt64 (2)).toUInt64 &&& Int64.toUInt64 63)).toInt64) : Int64) &&& (3689348814741910323)))) : Int64) >>> ((Int32.toInt64 (4)).toUInt64 &&& Int64.toUInt64 63)).toInt64))) : Int64) &&& (1085102592571150095)) : Int64) + (((Int64.toUInt64 ((((((((((p0 - (((((Int64.toUInt64 p0 >>> ((Int32.toInt64 (1)).toUInt64 &&& Int64.toUInt64 63)).toInt64) : Int64) &&& (6148914691236517205)))) : Int64) &&& (3689348814741910323)) : Int64) + (((((Int64.toUInt64 ((p0 - (((((Int64.toUInt64 p0 >>> ((Int32.toInt64 (1)).toUInt64 &&& Int64.toUInt64 63)).toInt64) : Int64) &&& (6148914691236517205)))) : Int64) >>> ((Int32.toInt64 (2)).toUInt64 &&& Int64.toUInt64 63)).toInt64) : Int64) &&& (3689348814741910323)))) : Int64) + (((Int64.toUInt64 ((((((p0 - (((((Int64.toUInt64 p0 >>> ((Int32.toInt64 (1)).toUInt64 &&& Int64.toUInt64 63)).toInt64) : Int64) &&& (6148914691236517205)))) : Int64) &&& (3689348814741910323)) : Int64) + (((((Int64.toUInt64 ((p0 - (((((Int64.toUInt64 p0 >>> ((Int32.toInt64 (1)).toUInt64 &&& Int64.toUInt64 63)).toInt64) : Int64) &&& (6148914691236517205)))) : Int64) >>> ((Int32.toInt64 (2)).toUInt64 &&& Int64.toUInt64 63)).toInt64) : Int64) &&& (3689348814741910323)))) : Int64) >>> ((Int32.toInt64 (4)).toUInt64 &&& Int64.toUInt64 63)).toInt64))) : Int64) &&& (1085102592571150095)) : Int64) >>> ((Int32.toInt64 (8)).toUInt64 &&& Int64.toUInt64 63)).toInt64))) : Int64) >>> ((Int32.toInt64 (16)).toUInt64 &&& Int64.toUInt64 63)).toInt64))) : Int64) + (((Int64.toUInt64 ((((((((((((((p0 - (((((Int64.toUInt64 p0 >>> ((Int32.toInt64 (1)).toUInt64 &&& Int64.toUInt64 63)).toInt64) : Int64) &&& (6148914691236517205)))) : Int64) &&& (3689348814741910323)) : Int64) + (((((Int64.toUInt64 ((p0 - (((((Int64.toUInt64 p0 >>> ((Int32.toInt64 (1)).toUInt64 &&& Int64.toUInt64 63)).toInt64) : Int64) &&& (6148914691236517205)))) : Int64) >>> ((Int32.toInt64 (2)).toUInt64 &&& Int64.toUInt64 63)).toInt64) : Int64) &&& (3689348814741910323)))) : Int64) + (((Int64.toUInt64 ((((((p0 - (((((Int64.toUInt64 p0 >>> ((Int32.toInt64 (1)).toUInt64 &&& Int64.toUInt64 63)).toInt64) : Int64) &&& (6148914691236517205)))) : Int64) &&& (3689348814741910323)) : Int64) + (((((Int64.toUInt64 ((p0 - (((((Int64.toUInt64 p0 >>> ((Int32.toInt64 (1)).toUInt64 &&& Int64.toUInt64 63)).toInt64) : Int64) &&& (6148914691236517205)))) : Int64) >>> ((Int32.toInt64 (2)).toUInt64 &&& Int64.toUInt64 63)).toInt64) : Int64) &&& (3689348814741910323)))) : Int64) >>> ((Int32.toInt64 (4)).toUInt64 &&& Int64.toUInt64 63)).toInt64))) : Int64) &&& (1085102592571150095)) : Int64) + (((Int64.toUInt64 ((((((((((p0 - (((((Int64.toUInt64 p0 >>> ((Int32.toInt64 (1)).toUInt64 &&& Int64.toUInt64 63)).toInt64) : Int64) &&& (6148914691236517205)))) : Int64) &&& (3689348814741910323)) : Int64) + (((((Int64.toUInt64 ((p0 - (((((Int64.toUInt64 p0 >>> ((Int32.toInt64 (1)).toUInt64 &&& Int64.toUInt64 63)).toInt64) : Int64) &&& (6148914691236517205)))) : Int64) >>> ((Int32.toInt64 (2)).toUInt64 &&& Int64.toUInt64 63)).toInt64) : Int64) &&& (3689348814741910323)))) : Int64) + (((Int64.toUInt64 ((((((p0 - (((((Int64.toUInt64 p0 >>> ((Int32.toInt64 (1)).toUInt64 &&& Int64.toUInt64 63)).toInt64) : Int64) &&& (6148914691236517205)))) : Int64) &&& (3689348814741910323)) : Int64) + (((((Int64.toUInt64 ((p0 - (((((Int64.toUInt64 p0 >>> ((Int32.toInt64 (1)).toUInt64 &&& Int64.toUInt64 63)).toInt64) : Int64) &&& (6148914691236517205)))) : Int64) >>> ((Int32.toInt64 (2)).toUInt64 &&& Int64.toUInt64 63)).toInt64) : Int64) &&& (3689348814741910323)))) : Int64) >>> ((Int32.toInt64 (4)).toUInt64 &&& Int64.toUInt64 63)).toInt64))) : Int64) &&& (1085102592571150095)) : Int64) >>> ((Int32.toInt64 (8)).toUInt64 &&& Int64.toUInt64 63)).toInt64))) : Int64) + (((Int64.toUInt64 ((((((((((((p0 - (((((Int64.toUInt64 p0 >>> ((Int32.toInt64 (1)).toUInt64 &&& Int64.toUInt64 63)).toInt64) : Int64) &&& (6148914691236517205)))) : Int64) &&& (3689348814741910323)) : Int64) + (((((Int64.toUInt64 ((p0 - (((((Int64.toUInt64 p0 >>> ((Int32.toInt64 (1)).toUInt64 &&& Int64.toUInt64 63)).toInt64) : Int64) &&& (6148914691236517205)))) : Int64) >>> ((Int32.toInt64 (2)).toUInt64 &&& Int64.toUInt64 63)).toInt64) : Int64) &&& (3689348814741910323)))) : Int64) + (((Int64.toUInt64 ((((((p0 - (((((Int64.toUInt64 p0 >>> ((Int32.toInt64 (1)).toUInt64 &&& Int64.toUInt64 63)).toInt64) : Int64) &&& (6148914691236517205)))) : Int64) &&& (3689348814741910323)) : Int64) + (((((Int64.toUInt64 ((p0 - (((((Int64.toUInt64 p0 >>> ((Int32.toInt64 (1)).toUInt64 &&& Int64.toUInt64 63)).toInt64) : Int64) &&& (6148914691236517205)))) : Int64) >>> ((Int32.toInt64 (2)).toUInt64 &&& Int64.toUInt64 63)).toInt64) : Int64) &&& (3689348814741910323)))) : Int64) >>> ((Int32.toInt64 (4)).toUInt64 &&& Int64.toUInt64 63)).toInt64))) : Int64) &&& (1085102592571150095)) : Int64) + (((Int64.toUInt64 ((((((((((p0 - (((((Int64.toUInt64 p0 >>> ((Int32.toInt64 (1)).toUInt64 &&& Int64.toUInt64 63)).toInt64) : Int64) &&& (6148914691236517205)))) : Int64) &&& (3689348814741910323)) : Int64) + (((((Int64.toUInt64 ((p0 - (((((Int64.toUInt64 p0 >>> ((Int32.toInt64 (1)).toUInt64 &&& Int64.toUInt64 63)).toInt64) : Int64) &&& (6148914691236517205)))) : Int64) >>> ((Int32.toInt64 (2)).toUInt64 &&& Int64.toUInt64 63)).toInt64) : Int64) &&& (3689348814741910323)))) : Int64) + (((Int64.toUInt64 ((((((p0 - (((((Int64.toUInt64 p0 >>> ((Int32.toInt64 (1)).toUInt64 &&& Int64.toUInt64 63)).toInt64) : Int64) &&& (6148914691236517205)))) : Int64) &&& (3689348814741910323)) : Int64) + (((((Int64.toUInt64 ((p0 - (((((Int64.toUInt64 p0 >>> ((Int32.toInt64 (1)).toUInt64 &&& Int64.toUInt64 63)).toInt64) : Int64) &&& (6148914691236517205)))) : Int64) >>> ((Int32.toInt64 (2)).toUInt64 &&& Int64.toUInt64 63)).toInt64) : Int64) &&& (3689348814741910323)))) : Int64) >>> ((Int32.toInt64 (4)).toUInt64 &&& Int64.toUInt64 63)).toInt64))) : Int64) &&& (1085102592571150095)) : Int64) >>> ((Int32.toInt64 (8)).toUInt64 &&& Int64.toUInt64 63)).toInt64))) : Int64) >>> ((Int32.toInt64 (16)).toUInt64 &&& Int64.toUInt64 63)).toInt64))) : Int64) >>> ((Int32.toInt64 (32)).toUInt64 &&& Int64.toUInt64 63)).toInt64))))) : Int32) &&& (127)))]) (hi1 := hi) (hl1 := hl) rfl ?_ (fun _ _ _ => rfl)
  obtain rfl := Option.some.inj h
  exact EX.iret rfl rfl
def J_Unions_advance_40 (N : Nat) (v1 : Int32) (hi : HI) (hl : HL) : Option ((Int32 × HI × HL) ⊕ (HI × HL)) :=
  some (.inl (v1 + 1, hi, hl))
set_option maxRecDepth 10000 in
set_option maxHeartbeats 4000000 in
theorem bJ_Unions_advance_40 (ev : EV) {N : Nat} {v1 : Int32} {hi : HI} {hl : HL} {z : (Int32 × HI × HL) ⊕ (HI × HL)} {OUT : Option Value × HI × HL} (h : J_Unions_advance_40 N v1 hi hl = some z) (hk : Sum.elim (fun s => EX w0 ev 2 m_Unions_advance 2 [(0, .ref 38), (1, .int (s.1))] [] (s.2.1) (s.2.2) OUT) (fun x => EX w0 ev 2 m_Unions_advance 46 [(0, .ref 38)] [] (x.1) (x.2) OUT) z) : EX w0 ev 2 m_Unions_advance 40 [(0, .ref 38), (1, .int (v1))] [] (hi) (hl) OUT := by
  unfold J_Unions_advance_40 at h
  refine EX.iinc (x := v1) (v := v1 + 1) (req1 := [(1, .int (v1 + 1)), (0, .ref 38)]) rfl rfl (List.mem_of_getElem? (i := 1) rfl) rfl rfl ?_
  refine EX.go (i := .goto (-41)) (len := 3) (pc1 := 2) (st1 := []) (hi1 := hi) (hl1 := hl) rfl ?_ (fun _ _ _ => rfl)
  obtain rfl := Option.some.inj h
  have hk : EX w0 ev 2 m_Unions_advance 2 [(0, .ref 38), (1, .int (v1 + 1))] [] (hi) (hl) OUT := hk
  exact EX.pick [1, 0] hk rfl
def B_Unions_advance_2 (N : Nat) (v1 : Int32) (hi : HI) (hl : HL) : Option ((Int32 × HI × HL) ⊕ (HI × HL)) :=
  if (hi 38 4 : Int32) ≤ (v1 : Int32) then some (.inr (hi, hl)) else if hi 38 5 = 42 then if (((1024 : Int32) + v1) : Int32) < 0 ∨ 4096 ≤ Int32.toNatClampNeg (((1024 : Int32) + v1)) then none else if ((lg_cmp (hl 41 (Int32.toNatClampNeg (((1024 : Int32) + v1))) : Int64) (0)) : Int32) = 0 then J_Unions_advance_40 N (v1) (hi) (hl) else if hi 38 5 = 42 then if (((1024 : Int32) + v1) : Int32) < 0 ∨ 4096 ≤ Int32.toNatClampNeg (((1024 : Int32) + v1)) then none else (f_Unions_join N (v1) (hl 41 (Int32.toNatClampNeg (((1024 : Int32) + v1)))) (hi) (hl)).bind fun z7 => J_Unions_advance_40 N (v1) (z7.2.1) (z7.2.2) else none else none
set_option maxRecDepth 10000 in
set_option maxHeartbeats 4000000 in
theorem bB_Unions_advance_2 (ev : EV) {N : Nat} {v1 : Int32} {hi : HI} {hl : HL} {z : (Int32 × HI × HL) ⊕ (HI × HL)} {OUT : Option Value × HI × HL} (h : B_Unions_advance_2 N v1 hi hl = some z) (hk : Sum.elim (fun s => EX w0 ev 2 m_Unions_advance 2 [(0, .ref 38), (1, .int (s.1))] [] (s.2.1) (s.2.2) OUT) (fun x => EX w0 ev 2 m_Unions_advance 46 [(0, .ref 38)] [] (x.1) (x.2) OUT) z) : EX w0 ev 2 m_Unions_advance 2 [(0, .ref 38), (1, .int (v1))] [] (hi) (hl) OUT := by
  unfold B_Unions_advance_2 at h
  refine EX.iload_n (x := v1) rfl (List.mem_of_getElem? (i := 1) rfl) ?_
  refine EX.aload_n (x := 38) rfl (List.mem_of_getElem? (i := 0) rfl) ?_
  refine EX.go (i := .getfield 28) (len := 3) (pc1 := 7) (st1 := [.int (hi 38 4), .int (v1)]) (hi1 := hi) (hl1 := hl) rfl ?_ (fun _ _ _ => rfl)
  rcases ite_some h with ⟨c1, h⟩ | ⟨c1, h⟩
  · refine EX.go (i := .if_icmp .ge 39) (len := 3) (pc1 := 46) (st1 := []) (hi1 := hi) (hl1 := hl) rfl ?_ (fun _ _ _ => if_pos c1)
    obtain rfl := Option.some.inj h
    have hk : EX w0 ev 2 m_Unions_advance 46 [(0, .ref 38)] [] (hi) (hl) OUT := hk
    exact EX.pick [0] hk rfl
  · refine EX.go (i := .if_icmp .ge 39) (len := 3) (pc1 := 10) (st1 := []) (hi1 := hi) (hl1 := hl) rfl ?_ (fun _ _ _ => if_neg c1)
    refine EX.aload_n (x := 38) rfl (List.mem_of_getElem? (i := 0) rfl) ?_
    obtain ⟨g2, h⟩ := grp_some h
    refine EX.getfieldV (v := .ref 41) rfl rfl rfl rfl (fv3 rfl g2) ?_
    refine EX.sipush (v := 1024) rfl rfl ?_
    refine EX.iload_n (x := v1) rfl (List.mem_of_getElem? (i := 1) rfl) ?_
    refine EX.go (i := .iadd) (len := 1) (pc1 := 19) (st1 := [.int (((1024 : Int32) + v1)), .ref 41]) (hi1 := hi) (hl1 := hl) rfl ?_ (fun _ _ _ => rfl)
    obtain ⟨g3, h⟩ := grd_some h
    refine EX.laload rfl rfl g3 ?_
    refine EX.lconst (v := 0) rfl rfl ?_
    refine EX.go (i := .lcmp) (len := 1) (pc1 := 22) (st1 := [.int ((lg_cmp (hl 41 (Int32.toNatClampNeg (((1024 : Int32) + v1))) : Int64) (0)))]) (hi1 := hi) (hl1 := hl) rfl ?_ (fun _ _ _ => rfl)
    rcases ite_some h with ⟨c4, h⟩ | ⟨c4, h⟩
    · refine EX.go (i := .ifCond .eq 18) (len := 3) (pc1 := 40) (st1 := []) (hi1 := hi) (hl1 := hl) rfl ?_ (fun _ _ _ => if_pos c4)
      refine EX.pick [0, 1] ?_ rfl
      exact bJ_Unions_advance_40 ev h hk
    · refine EX.go (i := .ifCond .eq 18) (len := 3) (pc1 := 25) (st1 := []) (hi1 := hi) (hl1 := hl) rfl ?_ (fun _ _ _ => if_neg c4)
      refine EX.aload_n (x := 38) rfl (List.mem_of_getElem? (i := 0) rfl) ?_
      refine EX.iload_n (x := v1) rfl (List.mem_of_getElem? (i := 1) rfl) ?_
      refine EX.aload_n (x := 38) rfl (List.mem_of_getElem? (i := 0) rfl) ?_
      obtain ⟨g5, h⟩ := grp_some h
      refine EX.getfieldV (v := .ref 41) rfl rfl rfl rfl (fv3 rfl g5) ?_
      refine EX.sipush (v := 1024) rfl rfl ?_
      refine EX.iload_n (x := v1) rfl (List.mem_of_getElem? (i := 1) rfl) ?_
      refine EX.go (i := .iadd) (len := 1) (pc1 := 36) (st1 := [.int (((1024 : Int32) + v1)), .ref 41, .int (v1), .ref 38]) (hi1 := hi) (hl1 := hl) rfl ?_ (fun _ _ _ => rfl)
      obtain ⟨g6, h⟩ := grd_some h
      refine EX.laload rfl rfl g6 ?_
      obtain ⟨z7, hz7, h⟩ := bnd_some h
      refine EX.callV (b := 38) (as := [.int (v1), .long (hl 41 (Int32.toNatClampNeg (((1024 : Int32) + v1))))]) (rest := []) (r := none) (hi1 := z7.2.1) (hl1 := z7.2.2) rfl rfl rfl rfl rfl rfl ((b_Unions_join ev hz7).mono (by decide)) ?_
      show EX w0 ev 2 m_Unions_advance 40 [(0, .ref 38), (1, .int (v1))] [] (z7.2.1) (z7.2.2) OUT
      refine EX.pick [0, 1] ?_ rfl
      exact bJ_Unions_advance_40 ev h hk
def B_Unions_advance_50 (N : Nat) (v1 : Int32) (v2 : Int32) (hi : HI) (hl : HL) : Option ((Int32 × Int32 × HI × HL) ⊕ (Int32 × HI × HL)) :=
  if (hi 38 4 : Int32) ≤ (v2 : Int32) then some (.inr (v1, hi, hl)) else if hi 38 5 = 42 then if (((2048 : Int32) + v2) : Int32) < 0 ∨ 4096 ≤ Int32.toNatClampNeg (((2048 : Int32) + v2)) then none else if hi 38 5 = 42 then if (((0 : Int32) + v2) : Int32) < 0 ∨ 4096 ≤ Int32.toNatClampNeg (((0 : Int32) + v2)) then none else if hi 38 5 = 42 then if (((0 : Int32) + v2) : Int32) < 0 ∨ 4096 ≤ Int32.toNatClampNeg (((0 : Int32) + v2)) then none else if (((0 : Int32) + v2) : Int32) < 0 ∨ 4096 ≤ Int32.toNatClampNeg (((0 : Int32) + v2)) then none else if hi 38 5 = 42 then if (((1024 : Int32) + v2) : Int32) < 0 ∨ 4096 ≤ Int32.toNatClampNeg (((1024 : Int32) + v2)) then none else if hi 38 5 = 42 then if (((2048 : Int32) + v2) : Int32) < 0 ∨ 4096 ≤ Int32.toNatClampNeg (((2048 : Int32) + v2)) then none else (f_Long_bitCount N (((hl 41 (Int32.toNatClampNeg (((2048 : Int32) + v2))) : Int64) &&& (((hl 41 (Int32.toNatClampNeg (((0 : Int32) + v2))) : Int64) ^^^ ((-1)))))) (hi) (wrL (wrL (wrL (hl) 41 (Int32.toNatClampNeg (((0 : Int32) + v2))) (((hl 41 (Int32.toNatClampNeg (((0 : Int32) + v2))) : Int64) ||| (((hl 41 (Int32.toNatClampNeg (((2048 : Int32) + v2))) : Int64) &&& (((hl 41 (Int32.toNatClampNeg (((0 : Int32) + v2))) : Int64) ^^^ ((-1))))))))) 41 (Int32.toNatClampNeg (((1024 : Int32) + v2))) (((hl 41 (Int32.toNatClampNeg (((2048 : Int32) + v2))) : Int64) &&& (((hl 41 (Int32.toNatClampNeg (((0 : Int32) + v2))) : Int64) ^^^ ((-1))))))) 41 (Int32.toNatClampNeg (((2048 : Int32) + v2))) (0))).bind fun z21 => some (.inl ((v1 + (z21.1)), v2 + 1, z21.2.1, z21.2.2)) else none else none else none else none else none
set_option maxRecDepth 10000 in
set_option maxHeartbeats 4000000 in
theorem bB_Unions_advance_50 (ev : EV) {N : Nat} {v1 : Int32} {v2 : Int32} {hi : HI} {hl : HL} {z : (Int32 × Int32 × HI × HL) ⊕ (Int32 × HI × HL)} {OUT : Option Value × HI × HL} (h : B_Unions_advance_50 N v1 v2 hi hl = some z) (hk : Sum.elim (fun s => EX w0 ev 2 m_Unions_advance 50 [(0, .ref 38), (1, .int (s.1)), (2, .int (s.2.1))] [] (s.2.2.1) (s.2.2.2) OUT) (fun x => EX w0 ev 2 m_Unions_advance 129 [(1, .int (x.1))] [] (x.2.1) (x.2.2) OUT) z) : EX w0 ev 2 m_Unions_advance 50 [(0, .ref 38), (1, .int (v1)), (2, .int (v2))] [] (hi) (hl) OUT := by
  unfold B_Unions_advance_50 at h
  refine EX.iload_n (x := v2) rfl (List.mem_of_getElem? (i := 2) rfl) ?_
  refine EX.aload_n (x := 38) rfl (List.mem_of_getElem? (i := 0) rfl) ?_
  refine EX.go (i := .getfield 28) (len := 3) (pc1 := 55) (st1 := [.int (hi 38 4), .int (v2)]) (hi1 := hi) (hl1 := hl) rfl ?_ (fun _ _ _ => rfl)
  rcases ite_some h with ⟨c9, h⟩ | ⟨c9, h⟩
  · refine EX.go (i := .if_icmp .ge 74) (len := 3) (pc1 := 129) (st1 := []) (hi1 := hi) (hl1 := hl) rfl ?_ (fun _ _ _ => if_pos c9)
    obtain rfl := Option.some.inj h
    have hk : EX w0 ev 2 m_Unions_advance 129 [(1, .int (v1))] [] (hi) (hl) OUT := hk
    exact EX.pick [1] hk rfl
  · refine EX.go (i := .if_icmp .ge 74) (len := 3) (pc1 := 58) (st1 := []) (hi1 := hi) (hl1 := hl) rfl ?_ (fun _ _ _ => if_neg c9)
    refine EX.aload_n (x := 38) rfl (List.mem_of_getElem? (i := 0) rfl) ?_
    obtain ⟨g10, h⟩ := grp_some h
    refine EX.getfieldV (v := .ref 41) rfl rfl rfl rfl (fv3 rfl g10) ?_
    refine EX.sipush (v := 2048) rfl rfl ?_
    refine EX.iload_n (x := v2) rfl (List.mem_of_getElem? (i := 2) rfl) ?_
    refine EX.go (i := .iadd) (len := 1) (pc1 := 67) (st1 := [.int (((2048 : Int32) + v2)), .ref 41]) (hi1 := hi) (hl1 := hl) rfl ?_ (fun _ _ _ => rfl)
    obtain ⟨g11, h⟩ := grd_some h
    refine EX.laload rfl rfl g11 ?_
    refine EX.aload_n (x := 38) rfl (List.mem_of_getElem? (i := 0) rfl) ?_
    obtain ⟨g12, h⟩ := grp_some h
    refine EX.getfieldV (v := .ref 41) rfl rfl rfl rfl (fv3 rfl g12) ?_
    refine EX.iconst (v := 0) rfl rfl ?_
    refine EX.iload_n (x := v2) rfl (List.mem_of_getElem? (i := 2) rfl) ?_
    refine EX.go (i := .iadd) (len := 1) (pc1 := 75) (st1 := [.int (((0 : Int32) + v2)), .ref 41, .long (hl 41 (Int32.toNatClampNeg (((2048 : Int32) + v2))))]) (hi1 := hi) (hl1 := hl) rfl ?_ (fun _ _ _ => rfl)
    obtain ⟨g13, h⟩ := grd_some h
    refine EX.laload rfl rfl g13 ?_
    refine EX.go (i := .ldc2_w 63) (len := 3) (pc1 := 79) (st1 := [.long ((-1)), .long (hl 41 (Int32.toNatClampNeg (((0 : Int32) + v2)))), .long (hl 41 (Int32.toNatClampNeg (((2048 : Int32) + v2))))]) (hi1 := hi) (hl1 := hl) rfl ?_ (fun _ _ _ => rfl)
    refine EX.go (i := .lxor) (len := 1) (pc1 := 80) (st1 := [.long (((hl 41 (Int32.toNatClampNeg (((0 : Int32) + v2))) : Int64) ^^^ ((-1)))), .long (hl 41 (Int32.toNatClampNeg (((2048 : Int32) + v2))))]) (hi1 := hi) (hl1 := hl) rfl ?_ (fun _ _ _ => rfl)
    refine EX.go (i := .land) (len := 1) (pc1 := 81) (st1 := [.long (((hl 41 (Int32.toNatClampNeg (((2048 : Int32) + v2))) : Int64) &&& (((hl 41 (Int32.toNatClampNeg (((0 : Int32) + v2))) : Int64) ^^^ ((-1))))))]) (hi1 := hi) (hl1 := hl) rfl ?_ (fun _ _ _ => rfl)
    refine EX.lstore_n (req1 := [(3, .long (((hl 41 (Int32.toNatClampNeg (((2048 : Int32) + v2))) : Int64) &&& (((hl 41 (Int32.toNatClampNeg (((0 : Int32) + v2))) : Int64) ^^^ ((-1))))))), (0, .ref 38), (1, .int (v1)), (2, .int (v2))]) rfl rfl rfl ?_
    refine EX.aload_n (x := 38) rfl (List.mem_of_getElem? (i := 1) rfl) ?_
    obtain ⟨g14, h⟩ := grp_some h
    refine EX.getfieldV (v := .ref 41) rfl rfl rfl rfl (fv3 rfl g14) ?_
    refine EX.iconst (v := 0) rfl rfl ?_
    refine EX.iload_n (x := v2) rfl (List.mem_of_getElem? (i := 3) rfl) ?_
    refine EX.go (i := .iadd) (len := 1) (pc1 := 89) (st1 := [.int (((0 : Int32) + v2)), .ref 41]) (hi1 := hi) (hl1 := hl) rfl ?_ (fun _ _ _ => rfl)
    refine EX.go (i := .dup2) (len := 1) (pc1 := 90) (st1 := [.int (((0 : Int32) + v2)), .ref 41, .int (((0 : Int32) + v2)), .ref 41]) (hi1 := hi) (hl1 := hl) rfl ?_ (fun _ _ _ => rfl)
    obtain ⟨g15, h⟩ := grd_some h
    refine EX.laload rfl rfl g15 ?_
    refine EX.lload_n (x := ((hl 41 (Int32.toNatClampNeg (((2048 : Int32) + v2))) : Int64) &&& (((hl 41 (Int32.toNatClampNeg (((0 : Int32) + v2))) : Int64) ^^^ ((-1)))))) rfl (List.mem_of_getElem? (i := 0) rfl) ?_
    refine EX.go (i := .lor) (len := 1) (pc1 := 93) (st1 := [.long (((hl 41 (Int32.toNatClampNeg (((0 : Int32) + v2))) : Int64) ||| (((hl 41 (Int32.toNatClampNeg (((2048 : Int32) + v2))) : Int64) &&& (((hl 41 (Int32.toNatClampNeg (((0 : Int32) + v2))) : Int64) ^^^ ((-1)))))))), .int (((0 : Int32) + v2)), .ref 41]) (hi1 := hi) (hl1 := hl) rfl ?_ (fun _ _ _ => rfl)
    obtain ⟨g16, h⟩ := grd_some h
    refine EX.lastore rfl rfl g16 ?_
    refine EX.aload_n (x := 38) rfl (List.mem_of_getElem? (i := 1) rfl) ?_
    obtain ⟨g17, h⟩ := grp_some h
    refine EX.getfieldV (v := .ref 41) rfl rfl rfl rfl (fv3 rfl g17) ?_
    refine EX.sipush (v := 1024) rfl rfl ?_
    refine EX.iload_n (x := v2) rfl (List.mem_of_getElem? (i := 3) rfl) ?_
    refine EX.go (i := .iadd) (len := 1) (pc1 := 103) (st1 := [.int (((1024 : Int32) + v2)), .ref 41]) (hi1 := hi) (hl1 := wrL (hl) 41 (Int32.toNatClampNeg (((0 : Int32) + v2))) (((hl 41 (Int32.toNatClampNeg (((0 : Int32) + v2))) : Int64) ||| (((hl 41 (Int32.toNatClampNeg (((2048 : Int32) + v2))) : Int64) &&& (((hl 41 (Int32.toNatClampNeg (((0 : Int32) + v2))) : Int64) ^^^ ((-1))))))))) rfl ?_ (fun _ _ _ => rfl)
    refine EX.lload_n (x := ((hl 41 (Int32.toNatClampNeg (((2048 : Int32) + v2))) : Int64) &&& (((hl 41 (Int32.toNatClampNeg (((0 : Int32) + v2))) : Int64) ^^^ ((-1)))))) rfl (List.mem_of_getElem? (i := 0) rfl) ?_
    obtain ⟨g18, h⟩ := grd_some h
    refine EX.lastore rfl rfl g18 ?_
    refine EX.aload_n (x := 38) rfl (List.mem_of_getElem? (i := 1) rfl) ?_
    obtain ⟨g19, h⟩ := grp_some h
    refine EX.getfieldV (v := .ref 41) rfl rfl rfl rfl (fv3 rfl g19) ?_
    refine EX.sipush (v := 2048) rfl rfl ?_
    refine EX.iload_n (x := v2) rfl (List.mem_of_getElem? (i := 3) rfl) ?_
    refine EX.go (i := .iadd) (len := 1) (pc1 := 114) (st1 := [.int (((2048 : Int32) + v2)), .ref 41]) (hi1 := hi) (hl1 := wrL (wrL (hl) 41 (Int32.toNatClampNeg (((0 : Int32) + v2))) (((hl 41 (Int32.toNatClampNeg (((0 : Int32) + v2))) : Int64) ||| (((hl 41 (Int32.toNatClampNeg (((2048 : Int32) + v2))) : Int64) &&& (((hl 41 (Int32.toNatClampNeg (((0 : Int32) + v2))) : Int64) ^^^ ((-1))))))))) 41 (Int32.toNatClampNeg (((1024 : Int32) + v2))) (((hl 41 (Int32.toNatClampNeg (((2048 : Int32) + v2))) : Int64) &&& (((hl 41 (Int32.toNatClampNeg (((0 : Int32) + v2))) : Int64) ^^^ ((-1))))))) rfl ?_ (fun _ _ _ => rfl)
    refine EX.lconst (v := 0) rfl rfl ?_
    obtain ⟨g20, h⟩ := grd_some h
    refine EX.lastore rfl rfl g20 ?_
    refine EX.iload_n (x := v1) rfl (List.mem_of_getElem? (i := 2) rfl) ?_
    refine EX.lload_n (x := ((hl 41 (Int32.toNatClampNeg (((2048 : Int32) + v2))) : Int64) &&& (((hl 41 (Int32.toNatClampNeg (((0 : Int32) + v2))) : Int64) ^^^ ((-1)))))) rfl (List.mem_of_getElem? (i := 0) rfl) ?_
    obtain ⟨z21, hz21, h⟩ := bnd_some h
    refine EX.callS (as := [.long (((hl 41 (Int32.toNatClampNeg (((2048 : Int32) + v2))) : Int64) &&& (((hl 41 (Int32.toNatClampNeg (((0 : Int32) + v2))) : Int64) ^^^ ((-1))))))]) (rest := [.int (v1)]) (r := some (.int (z21.1))) (hi1 := z21.2.1) (hl1 := z21.2.2) rfl rfl rfl rfl rfl rfl ((b_Long_bitCount ev hz21).mono (by decide)) ?_
    show EX w0 ev 2 m_Unions_advance 121 [(3, .long (((hl 41 (Int32.toNatClampNeg (((2048 : Int32) + v2))) : Int64) &&& (((hl 41 (Int32.toNatClampNeg (((0 : Int32) + v2))) : Int64) ^^^ ((-1))))))), (0, .ref 38), (1, .int (v1)), (2, .int (v2))] [.int (z21.1), .int (v1)] (z21.2.1) (z21.2.2) OUT
    refine EX.go (i := .iadd) (len := 1) (pc1 := 122) (st1 := [.int ((v1 + (z21.1)))]) (hi1 := z21.2.1) (hl1 := z21.2.2) rfl ?_ (fun _ _ _ => rfl)
    refine EX.istore_n (req1 := [(1, .int ((v1 + (z21.1)))), (3, .long (((hl 41 (Int32.toNatClampNeg (((2048 : Int32) + v2))) : Int64) &&& (((hl 41 (Int32.toNatClampNeg (((0 : Int32) + v2))) : Int64) ^^^ ((-1))))))), (0, .ref 38), (2, .int (v2))]) rfl rfl rfl ?_
    refine EX.iinc (x := v2) (v := v2 + 1) (req1 := [(2, .int (v2 + 1)), (1, .int ((v1 + (z21.1)))), (3, .long (((hl 41 (Int32.toNatClampNeg (((2048 : Int32) + v2))) : Int64) &&& (((hl 41 (Int32.toNatClampNeg (((0 : Int32) + v2))) : Int64) ^^^ ((-1))))))), (0, .ref 38)]) rfl rfl (List.mem_of_getElem? (i := 3) rfl) rfl rfl ?_
    refine EX.go (i := .goto (-76)) (len := 3) (pc1 := 50) (st1 := []) (hi1 := z21.2.1) (hl1 := z21.2.2) rfl ?_ (fun _ _ _ => rfl)
    obtain rfl := Option.some.inj h
    have hk : EX w0 ev 2 m_Unions_advance 50 [(0, .ref 38), (1, .int ((v1 + (z21.1)))), (2, .int (v2 + 1))] [] (z21.2.1) (z21.2.2) OUT := hk
    exact EX.pick [3, 1, 0] hk rfl
def f_Unions_advance (N : Nat) (hi : HI) (hl : HL) : Option (Int32 × HI × HL) :=
  (lpN (fun s => B_Unions_advance_2 N s.1 s.2.1 s.2.2) N (0, hi, hl)).bind fun x8 => (lpN (fun s => B_Unions_advance_50 N s.1 s.2.1 s.2.2.1 s.2.2.2) N (0, 0, x8.1, x8.2)).bind fun x22 => some (x22.1, x22.2.1, x22.2.2)
set_option maxRecDepth 10000 in
set_option maxHeartbeats 4000000 in
theorem b_Unions_advance (ev : EV) {N : Nat} {hi : HI} {hl : HL} {o : Int32 × HI × HL} (h : f_Unions_advance N hi hl = some o) : EM w0 ev 3 m_Unions_advance [.ref 38] hi hl (oI o) := by
  unfold f_Unions_advance at h
  refine EM.of rfl ?_
  show EX w0 ev 2 m_Unions_advance 0 [(0, .ref 38)] [] (hi) (hl) (oI o)
  refine EX.iconst (v := 0) rfl rfl ?_
  refine EX.istore_n (req1 := [(1, .int (0)), (0, .ref 38)]) rfl rfl rfl ?_
  obtain ⟨x8, hx8, h⟩ := bnd_some h
  refine EX.pick [1, 0] ?_ rfl
  refine lp_sound (f := fun s => B_Unions_advance_2 N s.1 s.2.1 s.2.2) (PS := fun s => EX w0 ev 2 m_Unions_advance 2 [(0, .ref 38), (1, .int (s.1))] [] (s.2.1) (s.2.2) (oI o)) (PX := fun x => EX w0 ev 2 m_Unions_advance 46 [(0, .ref 38)] [] (x.1) (x.2) (oI o)) ?_ N _ x8 hx8 ?_
  · exact fun s z hz hk => bB_Unions_advance_2 ev hz hk
  show EX w0 ev 2 m_Unions_advance 46 [(0, .ref 38)] [] (x8.1) (x8.2) (oI o)
  refine EX.iconst (v := 0) rfl rfl ?_
  refine EX.istore_n (req1 := [(1, .int (0)), (0, .ref 38)]) rfl rfl rfl ?_
  refine EX.iconst (v := 0) rfl rfl ?_
  refine EX.istore_n (req1 := [(2, .int (0)), (1, .int (0)), (0, .ref 38)]) rfl rfl rfl ?_
  obtain ⟨x22, hx22, h⟩ := bnd_some h
  refine EX.pick [2, 1, 0] ?_ rfl
  refine lp_sound (f := fun s => B_Unions_advance_50 N s.1 s.2.1 s.2.2.1 s.2.2.2) (PS := fun s => EX w0 ev 2 m_Unions_advance 50 [(0, .ref 38), (1, .int (s.1)), (2, .int (s.2.1))] [] (s.2.2.1) (s.2.2.2) (oI o)) (PX := fun x => EX w0 ev 2 m_Unions_advance 129 [(1, .int (x.1))] [] (x.2.1) (x.2.2) (oI o)) ?_ N _ x22 hx22 ?_
  · exact fun s z hz hk => bB_Unions_advance_50 ev hz hk
  show EX w0 ev 2 m_Unions_advance 129 [(1, .int (x22.1))] [] (x22.2.1) (x22.2.2) (oI o)
  refine EX.iload_n (x := x22.1) rfl (List.mem_of_getElem? (i := 0) rfl) ?_
  obtain rfl := Option.some.inj h
  exact EX.iret rfl rfl
