/-! methods as functions -/
def J_MD_likely_26 (N : Nat) (v1 : Int32) (hi : HI) (hl : HL) : Option (Int32 × HI × HL) :=
  (f_MD_findLikely N (hi) (hl)).bind fun z5 => if (2 : Int32) ≤ (v1 : Int32) then if (((v1 : Int32) - (v1 : Int32) / (1000) * (1000)) : Int32) < (z5.2.1 65 39 : Int32) then if (2000 : Int32) ≤ (v1 : Int32) then if (((v1 : Int32) - (v1 : Int32) / (1000) * (1000)) : Int32) < 0 ∨ 500 ≤ Int32.toNatClampNeg (((v1 : Int32) - (v1 : Int32) / (1000) * (1000))) then none else some (z5.2.1 91 (Int32.toNatClampNeg (((v1 : Int32) - (v1 : Int32) / (1000) * (1000)))), z5.2.1, z5.2.2) else if (((v1 : Int32) - (v1 : Int32) / (1000) * (1000)) : Int32) < 0 ∨ 500 ≤ Int32.toNatClampNeg (((v1 : Int32) - (v1 : Int32) / (1000) * (1000))) then none else some (z5.2.1 90 (Int32.toNatClampNeg (((v1 : Int32) - (v1 : Int32) / (1000) * (1000)))), z5.2.1, z5.2.2) else some ((-1), z5.2.1, z5.2.2) else if (v1 : Int32) = (1 : Int32) then some (z5.2.1 65 39, z5.2.1, z5.2.2) else if (z5.2.1 65 39 : Int32) = 0 then some ((-4), z5.2.1, z5.2.2) else some (z5.2.1 65 40, z5.2.1, z5.2.2)
set_option maxRecDepth 10000 in
set_option maxHeartbeats 4000000 in
theorem bJ_MD_likely_26 (ev : EV) {N : Nat} {v1 : Int32} {hi : HI} {hl : HL} {o : Int32 × HI × HL} (h : J_MD_likely_26 N v1 hi hl = some o) : EX w0 ev 5 m_MD_likely 26 [(0, .ref 65), (1, .int (v1))] [] (hi) (hl) (oI o) := by
  unfold J_MD_likely_26 at h
  refine EX.aload_n (x := 65) rfl (List.mem_of_getElem? (i := 0) rfl) ?_
  obtain ⟨z5, hz5, h⟩ := bnd_some h
  refine EX.callV (b := 65) (as := []) (rest := []) (r := none) (hi1 := z5.2.1) (hl1 := z5.2.2) rfl rfl rfl rfl rfl rfl ((b_MD_findLikely ev hz5).mono (by decide)) ?_
  show EX w0 ev 5 m_MD_likely 30 [(0, .ref 65), (1, .int (v1))] [] (z5.2.1) (z5.2.2) (oI o)
  refine EX.iload_n (x := v1) rfl (List.mem_of_getElem? (i := 1) rfl) ?_
  refine EX.iconst (v := 2) rfl rfl ?_
  rcases ite_some h with ⟨c6, h⟩ | ⟨c6, h⟩
  · refine EX.go (i := .if_icmp .ge 32) (len := 3) (pc1 := 64) (st1 := []) (hi1 := z5.2.1) (hl1 := z5.2.2) rfl ?_ (fun _ _ _ => if_pos c6)
    refine EX.iload_n (x := v1) rfl (List.mem_of_getElem? (i := 1) rfl) ?_
    refine EX.sipush (v := 1000) rfl rfl ?_
    refine EX.go (i := .irem) (len := 1) (pc1 := 69) (st1 := [.int (((v1 : Int32) - (v1 : Int32) / (1000) * (1000)))]) (hi1 := z5.2.1) (hl1 := z5.2.2) rfl ?_ (fun _ _ _ => rfl)
    refine EX.istore_n (req1 := [(2, .int (((v1 : Int32) - (v1 : Int32) / (1000) * (1000)))), (0, .ref 65), (1, .int (v1))]) rfl rfl rfl ?_
    refine EX.iload_n (x := ((v1 : Int32) - (v1 : Int32) / (1000) * (1000))) rfl (List.mem_of_getElem? (i := 0) rfl) ?_
    refine EX.aload_n (x := 65) rfl (List.mem_of_getElem? (i := 1) rfl) ?_
    refine EX.go (i := .getfield 303) (len := 3) (pc1 := 75) (st1 := [.int (z5.2.1 65 39), .int (((v1 : Int32) - (v1 : Int32) / (1000) * (1000)))]) (hi1 := z5.2.1) (hl1 := z5.2.2) rfl ?_ (fun _ _ _ => rfl)
    rcases ite_some h with ⟨c7, h⟩ | ⟨c7, h⟩
    · refine EX.go (i := .if_icmp .lt 7) (len := 3) (pc1 := 82) (st1 := []) (hi1 := z5.2.1) (hl1 := z5.2.2) rfl ?_ (fun _ _ _ => if_pos c7)
      refine EX.iload_n (x := v1) rfl (List.mem_of_getElem? (i := 2) rfl) ?_
      refine EX.sipush (v := 2000) rfl rfl ?_
      rcases ite_some h with ⟨c8, h⟩ | ⟨c8, h⟩
      · refine EX.go (i := .if_icmp .ge 12) (len := 3) (pc1 := 98) (st1 := []) (hi1 := z5.2.1) (hl1 := z5.2.2) rfl ?_ (fun _ _ _ => if_pos c8)
        refine EX.aload_n (x := 65) rfl (List.mem_of_getElem? (i := 1) rfl) ?_
        refine EX.go (i := .getfield 96) (len := 3) (pc1 := 102) (st1 := [.ref 91]) (hi1 := z5.2.1) (hl1 := z5.2.2) rfl ?_ (fun _ _ _ => rfl)
        refine EX.iload_n (x := ((v1 : Int32) - (v1 : Int32) / (1000) * (1000))) rfl (List.mem_of_getElem? (i := 0) rfl) ?_
        obtain ⟨g9, h⟩ := grd_some h
        refine EX.iaload rfl rfl g9 ?_
        obtain rfl := Option.some.inj h
        exact EX.iret rfl rfl
      · refine EX.go (i := .if_icmp .ge 12) (len := 3) (pc1 := 89) (st1 := []) (hi1 := z5.2.1) (hl1 := z5.2.2) rfl ?_ (fun _ _ _ => if_neg c8)
        refine EX.aload_n (x := 65) rfl (List.mem_of_getElem? (i := 1) rfl) ?_
        refine EX.go (i := .getfield 93) (len := 3) (pc1 := 93) (st1 := [.ref 90]) (hi1 := z5.2.1) (hl1 := z5.2.2) rfl ?_ (fun _ _ _ => rfl)
        refine EX.iload_n (x := ((v1 : Int32) - (v1 : Int32) / (1000) * (1000))) rfl (List.mem_of_getElem? (i := 0) rfl) ?_
        obtain ⟨g10, h⟩ := grd_some h
        refine EX.iaload rfl rfl g10 ?_
        refine EX.go (i := .goto 9) (len := 3) (pc1 := 104) (st1 := [.int (z5.2.1 90 (Int32.toNatClampNeg (((v1 : Int32) - (v1 : Int32) / (1000) * (1000)))))]) (hi1 := z5.2.1) (hl1 := z5.2.2) rfl ?_ (fun _ _ _ => rfl)
        obtain rfl := Option.some.inj h
        exact EX.iret rfl rfl
    · refine EX.go (i := .if_icmp .lt 7) (len := 3) (pc1 := 78) (st1 := []) (hi1 := z5.2.1) (hl1 := z5.2.2) rfl ?_ (fun _ _ _ => if_neg c7)
      refine EX.iconst (v := (-1)) rfl rfl ?_
      refine EX.go (i := .goto 25) (len := 3) (pc1 := 104) (st1 := [.int ((-1))]) (hi1 := z5.2.1) (hl1 := z5.2.2) rfl ?_ (fun _ _ _ => rfl)
      obtain rfl := Option.some.inj h
      exact EX.iret rfl rfl
  · refine EX.go (i := .if_icmp .ge 32) (len := 3) (pc1 := 35) (st1 := []) (hi1 := z5.2.1) (hl1 := z5.2.2) rfl ?_ (fun _ _ _ => if_neg c6)
    refine EX.iload_n (x := v1) rfl (List.mem_of_getElem? (i := 1) rfl) ?_
    refine EX.iconst (v := 1) rfl rfl ?_
    rcases ite_some h with ⟨c11, h⟩ | ⟨c11, h⟩
    · refine EX.go (i := .if_icmp .ne 10) (len := 3) (pc1 := 40) (st1 := []) (hi1 := z5.2.1) (hl1 := z5.2.2) rfl ?_ (fun _ _ _ => if_pos c11)
      refine EX.aload_n (x := 65) rfl (List.mem_of_getElem? (i := 0) rfl) ?_
      refine EX.go (i := .getfield 303) (len := 3) (pc1 := 44) (st1 := [.int (z5.2.1 65 39)]) (hi1 := z5.2.1) (hl1 := z5.2.2) rfl ?_ (fun _ _ _ => rfl)
      refine EX.go (i := .goto 19) (len := 3) (pc1 := 63) (st1 := [.int (z5.2.1 65 39)]) (hi1 := z5.2.1) (hl1 := z5.2.2) rfl ?_ (fun _ _ _ => rfl)
      obtain rfl := Option.some.inj h
      exact EX.iret rfl rfl
    · refine EX.go (i := .if_icmp .ne 10) (len := 3) (pc1 := 47) (st1 := []) (hi1 := z5.2.1) (hl1 := z5.2.2) rfl ?_ (fun _ _ _ => if_neg c11)
      refine EX.aload_n (x := 65) rfl (List.mem_of_getElem? (i := 0) rfl) ?_
      refine EX.go (i := .getfield 303) (len := 3) (pc1 := 51) (st1 := [.int (z5.2.1 65 39)]) (hi1 := z5.2.1) (hl1 := z5.2.2) rfl ?_ (fun _ _ _ => rfl)
      rcases ite_some h with ⟨c12, h⟩ | ⟨c12, h⟩
      · refine EX.go (i := .ifCond .ne 8) (len := 3) (pc1 := 54) (st1 := []) (hi1 := z5.2.1) (hl1 := z5.2.2) rfl ?_ (fun _ _ _ => if_pos c12)
        refine EX.bipush (v := (-4)) rfl rfl ?_
        refine EX.go (i := .goto 7) (len := 3) (pc1 := 63) (st1 := [.int ((-4))]) (hi1 := z5.2.1) (hl1 := z5.2.2) rfl ?_ (fun _ _ _ => rfl)
        obtain rfl := Option.some.inj h
        exact EX.iret rfl rfl
      · refine EX.go (i := .ifCond .ne 8) (len := 3) (pc1 := 59) (st1 := []) (hi1 := z5.2.1) (hl1 := z5.2.2) rfl ?_ (fun _ _ _ => if_neg c12)
        refine EX.aload_n (x := 65) rfl (List.mem_of_getElem? (i := 0) rfl) ?_
        refine EX.go (i := .getfield 306) (len := 3) (pc1 := 63) (st1 := [.int (z5.2.1 65 40)]) (hi1 := z5.2.1) (hl1 := z5.2.2) rfl ?_ (fun _ _ _ => rfl)
        obtain rfl := Option.some.inj h
        exact EX.iret rfl rfl
def f_MD_likely (N : Nat) (p1 : Int32) (hi : HI) (hl : HL) : Option (Int32 × HI × HL) :=
  (f_MD_in N ((Int32.toInt64 (p1))) (0) (1) (hi) (hl)).bind fun z1 => if (z1.1 : Int32) = 0 then (f_MD_in N ((Int32.toInt64 (p1))) (1000) (2999) (z1.2.1) (z1.2.2)).bind fun z3 => if (z3.1 : Int32) = 0 then some ((-1), z3.2.1, z3.2.2) else J_MD_likely_26 N (p1) (z3.2.1) (z3.2.2) else J_MD_likely_26 N (p1) (z1.2.1) (z1.2.2)
set_option maxRecDepth 10000 in
set_option maxHeartbeats 4000000 in
theorem b_MD_likely (ev : EV) {N : Nat} {p1 : Int32} {hi : HI} {hl : HL} {o : Int32 × HI × HL} (h : f_MD_likely N p1 hi hl = some o) : EM w0 ev 6 m_MD_likely [.ref 65, .int (p1)] hi hl (oI o) := by
  unfold f_MD_likely at h
  refine EM.of rfl ?_
  show EX w0 ev 5 m_MD_likely 0 [(0, .ref 65), (1, .int (p1))] [] (hi) (hl) (oI o)
  refine EX.iload_n (x := p1) rfl (List.mem_of_getElem? (i := 1) rfl) ?_
  refine EX.go (i := .i2l) (len := 1) (pc1 := 2) (st1 := [.long ((Int32.toInt64 (p1)))]) (hi1 := hi) (hl1 := hl) rfl ?_ (fun _ _ _ => rfl)
  refine EX.lconst (v := 0) rfl rfl ?_
  refine EX.lconst (v := 1) rfl rfl ?_
  obtain ⟨z1, hz1, h⟩ := bnd_some h
  refine EX.callS (as := [.long ((Int32.toInt64 (p1))), .long (0), .long (1)]) (rest := []) (r := some (.int (z1.1))) (hi1 := z1.2.1) (hl1 := z1.2.2) rfl rfl rfl rfl rfl rfl ((b_MD_in ev hz1).mono (by decide)) ?_
  show EX w0 ev 5 m_MD_likely 7 [(0, .ref 65), (1, .int (p1))] [.int (z1.1)] (z1.2.1) (z1.2.2) (oI o)
  rcases ite_some h with ⟨c2, h⟩ | ⟨c2, h⟩
  · refine EX.go (i := .ifCond .ne 19) (len := 3) (pc1 := 10) (st1 := []) (hi1 := z1.2.1) (hl1 := z1.2.2) rfl ?_ (fun _ _ _ => if_pos c2)
    refine EX.iload_n (x := p1) rfl (List.mem_of_getElem? (i := 1) rfl) ?_
    refine EX.go (i := .i2l) (len := 1) (pc1 := 12) (st1 := [.long ((Int32.toInt64 (p1)))]) (hi1 := z1.2.1) (hl1 := z1.2.2) rfl ?_ (fun _ _ _ => rfl)
    refine EX.go (i := .ldc2_w 312) (len := 3) (pc1 := 15) (st1 := [.long (1000), .long ((Int32.toInt64 (p1)))]) (hi1 := z1.2.1) (hl1 := z1.2.2) rfl ?_ (fun _ _ _ => rfl)
    refine EX.go (i := .ldc2_w 314) (len := 3) (pc1 := 18) (st1 := [.long (2999), .long (1000), .long ((Int32.toInt64 (p1)))]) (hi1 := z1.2.1) (hl1 := z1.2.2) rfl ?_ (fun _ _ _ => rfl)
    obtain ⟨z3, hz3, h⟩ := bnd_some h
    refine EX.callS (as := [.long ((Int32.toInt64 (p1))), .long (1000), .long (2999)]) (rest := []) (r := some (.int (z3.1))) (hi1 := z3.2.1) (hl1 := z3.2.2) rfl rfl rfl rfl rfl rfl ((b_MD_in ev hz3).mono (by decide)) ?_
    show EX w0 ev 5 m_MD_likely 21 [(0, .ref 65), (1, .int (p1))] [.int (z3.1)] (z3.2.1) (z3.2.2) (oI o)
    rcases ite_some h with ⟨c4, h⟩ | ⟨c4, h⟩
    · refine EX.go (i := .ifCond .ne 5) (len := 3) (pc1 := 24) (st1 := []) (hi1 := z3.2.1) (hl1 := z3.2.2) rfl ?_ (fun _ _ _ => if_pos c4)
      refine EX.iconst (v := (-1)) rfl rfl ?_
      obtain rfl := Option.some.inj h
      exact EX.iret rfl rfl
    · refine EX.go (i := .ifCond .ne 5) (len := 3) (pc1 := 26) (st1 := []) (hi1 := z3.2.1) (hl1 := z3.2.2) rfl ?_ (fun _ _ _ => if_neg c4)
      refine EX.pick [0, 1] ?_ rfl
      exact bJ_MD_likely_26 ev h
  · refine EX.go (i := .ifCond .ne 19) (len := 3) (pc1 := 26) (st1 := []) (hi1 := z1.2.1) (hl1 := z1.2.2) rfl ?_ (fun _ _ _ => if_neg c2)
    refine EX.pick [0, 1] ?_ rfl
    exact bJ_MD_likely_26 ev h
def J_MD_tells_109 (N : Nat) (v1 : Int32) (v2 : Int32) (v3 : Int32) (v4 : Int32) (v6 : Int32) (s0 : Int32) (hi : HI) (hl : HL) : Option ((Int32 × Int32 × HI × HL) ⊕ (Int32 × HI × HL)) :=
  some (.inl (s0, v6 + 1, hi, hl))
set_option maxRecDepth 10000 in
set_option maxHeartbeats 4000000 in
theorem bJ_MD_tells_109 (ev : EV) {N : Nat} {v1 : Int32} {v2 : Int32} {v3 : Int32} {v4 : Int32} {v6 : Int32} {s0 : Int32} {hi : HI} {hl : HL} {z : (Int32 × Int32 × HI × HL) ⊕ (Int32 × HI × HL)} {OUT : Option Value × HI × HL} (h : J_MD_tells_109 N v1 v2 v3 v4 v6 s0 hi hl = some z) (hk : Sum.elim (fun s => EX w0 ev 2 m_MD_tells 37 [(0, .ref 65), (1, .int (v1)), (2, .int (v2)), (3, .int (v3)), (4, .int (v4)), (5, .int (s.1)), (6, .int (s.2.1))] [] (s.2.2.1) (s.2.2.2) OUT) (fun x => EX w0 ev 2 m_MD_tells 117 [(0, .ref 65), (1, .int (v1)), (2, .int (v2)), (3, .int (v3)), (4, .int (v4)), (5, .int (x.1))] [] (x.2.1) (x.2.2) OUT) z) : EX w0 ev 2 m_MD_tells 109 [(0, .ref 65), (1, .int (v1)), (2, .int (v2)), (3, .int (v3)), (4, .int (v4)), (6, .int (v6))] [.int (s0)] (hi) (hl) OUT := by
  unfold J_MD_tells_109 at h
  refine EX.istore (req1 := [(5, .int (s0)), (0, .ref 65), (1, .int (v1)), (2, .int (v2)), (3, .int (v3)), (4, .int (v4)), (6, .int (v6))]) rfl rfl rfl ?_
  refine EX.iinc (x := v6) (v := v6 + 1) (req1 := [(6, .int (v6 + 1)), (5, .int (s0)), (0, .ref 65), (1, .int (v1)), (2, .int (v2)), (3, .int (v3)), (4, .int (v4))]) rfl rfl (List.mem_of_getElem? (i := 6) rfl) rfl rfl ?_
  refine EX.go (i := .goto (-77)) (len := 3) (pc1 := 37) (st1 := []) (hi1 := hi) (hl1 := hl) rfl ?_ (fun _ _ _ => rfl)
  obtain rfl := Option.some.inj h
  have hk : EX w0 ev 2 m_MD_tells 37 [(0, .ref 65), (1, .int (v1)), (2, .int (v2)), (3, .int (v3)), (4, .int (v4)), (5, .int (s0)), (6, .int (v6 + 1))] [] (hi) (hl) OUT := hk
  exact EX.pick [2, 3, 4, 5, 6, 1, 0] hk rfl
def J_MD_tells_104 (N : Nat) (v1 : Int32) (v2 : Int32) (v3 : Int32) (v4 : Int32) (v6 : Int32) (hi : HI) (hl : HL) : Option ((Int32 × Int32 × HI × HL) ⊕ (Int32 × HI × HL)) :=
  J_MD_tells_109 N (v1) (v2) (v3) (v4) (v6) (1) (hi) (hl)
set_option maxRecDepth 10000 in
set_option maxHeartbeats 4000000 in
theorem bJ_MD_tells_104 (ev : EV) {N : Nat} {v1 : Int32} {v2 : Int32} {v3 : Int32} {v4 : Int32} {v6 : Int32} {hi : HI} {hl : HL} {z : (Int32 × Int32 × HI × HL) ⊕ (Int32 × HI × HL)} {OUT : Option Value × HI × HL} (h : J_MD_tells_104 N v1 v2 v3 v4 v6 hi hl = some z) (hk : Sum.elim (fun s => EX w0 ev 2 m_MD_tells 37 [(0, .ref 65), (1, .int (v1)), (2, .int (v2)), (3, .int (v3)), (4, .int (v4)), (5, .int (s.1)), (6, .int (s.2.1))] [] (s.2.2.1) (s.2.2.2) OUT) (fun x => EX w0 ev 2 m_MD_tells 117 [(0, .ref 65), (1, .int (v1)), (2, .int (v2)), (3, .int (v3)), (4, .int (v4)), (5, .int (x.1))] [] (x.2.1) (x.2.2) OUT) z) : EX w0 ev 2 m_MD_tells 104 [(0, .ref 65), (1, .int (v1)), (2, .int (v2)), (3, .int (v3)), (4, .int (v4)), (6, .int (v6))] [] (hi) (hl) OUT := by
  unfold J_MD_tells_104 at h
  refine EX.iconst (v := 1) rfl rfl ?_
  refine EX.go (i := .goto 4) (len := 3) (pc1 := 109) (st1 := [.int (1)]) (hi1 := hi) (hl1 := hl) rfl ?_ (fun _ _ _ => rfl)
  refine EX.pick [0, 1, 2, 3, 4, 5] ?_ rfl
  exact bJ_MD_tells_109 ev h hk
def B_MD_tells_37 (N : Nat) (v1 : Int32) (v2 : Int32) (v3 : Int32) (v4 : Int32) (v5 : Int32) (v6 : Int32) (hi : HI) (hl : HL) : Option ((Int32 × Int32 × HI × HL) ⊕ (Int32 × HI × HL)) :=
  if (hi 65 23 : Int32) ≤ (v6 : Int32) then some (.inr (v5, hi, hl)) else (f_MD_guesses N ((-4)) ((-4)) (hi) (hl)).bind fun z5 => if (v6 : Int32) < 0 ∨ 12 ≤ Int32.toNatClampNeg (v6) then none else (f_MD_glows N (z5.2.1 83 (Int32.toNatClampNeg (v6))) (89) (z5.2.1) (z5.2.2)).bind fun z7 => (f_MD_guesses N (v4) ((-4)) (z7.2.1) (z7.2.2)).bind fun z8 => if (v5 : Int32) = 0 then if (v6 : Int32) < 0 ∨ 12 ≤ Int32.toNatClampNeg (v6) then none else (f_MD_glows N (z8.2.1 83 (Int32.toNatClampNeg (v6))) (89) (z8.2.1) (z8.2.2)).bind fun z11 => if (z11.1 : Int32) = (z7.1 : Int32) then J_MD_tells_109 N (v1) (v2) (v3) (v4) (v6) (0) (z11.2.1) (z11.2.2) else J_MD_tells_104 N (v1) (v2) (v3) (v4) (v6) (z11.2.1) (z11.2.2) else J_MD_tells_104 N (v1) (v2) (v3) (v4) (v6) (z8.2.1) (z8.2.2)
set_option maxRecDepth 10000 in
set_option maxHeartbeats 4000000 in
theorem bB_MD_tells_37 (ev : EV) {N : Nat} {v1 : Int32} {v2 : Int32} {v3 : Int32} {v4 : Int32} {v5 : Int32} {v6 : Int32} {hi : HI} {hl : HL} {z : (Int32 × Int32 × HI × HL) ⊕ (Int32 × HI × HL)} {OUT : Option Value × HI × HL} (h : B_MD_tells_37 N v1 v2 v3 v4 v5 v6 hi hl = some z) (hk : Sum.elim (fun s => EX w0 ev 2 m_MD_tells 37 [(0, .ref 65), (1, .int (v1)), (2, .int (v2)), (3, .int (v3)), (4, .int (v4)), (5, .int (s.1)), (6, .int (s.2.1))] [] (s.2.2.1) (s.2.2.2) OUT) (fun x => EX w0 ev 2 m_MD_tells 117 [(0, .ref 65), (1, .int (v1)), (2, .int (v2)), (3, .int (v3)), (4, .int (v4)), (5, .int (x.1))] [] (x.2.1) (x.2.2) OUT) z) : EX w0 ev 2 m_MD_tells 37 [(0, .ref 65), (1, .int (v1)), (2, .int (v2)), (3, .int (v3)), (4, .int (v4)), (5, .int (v5)), (6, .int (v6))] [] (hi) (hl) OUT := by
  unfold B_MD_tells_37 at h
  refine EX.iload (x := v6) rfl (List.mem_of_getElem? (i := 6) rfl) ?_
  refine EX.aload_n (x := 65) rfl (List.mem_of_getElem? (i := 0) rfl) ?_
  refine EX.go (i := .getfield 119) (len := 3) (pc1 := 43) (st1 := [.int (hi 65 23), .int (v6)]) (hi1 := hi) (hl1 := hl) rfl ?_ (fun _ _ _ => rfl)
  rcases ite_some h with ⟨c4, h⟩ | ⟨c4, h⟩
  · refine EX.go (i := .if_icmp .ge 74) (len := 3) (pc1 := 117) (st1 := []) (hi1 := hi) (hl1 := hl) rfl ?_ (fun _ _ _ => if_pos c4)
    obtain rfl := Option.some.inj h
    have hk : EX w0 ev 2 m_MD_tells 117 [(0, .ref 65), (1, .int (v1)), (2, .int (v2)), (3, .int (v3)), (4, .int (v4)), (5, .int (v5))] [] (hi) (hl) OUT := hk
    exact EX.pick [0, 1, 2, 3, 4, 5] hk rfl
  · refine EX.go (i := .if_icmp .ge 74) (len := 3) (pc1 := 46) (st1 := []) (hi1 := hi) (hl1 := hl) rfl ?_ (fun _ _ _ => if_neg c4)
    refine EX.aload_n (x := 65) rfl (List.mem_of_getElem? (i := 0) rfl) ?_
    refine EX.bipush (v := (-4)) rfl rfl ?_
    refine EX.bipush (v := (-4)) rfl rfl ?_
    obtain ⟨z5, hz5, h⟩ := bnd_some h
    refine EX.callV (b := 65) (as := [.int ((-4)), .int ((-4))]) (rest := []) (r := none) (hi1 := z5.2.1) (hl1 := z5.2.2) rfl rfl rfl rfl rfl rfl ((b_MD_guesses ev hz5).mono (by decide)) ?_
    show EX w0 ev 2 m_MD_tells 54 [(0, .ref 65), (1, .int (v1)), (2, .int (v2)), (3, .int (v3)), (4, .int (v4)), (5, .int (v5)), (6, .int (v6))] [] (z5.2.1) (z5.2.2) OUT
    refine EX.aload_n (x := 65) rfl (List.mem_of_getElem? (i := 0) rfl) ?_
    refine EX.aload_n (x := 65) rfl (List.mem_of_getElem? (i := 0) rfl) ?_
    refine EX.go (i := .getfield 72) (len := 3) (pc1 := 59) (st1 := [.ref 83, .ref 65]) (hi1 := z5.2.1) (hl1 := z5.2.2) rfl ?_ (fun _ _ _ => rfl)
    refine EX.iload (x := v6) rfl (List.mem_of_getElem? (i := 6) rfl) ?_
    obtain ⟨g6, h⟩ := grd_some h
    refine EX.iaload rfl rfl g6 ?_
    refine EX.aload_n (x := 65) rfl (List.mem_of_getElem? (i := 0) rfl) ?_
    refine EX.go (i := .getfield 90) (len := 3) (pc1 := 66) (st1 := [.ref 89, .int (z5.2.1 83 (Int32.toNatClampNeg (v6))), .ref 65]) (hi1 := z5.2.1) (hl1 := z5.2.2) rfl ?_ (fun _ _ _ => rfl)
    obtain ⟨z7, hz7, h⟩ := bnd_some h
    refine EX.callV (b := 65) (as := [.int (z5.2.1 83 (Int32.toNatClampNeg (v6))), .ref 89]) (rest := []) (r := some (.int (z7.1))) (hi1 := z7.2.1) (hl1 := z7.2.2) rfl rfl rfl rfl rfl rfl ((b_MD_glows ev hz7).mono (by decide)) ?_
    show EX w0 ev 2 m_MD_tells 69 [(0, .ref 65), (1, .int (v1)), (2, .int (v2)), (3, .int (v3)), (4, .int (v4)), (5, .int (v5)), (6, .int (v6))] [.int (z7.1)] (z7.2.1) (z7.2.2) OUT
    refine EX.istore (req1 := [(7, .int (z7.1)), (0, .ref 65), (1, .int (v1)), (2, .int (v2)), (3, .int (v3)), (4, .int (v4)), (5, .int (v5)), (6, .int (v6))]) rfl rfl rfl ?_
    refine EX.aload_n (x := 65) rfl (List.mem_of_getElem? (i := 1) rfl) ?_
    refine EX.iload (x := v4) rfl (List.mem_of_getElem? (i := 5) rfl) ?_
    refine EX.bipush (v := (-4)) rfl rfl ?_
    obtain ⟨z8, hz8, h⟩ := bnd_some h
    refine EX.callV (b := 65) (as := [.int (v4), .int ((-4))]) (rest := []) (r := none) (hi1 := z8.2.1) (hl1 := z8.2.2) rfl rfl rfl rfl rfl rfl ((b_MD_guesses ev hz8).mono (by decide)) ?_
    show EX w0 ev 2 m_MD_tells 79 [(7, .int (z7.1)), (0, .ref 65), (1, .int (v1)), (2, .int (v2)), (3, .int (v3)), (4, .int (v4)), (5, .int (v5)), (6, .int (v6))] [] (z8.2.1) (z8.2.2) OUT
    refine EX.iload (x := v5) rfl (List.mem_of_getElem? (i := 6) rfl) ?_
    rcases ite_some h with ⟨c9, h⟩ | ⟨c9, h⟩
    · refine EX.go (i := .ifCond .ne 23) (len := 3) (pc1 := 84) (st1 := []) (hi1 := z8.2.1) (hl1 := z8.2.2) rfl ?_ (fun _ _ _ => if_pos c9)
      refine EX.aload_n (x := 65) rfl (List.mem_of_getElem? (i := 1) rfl) ?_
      refine EX.aload_n (x := 65) rfl (List.mem_of_getElem? (i := 1) rfl) ?_
      refine EX.go (i := .getfield 72) (len := 3) (pc1 := 89) (st1 := [.ref 83, .ref 65]) (hi1 := z8.2.1) (hl1 := z8.2.2) rfl ?_ (fun _ _ _ => rfl)
      refine EX.iload (x := v6) rfl (List.mem_of_getElem? (i := 7) rfl) ?_
      obtain ⟨g10, h⟩ := grd_some h
      refine EX.iaload rfl rfl g10 ?_
      refine EX.aload_n (x := 65) rfl (List.mem_of_getElem? (i := 1) rfl) ?_
      refine EX.go (i := .getfield 90) (len := 3) (pc1 := 96) (st1 := [.ref 89, .int (z8.2.1 83 (Int32.toNatClampNeg (v6))), .ref 65]) (hi1 := z8.2.1) (hl1 := z8.2.2) rfl ?_ (fun _ _ _ => rfl)
      obtain ⟨z11, hz11, h⟩ := bnd_some h
      refine EX.callV (b := 65) (as := [.int (z8.2.1 83 (Int32.toNatClampNeg (v6))), .ref 89]) (rest := []) (r := some (.int (z11.1))) (hi1 := z11.2.1) (hl1 := z11.2.2) rfl rfl rfl rfl rfl rfl ((b_MD_glows ev hz11).mono (by decide)) ?_
      show EX w0 ev 2 m_MD_tells 99 [(7, .int (z7.1)), (0, .ref 65), (1, .int (v1)), (2, .int (v2)), (3, .int (v3)), (4, .int (v4)), (5, .int (v5)), (6, .int (v6))] [.int (z11.1)] (z11.2.1) (z11.2.2) OUT
      refine EX.iload (x := z7.1) rfl (List.mem_of_getElem? (i := 0) rfl) ?_
      rcases ite_some h with ⟨c12, h⟩ | ⟨c12, h⟩
      · refine EX.go (i := .if_icmp .eq 7) (len := 3) (pc1 := 108) (st1 := []) (hi1 := z11.2.1) (hl1 := z11.2.2) rfl ?_ (fun _ _ _ => if_pos c12)
        refine EX.iconst (v := 0) rfl rfl ?_
        refine EX.pick [1, 2, 3, 4, 5, 7] ?_ rfl
        exact bJ_MD_tells_109 ev h hk
      · refine EX.go (i := .if_icmp .eq 7) (len := 3) (pc1 := 104) (st1 := []) (hi1 := z11.2.1) (hl1 := z11.2.2) rfl ?_ (fun _ _ _ => if_neg c12)
        refine EX.pick [1, 2, 3, 4, 5, 7] ?_ rfl
        exact bJ_MD_tells_104 ev h hk
    · refine EX.go (i := .ifCond .ne 23) (len := 3) (pc1 := 104) (st1 := []) (hi1 := z8.2.1) (hl1 := z8.2.2) rfl ?_ (fun _ _ _ => if_neg c9)
      refine EX.pick [1, 2, 3, 4, 5, 7] ?_ rfl
      exact bJ_MD_tells_104 ev h hk
def J_MD_tells_147 (N : Nat) (v1 : Int32) (v2 : Int32) (v4 : Int32) (s0 : Int32) (hi : HI) (hl : HL) : Option ((Int32 × Int32 × Int32 × HI × HL) ⊕ (Int32 × Int32 × HI × HL)) :=
  some (.inl (v2, s0, v4 + 1, hi, hl))
set_option maxRecDepth 10000 in
set_option maxHeartbeats 4000000 in
theorem bJ_MD_tells_147 (ev : EV) {N : Nat} {v1 : Int32} {v2 : Int32} {v4 : Int32} {s0 : Int32} {hi : HI} {hl : HL} {z : (Int32 × Int32 × Int32 × HI × HL) ⊕ (Int32 × Int32 × HI × HL)} {OUT : Option Value × HI × HL} (h : J_MD_tells_147 N v1 v2 v4 s0 hi hl = some z) (hk : Sum.elim (fun s => EX w0 ev 2 m_MD_tells 20 [(0, .ref 65), (1, .int (v1)), (2, .int (s.1)), (3, .int (s.2.1)), (4, .int (s.2.2.1))] [] (s.2.2.2.1) (s.2.2.2.2) OUT) (fun x => EX w0 ev 2 m_MD_tells 154 [(1, .int (v1)), (2, .int (x.1)), (3, .int (x.2.1))] [] (x.2.2.1) (x.2.2.2) OUT) z) : EX w0 ev 2 m_MD_tells 147 [(0, .ref 65), (1, .int (v1)), (2, .int (v2)), (4, .int (v4))] [.int (s0)] (hi) (hl) OUT := by
  unfold J_MD_tells_147 at h
  refine EX.istore_n (req1 := [(3, .int (s0)), (0, .ref 65), (1, .int (v1)), (2, .int (v2)), (4, .int (v4))]) rfl rfl rfl ?_
  refine EX.iinc (x := v4) (v := v4 + 1) (req1 := [(4, .int (v4 + 1)), (3, .int (s0)), (0, .ref 65), (1, .int (v1)), (2, .int (v2))]) rfl rfl (List.mem_of_getElem? (i := 4) rfl) rfl rfl ?_
  refine EX.go (i := .goto (-131)) (len := 3) (pc1 := 20) (st1 := []) (hi1 := hi) (hl1 := hl) rfl ?_ (fun _ _ _ => rfl)
  obtain rfl := Option.some.inj h
  have hk : EX w0 ev 2 m_MD_tells 20 [(0, .ref 65), (1, .int (v1)), (2, .int (v2)), (3, .int (s0)), (4, .int (v4 + 1))] [] (hi) (hl) OUT := hk
  exact EX.pick [2, 3, 4, 1, 0] hk rfl
def J_MD_tells_146 (N : Nat) (v1 : Int32) (v2 : Int32) (v3 : Int32) (v4 : Int32) (hi : HI) (hl : HL) : Option ((Int32 × Int32 × Int32 × HI × HL) ⊕ (Int32 × Int32 × HI × HL)) :=
  J_MD_tells_147 N (v1) (v2) (v4) (v3) (hi) (hl)
set_option maxRecDepth 10000 in
set_option maxHeartbeats 4000000 in
theorem bJ_MD_tells_146 (ev : EV) {N : Nat} {v1 : Int32} {v2 : Int32} {v3 : Int32} {v4 : Int32} {hi : HI} {hl : HL} {z : (Int32 × Int32 × Int32 × HI × HL) ⊕ (Int32 × Int32 × HI × HL)} {OUT : Option Value × HI × HL} (h : J_MD_tells_146 N v1 v2 v3 v4 hi hl = some z) (hk : Sum.elim (fun s => EX w0 ev 2 m_MD_tells 20 [(0, .ref 65), (1, .int (v1)), (2, .int (s.1)), (3, .int (s.2.1)), (4, .int (s.2.2.1))] [] (s.2.2.2.1) (s.2.2.2.2) OUT) (fun x => EX w0 ev 2 m_MD_tells 154 [(1, .int (v1)), (2, .int (x.1)), (3, .int (x.2.1))] [] (x.2.2.1) (x.2.2.2) OUT) z) : EX w0 ev 2 m_MD_tells 146 [(0, .ref 65), (1, .int (v1)), (2, .int (v2)), (3, .int (v3)), (4, .int (v4))] [] (hi) (hl) OUT := by
  unfold J_MD_tells_146 at h
  refine EX.iload_n (x := v3) rfl (List.mem_of_getElem? (i := 3) rfl) ?_
  refine EX.pick [0, 1, 2, 4] ?_ rfl
  exact bJ_MD_tells_147 ev h hk
def J_MD_tells_128 (N : Nat) (v1 : Int32) (v3 : Int32) (v4 : Int32) (v5 : Int32) (s0 : Int32) (s1 : Int32) (hi : HI) (hl : HL) : Option ((Int32 × Int32 × Int32 × HI × HL) ⊕ (Int32 × Int32 × HI × HL)) :=
  if (v5 : Int32) = 0 then if (v3 : Int32) = ((-4) : Int32) then J_MD_tells_147 N (v1) ((s1 + s0)) (v4) (v4) (hi) (hl) else J_MD_tells_146 N (v1) ((s1 + s0)) (v3) (v4) (hi) (hl) else J_MD_tells_146 N (v1) ((s1 + s0)) (v3) (v4) (hi) (hl)
set_option maxRecDepth 10000 in
set_option maxHeartbeats 4000000 in
theorem bJ_MD_tells_128 (ev : EV) {N : Nat} {v1 : Int32} {v3 : Int32} {v4 : Int32} {v5 : Int32} {s0 : Int32} {s1 : Int32} {hi : HI} {hl : HL} {z : (Int32 × Int32 × Int32 × HI × HL) ⊕ (Int32 × Int32 × HI × HL)} {OUT : Option Value × HI × HL} (h : J_MD_tells_128 N v1 v3 v4 v5 s0 s1 hi hl = some z) (hk : Sum.elim (fun s => EX w0 ev 2 m_MD_tells 20 [(0, .ref 65), (1, .int (v1)), (2, .int (s.1)), (3, .int (s.2.1)), (4, .int (s.2.2.1))] [] (s.2.2.2.1) (s.2.2.2.2) OUT) (fun x => EX w0 ev 2 m_MD_tells 154 [(1, .int (v1)), (2, .int (x.1)), (3, .int (x.2.1))] [] (x.2.2.1) (x.2.2.2) OUT) z) : EX w0 ev 2 m_MD_tells 128 [(0, .ref 65), (1, .int (v1)), (3, .int (v3)), (4, .int (v4)), (5, .int (v5))] [.int (s0), .int (s1)] (hi) (hl) OUT := by
  unfold J_MD_tells_128 at h
  refine EX.go (i := .iadd) (len := 1) (pc1 := 129) (st1 := [.int ((s1 + s0))]) (hi1 := hi) (hl1 := hl) rfl ?_ (fun _ _ _ => rfl)
  refine EX.istore_n (req1 := [(2, .int ((s1 + s0))), (0, .ref 65), (1, .int (v1)), (3, .int (v3)), (4, .int (v4)), (5, .int (v5))]) rfl rfl rfl ?_
  refine EX.iload (x := v5) rfl (List.mem_of_getElem? (i := 5) rfl) ?_
  rcases ite_some h with ⟨c15, h⟩ | ⟨c15, h⟩
  · refine EX.go (i := .ifCond .ne 14) (len := 3) (pc1 := 135) (st1 := []) (hi1 := hi) (hl1 := hl) rfl ?_ (fun _ _ _ => if_pos c15)
    refine EX.iload_n (x := v3) rfl (List.mem_of_getElem? (i := 3) rfl) ?_
    refine EX.bipush (v := (-4)) rfl rfl ?_
    rcases ite_some h with ⟨c16, h⟩ | ⟨c16, h⟩
    · refine EX.go (i := .if_icmp .ne 8) (len := 3) (pc1 := 141) (st1 := []) (hi1 := hi) (hl1 := hl) rfl ?_ (fun _ _ _ => if_pos c16)
      refine EX.iload (x := v4) rfl (List.mem_of_getElem? (i := 4) rfl) ?_
      refine EX.go (i := .goto 4) (len := 3) (pc1 := 147) (st1 := [.int (v4)]) (hi1 := hi) (hl1 := hl) rfl ?_ (fun _ _ _ => rfl)
      refine EX.pick [1, 2, 0, 4] ?_ rfl
      exact bJ_MD_tells_147 ev h hk
    · refine EX.go (i := .if_icmp .ne 8) (len := 3) (pc1 := 146) (st1 := []) (hi1 := hi) (hl1 := hl) rfl ?_ (fun _ _ _ => if_neg c16)
      refine EX.pick [1, 2, 0, 3, 4] ?_ rfl
      exact bJ_MD_tells_146 ev h hk
  · refine EX.go (i := .ifCond .ne 14) (len := 3) (pc1 := 146) (st1 := []) (hi1 := hi) (hl1 := hl) rfl ?_ (fun _ _ _ => if_neg c15)
    refine EX.pick [1, 2, 0, 3, 4] ?_ rfl
    exact bJ_MD_tells_146 ev h hk
def B_MD_tells_20 (N : Nat) (v1 : Int32) (v2 : Int32) (v3 : Int32) (v4 : Int32) (hi : HI) (hl : HL) : Option ((Int32 × Int32 × Int32 × HI × HL) ⊕ (Int32 × Int32 × HI × HL)) :=
  if (((2 : Int32) * (hi 65 2)) : Int32) ≤ (v4 : Int32) then some (.inr (v2, v3, hi, hl)) else (lpN (fun s => B_MD_tells_37 N (v1) (v2) (v3) (v4) s.1 s.2.1 s.2.2.1 s.2.2.2) N (0, 0, hi, hl)).bind fun x13 => if (x13.1 : Int32) = 0 then J_MD_tells_128 N (v1) (v3) (v4) (x13.1) (0) (v2) (x13.2.1) (x13.2.2) else J_MD_tells_128 N (v1) (v3) (v4) (x13.1) (1) (v2) (x13.2.1) (x13.2.2)
set_option maxRecDepth 10000 in
set_option maxHeartbeats 4000000 in
theorem bB_MD_tells_20 (ev : EV) {N : Nat} {v1 : Int32} {v2 : Int32} {v3 : Int32} {v4 : Int32} {hi : HI} {hl : HL} {z : (Int32 × Int32 × Int32 × HI × HL) ⊕ (Int32 × Int32 × HI × HL)} {OUT : Option Value × HI × HL} (h : B_MD_tells_20 N v1 v2 v3 v4 hi hl = some z) (hk : Sum.elim (fun s => EX w0 ev 2 m_MD_tells 20 [(0, .ref 65), (1, .int (v1)), (2, .int (s.1)), (3, .int (s.2.1)), (4, .int (s.2.2.1))] [] (s.2.2.2.1) (s.2.2.2.2) OUT) (fun x => EX w0 ev 2 m_MD_tells 154 [(1, .int (v1)), (2, .int (x.1)), (3, .int (x.2.1))] [] (x.2.2.1) (x.2.2.2) OUT) z) : EX w0 ev 2 m_MD_tells 20 [(0, .ref 65), (1, .int (v1)), (2, .int (v2)), (3, .int (v3)), (4, .int (v4))] [] (hi) (hl) OUT := by
  unfold B_MD_tells_20 at h
  refine EX.iload (x := v4) rfl (List.mem_of_getElem? (i := 4) rfl) ?_
  refine EX.iconst (v := 2) rfl rfl ?_
  refine EX.aload_n (x := 65) rfl (List.mem_of_getElem? (i := 0) rfl) ?_
  refine EX.go (i := .getfield 116) (len := 3) (pc1 := 27) (st1 := [.int (hi 65 2), .int (2), .int (v4)]) (hi1 := hi) (hl1 := hl) rfl ?_ (fun _ _ _ => rfl)
  refine EX.go (i := .imul) (len := 1) (pc1 := 28) (st1 := [.int (((2 : Int32) * (hi 65 2))), .int (v4)]) (hi1 := hi) (hl1 := hl) rfl ?_ (fun _ _ _ => rfl)
  rcases ite_some h with ⟨c3, h⟩ | ⟨c3, h⟩
  · refine EX.go (i := .if_icmp .ge 126) (len := 3) (pc1 := 154) (st1 := []) (hi1 := hi) (hl1 := hl) rfl ?_ (fun _ _ _ => if_pos c3)
    obtain rfl := Option.some.inj h
    have hk : EX w0 ev 2 m_MD_tells 154 [(1, .int (v1)), (2, .int (v2)), (3, .int (v3))] [] (hi) (hl) OUT := hk
    exact EX.pick [1, 2, 3] hk rfl
  · refine EX.go (i := .if_icmp .ge 126) (len := 3) (pc1 := 31) (st1 := []) (hi1 := hi) (hl1 := hl) rfl ?_ (fun _ _ _ => if_neg c3)
    refine EX.iconst (v := 0) rfl rfl ?_
    refine EX.istore (req1 := [(5, .int (0)), (0, .ref 65), (1, .int (v1)), (2, .int (v2)), (3, .int (v3)), (4, .int (v4))]) rfl rfl rfl ?_
    refine EX.iconst (v := 0) rfl rfl ?_
    refine EX.istore (req1 := [(6, .int (0)), (5, .int (0)), (0, .ref 65), (1, .int (v1)), (2, .int (v2)), (3, .int (v3)), (4, .int (v4))]) rfl rfl rfl ?_
    obtain ⟨x13, hx13, h⟩ := bnd_some h
    refine EX.pick [2, 3, 4, 5, 6, 1, 0] ?_ rfl
    refine lp_sound (f := fun s => B_MD_tells_37 N (v1) (v2) (v3) (v4) s.1 s.2.1 s.2.2.1 s.2.2.2) (PS := fun s => EX w0 ev 2 m_MD_tells 37 [(0, .ref 65), (1, .int (v1)), (2, .int (v2)), (3, .int (v3)), (4, .int (v4)), (5, .int (s.1)), (6, .int (s.2.1))] [] (s.2.2.1) (s.2.2.2) OUT) (PX := fun x => EX w0 ev 2 m_MD_tells 117 [(0, .ref 65), (1, .int (v1)), (2, .int (v2)), (3, .int (v3)), (4, .int (v4)), (5, .int (x.1))] [] (x.2.1) (x.2.2) OUT) ?_ N _ x13 hx13 ?_
    · exact fun s z hz hk => bB_MD_tells_37 ev hz hk
    show EX w0 ev 2 m_MD_tells 117 [(0, .ref 65), (1, .int (v1)), (2, .int (v2)), (3, .int (v3)), (4, .int (v4)), (5, .int (x13.1))] [] (x13.2.1) (x13.2.2) OUT
    refine EX.iload_n (x := v2) rfl (List.mem_of_getElem? (i := 2) rfl) ?_
    refine EX.iload (x := x13.1) rfl (List.mem_of_getElem? (i := 5) rfl) ?_
    rcases ite_some h with ⟨c14, h⟩ | ⟨c14, h⟩
    · refine EX.go (i := .ifCond .eq 7) (len := 3) (pc1 := 127) (st1 := [.int (v2)]) (hi1 := x13.2.1) (hl1 := x13.2.2) rfl ?_ (fun _ _ _ => if_pos c14)
      refine EX.iconst (v := 0) rfl rfl ?_
      refine EX.pick [0, 1, 3, 4, 5] ?_ rfl
      exact bJ_MD_tells_128 ev h hk
    · refine EX.go (i := .ifCond .eq 7) (len := 3) (pc1 := 123) (st1 := [.int (v2)]) (hi1 := x13.2.1) (hl1 := x13.2.2) rfl ?_ (fun _ _ _ => if_neg c14)
      refine EX.iconst (v := 1) rfl rfl ?_
      refine EX.go (i := .goto 4) (len := 3) (pc1 := 128) (st1 := [.int (1), .int (v2)]) (hi1 := x13.2.1) (hl1 := x13.2.2) rfl ?_ (fun _ _ _ => rfl)
      refine EX.pick [0, 1, 3, 4, 5] ?_ rfl
      exact bJ_MD_tells_128 ev h hk
def f_MD_tells (N : Nat) (p1 : Int32) (hi : HI) (hl : HL) : Option (Int32 × HI × HL) :=
  (f_MD_in N ((Int32.toInt64 (p1))) (0) (1) (hi) (hl)).bind fun z1 => if (z1.1 : Int32) = 0 then some ((-1), z1.2.1, z1.2.2) else (lpN (fun s => B_MD_tells_20 N (p1) s.1 s.2.1 s.2.2.1 s.2.2.2.1 s.2.2.2.2) N (0, (-4), 0, z1.2.1, z1.2.2)).bind fun x17 => if (p1 : Int32) = 0 then some (x17.1, x17.2.2.1, x17.2.2.2) else some (x17.2.1, x17.2.2.1, x17.2.2.2)
set_option maxRecDepth 10000 in
set_option maxHeartbeats 4000000 in
theorem b_MD_tells (ev : EV) {N : Nat} {p1 : Int32} {hi : HI} {hl : HL} {o : Int32 × HI × HL} (h : f_MD_tells N p1 hi hl = some o) : EM w0 ev 3 m_MD_tells [.ref 65, .int (p1)] hi hl (oI o) := by
  unfold f_MD_tells at h
  refine EM.of rfl ?_
  show EX w0 ev 2 m_MD_tells 0 [(0, .ref 65), (1, .int (p1))] [] (hi) (hl) (oI o)
  refine EX.iload_n (x := p1) rfl (List.mem_of_getElem? (i := 1) rfl) ?_
  refine EX.go (i := .i2l) (len := 1) (pc1 := 2) (st1 := [.long ((Int32.toInt64 (p1)))]) (hi1 := hi) (hl1 := hl) rfl ?_ (fun _ _ _ => rfl)
  refine EX.lconst (v := 0) rfl rfl ?_
  refine EX.lconst (v := 1) rfl rfl ?_
  obtain ⟨z1, hz1, h⟩ := bnd_some h
  refine EX.callS (as := [.long ((Int32.toInt64 (p1))), .long (0), .long (1)]) (rest := []) (r := some (.int (z1.1))) (hi1 := z1.2.1) (hl1 := z1.2.2) rfl rfl rfl rfl rfl rfl ((b_MD_in ev hz1).mono (by decide)) ?_
  show EX w0 ev 2 m_MD_tells 7 [(0, .ref 65), (1, .int (p1))] [.int (z1.1)] (z1.2.1) (z1.2.2) (oI o)
  rcases ite_some h with ⟨c2, h⟩ | ⟨c2, h⟩
  · refine EX.go (i := .ifCond .ne 5) (len := 3) (pc1 := 10) (st1 := []) (hi1 := z1.2.1) (hl1 := z1.2.2) rfl ?_ (fun _ _ _ => if_pos c2)
    refine EX.iconst (v := (-1)) rfl rfl ?_
    obtain rfl := Option.some.inj h
    exact EX.iret rfl rfl
  · refine EX.go (i := .ifCond .ne 5) (len := 3) (pc1 := 12) (st1 := []) (hi1 := z1.2.1) (hl1 := z1.2.2) rfl ?_ (fun _ _ _ => if_neg c2)
    refine EX.iconst (v := 0) rfl rfl ?_
    refine EX.istore_n (req1 := [(2, .int (0)), (0, .ref 65), (1, .int (p1))]) rfl rfl rfl ?_
    refine EX.bipush (v := (-4)) rfl rfl ?_
    refine EX.istore_n (req1 := [(3, .int ((-4))), (2, .int (0)), (0, .ref 65), (1, .int (p1))]) rfl rfl rfl ?_
    refine EX.iconst (v := 0) rfl rfl ?_
    refine EX.istore (req1 := [(4, .int (0)), (3, .int ((-4))), (2, .int (0)), (0, .ref 65), (1, .int (p1))]) rfl rfl rfl ?_
    obtain ⟨x17, hx17, h⟩ := bnd_some h
    refine EX.pick [3, 4, 2, 1, 0] ?_ rfl
    refine lp_sound (f := fun s => B_MD_tells_20 N (p1) s.1 s.2.1 s.2.2.1 s.2.2.2.1 s.2.2.2.2) (PS := fun s => EX w0 ev 2 m_MD_tells 20 [(0, .ref 65), (1, .int (p1)), (2, .int (s.1)), (3, .int (s.2.1)), (4, .int (s.2.2.1))] [] (s.2.2.2.1) (s.2.2.2.2) (oI o)) (PX := fun x => EX w0 ev 2 m_MD_tells 154 [(1, .int (p1)), (2, .int (x.1)), (3, .int (x.2.1))] [] (x.2.2.1) (x.2.2.2) (oI o)) ?_ N _ x17 hx17 ?_
    · exact fun s z hz hk => bB_MD_tells_20 ev hz hk
    show EX w0 ev 2 m_MD_tells 154 [(1, .int (p1)), (2, .int (x17.1)), (3, .int (x17.2.1))] [] (x17.2.2.1) (x17.2.2.2) (oI o)
    refine EX.iload_n (x := p1) rfl (List.mem_of_getElem? (i := 0) rfl) ?_
    rcases ite_some h with ⟨c18, h⟩ | ⟨c18, h⟩
    · refine EX.go (i := .ifCond .ne 7) (len := 3) (pc1 := 158) (st1 := []) (hi1 := x17.2.2.1) (hl1 := x17.2.2.2) rfl ?_ (fun _ _ _ => if_pos c18)
      refine EX.iload_n (x := x17.1) rfl (List.mem_of_getElem? (i := 1) rfl) ?_
      refine EX.go (i := .goto 4) (len := 3) (pc1 := 163) (st1 := [.int (x17.1)]) (hi1 := x17.2.2.1) (hl1 := x17.2.2.2) rfl ?_ (fun _ _ _ => rfl)
      obtain rfl := Option.some.inj h
      exact EX.iret rfl rfl
    · refine EX.go (i := .ifCond .ne 7) (len := 3) (pc1 := 162) (st1 := []) (hi1 := x17.2.2.1) (hl1 := x17.2.2.2) rfl ?_ (fun _ _ _ => if_neg c18)
      refine EX.iload_n (x := x17.2.1) rfl (List.mem_of_getElem? (i := 2) rfl) ?_
      obtain rfl := Option.some.inj h
      exact EX.iret rfl rfl
def J_MD_isFault_24 (N : Nat) (hi : HI) (hl : HL) : Option (Int32 × HI × HL) :=
  some (1, hi, hl)
set_option maxRecDepth 10000 in
set_option maxHeartbeats 4000000 in
theorem bJ_MD_isFault_24 (ev : EV) {N : Nat} {hi : HI} {hl : HL} {o : Int32 × HI × HL} (h : J_MD_isFault_24 N hi hl = some o) : EX w0 ev 1 m_MD_isFault 24 [] [] (hi) (hl) (oI o) := by
  unfold J_MD_isFault_24 at h
  refine EX.iconst (v := 1) rfl rfl ?_
  refine EX.go (i := .goto 4) (len := 3) (pc1 := 29) (st1 := [.int (1)]) (hi1 := hi) (hl1 := hl) rfl ?_ (fun _ _ _ => rfl)
  obtain rfl := Option.some.inj h
  exact EX.zret rfl rfl (Or.inr rfl)
def f_MD_isFault (N : Nat) (p1 : Int32) (hi : HI) (hl : HL) : Option (Int32 × HI × HL) :=
  if (p1 : Int32) = ((-4) : Int32) then J_MD_isFault_24 N (hi) (hl) else (f_MD_in N ((Int32.toInt64 (p1))) (0) ((Int32.toInt64 (((((2 : Int32) * (hi 65 2)) : Int32) - (1))))) (hi) (hl)).bind fun z2 => if (z2.1 : Int32) = 0 then some (0, z2.2.1, z2.2.2) else J_MD_isFault_24 N (z2.2.1) (z2.2.2)
set_option maxRecDepth 10000 in
set_option maxHeartbeats 4000000 in
theorem b_MD_isFault (ev : EV) {N : Nat} {p1 : Int32} {hi : HI} {hl : HL} {o : Int32 × HI × HL} (h : f_MD_isFault N p1 hi hl = some o) : EM w0 ev 2 m_MD_isFault [.ref 65, .int (p1)] hi hl (oI o) := by
  unfold f_MD_isFault at h
  refine EM.of rfl ?_
  show EX w0 ev 1 m_MD_isFault 0 [(0, .ref 65), (1, .int (p1))] [] (hi) (hl) (oI o)
  refine EX.iload_n (x := p1) rfl (List.mem_of_getElem? (i := 1) rfl) ?_
  refine EX.bipush (v := (-4)) rfl rfl ?_
  rcases ite_some h with ⟨c1, h⟩ | ⟨c1, h⟩
  · refine EX.go (i := .if_icmp .eq 21) (len := 3) (pc1 := 24) (st1 := []) (hi1 := hi) (hl1 := hl) rfl ?_ (fun _ _ _ => if_pos c1)
    refine EX.pick [] ?_ rfl
    exact bJ_MD_isFault_24 ev h
  · refine EX.go (i := .if_icmp .eq 21) (len := 3) (pc1 := 6) (st1 := []) (hi1 := hi) (hl1 := hl) rfl ?_ (fun _ _ _ => if_neg c1)
    refine EX.iload_n (x := p1) rfl (List.mem_of_getElem? (i := 1) rfl) ?_
    refine EX.go (i := .i2l) (len := 1) (pc1 := 8) (st1 := [.long ((Int32.toInt64 (p1)))]) (hi1 := hi) (hl1 := hl) rfl ?_ (fun _ _ _ => rfl)
    refine EX.lconst (v := 0) rfl rfl ?_
    refine EX.iconst (v := 2) rfl rfl ?_
    refine EX.aload_n (x := 65) rfl (List.mem_of_getElem? (i := 0) rfl) ?_
    refine EX.go (i := .getfield 116) (len := 3) (pc1 := 14) (st1 := [.int (hi 65 2), .int (2), .long (0), .long ((Int32.toInt64 (p1)))]) (hi1 := hi) (hl1 := hl) rfl ?_ (fun _ _ _ => rfl)
    refine EX.go (i := .imul) (len := 1) (pc1 := 15) (st1 := [.int (((2 : Int32) * (hi 65 2))), .long (0), .long ((Int32.toInt64 (p1)))]) (hi1 := hi) (hl1 := hl) rfl ?_ (fun _ _ _ => rfl)
    refine EX.iconst (v := 1) rfl rfl ?_
    refine EX.go (i := .isub) (len := 1) (pc1 := 17) (st1 := [.int (((((2 : Int32) * (hi 65 2)) : Int32) - (1))), .long (0), .long ((Int32.toInt64 (p1)))]) (hi1 := hi) (hl1 := hl) rfl ?_ (fun _ _ _ => rfl)
    refine EX.go (i := .i2l) (len := 1) (pc1 := 18) (st1 := [.long ((Int32.toInt64 (((((2 : Int32) * (hi 65 2)) : Int32) - (1))))), .long (0), .long ((Int32.toInt64 (p1)))]) (hi1 := hi) (hl1 := hl) rfl ?_ (fun _ _ _ => rfl)
    obtain ⟨z2, hz2, h⟩ := bnd_some h
    refine EX.callS (as := [.long ((Int32.toInt64 (p1))), .long (0), .long ((Int32.toInt64 (((((2 : Int32) * (hi 65 2)) : Int32) - (1)))))]) (rest := []) (r := some (.int (z2.1))) (hi1 := z2.2.1) (hl1 := z2.2.2) rfl rfl rfl rfl rfl rfl ((b_MD_in ev hz2).mono (by decide)) ?_
    show EX w0 ev 1 m_MD_isFault 21 [(0, .ref 65), (1, .int (p1))] [.int (z2.1)] (z2.2.1) (z2.2.2) (oI o)
    rcases ite_some h with ⟨c3, h⟩ | ⟨c3, h⟩
    · refine EX.go (i := .ifCond .eq 7) (len := 3) (pc1 := 28) (st1 := []) (hi1 := z2.2.1) (hl1 := z2.2.2) rfl ?_ (fun _ _ _ => if_pos c3)
      refine EX.iconst (v := 0) rfl rfl ?_
      obtain rfl := Option.some.inj h
      exact EX.zret rfl rfl (Or.inl rfl)
    · refine EX.go (i := .ifCond .eq 7) (len := 3) (pc1 := 24) (st1 := []) (hi1 := z2.2.1) (hl1 := z2.2.2) rfl ?_ (fun _ _ _ => if_neg c3)
      refine EX.pick [] ?_ rfl
      exact bJ_MD_isFault_24 ev h
def J_MD_would_47 (N : Nat) (v1 : Int32) (v2 : Int32) (v3 : Int32) (hi : HI) (hl : HL) : Option (Int32 × HI × HL) :=
  (f_MD_guesses N (v2) (v3) (hi) (hl)).bind fun z8 => (f_MD_glows N (v1) (89) (z8.2.1) (z8.2.2)).bind fun z9 => some (z9.1, z9.2.1, z9.2.2)
set_option maxRecDepth 10000 in
set_option maxHeartbeats 4000000 in
theorem bJ_MD_would_47 (ev : EV) {N : Nat} {v1 : Int32} {v2 : Int32} {v3 : Int32} {hi : HI} {hl : HL} {o : Int32 × HI × HL} (h : J_MD_would_47 N v1 v2 v3 hi hl = some o) : EX w0 ev 2 m_MD_would 47 [(0, .ref 65), (1, .int (v1)), (2, .int (v2)), (3, .int (v3))] [] (hi) (hl) (oI o) := by
  unfold J_MD_would_47 at h
  refine EX.aload_n (x := 65) rfl (List.mem_of_getElem? (i := 0) rfl) ?_
  refine EX.iload_n (x := v2) rfl (List.mem_of_getElem? (i := 2) rfl) ?_
  refine EX.iload_n (x := v3) rfl (List.mem_of_getElem? (i := 3) rfl) ?_
  obtain ⟨z8, hz8, h⟩ := bnd_some h
  refine EX.callV (b := 65) (as := [.int (v2), .int (v3)]) (rest := []) (r := none) (hi1 := z8.2.1) (hl1 := z8.2.2) rfl rfl rfl rfl rfl rfl ((b_MD_guesses ev hz8).mono (by decide)) ?_
  show EX w0 ev 2 m_MD_would 53 [(0, .ref 65), (1, .int (v1)), (2, .int (v2)), (3, .int (v3))] [] (z8.2.1) (z8.2.2) (oI o)
  refine EX.aload_n (x := 65) rfl (List.mem_of_getElem? (i := 0) rfl) ?_
  refine EX.iload_n (x := v1) rfl (List.mem_of_getElem? (i := 1) rfl) ?_
  refine EX.aload_n (x := 65) rfl (List.mem_of_getElem? (i := 0) rfl) ?_
  refine EX.go (i := .getfield 90) (len := 3) (pc1 := 59) (st1 := [.ref 89, .int (v1), .ref 65]) (hi1 := z8.2.1) (hl1 := z8.2.2) rfl ?_ (fun _ _ _ => rfl)
  obtain ⟨z9, hz9, h⟩ := bnd_some h
  refine EX.callV (b := 65) (as := [.int (v1), .ref 89]) (rest := []) (r := some (.int (z9.1))) (hi1 := z9.2.1) (hl1 := z9.2.2) rfl rfl rfl rfl rfl rfl ((b_MD_glows ev hz9).mono (by decide)) ?_
  show EX w0 ev 2 m_MD_would 62 [(0, .ref 65), (1, .int (v1)), (2, .int (v2)), (3, .int (v3))] [.int (z9.1)] (z9.2.1) (z9.2.2) (oI o)
  obtain rfl := Option.some.inj h
  exact EX.iret rfl rfl
def f_MD_would (N : Nat) (p1 : Int32) (p2 : Int32) (p3 : Int32) (hi : HI) (hl : HL) : Option (Int32 × HI × HL) :=
  (f_MD_isTurn N (p1) (hi) (hl)).bind fun z1 => if (z1.1 : Int32) = 0 then some ((-1), z1.2.1, z1.2.2) else (f_MD_isFault N (p2) (z1.2.1) (z1.2.2)).bind fun z3 => if (z3.1 : Int32) = 0 then some ((-1), z3.2.1, z3.2.2) else (f_MD_isFault N (p3) (z3.2.1) (z3.2.2)).bind fun z5 => if (z5.1 : Int32) = 0 then some ((-1), z5.2.1, z5.2.2) else if (p2 : Int32) = ((-4) : Int32) then J_MD_would_47 N (p1) (p2) (p3) (z5.2.1) (z5.2.2) else if (p3 : Int32) = ((-4) : Int32) then J_MD_would_47 N (p1) (p2) (p3) (z5.2.1) (z5.2.2) else if (((p2 : Int32) / (2)) : Int32) = (((p3 : Int32) / (2)) : Int32) then some ((-1), z5.2.1, z5.2.2) else J_MD_would_47 N (p1) (p2) (p3) (z5.2.1) (z5.2.2)
set_option maxRecDepth 10000 in
set_option maxHeartbeats 4000000 in
theorem b_MD_would (ev : EV) {N : Nat} {p1 : Int32} {p2 : Int32} {p3 : Int32} {hi : HI} {hl : HL} {o : Int32 × HI × HL} (h : f_MD_would N p1 p2 p3 hi hl = some o) : EM w0 ev 3 m_MD_would [.ref 65, .int (p1), .int (p2), .int (p3)] hi hl (oI o) := by
  unfold f_MD_would at h
  refine EM.of rfl ?_
  show EX w0 ev 2 m_MD_would 0 [(0, .ref 65), (1, .int (p1)), (2, .int (p2)), (3, .int (p3))] [] (hi) (hl) (oI o)
  refine EX.aload_n (x := 65) rfl (List.mem_of_getElem? (i := 0) rfl) ?_
  refine EX.iload_n (x := p1) rfl (List.mem_of_getElem? (i := 1) rfl) ?_
  obtain ⟨z1, hz1, h⟩ := bnd_some h
  refine EX.callV (b := 65) (as := [.int (p1)]) (rest := []) (r := some (.int (z1.1))) (hi1 := z1.2.1) (hl1 := z1.2.2) rfl rfl rfl rfl rfl rfl ((b_MD_isTurn ev hz1).mono (by decide)) ?_
  show EX w0 ev 2 m_MD_would 5 [(0, .ref 65), (1, .int (p1)), (2, .int (p2)), (3, .int (p3))] [.int (z1.1)] (z1.2.1) (z1.2.2) (oI o)
  rcases ite_some h with ⟨c2, h⟩ | ⟨c2, h⟩
  · refine EX.go (i := .ifCond .eq 40) (len := 3) (pc1 := 45) (st1 := []) (hi1 := z1.2.1) (hl1 := z1.2.2) rfl ?_ (fun _ _ _ => if_pos c2)
    refine EX.iconst (v := (-1)) rfl rfl ?_
    obtain rfl := Option.some.inj h
    exact EX.iret rfl rfl
  · refine EX.go (i := .ifCond .eq 40) (len := 3) (pc1 := 8) (st1 := []) (hi1 := z1.2.1) (hl1 := z1.2.2) rfl ?_ (fun _ _ _ => if_neg c2)
    refine EX.aload_n (x := 65) rfl (List.mem_of_getElem? (i := 0) rfl) ?_
    refine EX.iload_n (x := p2) rfl (List.mem_of_getElem? (i := 2) rfl) ?_
    obtain ⟨z3, hz3, h⟩ := bnd_some h
    refine EX.callV (b := 65) (as := [.int (p2)]) (rest := []) (r := some (.int (z3.1))) (hi1 := z3.2.1) (hl1 := z3.2.2) rfl rfl rfl rfl rfl rfl ((b_MD_isFault ev hz3).mono (by decide)) ?_
    show EX w0 ev 2 m_MD_would 13 [(0, .ref 65), (1, .int (p1)), (2, .int (p2)), (3, .int (p3))] [.int (z3.1)] (z3.2.1) (z3.2.2) (oI o)
    rcases ite_some h with ⟨c4, h⟩ | ⟨c4, h⟩
    · refine EX.go (i := .ifCond .eq 32) (len := 3) (pc1 := 45) (st1 := []) (hi1 := z3.2.1) (hl1 := z3.2.2) rfl ?_ (fun _ _ _ => if_pos c4)
      refine EX.iconst (v := (-1)) rfl rfl ?_
      obtain rfl := Option.some.inj h
      exact EX.iret rfl rfl
    · refine EX.go (i := .ifCond .eq 32) (len := 3) (pc1 := 16) (st1 := []) (hi1 := z3.2.1) (hl1 := z3.2.2) rfl ?_ (fun _ _ _ => if_neg c4)
      refine EX.aload_n (x := 65) rfl (List.mem_of_getElem? (i := 0) rfl) ?_
      refine EX.iload_n (x := p3) rfl (List.mem_of_getElem? (i := 3) rfl) ?_
      obtain ⟨z5, hz5, h⟩ := bnd_some h
      refine EX.callV (b := 65) (as := [.int (p3)]) (rest := []) (r := some (.int (z5.1))) (hi1 := z5.2.1) (hl1 := z5.2.2) rfl rfl rfl rfl rfl rfl ((b_MD_isFault ev hz5).mono (by decide)) ?_
      show EX w0 ev 2 m_MD_would 21 [(0, .ref 65), (1, .int (p1)), (2, .int (p2)), (3, .int (p3))] [.int (z5.1)] (z5.2.1) (z5.2.2) (oI o)
      rcases ite_some h with ⟨c6, h⟩ | ⟨c6, h⟩
      · refine EX.go (i := .ifCond .eq 24) (len := 3) (pc1 := 45) (st1 := []) (hi1 := z5.2.1) (hl1 := z5.2.2) rfl ?_ (fun _ _ _ => if_pos c6)
        refine EX.iconst (v := (-1)) rfl rfl ?_
        obtain rfl := Option.some.inj h
        exact EX.iret rfl rfl
      · refine EX.go (i := .ifCond .eq 24) (len := 3) (pc1 := 24) (st1 := []) (hi1 := z5.2.1) (hl1 := z5.2.2) rfl ?_ (fun _ _ _ => if_neg c6)
        refine EX.iload_n (x := p2) rfl (List.mem_of_getElem? (i := 2) rfl) ?_
        refine EX.bipush (v := (-4)) rfl rfl ?_
        rcases ite_some h with ⟨c7, h⟩ | ⟨c7, h⟩
        · refine EX.go (i := .if_icmp .eq 20) (len := 3) (pc1 := 47) (st1 := []) (hi1 := z5.2.1) (hl1 := z5.2.2) rfl ?_ (fun _ _ _ => if_pos c7)
          refine EX.pick [0, 1, 2, 3] ?_ rfl
          exact bJ_MD_would_47 ev h
        · refine EX.go (i := .if_icmp .eq 20) (len := 3) (pc1 := 30) (st1 := []) (hi1 := z5.2.1) (hl1 := z5.2.2) rfl ?_ (fun _ _ _ => if_neg c7)
          refine EX.iload_n (x := p3) rfl (List.mem_of_getElem? (i := 3) rfl) ?_
          refine EX.bipush (v := (-4)) rfl rfl ?_
          rcases ite_some h with ⟨c10, h⟩ | ⟨c10, h⟩
          · refine EX.go (i := .if_icmp .eq 14) (len := 3) (pc1 := 47) (st1 := []) (hi1 := z5.2.1) (hl1 := z5.2.2) rfl ?_ (fun _ _ _ => if_pos c10)
            refine EX.pick [0, 1, 2, 3] ?_ rfl
            exact bJ_MD_would_47 ev h
          · refine EX.go (i := .if_icmp .eq 14) (len := 3) (pc1 := 36) (st1 := []) (hi1 := z5.2.1) (hl1 := z5.2.2) rfl ?_ (fun _ _ _ => if_neg c10)
            refine EX.iload_n (x := p2) rfl (List.mem_of_getElem? (i := 2) rfl) ?_
            refine EX.iconst (v := 2) rfl rfl ?_
            refine EX.go (i := .idiv) (len := 1) (pc1 := 39) (st1 := [.int (((p2 : Int32) / (2)))]) (hi1 := z5.2.1) (hl1 := z5.2.2) rfl ?_ (fun _ _ _ => rfl)
            refine EX.iload_n (x := p3) rfl (List.mem_of_getElem? (i := 3) rfl) ?_
            refine EX.iconst (v := 2) rfl rfl ?_
            refine EX.go (i := .idiv) (len := 1) (pc1 := 42) (st1 := [.int (((p3 : Int32) / (2))), .int (((p2 : Int32) / (2)))]) (hi1 := z5.2.1) (hl1 := z5.2.2) rfl ?_ (fun _ _ _ => rfl)
            rcases ite_some h with ⟨c11, h⟩ | ⟨c11, h⟩
            · refine EX.go (i := .if_icmp .ne 5) (len := 3) (pc1 := 45) (st1 := []) (hi1 := z5.2.1) (hl1 := z5.2.2) rfl ?_ (fun _ _ _ => if_pos c11)
              refine EX.iconst (v := (-1)) rfl rfl ?_
              obtain rfl := Option.some.inj h
              exact EX.iret rfl rfl
            · refine EX.go (i := .if_icmp .ne 5) (len := 3) (pc1 := 47) (st1 := []) (hi1 := z5.2.1) (hl1 := z5.2.2) rfl ?_ (fun _ _ _ => if_neg c11)
              refine EX.pick [0, 1, 2, 3] ?_ rfl
              exact bJ_MD_would_47 ev h
def J_MD_isSheet_28 (N : Nat) (hi : HI) (hl : HL) : Option (Int32 × HI × HL) :=
  some (0, hi, hl)
set_option maxRecDepth 10000 in
set_option maxHeartbeats 4000000 in
theorem bJ_MD_isSheet_28 (ev : EV) {N : Nat} {hi : HI} {hl : HL} {o : Int32 × HI × HL} (h : J_MD_isSheet_28 N hi hl = some o) : EX w0 ev 1 m_MD_isSheet 28 [] [] (hi) (hl) (oI o) := by
  unfold J_MD_isSheet_28 at h
  refine EX.iconst (v := 0) rfl rfl ?_
  obtain rfl := Option.some.inj h
  exact EX.zret rfl rfl (Or.inl rfl)
def f_MD_isSheet (N : Nat) (p0 : Int32) (p1 : Int32) (hi : HI) (hl : HL) : Option (Int32 × HI × HL) :=
  (f_MD_in N ((Int32.toInt64 (p0))) (0) (3) (hi) (hl)).bind fun z1 => if (z1.1 : Int32) = 0 then J_MD_isSheet_28 N (z1.2.1) (z1.2.2) else (f_MD_in N ((Int32.toInt64 (p1))) (0) (2) (z1.2.1) (z1.2.2)).bind fun z3 => if (z3.1 : Int32) = 0 then J_MD_isSheet_28 N (z3.2.1) (z3.2.2) else some (1, z3.2.1, z3.2.2)
set_option maxRecDepth 10000 in
set_option maxHeartbeats 4000000 in
theorem b_MD_isSheet (ev : EV) {N : Nat} {p0 : Int32} {p1 : Int32} {hi : HI} {hl : HL} {o : Int32 × HI × HL} (h : f_MD_isSheet N p0 p1 hi hl = some o) : EM w0 ev 2 m_MD_isSheet [.int (p0), .int (p1)] hi hl (oI o) := by
  unfold f_MD_isSheet at h
  refine EM.of rfl ?_
  show EX w0 ev 1 m_MD_isSheet 0 [(0, .int (p0)), (1, .int (p1))] [] (hi) (hl) (oI o)
  refine EX.iload_n (x := p0) rfl (List.mem_of_getElem? (i := 0) rfl) ?_
  refine EX.go (i := .i2l) (len := 1) (pc1 := 2) (st1 := [.long ((Int32.toInt64 (p0)))]) (hi1 := hi) (hl1 := hl) rfl ?_ (fun _ _ _ => rfl)
  refine EX.lconst (v := 0) rfl rfl ?_
  refine EX.go (i := .ldc2_w 171) (len := 3) (pc1 := 6) (st1 := [.long (3), .long (0), .long ((Int32.toInt64 (p0)))]) (hi1 := hi) (hl1 := hl) rfl ?_ (fun _ _ _ => rfl)
  obtain ⟨z1, hz1, h⟩ := bnd_some h
  refine EX.callS (as := [.long ((Int32.toInt64 (p0))), .long (0), .long (3)]) (rest := []) (r := some (.int (z1.1))) (hi1 := z1.2.1) (hl1 := z1.2.2) rfl rfl rfl rfl rfl rfl ((b_MD_in ev hz1).mono (by decide)) ?_
  show EX w0 ev 1 m_MD_isSheet 9 [(0, .int (p0)), (1, .int (p1))] [.int (z1.1)] (z1.2.1) (z1.2.2) (oI o)
  rcases ite_some h with ⟨c2, h⟩ | ⟨c2, h⟩
  · refine EX.go (i := .ifCond .eq 19) (len := 3) (pc1 := 28) (st1 := []) (hi1 := z1.2.1) (hl1 := z1.2.2) rfl ?_ (fun _ _ _ => if_pos c2)
    refine EX.pick [] ?_ rfl
    exact bJ_MD_isSheet_28 ev h
  · refine EX.go (i := .ifCond .eq 19) (len := 3) (pc1 := 12) (st1 := []) (hi1 := z1.2.1) (hl1 := z1.2.2) rfl ?_ (fun _ _ _ => if_neg c2)
    refine EX.iload_n (x := p1) rfl (List.mem_of_getElem? (i := 1) rfl) ?_
    refine EX.go (i := .i2l) (len := 1) (pc1 := 14) (st1 := [.long ((Int32.toInt64 (p1)))]) (hi1 := z1.2.1) (hl1 := z1.2.2) rfl ?_ (fun _ _ _ => rfl)
    refine EX.lconst (v := 0) rfl rfl ?_
    refine EX.go (i := .ldc2_w 108) (len := 3) (pc1 := 18) (st1 := [.long (2), .long (0), .long ((Int32.toInt64 (p1)))]) (hi1 := z1.2.1) (hl1 := z1.2.2) rfl ?_ (fun _ _ _ => rfl)
    obtain ⟨z3, hz3, h⟩ := bnd_some h
    refine EX.callS (as := [.long ((Int32.toInt64 (p1))), .long (0), .long (2)]) (rest := []) (r := some (.int (z3.1))) (hi1 := z3.2.1) (hl1 := z3.2.2) rfl rfl rfl rfl rfl rfl ((b_MD_in ev hz3).mono (by decide)) ?_
    show EX w0 ev 1 m_MD_isSheet 21 [(0, .int (p0)), (1, .int (p1))] [.int (z3.1)] (z3.2.1) (z3.2.2) (oI o)
    rcases ite_some h with ⟨c4, h⟩ | ⟨c4, h⟩
    · refine EX.go (i := .ifCond .eq 7) (len := 3) (pc1 := 28) (st1 := []) (hi1 := z3.2.1) (hl1 := z3.2.2) rfl ?_ (fun _ _ _ => if_pos c4)
      refine EX.pick [] ?_ rfl
      exact bJ_MD_isSheet_28 ev h
    · refine EX.go (i := .ifCond .eq 7) (len := 3) (pc1 := 24) (st1 := []) (hi1 := z3.2.1) (hl1 := z3.2.2) rfl ?_ (fun _ _ _ => if_neg c4)
      refine EX.iconst (v := 1) rfl rfl ?_
      refine EX.go (i := .goto 4) (len := 3) (pc1 := 29) (st1 := [.int (1)]) (hi1 := z3.2.1) (hl1 := z3.2.2) rfl ?_ (fun _ _ _ => rfl)
      obtain rfl := Option.some.inj h
      exact EX.zret rfl rfl (Or.inr rfl)
def B_MD_sheet_40 (N : Nat) (v1 : Int32) (v4 : Int32) (hi : HI) (hl : HL) : Option ((Int32 × HI × HL) ⊕ (HI × HL)) :=
  if (40 : Int32) ≤ (v4 : Int32) then some (.inr (hi, hl)) else if (((((40 : Int32) * v1) : Int32) + v4) : Int32) < 0 ∨ 160 ≤ Int32.toNatClampNeg (((((40 : Int32) * v1) : Int32) + v4)) then none else some (.inl (v4 + 1, wr (hi) 94 (Int32.toNatClampNeg (((((40 : Int32) * v1) : Int32) + v4))) (0), hl))
set_option maxRecDepth 10000 in
set_option maxHeartbeats 4000000 in
theorem bB_MD_sheet_40 (ev : EV) {N : Nat} {v1 : Int32} {v4 : Int32} {hi : HI} {hl : HL} {z : (Int32 × HI × HL) ⊕ (HI × HL)} {OUT : Option Value × HI × HL} (h : B_MD_sheet_40 N v1 v4 hi hl = some z) (hk : Sum.elim (fun s => EX w0 ev 2 m_MD_sheet 40 [(0, .ref 65), (1, .int (v1)), (4, .int (s.1))] [] (s.2.1) (s.2.2) OUT) (fun x => EX w0 ev 2 m_MD_sheet 66 [] [] (x.1) (x.2) OUT) z) : EX w0 ev 2 m_MD_sheet 40 [(0, .ref 65), (1, .int (v1)), (4, .int (v4))] [] (hi) (hl) OUT := by
  unfold B_MD_sheet_40 at h
  refine EX.iload (x := v4) rfl (List.mem_of_getElem? (i := 2) rfl) ?_
  refine EX.bipush (v := 40) rfl rfl ?_
  rcases ite_some h with ⟨c7, h⟩ | ⟨c7, h⟩
  · refine EX.go (i := .if_icmp .ge 22) (len := 3) (pc1 := 66) (st1 := []) (hi1 := hi) (hl1 := hl) rfl ?_ (fun _ _ _ => if_pos c7)
    obtain rfl := Option.some.inj h
    have hk : EX w0 ev 2 m_MD_sheet 66 [] [] (hi) (hl) OUT := hk
    exact EX.pick [] hk rfl
  · refine EX.go (i := .if_icmp .ge 22) (len := 3) (pc1 := 47) (st1 := []) (hi1 := hi) (hl1 := hl) rfl ?_ (fun _ _ _ => if_neg c7)
    refine EX.aload_n (x := 65) rfl (List.mem_of_getElem? (i := 0) rfl) ?_
    refine EX.go (i := .getfield 105) (len := 3) (pc1 := 51) (st1 := [.ref 94]) (hi1 := hi) (hl1 := hl) rfl ?_ (fun _ _ _ => rfl)
    refine EX.bipush (v := 40) rfl rfl ?_
    refine EX.iload_n (x := v1) rfl (List.mem_of_getElem? (i := 1) rfl) ?_
    refine EX.go (i := .imul) (len := 1) (pc1 := 55) (st1 := [.int (((40 : Int32) * v1)), .ref 94]) (hi1 := hi) (hl1 := hl) rfl ?_ (fun _ _ _ => rfl)
    refine EX.iload (x := v4) rfl (List.mem_of_getElem? (i := 2) rfl) ?_
    refine EX.go (i := .iadd) (len := 1) (pc1 := 58) (st1 := [.int (((((40 : Int32) * v1) : Int32) + v4)), .ref 94]) (hi1 := hi) (hl1 := hl) rfl ?_ (fun _ _ _ => rfl)
    refine EX.iconst (v := 0) rfl rfl ?_
    obtain ⟨g8, h⟩ := grd_some h
    refine EX.iastore rfl rfl g8 ?_
    refine EX.iinc (x := v4) (v := v4 + 1) (req1 := [(4, .int (v4 + 1)), (0, .ref 65), (1, .int (v1))]) rfl rfl (List.mem_of_getElem? (i := 2) rfl) rfl rfl ?_
    refine EX.go (i := .goto (-23)) (len := 3) (pc1 := 40) (st1 := []) (hi1 := wr (hi) 94 (Int32.toNatClampNeg (((((40 : Int32) * v1) : Int32) + v4))) (0)) (hl1 := hl) rfl ?_ (fun _ _ _ => rfl)
    obtain rfl := Option.some.inj h
    have hk : EX w0 ev 2 m_MD_sheet 40 [(0, .ref 65), (1, .int (v1)), (4, .int (v4 + 1))] [] (wr (hi) 94 (Int32.toNatClampNeg (((((40 : Int32) * v1) : Int32) + v4))) (0)) (hl) OUT := hk
    exact EX.pick [1, 2, 0] hk rfl
def f_MD_sheet (N : Nat) (p1 : Int32) (p2 : Int32) (p3 : Int32) (hi : HI) (hl : HL) : Option (Int32 × HI × HL) :=
  (f_MD_isSheet N (p1) (p2) (hi) (hl)).bind fun z1 => if (z1.1 : Int32) = 0 then some ((-1), z1.2.1, z1.2.2) else if (p3 : Int32) ≤ (40 : Int32) then if 0 ≤ (p3 : Int32) then if (p1 : Int32) < 0 ∨ 4 ≤ Int32.toNatClampNeg (p1) then none else if (p1 : Int32) < 0 ∨ 4 ≤ Int32.toNatClampNeg (p1) then none else (lpN (fun s => B_MD_sheet_40 N (p1) s.1 s.2.1 s.2.2) N (0, wr (wr (z1.2.1) 92 (Int32.toNatClampNeg (p1)) (p2)) 93 (Int32.toNatClampNeg (p1)) (p3), z1.2.2)).bind fun x9 => some (1, x9.1, x9.2) else some ((-14), z1.2.1, z1.2.2) else some ((-1), z1.2.1, z1.2.2)
set_option maxRecDepth 10000 in
set_option maxHeartbeats 4000000 in
theorem b_MD_sheet (ev : EV) {N : Nat} {p1 : Int32} {p2 : Int32} {p3 : Int32} {hi : HI} {hl : HL} {o : Int32 × HI × HL} (h : f_MD_sheet N p1 p2 p3 hi hl = some o) : EM w0 ev 3 m_MD_sheet [.ref 65, .int (p1), .int (p2), .int (p3)] hi hl (oI o) := by
  unfold f_MD_sheet at h
  refine EM.of rfl ?_
  show EX w0 ev 2 m_MD_sheet 0 [(0, .ref 65), (1, .int (p1)), (2, .int (p2)), (3, .int (p3))] [] (hi) (hl) (oI o)
  refine EX.iload_n (x := p1) rfl (List.mem_of_getElem? (i := 1) rfl) ?_
  refine EX.iload_n (x := p2) rfl (List.mem_of_getElem? (i := 2) rfl) ?_
  obtain ⟨z1, hz1, h⟩ := bnd_some h
  refine EX.callS (as := [.int (p1), .int (p2)]) (rest := []) (r := some (.int (z1.1))) (hi1 := z1.2.1) (hl1 := z1.2.2) rfl rfl rfl rfl rfl rfl ((b_MD_isSheet ev hz1).mono (by decide)) ?_
  show EX w0 ev 2 m_MD_sheet 5 [(0, .ref 65), (1, .int (p1)), (2, .int (p2)), (3, .int (p3))] [.int (z1.1)] (z1.2.1) (z1.2.2) (oI o)
  rcases ite_some h with ⟨c2, h⟩ | ⟨c2, h⟩
  · refine EX.go (i := .ifCond .eq 9) (len := 3) (pc1 := 14) (st1 := []) (hi1 := z1.2.1) (hl1 := z1.2.2) rfl ?_ (fun _ _ _ => if_pos c2)
    refine EX.iconst (v := (-1)) rfl rfl ?_
    obtain rfl := Option.some.inj h
    exact EX.iret rfl rfl
  · refine EX.go (i := .ifCond .eq 9) (len := 3) (pc1 := 8) (st1 := []) (hi1 := z1.2.1) (hl1 := z1.2.2) rfl ?_ (fun _ _ _ => if_neg c2)
    refine EX.iload_n (x := p3) rfl (List.mem_of_getElem? (i := 3) rfl) ?_
    refine EX.bipush (v := 40) rfl rfl ?_
    rcases ite_some h with ⟨c3, h⟩ | ⟨c3, h⟩
    · refine EX.go (i := .if_icmp .le 5) (len := 3) (pc1 := 16) (st1 := []) (hi1 := z1.2.1) (hl1 := z1.2.2) rfl ?_ (fun _ _ _ => if_pos c3)
      refine EX.iload_n (x := p3) rfl (List.mem_of_getElem? (i := 3) rfl) ?_
      rcases ite_some h with ⟨c4, h⟩ | ⟨c4, h⟩
      · refine EX.go (i := .ifCond .ge 6) (len := 3) (pc1 := 23) (st1 := []) (hi1 := z1.2.1) (hl1 := z1.2.2) rfl ?_ (fun _ _ _ => if_pos c4)
        refine EX.aload_n (x := 65) rfl (List.mem_of_getElem? (i := 0) rfl) ?_
        refine EX.go (i := .getfield 99) (len := 3) (pc1 := 27) (st1 := [.ref 92]) (hi1 := z1.2.1) (hl1 := z1.2.2) rfl ?_ (fun _ _ _ => rfl)
        refine EX.iload_n (x := p1) rfl (List.mem_of_getElem? (i := 1) rfl) ?_
        refine EX.iload_n (x := p2) rfl (List.mem_of_getElem? (i := 2) rfl) ?_
        obtain ⟨g5, h⟩ := grd_some h
        refine EX.iastore rfl rfl g5 ?_
        refine EX.aload_n (x := 65) rfl (List.mem_of_getElem? (i := 0) rfl) ?_
        refine EX.go (i := .getfield 102) (len := 3) (pc1 := 34) (st1 := [.ref 93]) (hi1 := wr (z1.2.1) 92 (Int32.toNatClampNeg (p1)) (p2)) (hl1 := z1.2.2) rfl ?_ (fun _ _ _ => rfl)
        refine EX.iload_n (x := p1) rfl (List.mem_of_getElem? (i := 1) rfl) ?_
        refine EX.iload_n (x := p3) rfl (List.mem_of_getElem? (i := 3) rfl) ?_
        obtain ⟨g6, h⟩ := grd_some h
        refine EX.iastore rfl rfl g6 ?_
        refine EX.iconst (v := 0) rfl rfl ?_
        refine EX.istore (req1 := [(4, .int (0)), (0, .ref 65), (1, .int (p1)), (2, .int (p2)), (3, .int (p3))]) rfl rfl rfl ?_
        obtain ⟨x9, hx9, h⟩ := bnd_some h
        refine EX.pick [1, 2, 0] ?_ rfl
        refine lp_sound (f := fun s => B_MD_sheet_40 N (p1) s.1 s.2.1 s.2.2) (PS := fun s => EX w0 ev 2 m_MD_sheet 40 [(0, .ref 65), (1, .int (p1)), (4, .int (s.1))] [] (s.2.1) (s.2.2) (oI o)) (PX := fun x => EX w0 ev 2 m_MD_sheet 66 [] [] (x.1) (x.2) (oI o)) ?_ N _ x9 hx9 ?_
        · exact fun s z hz hk => bB_MD_sheet_40 ev hz hk
        show EX w0 ev 2 m_MD_sheet 66 [] [] (x9.1) (x9.2) (oI o)
        refine EX.iconst (v := 1) rfl rfl ?_
        obtain rfl := Option.some.inj h
        exact EX.iret rfl rfl
      · refine EX.go (i := .ifCond .ge 6) (len := 3) (pc1 := 20) (st1 := []) (hi1 := z1.2.1) (hl1 := z1.2.2) rfl ?_ (fun _ _ _ => if_neg c4)
        refine EX.bipush (v := (-14)) rfl rfl ?_
        obtain rfl := Option.some.inj h
        exact EX.iret rfl rfl
    · refine EX.go (i := .if_icmp .le 5) (len := 3) (pc1 := 14) (st1 := []) (hi1 := z1.2.1) (hl1 := z1.2.2) rfl ?_ (fun _ _ _ => if_neg c3)
      refine EX.iconst (v := (-1)) rfl rfl ?_
      obtain rfl := Option.some.inj h
      exact EX.iret rfl rfl
def f_MD_lay (N : Nat) (p1 : Int32) (p2 : Int32) (p3 : Int32) (hi : HI) (hl : HL) : Option (Int32 × HI × HL) :=
  (f_MD_isSheet N (p1) (0) (hi) (hl)).bind fun z1 => if (z1.1 : Int32) = 0 then some ((-1), z1.2.1, z1.2.2) else if (p1 : Int32) < 0 ∨ 4 ≤ Int32.toNatClampNeg (p1) then none else if (z1.2.1 92 (Int32.toNatClampNeg (p1)) : Int32) = ((-4) : Int32) then some ((-11), z1.2.1, z1.2.2) else if (p1 : Int32) < 0 ∨ 4 ≤ Int32.toNatClampNeg (p1) then none else (f_MD_in N ((Int32.toInt64 (p2))) (0) ((Int32.toInt64 (((z1.2.1 93 (Int32.toNatClampNeg (p1)) : Int32) - (1))))) (z1.2.1) (z1.2.2)).bind fun z6 => if (z6.1 : Int32) = 0 then some ((-12), z6.2.1, z6.2.2) else if (p1 : Int32) < 0 ∨ 4 ≤ Int32.toNatClampNeg (p1) then none else if (z6.2.1 92 (Int32.toNatClampNeg (p1)) : Int32) = 0 then if (((((40 : Int32) * p1) : Int32) + p2) : Int32) < 0 ∨ 160 ≤ Int32.toNatClampNeg (((((40 : Int32) * p1) : Int32) + p2)) then none else some (1, wr (z6.2.1) 94 (Int32.toNatClampNeg (((((40 : Int32) * p1) : Int32) + p2))) ((Int32.toInt8 (p3)).toInt32), z6.2.2) else if (p1 : Int32) < 0 ∨ 4 ≤ Int32.toNatClampNeg (p1) then none else if (z6.2.1 92 (Int32.toNatClampNeg (p1)) : Int32) = (1 : Int32) then if (((((40 : Int32) * p1) : Int32) + p2) : Int32) < 0 ∨ 160 ≤ Int32.toNatClampNeg (((((40 : Int32) * p1) : Int32) + p2)) then none else some (1, wr (z6.2.1) 94 (Int32.toNatClampNeg (((((40 : Int32) * p1) : Int32) + p2))) ((Int32.toInt16 (p3)).toInt32), z6.2.2) else if (((((40 : Int32) * p1) : Int32) + p2) : Int32) < 0 ∨ 160 ≤ Int32.toNatClampNeg (((((40 : Int32) * p1) : Int32) + p2)) then none else some (1, wr (z6.2.1) 94 (Int32.toNatClampNeg (((((40 : Int32) * p1) : Int32) + p2))) (p3), z6.2.2)
set_option maxRecDepth 10000 in
set_option maxHeartbeats 4000000 in
theorem b_MD_lay (ev : EV) {N : Nat} {p1 : Int32} {p2 : Int32} {p3 : Int32} {hi : HI} {hl : HL} {o : Int32 × HI × HL} (h : f_MD_lay N p1 p2 p3 hi hl = some o) : EM w0 ev 3 m_MD_lay [.ref 65, .int (p1), .int (p2), .int (p3)] hi hl (oI o) := by
  unfold f_MD_lay at h
  refine EM.of rfl ?_
  show EX w0 ev 2 m_MD_lay 0 [(0, .ref 65), (1, .int (p1)), (2, .int (p2)), (3, .int (p3))] [] (hi) (hl) (oI o)
  refine EX.iload_n (x := p1) rfl (List.mem_of_getElem? (i := 1) rfl) ?_
  refine EX.iconst (v := 0) rfl rfl ?_
  obtain ⟨z1, hz1, h⟩ := bnd_some h
  refine EX.callS (as := [.int (p1), .int (0)]) (rest := []) (r := some (.int (z1.1))) (hi1 := z1.2.1) (hl1 := z1.2.2) rfl rfl rfl rfl rfl rfl ((b_MD_isSheet ev hz1).mono (by decide)) ?_
  show EX w0 ev 2 m_MD_lay 5 [(0, .ref 65), (1, .int (p1)), (2, .int (p2)), (3, .int (p3))] [.int (z1.1)] (z1.2.1) (z1.2.2) (oI o)
  rcases ite_some h with ⟨c2, h⟩ | ⟨c2, h⟩
  · refine EX.go (i := .ifCond .ne 5) (len := 3) (pc1 := 8) (st1 := []) (hi1 := z1.2.1) (hl1 := z1.2.2) rfl ?_ (fun _ _ _ => if_pos c2)
    refine EX.iconst (v := (-1)) rfl rfl ?_
    obtain rfl := Option.some.inj h
    exact EX.iret rfl rfl
  · refine EX.go (i := .ifCond .ne 5) (len := 3) (pc1 := 10) (st1 := []) (hi1 := z1.2.1) (hl1 := z1.2.2) rfl ?_ (fun _ _ _ => if_neg c2)
    refine EX.aload_n (x := 65) rfl (List.mem_of_getElem? (i := 0) rfl) ?_
    refine EX.go (i := .getfield 99) (len := 3) (pc1 := 14) (st1 := [.ref 92]) (hi1 := z1.2.1) (hl1 := z1.2.2) rfl ?_ (fun _ _ _ => rfl)
    refine EX.iload_n (x := p1) rfl (List.mem_of_getElem? (i := 1) rfl) ?_
    obtain ⟨g3, h⟩ := grd_some h
    refine EX.iaload rfl rfl g3 ?_
    refine EX.bipush (v := (-4)) rfl rfl ?_
    rcases ite_some h with ⟨c4, h⟩ | ⟨c4, h⟩
    · refine EX.go (i := .if_icmp .ne 6) (len := 3) (pc1 := 21) (st1 := []) (hi1 := z1.2.1) (hl1 := z1.2.2) rfl ?_ (fun _ _ _ => if_pos c4)
      refine EX.bipush (v := (-11)) rfl rfl ?_
      obtain rfl := Option.some.inj h
      exact EX.iret rfl rfl
    · refine EX.go (i := .if_icmp .ne 6) (len := 3) (pc1 := 24) (st1 := []) (hi1 := z1.2.1) (hl1 := z1.2.2) rfl ?_ (fun _ _ _ => if_neg c4)
      refine EX.iload_n (x := p2) rfl (List.mem_of_getElem? (i := 2) rfl) ?_
      refine EX.go (i := .i2l) (len := 1) (pc1 := 26) (st1 := [.long ((Int32.toInt64 (p2)))]) (hi1 := z1.2.1) (hl1 := z1.2.2) rfl ?_ (fun _ _ _ => rfl)
      refine EX.lconst (v := 0) rfl rfl ?_
      refine EX.aload_n (x := 65) rfl (List.mem_of_getElem? (i := 0) rfl) ?_
      refine EX.go (i := .getfield 102) (len := 3) (pc1 := 31) (st1 := [.ref 93, .long (0), .long ((Int32.toInt64 (p2)))]) (hi1 := z1.2.1) (hl1 := z1.2.2) rfl ?_ (fun _ _ _ => rfl)
      refine EX.iload_n (x := p1) rfl (List.mem_of_getElem? (i := 1) rfl) ?_
      obtain ⟨g5, h⟩ := grd_some h
      refine EX.iaload rfl rfl g5 ?_
      refine EX.iconst (v := 1) rfl rfl ?_
      refine EX.go (i := .isub) (len := 1) (pc1 := 35) (st1 := [.int (((z1.2.1 93 (Int32.toNatClampNeg (p1)) : Int32) - (1))), .long (0), .long ((Int32.toInt64 (p2)))]) (hi1 := z1.2.1) (hl1 := z1.2.2) rfl ?_ (fun _ _ _ => rfl)
      refine EX.go (i := .i2l) (len := 1) (pc1 := 36) (st1 := [.long ((Int32.toInt64 (((z1.2.1 93 (Int32.toNatClampNeg (p1)) : Int32) - (1))))), .long (0), .long ((Int32.toInt64 (p2)))]) (hi1 := z1.2.1) (hl1 := z1.2.2) rfl ?_ (fun _ _ _ => rfl)
      obtain ⟨z6, hz6, h⟩ := bnd_some h
      refine EX.callS (as := [.long ((Int32.toInt64 (p2))), .long (0), .long ((Int32.toInt64 (((z1.2.1 93 (Int32.toNatClampNeg (p1)) : Int32) - (1)))))]) (rest := []) (r := some (.int (z6.1))) (hi1 := z6.2.1) (hl1 := z6.2.2) rfl rfl rfl rfl rfl rfl ((b_MD_in ev hz6).mono (by decide)) ?_
      show EX w0 ev 2 m_MD_lay 39 [(0, .ref 65), (1, .int (p1)), (2, .int (p2)), (3, .int (p3))] [.int (z6.1)] (z6.2.1) (z6.2.2) (oI o)
      rcases ite_some h with ⟨c7, h⟩ | ⟨c7, h⟩
      · refine EX.go (i := .ifCond .ne 6) (len := 3) (pc1 := 42) (st1 := []) (hi1 := z6.2.1) (hl1 := z6.2.2) rfl ?_ (fun _ _ _ => if_pos c7)
        refine EX.bipush (v := (-12)) rfl rfl ?_
        obtain rfl := Option.some.inj h
        exact EX.iret rfl rfl
      · refine EX.go (i := .ifCond .ne 6) (len := 3) (pc1 := 45) (st1 := []) (hi1 := z6.2.1) (hl1 := z6.2.2) rfl ?_ (fun _ _ _ => if_neg c7)
        refine EX.aload_n (x := 65) rfl (List.mem_of_getElem? (i := 0) rfl) ?_
        refine EX.go (i := .getfield 105) (len := 3) (pc1 := 49) (st1 := [.ref 94]) (hi1 := z6.2.1) (hl1 := z6.2.2) rfl ?_ (fun _ _ _ => rfl)
        refine EX.bipush (v := 40) rfl rfl ?_
        refine EX.iload_n (x := p1) rfl (List.mem_of_getElem? (i := 1) rfl) ?_
        refine EX.go (i := .imul) (len := 1) (pc1 := 53) (st1 := [.int (((40 : Int32) * p1)), .ref 94]) (hi1 := z6.2.1) (hl1 := z6.2.2) rfl ?_ (fun _ _ _ => rfl)
        refine EX.iload_n (x := p2) rfl (List.mem_of_getElem? (i := 2) rfl) ?_
        refine EX.go (i := .iadd) (len := 1) (pc1 := 55) (st1 := [.int (((((40 : Int32) * p1) : Int32) + p2)), .ref 94]) (hi1 := z6.2.1) (hl1 := z6.2.2) rfl ?_ (fun _ _ _ => rfl)
        refine EX.aload_n (x := 65) rfl (List.mem_of_getElem? (i := 0) rfl) ?_
        refine EX.go (i := .getfield 99) (len := 3) (pc1 := 59) (st1 := [.ref 92, .int (((((40 : Int32) * p1) : Int32) + p2)), .ref 94]) (hi1 := z6.2.1) (hl1 := z6.2.2) rfl ?_ (fun _ _ _ => rfl)
        refine EX.iload_n (x := p1) rfl (List.mem_of_getElem? (i := 1) rfl) ?_
        obtain ⟨g8, h⟩ := grd_some h
        refine EX.iaload rfl rfl g8 ?_
        rcases ite_some h with ⟨c9, h⟩ | ⟨c9, h⟩
        · refine EX.go (i := .ifCond .ne 8) (len := 3) (pc1 := 64) (st1 := [.int (((((40 : Int32) * p1) : Int32) + p2)), .ref 94]) (hi1 := z6.2.1) (hl1 := z6.2.2) rfl ?_ (fun _ _ _ => if_pos c9)
          refine EX.iload_n (x := p3) rfl (List.mem_of_getElem? (i := 3) rfl) ?_
          refine EX.go (i := .i2b) (len := 1) (pc1 := 66) (st1 := [.int ((Int32.toInt8 (p3)).toInt32), .int (((((40 : Int32) * p1) : Int32) + p2)), .ref 94]) (hi1 := z6.2.1) (hl1 := z6.2.2) rfl ?_ (fun _ _ _ => rfl)
          refine EX.go (i := .goto 19) (len := 3) (pc1 := 85) (st1 := [.int ((Int32.toInt8 (p3)).toInt32), .int (((((40 : Int32) * p1) : Int32) + p2)), .ref 94]) (hi1 := z6.2.1) (hl1 := z6.2.2) rfl ?_ (fun _ _ _ => rfl)
          obtain ⟨g10, h⟩ := grd_some h
          refine EX.iastore rfl rfl g10 ?_
          refine EX.iconst (v := 1) rfl rfl ?_
          obtain rfl := Option.some.inj h
          exact EX.iret rfl rfl
        · refine EX.go (i := .ifCond .ne 8) (len := 3) (pc1 := 69) (st1 := [.int (((((40 : Int32) * p1) : Int32) + p2)), .ref 94]) (hi1 := z6.2.1) (hl1 := z6.2.2) rfl ?_ (fun _ _ _ => if_neg c9)
          refine EX.aload_n (x := 65) rfl (List.mem_of_getElem? (i := 0) rfl) ?_
          refine EX.go (i := .getfield 99) (len := 3) (pc1 := 73) (st1 := [.ref 92, .int (((((40 : Int32) * p1) : Int32) + p2)), .ref 94]) (hi1 := z6.2.1) (hl1 := z6.2.2) rfl ?_ (fun _ _ _ => rfl)
          refine EX.iload_n (x := p1) rfl (List.mem_of_getElem? (i := 1) rfl) ?_
          obtain ⟨g11, h⟩ := grd_some h
          refine EX.iaload rfl rfl g11 ?_
          refine EX.iconst (v := 1) rfl rfl ?_
          rcases ite_some h with ⟨c12, h⟩ | ⟨c12, h⟩
          · refine EX.go (i := .if_icmp .ne 8) (len := 3) (pc1 := 79) (st1 := [.int (((((40 : Int32) * p1) : Int32) + p2)), .ref 94]) (hi1 := z6.2.1) (hl1 := z6.2.2) rfl ?_ (fun _ _ _ => if_pos c12)
            refine EX.iload_n (x := p3) rfl (List.mem_of_getElem? (i := 3) rfl) ?_
            refine EX.go (i := .i2s) (len := 1) (pc1 := 81) (st1 := [.int ((Int32.toInt16 (p3)).toInt32), .int (((((40 : Int32) * p1) : Int32) + p2)), .ref 94]) (hi1 := z6.2.1) (hl1 := z6.2.2) rfl ?_ (fun _ _ _ => rfl)
            refine EX.go (i := .goto 4) (len := 3) (pc1 := 85) (st1 := [.int ((Int32.toInt16 (p3)).toInt32), .int (((((40 : Int32) * p1) : Int32) + p2)), .ref 94]) (hi1 := z6.2.1) (hl1 := z6.2.2) rfl ?_ (fun _ _ _ => rfl)
            obtain ⟨g13, h⟩ := grd_some h
            refine EX.iastore rfl rfl g13 ?_
            refine EX.iconst (v := 1) rfl rfl ?_
            obtain rfl := Option.some.inj h
            exact EX.iret rfl rfl
          · refine EX.go (i := .if_icmp .ne 8) (len := 3) (pc1 := 84) (st1 := [.int (((((40 : Int32) * p1) : Int32) + p2)), .ref 94]) (hi1 := z6.2.1) (hl1 := z6.2.2) rfl ?_ (fun _ _ _ => if_neg c12)
            refine EX.iload_n (x := p3) rfl (List.mem_of_getElem? (i := 3) rfl) ?_
            obtain ⟨g14, h⟩ := grd_some h
            refine EX.iastore rfl rfl g14 ?_
            refine EX.iconst (v := 1) rfl rfl ?_
            obtain rfl := Option.some.inj h
            exact EX.iret rfl rfl
def B_MD_levels_42 (N : Nat) (v1 : Int32) (v3 : Int32) (v4 : Int32) (hi : HI) (hl : HL) : Option ((Int32 × HI × HL) ⊕ (Nat × Int32 × HI × HL)) :=
  if (hi 65 2 : Int32) ≤ (v4 : Int32) then some (.inr (0, v4, hi, hl)) else if ((lg_cmp ((((Int32.toInt64 (v3)) : Int64) + ((Int32.toInt64 (v4)))) : Int64) (0)) : Int32) < 0 then some (.inr (1, v4, hi, hl)) else if (v1 : Int32) < 0 ∨ 4 ≤ Int32.toNatClampNeg (v1) then none else if ((lg_cmp ((((Int32.toInt64 (v3)) : Int64) + ((Int32.toInt64 (v4)))) : Int64) ((Int32.toInt64 (hi 93 (Int32.toNatClampNeg (v1)))))) : Int32) < 0 then if (((((40 : Int32) * v1) : Int32) + ((Int64.toInt32 ((((Int32.toInt64 (v3)) : Int64) + ((Int32.toInt64 (v4)))))))) : Int32) < 0 ∨ 160 ≤ Int32.toNatClampNeg (((((40 : Int32) * v1) : Int32) + ((Int64.toInt32 ((((Int32.toInt64 (v3)) : Int64) + ((Int32.toInt64 (v4))))))))) then none else (f_MD_in N ((Int32.toInt64 (hi 94 (Int32.toNatClampNeg (((((40 : Int32) * v1) : Int32) + ((Int64.toInt32 ((((Int32.toInt64 (v3)) : Int64) + ((Int32.toInt64 (v4))))))))))))) (0) (15) (hi) (hl)).bind fun z10 => if (z10.1 : Int32) = 0 then some (.inr (2, v4, z10.2.1, z10.2.2)) else some (.inl (v4 + 1, z10.2.1, z10.2.2)) else some (.inr (1, v4, hi, hl))
set_option maxRecDepth 10000 in
set_option maxHeartbeats 4000000 in
theorem bB_MD_levels_42 (ev : EV) {N : Nat} {v1 : Int32} {v3 : Int32} {v4 : Int32} {hi : HI} {hl : HL} {z : (Int32 × HI × HL) ⊕ (Nat × Int32 × HI × HL)} {OUT : Option Value × HI × HL} (h : B_MD_levels_42 N v1 v3 v4 hi hl = some z) (hk : Sum.elim (fun s => EX w0 ev 2 m_MD_levels 42 [(0, .ref 65), (1, .int (v1)), (3, .int (v3)), (4, .int (s.1))] [] (s.2.1) (s.2.2) OUT) (fun x => (x.1 = 0 → EX w0 ev 2 m_MD_levels 118 [(0, .ref 65), (1, .int (v1)), (3, .int (v3))] [] (x.2.2.1) (x.2.2.2) OUT) ∧ (x.1 = 1 → EX w0 ev 2 m_MD_levels 79 [] [] (x.2.2.1) (x.2.2.2) OUT) ∧ (x.1 = 2 → EX w0 ev 2 m_MD_levels 106 [(4, .int (x.2.1))] [] (x.2.2.1) (x.2.2.2) OUT)) z) : EX w0 ev 2 m_MD_levels 42 [(0, .ref 65), (1, .int (v1)), (3, .int (v3)), (4, .int (v4))] [] (hi) (hl) OUT := by
  unfold B_MD_levels_42 at h
  refine EX.iload (x := v4) rfl (List.mem_of_getElem? (i := 3) rfl) ?_
  refine EX.aload_n (x := 65) rfl (List.mem_of_getElem? (i := 0) rfl) ?_
  refine EX.go (i := .getfield 116) (len := 3) (pc1 := 48) (st1 := [.int (hi 65 2), .int (v4)]) (hi1 := hi) (hl1 := hl) rfl ?_ (fun _ _ _ => rfl)
  rcases ite_some h with ⟨c5, h⟩ | ⟨c5, h⟩
  · refine EX.go (i := .if_icmp .ge 70) (len := 3) (pc1 := 118) (st1 := []) (hi1 := hi) (hl1 := hl) rfl ?_ (fun _ _ _ => if_pos c5)
    obtain rfl := Option.some.inj h
    have hk := hk.1 rfl
    have hk : EX w0 ev 2 m_MD_levels 118 [(0, .ref 65), (1, .int (v1)), (3, .int (v3))] [] (hi) (hl) OUT := hk
    exact EX.pick [0, 1, 2] hk rfl
  · refine EX.go (i := .if_icmp .ge 70) (len := 3) (pc1 := 51) (st1 := []) (hi1 := hi) (hl1 := hl) rfl ?_ (fun _ _ _ => if_neg c5)
    refine EX.iload_n (x := v3) rfl (List.mem_of_getElem? (i := 2) rfl) ?_
    refine EX.go (i := .i2l) (len := 1) (pc1 := 53) (st1 := [.long ((Int32.toInt64 (v3)))]) (hi1 := hi) (hl1 := hl) rfl ?_ (fun _ _ _ => rfl)
    refine EX.iload (x := v4) rfl (List.mem_of_getElem? (i := 3) rfl) ?_
    refine EX.go (i := .i2l) (len := 1) (pc1 := 56) (st1 := [.long ((Int32.toInt64 (v4))), .long ((Int32.toInt64 (v3)))]) (hi1 := hi) (hl1 := hl) rfl ?_ (fun _ _ _ => rfl)
    refine EX.go (i := .ladd) (len := 1) (pc1 := 57) (st1 := [.long ((((Int32.toInt64 (v3)) : Int64) + ((Int32.toInt64 (v4)))))]) (hi1 := hi) (hl1 := hl) rfl ?_ (fun _ _ _ => rfl)
    refine EX.lstore (req1 := [(5, .long ((((Int32.toInt64 (v3)) : Int64) + ((Int32.toInt64 (v4)))))), (0, .ref 65), (1, .int (v1)), (3, .int (v3)), (4, .int (v4))]) rfl rfl rfl ?_
    refine EX.lload (x := (((Int32.toInt64 (v3)) : Int64) + ((Int32.toInt64 (v4))))) rfl (List.mem_of_getElem? (i := 0) rfl) ?_
    refine EX.lconst (v := 0) rfl rfl ?_
    refine EX.go (i := .lcmp) (len := 1) (pc1 := 63) (st1 := [.int ((lg_cmp ((((Int32.toInt64 (v3)) : Int64) + ((Int32.toInt64 (v4)))) : Int64) (0)))]) (hi1 := hi) (hl1 := hl) rfl ?_ (fun _ _ _ => rfl)
    rcases ite_some h with ⟨c6, h⟩ | ⟨c6, h⟩
    · refine EX.go (i := .ifCond .lt 16) (len := 3) (pc1 := 79) (st1 := []) (hi1 := hi) (hl1 := hl) rfl ?_ (fun _ _ _ => if_pos c6)
      obtain rfl := Option.some.inj h
      have hk := hk.2.1 rfl
      have hk : EX w0 ev 2 m_MD_levels 79 [] [] (hi) (hl) OUT := hk
      exact EX.pick [] hk rfl
    · refine EX.go (i := .ifCond .lt 16) (len := 3) (pc1 := 66) (st1 := []) (hi1 := hi) (hl1 := hl) rfl ?_ (fun _ _ _ => if_neg c6)
      refine EX.lload (x := (((Int32.toInt64 (v3)) : Int64) + ((Int32.toInt64 (v4))))) rfl (List.mem_of_getElem? (i := 0) rfl) ?_
      refine EX.aload_n (x := 65) rfl (List.mem_of_getElem? (i := 1) rfl) ?_
      refine EX.go (i := .getfield 102) (len := 3) (pc1 := 72) (st1 := [.ref 93, .long ((((Int32.toInt64 (v3)) : Int64) + ((Int32.toInt64 (v4)))))]) (hi1 := hi) (hl1 := hl) rfl ?_ (fun _ _ _ => rfl)
      refine EX.iload_n (x := v1) rfl (List.mem_of_getElem? (i := 2) rfl) ?_
      obtain ⟨g7, h⟩ := grd_some h
      refine EX.iaload rfl rfl g7 ?_
      refine EX.go (i := .i2l) (len := 1) (pc1 := 75) (st1 := [.long ((Int32.toInt64 (hi 93 (Int32.toNatClampNeg (v1))))), .long ((((Int32.toInt64 (v3)) : Int64) + ((Int32.toInt64 (v4)))))]) (hi1 := hi) (hl1 := hl) rfl ?_ (fun _ _ _ => rfl)
      refine EX.go (i := .lcmp) (len := 1) (pc1 := 76) (st1 := [.int ((lg_cmp ((((Int32.toInt64 (v3)) : Int64) + ((Int32.toInt64 (v4)))) : Int64) ((Int32.toInt64 (hi 93 (Int32.toNatClampNeg (v1)))))))]) (hi1 := hi) (hl1 := hl) rfl ?_ (fun _ _ _ => rfl)
      rcases ite_some h with ⟨c8, h⟩ | ⟨c8, h⟩
      · refine EX.go (i := .ifCond .lt 6) (len := 3) (pc1 := 82) (st1 := []) (hi1 := hi) (hl1 := hl) rfl ?_ (fun _ _ _ => if_pos c8)
        refine EX.aload_n (x := 65) rfl (List.mem_of_getElem? (i := 1) rfl) ?_
        refine EX.go (i := .getfield 105) (len := 3) (pc1 := 86) (st1 := [.ref 94]) (hi1 := hi) (hl1 := hl) rfl ?_ (fun _ _ _ => rfl)
        refine EX.bipush (v := 40) rfl rfl ?_
        refine EX.iload_n (x := v1) rfl (List.mem_of_getElem? (i := 2) rfl) ?_
        refine EX.go (i := .imul) (len := 1) (pc1 := 90) (st1 := [.int (((40 : Int32) * v1)), .ref 94]) (hi1 := hi) (hl1 := hl) rfl ?_ (fun _ _ _ => rfl)
        refine EX.lload (x := (((Int32.toInt64 (v3)) : Int64) + ((Int32.toInt64 (v4))))) rfl (List.mem_of_getElem? (i := 0) rfl) ?_
        refine EX.go (i := .l2i) (len := 1) (pc1 := 93) (st1 := [.int ((Int64.toInt32 ((((Int32.toInt64 (v3)) : Int64) + ((Int32.toInt64 (v4))))))), .int (((40 : Int32) * v1)), .ref 94]) (hi1 := hi) (hl1 := hl) rfl ?_ (fun _ _ _ => rfl)
        refine EX.go (i := .iadd) (len := 1) (pc1 := 94) (st1 := [.int (((((40 : Int32) * v1) : Int32) + ((Int64.toInt32 ((((Int32.toInt64 (v3)) : Int64) + ((Int32.toInt64 (v4))))))))), .ref 94]) (hi1 := hi) (hl1 := hl) rfl ?_ (fun _ _ _ => rfl)
        obtain ⟨g9, h⟩ := grd_some h
        refine EX.iaload rfl rfl g9 ?_
        refine EX.go (i := .i2l) (len := 1) (pc1 := 96) (st1 := [.long ((Int32.toInt64 (hi 94 (Int32.toNatClampNeg (((((40 : Int32) * v1) : Int32) + ((Int64.toInt32 ((((Int32.toInt64 (v3)) : Int64) + ((Int32.toInt64 (v4)))))))))))))]) (hi1 := hi) (hl1 := hl) rfl ?_ (fun _ _ _ => rfl)
        refine EX.lconst (v := 0) rfl rfl ?_
        refine EX.go (i := .ldc2_w 194) (len := 3) (pc1 := 100) (st1 := [.long (15), .long (0), .long ((Int32.toInt64 (hi 94 (Int32.toNatClampNeg (((((40 : Int32) * v1) : Int32) + ((Int64.toInt32 ((((Int32.toInt64 (v3)) : Int64) + ((Int32.toInt64 (v4)))))))))))))]) (hi1 := hi) (hl1 := hl) rfl ?_ (fun _ _ _ => rfl)
        obtain ⟨z10, hz10, h⟩ := bnd_some h
        refine EX.callS (as := [.long ((Int32.toInt64 (hi 94 (Int32.toNatClampNeg (((((40 : Int32) * v1) : Int32) + ((Int64.toInt32 ((((Int32.toInt64 (v3)) : Int64) + ((Int32.toInt64 (v4))))))))))))), .long (0), .long (15)]) (rest := []) (r := some (.int (z10.1))) (hi1 := z10.2.1) (hl1 := z10.2.2) rfl rfl rfl rfl rfl rfl ((b_MD_in ev hz10).mono (by decide)) ?_
        show EX w0 ev 2 m_MD_levels 103 [(5, .long ((((Int32.toInt64 (v3)) : Int64) + ((Int32.toInt64 (v4)))))), (0, .ref 65), (1, .int (v1)), (3, .int (v3)), (4, .int (v4))] [.int (z10.1)] (z10.2.1) (z10.2.2) OUT
        rcases ite_some h with ⟨c11, h⟩ | ⟨c11, h⟩
        · refine EX.go (i := .ifCond .ne 9) (len := 3) (pc1 := 106) (st1 := []) (hi1 := z10.2.1) (hl1 := z10.2.2) rfl ?_ (fun _ _ _ => if_pos c11)
          obtain rfl := Option.some.inj h
          have hk := hk.2.2 rfl
          have hk : EX w0 ev 2 m_MD_levels 106 [(4, .int (v4))] [] (z10.2.1) (z10.2.2) OUT := hk
          exact EX.pick [4] hk rfl
        · refine EX.go (i := .ifCond .ne 9) (len := 3) (pc1 := 112) (st1 := []) (hi1 := z10.2.1) (hl1 := z10.2.2) rfl ?_ (fun _ _ _ => if_neg c11)
          refine EX.iinc (x := v4) (v := v4 + 1) (req1 := [(4, .int (v4 + 1)), (5, .long ((((Int32.toInt64 (v3)) : Int64) + ((Int32.toInt64 (v4)))))), (0, .ref 65), (1, .int (v1)), (3, .int (v3))]) rfl rfl (List.mem_of_getElem? (i := 4) rfl) rfl rfl ?_
          refine EX.go (i := .goto (-73)) (len := 3) (pc1 := 42) (st1 := []) (hi1 := z10.2.1) (hl1 := z10.2.2) rfl ?_ (fun _ _ _ => rfl)
          obtain rfl := Option.some.inj h
          have hk : EX w0 ev 2 m_MD_levels 42 [(0, .ref 65), (1, .int (v1)), (3, .int (v3)), (4, .int (v4 + 1))] [] (z10.2.1) (z10.2.2) OUT := hk
          exact EX.pick [2, 3, 4, 0] hk rfl
      · refine EX.go (i := .ifCond .lt 6) (len := 3) (pc1 := 79) (st1 := []) (hi1 := hi) (hl1 := hl) rfl ?_ (fun _ _ _ => if_neg c8)
        obtain rfl := Option.some.inj h
        have hk := hk.2.1 rfl
        have hk : EX w0 ev 2 m_MD_levels 79 [] [] (hi) (hl) OUT := hk
        exact EX.pick [] hk rfl
def J_MD_levels_168 (N : Nat) (v1 : Int32) (v3 : Int32) (v5 : Int32) (v6 : Int32) (s0 : Int32) (s1 : Int32) (hi : HI) (hl : HL) : Option ((Int32 × Int32 × HI × HL) ⊕ (Int32 × HI × HL)) :=
  if (v5 : Int32) < 0 ∨ 16 ≤ Int32.toNatClampNeg (v5) then none else some (.inl ((s1 + s0), v5 + 1, wr (hi) 70 (Int32.toNatClampNeg (v5)) (v6), hl))
set_option maxRecDepth 10000 in
set_option maxHeartbeats 4000000 in
theorem bJ_MD_levels_168 (ev : EV) {N : Nat} {v1 : Int32} {v3 : Int32} {v5 : Int32} {v6 : Int32} {s0 : Int32} {s1 : Int32} {hi : HI} {hl : HL} {z : (Int32 × Int32 × HI × HL) ⊕ (Int32 × HI × HL)} {OUT : Option Value × HI × HL} (h : J_MD_levels_168 N v1 v3 v5 v6 s0 s1 hi hl = some z) (hk : Sum.elim (fun s => EX w0 ev 2 m_MD_levels 124 [(0, .ref 65), (1, .int (v1)), (3, .int (v3)), (4, .int (s.1)), (5, .int (s.2.1))] [] (s.2.2.1) (s.2.2.2) OUT) (fun x => EX w0 ev 2 m_MD_levels 186 [(4, .int (x.1))] [] (x.2.1) (x.2.2) OUT) z) : EX w0 ev 2 m_MD_levels 168 [(0, .ref 65), (1, .int (v1)), (3, .int (v3)), (5, .int (v5)), (6, .int (v6))] [.int (s0), .int (s1)] (hi) (hl) OUT := by
  unfold J_MD_levels_168 at h
  refine EX.go (i := .iadd) (len := 1) (pc1 := 169) (st1 := [.int ((s1 + s0))]) (hi1 := hi) (hl1 := hl) rfl ?_ (fun _ _ _ => rfl)
  refine EX.istore (req1 := [(4, .int ((s1 + s0))), (0, .ref 65), (1, .int (v1)), (3, .int (v3)), (5, .int (v5)), (6, .int (v6))]) rfl rfl rfl ?_
  refine EX.aload_n (x := 65) rfl (List.mem_of_getElem? (i := 1) rfl) ?_
  refine EX.go (i := .getfield 29) (len := 3) (pc1 := 175) (st1 := [.ref 70]) (hi1 := hi) (hl1 := hl) rfl ?_ (fun _ _ _ => rfl)
  refine EX.iload (x := v5) rfl (List.mem_of_getElem? (i := 4) rfl) ?_
  refine EX.iload (x := v6) rfl (List.mem_of_getElem? (i := 5) rfl) ?_
  obtain ⟨g18, h⟩ := grd_some h
  refine EX.iastore rfl rfl g18 ?_
  refine EX.iinc (x := v5) (v := v5 + 1) (req1 := [(5, .int (v5 + 1)), (4, .int ((s1 + s0))), (0, .ref 65), (1, .int (v1)), (3, .int (v3)), (6, .int (v6))]) rfl rfl (List.mem_of_getElem? (i := 4) rfl) rfl rfl ?_
  refine EX.go (i := .goto (-59)) (len := 3) (pc1 := 124) (st1 := []) (hi1 := wr (hi) 70 (Int32.toNatClampNeg (v5)) (v6)) (hl1 := hl) rfl ?_ (fun _ _ _ => rfl)
  obtain rfl := Option.some.inj h
  have hk : EX w0 ev 2 m_MD_levels 124 [(0, .ref 65), (1, .int (v1)), (3, .int (v3)), (4, .int ((s1 + s0))), (5, .int (v5 + 1))] [] (wr (hi) 70 (Int32.toNatClampNeg (v5)) (v6)) (hl) OUT := hk
  exact EX.pick [2, 3, 4, 1, 0] hk rfl
def B_MD_levels_124 (N : Nat) (v1 : Int32) (v3 : Int32) (v4 : Int32) (v5 : Int32) (hi : HI) (hl : HL) : Option ((Int32 × Int32 × HI × HL) ⊕ (Int32 × HI × HL)) :=
  if (hi 65 2 : Int32) ≤ (v5 : Int32) then some (.inr (v4, hi, hl)) else if (((((((40 : Int32) * v1) : Int32) + v3) : Int32) + v5) : Int32) < 0 ∨ 160 ≤ Int32.toNatClampNeg (((((((40 : Int32) * v1) : Int32) + v3) : Int32) + v5)) then none else if (v5 : Int32) < 0 ∨ 16 ≤ Int32.toNatClampNeg (v5) then none else if (hi 70 (Int32.toNatClampNeg (v5)) : Int32) = (hi 94 (Int32.toNatClampNeg (((((((40 : Int32) * v1) : Int32) + v3) : Int32) + v5))) : Int32) then J_MD_levels_168 N (v1) (v3) (v5) (hi 94 (Int32.toNatClampNeg (((((((40 : Int32) * v1) : Int32) + v3) : Int32) + v5)))) (0) (v4) (hi) (hl) else J_MD_levels_168 N (v1) (v3) (v5) (hi 94 (Int32.toNatClampNeg (((((((40 : Int32) * v1) : Int32) + v3) : Int32) + v5)))) (1) (v4) (hi) (hl)
set_option maxRecDepth 10000 in
set_option maxHeartbeats 4000000 in
theorem bB_MD_levels_124 (ev : EV) {N : Nat} {v1 : Int32} {v3 : Int32} {v4 : Int32} {v5 : Int32} {hi : HI} {hl : HL} {z : (Int32 × Int32 × HI × HL) ⊕ (Int32 × HI × HL)} {OUT : Option Value × HI × HL} (h : B_MD_levels_124 N v1 v3 v4 v5 hi hl = some z) (hk : Sum.elim (fun s => EX w0 ev 2 m_MD_levels 124 [(0, .ref 65), (1, .int (v1)), (3, .int (v3)), (4, .int (s.1)), (5, .int (s.2.1))] [] (s.2.2.1) (s.2.2.2) OUT) (fun x => EX w0 ev 2 m_MD_levels 186 [(4, .int (x.1))] [] (x.2.1) (x.2.2) OUT) z) : EX w0 ev 2 m_MD_levels 124 [(0, .ref 65), (1, .int (v1)), (3, .int (v3)), (4, .int (v4)), (5, .int (v5))] [] (hi) (hl) OUT := by
  unfold B_MD_levels_124 at h
  refine EX.iload (x := v5) rfl (List.mem_of_getElem? (i := 4) rfl) ?_
  refine EX.aload_n (x := 65) rfl (List.mem_of_getElem? (i := 0) rfl) ?_
  refine EX.go (i := .getfield 116) (len := 3) (pc1 := 130) (st1 := [.int (hi 65 2), .int (v5)]) (hi1 := hi) (hl1 := hl) rfl ?_ (fun _ _ _ => rfl)
  rcases ite_some h with ⟨c14, h⟩ | ⟨c14, h⟩
  · refine EX.go (i := .if_icmp .ge 56) (len := 3) (pc1 := 186) (st1 := []) (hi1 := hi) (hl1 := hl) rfl ?_ (fun _ _ _ => if_pos c14)
    obtain rfl := Option.some.inj h
    have hk : EX w0 ev 2 m_MD_levels 186 [(4, .int (v4))] [] (hi) (hl) OUT := hk
    exact EX.pick [3] hk rfl
  · refine EX.go (i := .if_icmp .ge 56) (len := 3) (pc1 := 133) (st1 := []) (hi1 := hi) (hl1 := hl) rfl ?_ (fun _ _ _ => if_neg c14)
    refine EX.aload_n (x := 65) rfl (List.mem_of_getElem? (i := 0) rfl) ?_
    refine EX.go (i := .getfield 105) (len := 3) (pc1 := 137) (st1 := [.ref 94]) (hi1 := hi) (hl1 := hl) rfl ?_ (fun _ _ _ => rfl)
    refine EX.bipush (v := 40) rfl rfl ?_
    refine EX.iload_n (x := v1) rfl (List.mem_of_getElem? (i := 1) rfl) ?_
    refine EX.go (i := .imul) (len := 1) (pc1 := 141) (st1 := [.int (((40 : Int32) * v1)), .ref 94]) (hi1 := hi) (hl1 := hl) rfl ?_ (fun _ _ _ => rfl)
    refine EX.iload_n (x := v3) rfl (List.mem_of_getElem? (i := 2) rfl) ?_
    refine EX.go (i := .iadd) (len := 1) (pc1 := 143) (st1 := [.int (((((40 : Int32) * v1) : Int32) + v3)), .ref 94]) (hi1 := hi) (hl1 := hl) rfl ?_ (fun _ _ _ => rfl)
    refine EX.iload (x := v5) rfl (List.mem_of_getElem? (i := 4) rfl) ?_
    refine EX.go (i := .iadd) (len := 1) (pc1 := 146) (st1 := [.int (((((((40 : Int32) * v1) : Int32) + v3) : Int32) + v5)), .ref 94]) (hi1 := hi) (hl1 := hl) rfl ?_ (fun _ _ _ => rfl)
    obtain ⟨g15, h⟩ := grd_some h
    refine EX.iaload rfl rfl g15 ?_
    refine EX.istore (req1 := [(6, .int (hi 94 (Int32.toNatClampNeg (((((((40 : Int32) * v1) : Int32) + v3) : Int32) + v5))))), (0, .ref 65), (1, .int (v1)), (3, .int (v3)), (4, .int (v4)), (5, .int (v5))]) rfl rfl rfl ?_
    refine EX.iload (x := v4) rfl (List.mem_of_getElem? (i := 4) rfl) ?_
    refine EX.aload_n (x := 65) rfl (List.mem_of_getElem? (i := 1) rfl) ?_
    refine EX.go (i := .getfield 29) (len := 3) (pc1 := 155) (st1 := [.ref 70, .int (v4)]) (hi1 := hi) (hl1 := hl) rfl ?_ (fun _ _ _ => rfl)
    refine EX.iload (x := v5) rfl (List.mem_of_getElem? (i := 5) rfl) ?_
    obtain ⟨g16, h⟩ := grd_some h
    refine EX.iaload rfl rfl g16 ?_
    refine EX.iload (x := hi 94 (Int32.toNatClampNeg (((((((40 : Int32) * v1) : Int32) + v3) : Int32) + v5)))) rfl (List.mem_of_getElem? (i := 0) rfl) ?_
    rcases ite_some h with ⟨c17, h⟩ | ⟨c17, h⟩
    · refine EX.go (i := .if_icmp .ne 7) (len := 3) (pc1 := 163) (st1 := [.int (v4)]) (hi1 := hi) (hl1 := hl) rfl ?_ (fun _ _ _ => if_pos c17)
      refine EX.iconst (v := 0) rfl rfl ?_
      refine EX.go (i := .goto 4) (len := 3) (pc1 := 168) (st1 := [.int (0), .int (v4)]) (hi1 := hi) (hl1 := hl) rfl ?_ (fun _ _ _ => rfl)
      refine EX.pick [1, 2, 3, 5, 0] ?_ rfl
      exact bJ_MD_levels_168 ev h hk
    · refine EX.go (i := .if_icmp .ne 7) (len := 3) (pc1 := 167) (st1 := [.int (v4)]) (hi1 := hi) (hl1 := hl) rfl ?_ (fun _ _ _ => if_neg c17)
      refine EX.iconst (v := 1) rfl rfl ?_
      refine EX.pick [1, 2, 3, 5, 0] ?_ rfl
      exact bJ_MD_levels_168 ev h hk
def f_MD_levels (N : Nat) (p1 : Int32) (p2 : Int32) (p3 : Int32) (hi : HI) (hl : HL) : Option (Int32 × HI × HL) :=
  (f_MD_isSheet N (p1) (p2) (hi) (hl)).bind fun z1 => if (z1.1 : Int32) = 0 then some ((-1), z1.2.1, z1.2.2) else if (p1 : Int32) < 0 ∨ 4 ≤ Int32.toNatClampNeg (p1) then none else if (z1.2.1 92 (Int32.toNatClampNeg (p1)) : Int32) = (p2 : Int32) then (lpN (fun s => B_MD_levels_42 N (p1) (p3) s.1 s.2.1 s.2.2) N (0, z1.2.1, z1.2.2)).bind fun x12 => if x12.1 = 0 then (lpN (fun s => B_MD_levels_124 N (p1) (p3) s.1 s.2.1 s.2.2.1 s.2.2.2) N (0, 0, x12.2.2.1, x12.2.2.2)).bind fun x19 => some (x19.1, x19.2.1, x19.2.2) else if x12.1 = 1 then some ((-12), x12.2.2.1, x12.2.2.2) else some ((((-20) : Int32) - (x12.2.1)), x12.2.2.1, x12.2.2.2) else if (p1 : Int32) < 0 ∨ 4 ≤ Int32.toNatClampNeg (p1) then none else if (z1.2.1 92 (Int32.toNatClampNeg (p1)) : Int32) = ((-4) : Int32) then some ((-11), z1.2.1, z1.2.2) else some ((-13), z1.2.1, z1.2.2)
set_option maxRecDepth 10000 in
set_option maxHeartbeats 4000000 in
theorem b_MD_levels (ev : EV) {N : Nat} {p1 : Int32} {p2 : Int32} {p3 : Int32} {hi : HI} {hl : HL} {o : Int32 × HI × HL} (h : f_MD_levels N p1 p2 p3 hi hl = some o) : EM w0 ev 3 m_MD_levels [.ref 65, .int (p1), .int (p2), .int (p3)] hi hl (oI o) := by
  unfold f_MD_levels at h
  refine EM.of rfl ?_
  show EX w0 ev 2 m_MD_levels 0 [(0, .ref 65), (1, .int (p1)), (2, .int (p2)), (3, .int (p3))] [] (hi) (hl) (oI o)
  refine EX.iload_n (x := p1) rfl (List.mem_of_getElem? (i := 1) rfl) ?_
  refine EX.iload_n (x := p2) rfl (List.mem_of_getElem? (i := 2) rfl) ?_
  obtain ⟨z1, hz1, h⟩ := bnd_some h
  refine EX.callS (as := [.int (p1), .int (p2)]) (rest := []) (r := some (.int (z1.1))) (hi1 := z1.2.1) (hl1 := z1.2.2) rfl rfl rfl rfl rfl rfl ((b_MD_isSheet ev hz1).mono (by decide)) ?_
  show EX w0 ev 2 m_MD_levels 5 [(0, .ref 65), (1, .int (p1)), (2, .int (p2)), (3, .int (p3))] [.int (z1.1)] (z1.2.1) (z1.2.2) (oI o)
  rcases ite_some h with ⟨c2, h⟩ | ⟨c2, h⟩
  · refine EX.go (i := .ifCond .ne 5) (len := 3) (pc1 := 8) (st1 := []) (hi1 := z1.2.1) (hl1 := z1.2.2) rfl ?_ (fun _ _ _ => if_pos c2)
    refine EX.iconst (v := (-1)) rfl rfl ?_
    obtain rfl := Option.some.inj h
    exact EX.iret rfl rfl
  · refine EX.go (i := .ifCond .ne 5) (len := 3) (pc1 := 10) (st1 := []) (hi1 := z1.2.1) (hl1 := z1.2.2) rfl ?_ (fun _ _ _ => if_neg c2)
    refine EX.aload_n (x := 65) rfl (List.mem_of_getElem? (i := 0) rfl) ?_
    refine EX.go (i := .getfield 99) (len := 3) (pc1 := 14) (st1 := [.ref 92]) (hi1 := z1.2.1) (hl1 := z1.2.2) rfl ?_ (fun _ _ _ => rfl)
    refine EX.iload_n (x := p1) rfl (List.mem_of_getElem? (i := 1) rfl) ?_
    obtain ⟨g3, h⟩ := grd_some h
    refine EX.iaload rfl rfl g3 ?_
    refine EX.iload_n (x := p2) rfl (List.mem_of_getElem? (i := 2) rfl) ?_
    rcases ite_some h with ⟨c4, h⟩ | ⟨c4, h⟩
    · refine EX.go (i := .if_icmp .eq 22) (len := 3) (pc1 := 39) (st1 := []) (hi1 := z1.2.1) (hl1 := z1.2.2) rfl ?_ (fun _ _ _ => if_pos c4)
      refine EX.iconst (v := 0) rfl rfl ?_
      refine EX.istore (req1 := [(4, .int (0)), (0, .ref 65), (1, .int (p1)), (2, .int (p2)), (3, .int (p3))]) rfl rfl rfl ?_
      obtain ⟨x12, hx12, h⟩ := bnd_some h
      refine EX.pick [1, 2, 4, 0] ?_ rfl
      refine lp_sound (f := fun s => B_MD_levels_42 N (p1) (p3) s.1 s.2.1 s.2.2) (PS := fun s => EX w0 ev 2 m_MD_levels 42 [(0, .ref 65), (1, .int (p1)), (3, .int (p3)), (4, .int (s.1))] [] (s.2.1) (s.2.2) (oI o)) (PX := fun x => (x.1 = 0 → EX w0 ev 2 m_MD_levels 118 [(0, .ref 65), (1, .int (p1)), (3, .int (p3))] [] (x.2.2.1) (x.2.2.2) (oI o)) ∧ (x.1 = 1 → EX w0 ev 2 m_MD_levels 79 [] [] (x.2.2.1) (x.2.2.2) (oI o)) ∧ (x.1 = 2 → EX w0 ev 2 m_MD_levels 106 [(4, .int (x.2.1))] [] (x.2.2.1) (x.2.2.2) (oI o))) ?_ N _ x12 hx12 ?_
      · exact fun s z hz hk => bB_MD_levels_42 ev hz hk
      rcases ite_some h with ⟨c13, h⟩ | ⟨c13, h⟩
      · refine ⟨fun _ => ?_, fun e9 => absurd (c13.symm.trans e9) (by decide), fun e9 => absurd (c13.symm.trans e9) (by decide)⟩
        show EX w0 ev 2 m_MD_levels 118 [(0, .ref 65), (1, .int (p1)), (3, .int (p3))] [] (x12.2.2.1) (x12.2.2.2) (oI o)
        refine EX.iconst (v := 0) rfl rfl ?_
        refine EX.istore (req1 := [(4, .int (0)), (0, .ref 65), (1, .int (p1)), (3, .int (p3))]) rfl rfl rfl ?_
        refine EX.iconst (v := 0) rfl rfl ?_
        refine EX.istore (req1 := [(5, .int (0)), (4, .int (0)), (0, .ref 65), (1, .int (p1)), (3, .int (p3))]) rfl rfl rfl ?_
        obtain ⟨x19, hx19, h⟩ := bnd_some h
        refine EX.pick [2, 3, 4, 1, 0] ?_ rfl
        refine lp_sound (f := fun s => B_MD_levels_124 N (p1) (p3) s.1 s.2.1 s.2.2.1 s.2.2.2) (PS := fun s => EX w0 ev 2 m_MD_levels 124 [(0, .ref 65), (1, .int (p1)), (3, .int (p3)), (4, .int (s.1)), (5, .int (s.2.1))] [] (s.2.2.1) (s.2.2.2) (oI o)) (PX := fun x => EX w0 ev 2 m_MD_levels 186 [(4, .int (x.1))] [] (x.2.1) (x.2.2) (oI o)) ?_ N _ x19 hx19 ?_
        · exact fun s z hz hk => bB_MD_levels_124 ev hz hk
        show EX w0 ev 2 m_MD_levels 186 [(4, .int (x19.1))] [] (x19.2.1) (x19.2.2) (oI o)
        refine EX.iload (x := x19.1) rfl (List.mem_of_getElem? (i := 0) rfl) ?_
        obtain rfl := Option.some.inj h
        exact EX.iret rfl rfl
      · rcases ite_some h with ⟨c20, h⟩ | ⟨c20, h⟩
        · refine ⟨fun e9 => absurd e9 c13, fun _ => ?_, fun e9 => absurd (c20.symm.trans e9) (by decide)⟩
          show EX w0 ev 2 m_MD_levels 79 [] [] (x12.2.2.1) (x12.2.2.2) (oI o)
          refine EX.bipush (v := (-12)) rfl rfl ?_
          obtain rfl := Option.some.inj h
          exact EX.iret rfl rfl
        · refine ⟨fun e9 => absurd e9 c13, fun e9 => absurd e9 c20, fun _ => ?_⟩
          show EX w0 ev 2 m_MD_levels 106 [(4, .int (x12.2.1))] [] (x12.2.2.1) (x12.2.2.2) (oI o)
          refine EX.bipush (v := (-20)) rfl rfl ?_
          refine EX.iload (x := x12.2.1) rfl (List.mem_of_getElem? (i := 0) rfl) ?_
          refine EX.go (i := .isub) (len := 1) (pc1 := 111) (st1 := [.int ((((-20) : Int32) - (x12.2.1)))]) (hi1 := x12.2.2.1) (hl1 := x12.2.2.2) rfl ?_ (fun _ _ _ => rfl)
          obtain rfl := Option.some.inj h
          exact EX.iret rfl rfl
    · refine EX.go (i := .if_icmp .eq 22) (len := 3) (pc1 := 20) (st1 := []) (hi1 := z1.2.1) (hl1 := z1.2.2) rfl ?_ (fun _ _ _ => if_neg c4)
      refine EX.aload_n (x := 65) rfl (List.mem_of_getElem? (i := 0) rfl) ?_
      refine EX.go (i := .getfield 99) (len := 3) (pc1 := 24) (st1 := [.ref 92]) (hi1 := z1.2.1) (hl1 := z1.2.2) rfl ?_ (fun _ _ _ => rfl)
      refine EX.iload_n (x := p1) rfl (List.mem_of_getElem? (i := 1) rfl) ?_
      obtain ⟨g21, h⟩ := grd_some h
      refine EX.iaload rfl rfl g21 ?_
      refine EX.bipush (v := (-4)) rfl rfl ?_
      rcases ite_some h with ⟨c22, h⟩ | ⟨c22, h⟩
      · refine EX.go (i := .if_icmp .ne 8) (len := 3) (pc1 := 31) (st1 := []) (hi1 := z1.2.1) (hl1 := z1.2.2) rfl ?_ (fun _ _ _ => if_pos c22)
        refine EX.bipush (v := (-11)) rfl rfl ?_
        refine EX.go (i := .goto 5) (len := 3) (pc1 := 38) (st1 := [.int ((-11))]) (hi1 := z1.2.1) (hl1 := z1.2.2) rfl ?_ (fun _ _ _ => rfl)
        obtain rfl := Option.some.inj h
        exact EX.iret rfl rfl
      · refine EX.go (i := .if_icmp .ne 8) (len := 3) (pc1 := 36) (st1 := []) (hi1 := z1.2.1) (hl1 := z1.2.2) rfl ?_ (fun _ _ _ => if_neg c22)
        refine EX.bipush (v := (-13)) rfl rfl ?_
        obtain rfl := Option.some.inj h
        exact EX.iret rfl rfl
def J_MD_count_58 (N : Nat) (v1 : Int32) (v2 : Int32) (v4 : Int32) (v5 : Int32) (v6 : Int32) (s0 : Int32) (s1 : Int32) (hi : HI) (hl : HL) : Option ((Int32 × Int32 × Int32 × Int32 × HI × HL) ⊕ (Int32 × Int32 × Int32 × HI × HL)) :=
  if (v6 : Int32) < 0 ∨ 16 ≤ Int32.toNatClampNeg (v6) then none else some (.inl (v2, (s1 + s0), (v4 + (hi 70 (Int32.toNatClampNeg (v6)))), v6 + 1, hi, hl))
set_option maxRecDepth 10000 in
set_option maxHeartbeats 4000000 in
theorem bJ_MD_count_58 (ev : EV) {N : Nat} {v1 : Int32} {v2 : Int32} {v4 : Int32} {v5 : Int32} {v6 : Int32} {s0 : Int32} {s1 : Int32} {hi : HI} {hl : HL} {z : (Int32 × Int32 × Int32 × Int32 × HI × HL) ⊕ (Int32 × Int32 × Int32 × HI × HL)} {OUT : Option Value × HI × HL} (h : J_MD_count_58 N v1 v2 v4 v5 v6 s0 s1 hi hl = some z) (hk : Sum.elim (fun s => EX w0 ev 0 m_MD_count 13 [(0, .ref 65), (1, .int (v1)), (2, .int (s.1)), (3, .int (s.2.1)), (4, .int (s.2.2.1)), (5, .int (v5)), (6, .int (s.2.2.2.1))] [] (s.2.2.2.2.1) (s.2.2.2.2.2) OUT) (fun x => EX w0 ev 0 m_MD_count 78 [(0, .ref 65), (1, .int (v1)), (2, .int (x.1)), (3, .int (x.2.1)), (4, .int (x.2.2.1)), (5, .int (v5))] [] (x.2.2.2.1) (x.2.2.2.2) OUT) z) : EX w0 ev 0 m_MD_count 58 [(0, .ref 65), (1, .int (v1)), (2, .int (v2)), (4, .int (v4)), (5, .int (v5)), (6, .int (v6))] [.int (s0), .int (s1)] (hi) (hl) OUT := by
  unfold J_MD_count_58 at h
  refine EX.go (i := .iadd) (len := 1) (pc1 := 59) (st1 := [.int ((s1 + s0))]) (hi1 := hi) (hl1 := hl) rfl ?_ (fun _ _ _ => rfl)
  refine EX.istore_n (req1 := [(3, .int ((s1 + s0))), (0, .ref 65), (1, .int (v1)), (2, .int (v2)), (4, .int (v4)), (5, .int (v5)), (6, .int (v6))]) rfl rfl rfl ?_
  refine EX.iload (x := v4) rfl (List.mem_of_getElem? (i := 4) rfl) ?_
  refine EX.aload_n (x := 65) rfl (List.mem_of_getElem? (i := 1) rfl) ?_
  refine EX.go (i := .getfield 29) (len := 3) (pc1 := 66) (st1 := [.ref 70, .int (v4)]) (hi1 := hi) (hl1 := hl) rfl ?_ (fun _ _ _ => rfl)
  refine EX.iload (x := v6) rfl (List.mem_of_getElem? (i := 6) rfl) ?_
  obtain ⟨g6, h⟩ := grd_some h
  refine EX.iaload rfl rfl g6 ?_
  refine EX.go (i := .iadd) (len := 1) (pc1 := 70) (st1 := [.int ((v4 + (hi 70 (Int32.toNatClampNeg (v6)))))]) (hi1 := hi) (hl1 := hl) rfl ?_ (fun _ _ _ => rfl)
  refine EX.istore (req1 := [(4, .int ((v4 + (hi 70 (Int32.toNatClampNeg (v6)))))), (3, .int ((s1 + s0))), (0, .ref 65), (1, .int (v1)), (2, .int (v2)), (5, .int (v5)), (6, .int (v6))]) rfl rfl rfl ?_
  refine EX.iinc (x := v6) (v := v6 + 1) (req1 := [(6, .int (v6 + 1)), (4, .int ((v4 + (hi 70 (Int32.toNatClampNeg (v6)))))), (3, .int ((s1 + s0))), (0, .ref 65), (1, .int (v1)), (2, .int (v2)), (5, .int (v5))]) rfl rfl (List.mem_of_getElem? (i := 6) rfl) rfl rfl ?_
  refine EX.go (i := .goto (-62)) (len := 3) (pc1 := 13) (st1 := []) (hi1 := hi) (hl1 := hl) rfl ?_ (fun _ _ _ => rfl)
  obtain rfl := Option.some.inj h
  have hk : EX w0 ev 0 m_MD_count 13 [(0, .ref 65), (1, .int (v1)), (2, .int (v2)), (3, .int ((s1 + s0))), (4, .int ((v4 + (hi 70 (Int32.toNatClampNeg (v6)))))), (5, .int (v5)), (6, .int (v6 + 1))] [] (hi) (hl) OUT := hk
  exact EX.pick [3, 4, 5, 2, 1, 6, 0] hk rfl
def J_MD_count_39 (N : Nat) (v1 : Int32) (v3 : Int32) (v4 : Int32) (v5 : Int32) (v6 : Int32) (s0 : Int32) (s1 : Int32) (hi : HI) (hl : HL) : Option ((Int32 × Int32 × Int32 × Int32 × HI × HL) ⊕ (Int32 × Int32 × Int32 × HI × HL)) :=
  if (v6 : Int32) < 0 ∨ 16 ≤ Int32.toNatClampNeg (v6) then none else if (hi 69 (Int32.toNatClampNeg (v6)) : Int32) = (2 : Int32) then J_MD_count_58 N (v1) ((s1 + s0)) (v4) (v5) (v6) (1) (v3) (hi) (hl) else J_MD_count_58 N (v1) ((s1 + s0)) (v4) (v5) (v6) (0) (v3) (hi) (hl)
set_option maxRecDepth 10000 in
set_option maxHeartbeats 4000000 in
theorem bJ_MD_count_39 (ev : EV) {N : Nat} {v1 : Int32} {v3 : Int32} {v4 : Int32} {v5 : Int32} {v6 : Int32} {s0 : Int32} {s1 : Int32} {hi : HI} {hl : HL} {z : (Int32 × Int32 × Int32 × Int32 × HI × HL) ⊕ (Int32 × Int32 × Int32 × HI × HL)} {OUT : Option Value × HI × HL} (h : J_MD_count_39 N v1 v3 v4 v5 v6 s0 s1 hi hl = some z) (hk : Sum.elim (fun s => EX w0 ev 0 m_MD_count 13 [(0, .ref 65), (1, .int (v1)), (2, .int (s.1)), (3, .int (s.2.1)), (4, .int (s.2.2.1)), (5, .int (v5)), (6, .int (s.2.2.2.1))] [] (s.2.2.2.2.1) (s.2.2.2.2.2) OUT) (fun x => EX w0 ev 0 m_MD_count 78 [(0, .ref 65), (1, .int (v1)), (2, .int (x.1)), (3, .int (x.2.1)), (4, .int (x.2.2.1)), (5, .int (v5))] [] (x.2.2.2.1) (x.2.2.2.2) OUT) z) : EX w0 ev 0 m_MD_count 39 [(0, .ref 65), (1, .int (v1)), (3, .int (v3)), (4, .int (v4)), (5, .int (v5)), (6, .int (v6))] [.int (s0), .int (s1)] (hi) (hl) OUT := by
  unfold J_MD_count_39 at h
  refine EX.go (i := .iadd) (len := 1) (pc1 := 40) (st1 := [.int ((s1 + s0))]) (hi1 := hi) (hl1 := hl) rfl ?_ (fun _ _ _ => rfl)
  refine EX.istore_n (req1 := [(2, .int ((s1 + s0))), (0, .ref 65), (1, .int (v1)), (3, .int (v3)), (4, .int (v4)), (5, .int (v5)), (6, .int (v6))]) rfl rfl rfl ?_
  refine EX.iload_n (x := v3) rfl (List.mem_of_getElem? (i := 3) rfl) ?_
  refine EX.aload_n (x := 65) rfl (List.mem_of_getElem? (i := 1) rfl) ?_
  refine EX.go (i := .getfield 26) (len := 3) (pc1 := 46) (st1 := [.ref 69, .int (v3)]) (hi1 := hi) (hl1 := hl) rfl ?_ (fun _ _ _ => rfl)
  refine EX.iload (x := v6) rfl (List.mem_of_getElem? (i := 6) rfl) ?_
  obtain ⟨g4, h⟩ := grd_some h
  refine EX.iaload rfl rfl g4 ?_
  refine EX.iconst (v := 2) rfl rfl ?_
  rcases ite_some h with ⟨c5, h⟩ | ⟨c5, h⟩
  · refine EX.go (i := .if_icmp .ne 7) (len := 3) (pc1 := 53) (st1 := [.int (v3)]) (hi1 := hi) (hl1 := hl) rfl ?_ (fun _ _ _ => if_pos c5)
    refine EX.iconst (v := 1) rfl rfl ?_
    refine EX.go (i := .goto 4) (len := 3) (pc1 := 58) (st1 := [.int (1), .int (v3)]) (hi1 := hi) (hl1 := hl) rfl ?_ (fun _ _ _ => rfl)
    refine EX.pick [1, 2, 0, 4, 5, 6] ?_ rfl
    exact bJ_MD_count_58 ev h hk
  · refine EX.go (i := .if_icmp .ne 7) (len := 3) (pc1 := 57) (st1 := [.int (v3)]) (hi1 := hi) (hl1 := hl) rfl ?_ (fun _ _ _ => if_neg c5)
    refine EX.iconst (v := 0) rfl rfl ?_
    refine EX.pick [1, 2, 0, 4, 5, 6] ?_ rfl
    exact bJ_MD_count_58 ev h hk
def B_MD_count_13 (N : Nat) (v1 : Int32) (v5 : Int32) (v2 : Int32) (v3 : Int32) (v4 : Int32) (v6 : Int32) (hi : HI) (hl : HL) : Option ((Int32 × Int32 × Int32 × Int32 × HI × HL) ⊕ (Int32 × Int32 × Int32 × HI × HL)) :=
  if (hi 65 2 : Int32) ≤ (v6 : Int32) then some (.inr (v2, v3, v4, hi, hl)) else if (v6 : Int32) < 0 ∨ 16 ≤ Int32.toNatClampNeg (v6) then none else if (hi 69 (Int32.toNatClampNeg (v6)) : Int32) = (1 : Int32) then J_MD_count_39 N (v1) (v3) (v4) (v5) (v6) (1) (v2) (hi) (hl) else J_MD_count_39 N (v1) (v3) (v4) (v5) (v6) (0) (v2) (hi) (hl)
set_option maxRecDepth 10000 in
set_option maxHeartbeats 4000000 in
theorem bB_MD_count_13 (ev : EV) {N : Nat} {v1 : Int32} {v5 : Int32} {v2 : Int32} {v3 : Int32} {v4 : Int32} {v6 : Int32} {hi : HI} {hl : HL} {z : (Int32 × Int32 × Int32 × Int32 × HI × HL) ⊕ (Int32 × Int32 × Int32 × HI × HL)} {OUT : Option Value × HI × HL} (h : B_MD_count_13 N v1 v5 v2 v3 v4 v6 hi hl = some z) (hk : Sum.elim (fun s => EX w0 ev 0 m_MD_count 13 [(0, .ref 65), (1, .int (v1)), (2, .int (s.1)), (3, .int (s.2.1)), (4, .int (s.2.2.1)), (5, .int (v5)), (6, .int (s.2.2.2.1))] [] (s.2.2.2.2.1) (s.2.2.2.2.2) OUT) (fun x => EX w0 ev 0 m_MD_count 78 [(0, .ref 65), (1, .int (v1)), (2, .int (x.1)), (3, .int (x.2.1)), (4, .int (x.2.2.1)), (5, .int (v5))] [] (x.2.2.2.1) (x.2.2.2.2) OUT) z) : EX w0 ev 0 m_MD_count 13 [(0, .ref 65), (1, .int (v1)), (2, .int (v2)), (3, .int (v3)), (4, .int (v4)), (5, .int (v5)), (6, .int (v6))] [] (hi) (hl) OUT := by
  unfold B_MD_count_13 at h
  refine EX.iload (x := v6) rfl (List.mem_of_getElem? (i := 6) rfl) ?_
  refine EX.aload_n (x := 65) rfl (List.mem_of_getElem? (i := 0) rfl) ?_
  refine EX.go (i := .getfield 116) (len := 3) (pc1 := 19) (st1 := [.int (hi 65 2), .int (v6)]) (hi1 := hi) (hl1 := hl) rfl ?_ (fun _ _ _ => rfl)
  rcases ite_some h with ⟨c1, h⟩ | ⟨c1, h⟩
  · refine EX.go (i := .if_icmp .ge 59) (len := 3) (pc1 := 78) (st1 := []) (hi1 := hi) (hl1 := hl) rfl ?_ (fun _ _ _ => if_pos c1)
    obtain rfl := Option.some.inj h
    have hk : EX w0 ev 0 m_MD_count 78 [(0, .ref 65), (1, .int (v1)), (2, .int (v2)), (3, .int (v3)), (4, .int (v4)), (5, .int (v5))] [] (hi) (hl) OUT := hk
    exact EX.pick [0, 1, 2, 3, 4, 5] hk rfl
  · refine EX.go (i := .if_icmp .ge 59) (len := 3) (pc1 := 22) (st1 := []) (hi1 := hi) (hl1 := hl) rfl ?_ (fun _ _ _ => if_neg c1)
    refine EX.iload_n (x := v2) rfl (List.mem_of_getElem? (i := 2) rfl) ?_
    refine EX.aload_n (x := 65) rfl (List.mem_of_getElem? (i := 0) rfl) ?_
    refine EX.go (i := .getfield 26) (len := 3) (pc1 := 27) (st1 := [.ref 69, .int (v2)]) (hi1 := hi) (hl1 := hl) rfl ?_ (fun _ _ _ => rfl)
    refine EX.iload (x := v6) rfl (List.mem_of_getElem? (i := 6) rfl) ?_
    obtain ⟨g2, h⟩ := grd_some h
    refine EX.iaload rfl rfl g2 ?_
    refine EX.iconst (v := 1) rfl rfl ?_
    rcases ite_some h with ⟨c3, h⟩ | ⟨c3, h⟩
    · refine EX.go (i := .if_icmp .ne 7) (len := 3) (pc1 := 34) (st1 := [.int (v2)]) (hi1 := hi) (hl1 := hl) rfl ?_ (fun _ _ _ => if_pos c3)
      refine EX.iconst (v := 1) rfl rfl ?_
      refine EX.go (i := .goto 4) (len := 3) (pc1 := 39) (st1 := [.int (1), .int (v2)]) (hi1 := hi) (hl1 := hl) rfl ?_ (fun _ _ _ => rfl)
      refine EX.pick [0, 1, 3, 4, 5, 6] ?_ rfl
      exact bJ_MD_count_39 ev h hk
    · refine EX.go (i := .if_icmp .ne 7) (len := 3) (pc1 := 38) (st1 := [.int (v2)]) (hi1 := hi) (hl1 := hl) rfl ?_ (fun _ _ _ => if_neg c3)
      refine EX.iconst (v := 0) rfl rfl ?_
      refine EX.pick [0, 1, 3, 4, 5, 6] ?_ rfl
      exact bJ_MD_count_39 ev h hk
def J_MD_count_109 (N : Nat) (v1 : Int32) (v2 : Int32) (v3 : Int32) (v4 : Int32) (v6 : Int32) (s0 : Int32) (s1 : Int32) (hi : HI) (hl : HL) : Option ((Int32 × Int32 × HI × HL) ⊕ (Int32 × HI × HL)) :=
  some (.inl ((s1 + s0), v6 + 1, hi, hl))
set_option maxRecDepth 10000 in
set_option maxHeartbeats 4000000 in
theorem bJ_MD_count_109 (ev : EV) {N : Nat} {v1 : Int32} {v2 : Int32} {v3 : Int32} {v4 : Int32} {v6 : Int32} {s0 : Int32} {s1 : Int32} {hi : HI} {hl : HL} {z : (Int32 × Int32 × HI × HL) ⊕ (Int32 × HI × HL)} {OUT : Option Value × HI × HL} (h : J_MD_count_109 N v1 v2 v3 v4 v6 s0 s1 hi hl = some z) (hk : Sum.elim (fun s => EX w0 ev 0 m_MD_count 81 [(0, .ref 65), (1, .int (v1)), (2, .int (v2)), (3, .int (v3)), (4, .int (v4)), (5, .int (s.1)), (6, .int (s.2.1))] [] (s.2.2.1) (s.2.2.2) OUT) (fun x => EX w0 ev 0 m_MD_count 118 [(0, .ref 65), (1, .int (v1)), (2, .int (v2)), (3, .int (v3)), (4, .int (v4)), (5, .int (x.1))] [] (x.2.1) (x.2.2) OUT) z) : EX w0 ev 0 m_MD_count 109 [(0, .ref 65), (1, .int (v1)), (2, .int (v2)), (3, .int (v3)), (4, .int (v4)), (6, .int (v6))] [.int (s0), .int (s1)] (hi) (hl) OUT := by
  unfold J_MD_count_109 at h
  refine EX.go (i := .iadd) (len := 1) (pc1 := 110) (st1 := [.int ((s1 + s0))]) (hi1 := hi) (hl1 := hl) rfl ?_ (fun _ _ _ => rfl)
  refine EX.istore (req1 := [(5, .int ((s1 + s0))), (0, .ref 65), (1, .int (v1)), (2, .int (v2)), (3, .int (v3)), (4, .int (v4)), (6, .int (v6))]) rfl rfl rfl ?_
  refine EX.iinc (x := v6) (v := v6 + 1) (req1 := [(6, .int (v6 + 1)), (5, .int ((s1 + s0))), (0, .ref 65), (1, .int (v1)), (2, .int (v2)), (3, .int (v3)), (4, .int (v4))]) rfl rfl (List.mem_of_getElem? (i := 6) rfl) rfl rfl ?_
  refine EX.go (i := .goto (-34)) (len := 3) (pc1 := 81) (st1 := []) (hi1 := hi) (hl1 := hl) rfl ?_ (fun _ _ _ => rfl)
  obtain rfl := Option.some.inj h
  have hk : EX w0 ev 0 m_MD_count 81 [(0, .ref 65), (1, .int (v1)), (2, .int (v2)), (3, .int (v3)), (4, .int (v4)), (5, .int ((s1 + s0))), (6, .int (v6 + 1))] [] (hi) (hl) OUT := hk
  exact EX.pick [2, 3, 4, 5, 6, 1, 0] hk rfl
def B_MD_count_81 (N : Nat) (v1 : Int32) (v2 : Int32) (v3 : Int32) (v4 : Int32) (v5 : Int32) (v6 : Int32) (hi : HI) (hl : HL) : Option ((Int32 × Int32 × HI × HL) ⊕ (Int32 × HI × HL)) :=
  if (hi 65 23 : Int32) ≤ (v6 : Int32) then some (.inr (v5, hi, hl)) else if (v6 : Int32) < 0 ∨ 12 ≤ Int32.toNatClampNeg (v6) then none else if (hi 85 (Int32.toNatClampNeg (v6)) : Int32) = ((-4) : Int32) then J_MD_count_109 N (v1) (v2) (v3) (v4) (v6) (0) (v5) (hi) (hl) else J_MD_count_109 N (v1) (v2) (v3) (v4) (v6) (1) (v5) (hi) (hl)
set_option maxRecDepth 10000 in
set_option maxHeartbeats 4000000 in
theorem bB_MD_count_81 (ev : EV) {N : Nat} {v1 : Int32} {v2 : Int32} {v3 : Int32} {v4 : Int32} {v5 : Int32} {v6 : Int32} {hi : HI} {hl : HL} {z : (Int32 × Int32 × HI × HL) ⊕ (Int32 × HI × HL)} {OUT : Option Value × HI × HL} (h : B_MD_count_81 N v1 v2 v3 v4 v5 v6 hi hl = some z) (hk : Sum.elim (fun s => EX w0 ev 0 m_MD_count 81 [(0, .ref 65), (1, .int (v1)), (2, .int (v2)), (3, .int (v3)), (4, .int (v4)), (5, .int (s.1)), (6, .int (s.2.1))] [] (s.2.2.1) (s.2.2.2) OUT) (fun x => EX w0 ev 0 m_MD_count 118 [(0, .ref 65), (1, .int (v1)), (2, .int (v2)), (3, .int (v3)), (4, .int (v4)), (5, .int (x.1))] [] (x.2.1) (x.2.2) OUT) z) : EX w0 ev 0 m_MD_count 81 [(0, .ref 65), (1, .int (v1)), (2, .int (v2)), (3, .int (v3)), (4, .int (v4)), (5, .int (v5)), (6, .int (v6))] [] (hi) (hl) OUT := by
  unfold B_MD_count_81 at h
  refine EX.iload (x := v6) rfl (List.mem_of_getElem? (i := 6) rfl) ?_
  refine EX.aload_n (x := 65) rfl (List.mem_of_getElem? (i := 0) rfl) ?_
  refine EX.go (i := .getfield 119) (len := 3) (pc1 := 87) (st1 := [.int (hi 65 23), .int (v6)]) (hi1 := hi) (hl1 := hl) rfl ?_ (fun _ _ _ => rfl)
  rcases ite_some h with ⟨c8, h⟩ | ⟨c8, h⟩
  · refine EX.go (i := .if_icmp .ge 31) (len := 3) (pc1 := 118) (st1 := []) (hi1 := hi) (hl1 := hl) rfl ?_ (fun _ _ _ => if_pos c8)
    obtain rfl := Option.some.inj h
    have hk : EX w0 ev 0 m_MD_count 118 [(0, .ref 65), (1, .int (v1)), (2, .int (v2)), (3, .int (v3)), (4, .int (v4)), (5, .int (v5))] [] (hi) (hl) OUT := hk
    exact EX.pick [0, 1, 2, 3, 4, 5] hk rfl
  · refine EX.go (i := .if_icmp .ge 31) (len := 3) (pc1 := 90) (st1 := []) (hi1 := hi) (hl1 := hl) rfl ?_ (fun _ _ _ => if_neg c8)
    refine EX.iload (x := v5) rfl (List.mem_of_getElem? (i := 5) rfl) ?_
    refine EX.aload_n (x := 65) rfl (List.mem_of_getElem? (i := 0) rfl) ?_
    refine EX.go (i := .getfield 78) (len := 3) (pc1 := 96) (st1 := [.ref 85, .int (v5)]) (hi1 := hi) (hl1 := hl) rfl ?_ (fun _ _ _ => rfl)
    refine EX.iload (x := v6) rfl (List.mem_of_getElem? (i := 6) rfl) ?_
    obtain ⟨g9, h⟩ := grd_some h
    refine EX.iaload rfl rfl g9 ?_
    refine EX.bipush (v := (-4)) rfl rfl ?_
    rcases ite_some h with ⟨c10, h⟩ | ⟨c10, h⟩
    · refine EX.go (i := .if_icmp .ne 7) (len := 3) (pc1 := 104) (st1 := [.int (v5)]) (hi1 := hi) (hl1 := hl) rfl ?_ (fun _ _ _ => if_pos c10)
      refine EX.iconst (v := 0) rfl rfl ?_
      refine EX.go (i := .goto 4) (len := 3) (pc1 := 109) (st1 := [.int (0), .int (v5)]) (hi1 := hi) (hl1 := hl) rfl ?_ (fun _ _ _ => rfl)
      refine EX.pick [0, 1, 2, 3, 4, 6] ?_ rfl
      exact bJ_MD_count_109 ev h hk
    · refine EX.go (i := .if_icmp .ne 7) (len := 3) (pc1 := 108) (st1 := [.int (v5)]) (hi1 := hi) (hl1 := hl) rfl ?_ (fun _ _ _ => if_neg c10)
      refine EX.iconst (v := 1) rfl rfl ?_
      refine EX.pick [0, 1, 2, 3, 4, 6] ?_ rfl
      exact bJ_MD_count_109 ev h hk
def f_MD_count (N : Nat) (p1 : Int32) (hi : HI) (hl : HL) : Option (Int32 × HI × HL) :=
  (lpN (fun s => B_MD_count_13 N (p1) (0) s.1 s.2.1 s.2.2.1 s.2.2.2.1 s.2.2.2.2.1 s.2.2.2.2.2) N (0, 0, 0, 0, hi, hl)).bind fun x7 => (lpN (fun s => B_MD_count_81 N (p1) (x7.1) (x7.2.1) (x7.2.2.1) s.1 s.2.1 s.2.2.1 s.2.2.2) N (0, 0, x7.2.2.2.1, x7.2.2.2.2)).bind fun x11 => if (p1 : Int32) = 0 then some (x11.2.1 65 0, x11.2.1, x11.2.2) else if (p1 : Int32) = 1 then some (x11.2.1 65 2, x11.2.1, x11.2.2) else if (p1 : Int32) = 2 then some (x11.2.1 65 1, x11.2.1, x11.2.2) else if (p1 : Int32) = 3 then some (x7.1, x11.2.1, x11.2.2) else if (p1 : Int32) = 4 then some (x7.2.1, x11.2.1, x11.2.2) else if (p1 : Int32) = 5 then some (x11.2.1 65 23, x11.2.1, x11.2.2) else if (p1 : Int32) = 6 then some (x11.1, x11.2.1, x11.2.2) else if (p1 : Int32) = 7 then some (x7.2.2.1, x11.2.1, x11.2.2) else if (p1 : Int32) = 8 then some (x11.2.1 65 31, x11.2.1, x11.2.2) else if (p1 : Int32) = 9 then if (0 : Int32) < 0 ∨ 4 ≤ Int32.toNatClampNeg (0) then none else if (x11.2.1 92 (Int32.toNatClampNeg (0)) : Int32) = ((-4) : Int32) then some ((-4), x11.2.1, x11.2.2) else if (0 : Int32) < 0 ∨ 4 ≤ Int32.toNatClampNeg (0) then none else some (x11.2.1 93 (Int32.toNatClampNeg (0)), x11.2.1, x11.2.2) else some ((-1), x11.2.1, x11.2.2)
set_option maxRecDepth 10000 in
set_option maxHeartbeats 4000000 in
theorem b_MD_count (ev : EV) {N : Nat} {p1 : Int32} {hi : HI} {hl : HL} {o : Int32 × HI × HL} (h : f_MD_count N p1 hi hl = some o) : EM w0 ev 1 m_MD_count [.ref 65, .int (p1)] hi hl (oI o) := by
  unfold f_MD_count at h
  refine EM.of rfl ?_
  show EX w0 ev 0 m_MD_count 0 [(0, .ref 65), (1, .int (p1))] [] (hi) (hl) (oI o)
  refine EX.iconst (v := 0) rfl rfl ?_
  refine EX.istore_n (req1 := [(2, .int (0)), (0, .ref 65), (1, .int (p1))]) rfl rfl rfl ?_
  refine EX.iconst (v := 0) rfl rfl ?_
  refine EX.istore_n (req1 := [(3, .int (0)), (2, .int (0)), (0, .ref 65), (1, .int (p1))]) rfl rfl rfl ?_
  refine EX.iconst (v := 0) rfl rfl ?_
  refine EX.istore (req1 := [(4, .int (0)), (3, .int (0)), (2, .int (0)), (0, .ref 65), (1, .int (p1))]) rfl rfl rfl ?_
  refine EX.iconst (v := 0) rfl rfl ?_
  refine EX.istore (req1 := [(5, .int (0)), (4, .int (0)), (3, .int (0)), (2, .int (0)), (0, .ref 65), (1, .int (p1))]) rfl rfl rfl ?_
  refine EX.iconst (v := 0) rfl rfl ?_
  refine EX.istore (req1 := [(6, .int (0)), (5, .int (0)), (4, .int (0)), (3, .int (0)), (2, .int (0)), (0, .ref 65), (1, .int (p1))]) rfl rfl rfl ?_
  obtain ⟨x7, hx7, h⟩ := bnd_some h
  refine EX.pick [5, 6, 4, 3, 2, 1, 0] ?_ rfl
  refine lp_sound (f := fun s => B_MD_count_13 N (p1) (0) s.1 s.2.1 s.2.2.1 s.2.2.2.1 s.2.2.2.2.1 s.2.2.2.2.2) (PS := fun s => EX w0 ev 0 m_MD_count 13 [(0, .ref 65), (1, .int (p1)), (2, .int (s.1)), (3, .int (s.2.1)), (4, .int (s.2.2.1)), (5, .int (0)), (6, .int (s.2.2.2.1))] [] (s.2.2.2.2.1) (s.2.2.2.2.2) (oI o)) (PX := fun x => EX w0 ev 0 m_MD_count 78 [(0, .ref 65), (1, .int (p1)), (2, .int (x.1)), (3, .int (x.2.1)), (4, .int (x.2.2.1)), (5, .int (0))] [] (x.2.2.2.1) (x.2.2.2.2) (oI o)) ?_ N _ x7 hx7 ?_
  · exact fun s z hz hk => bB_MD_count_13 ev hz hk
  show EX w0 ev 0 m_MD_count 78 [(0, .ref 65), (1, .int (p1)), (2, .int (x7.1)), (3, .int (x7.2.1)), (4, .int (x7.2.2.1)), (5, .int (0))] [] (x7.2.2.2.1) (x7.2.2.2.2) (oI o)
  refine EX.iconst (v := 0) rfl rfl ?_
  refine EX.istore (req1 := [(6, .int (0)), (0, .ref 65), (1, .int (p1)), (2, .int (x7.1)), (3, .int (x7.2.1)), (4, .int (x7.2.2.1)), (5, .int (0))]) rfl rfl rfl ?_
  obtain ⟨x11, hx11, h⟩ := bnd_some h
  refine EX.pick [1, 2, 3, 4, 5, 6, 0] ?_ rfl
  refine lp_sound (f := fun s => B_MD_count_81 N (p1) (x7.1) (x7.2.1) (x7.2.2.1) s.1 s.2.1 s.2.2.1 s.2.2.2) (PS := fun s => EX w0 ev 0 m_MD_count 81 [(0, .ref 65), (1, .int (p1)), (2, .int (x7.1)), (3, .int (x7.2.1)), (4, .int (x7.2.2.1)), (5, .int (s.1)), (6, .int (s.2.1))] [] (s.2.2.1) (s.2.2.2) (oI o)) (PX := fun x => EX w0 ev 0 m_MD_count 118 [(0, .ref 65), (1, .int (p1)), (2, .int (x7.1)), (3, .int (x7.2.1)), (4, .int (x7.2.2.1)), (5, .int (x.1))] [] (x.2.1) (x.2.2) (oI o)) ?_ N _ x11 hx11 ?_
  · exact fun s z hz hk => bB_MD_count_81 ev hz hk
  show EX w0 ev 0 m_MD_count 118 [(0, .ref 65), (1, .int (p1)), (2, .int (x7.1)), (3, .int (x7.2.1)), (4, .int (x7.2.2.1)), (5, .int (x11.1))] [] (x11.2.1) (x11.2.2) (oI o)
  refine EX.iload_n (x := p1) rfl (List.mem_of_getElem? (i := 1) rfl) ?_
  rcases ite_some h with ⟨c12, h⟩ | ⟨c12, h⟩
  · refine EX.tswI (x := p1) (k := 0) (pc1 := 172) rfl c12 (fun _ _ _ => rfl) ?_
    refine EX.aload_n (x := 65) rfl (List.mem_of_getElem? (i := 0) rfl) ?_
    refine EX.go (i := .getfield 7) (len := 3) (pc1 := 176) (st1 := [.int (x11.2.1 65 0)]) (hi1 := x11.2.1) (hl1 := x11.2.2) rfl ?_ (fun _ _ _ => rfl)
    obtain rfl := Option.some.inj h
    exact EX.iret rfl rfl
  · rcases ite_some h with ⟨c13, h⟩ | ⟨c13, h⟩
    · refine EX.tswI (x := p1) (k := 1) (pc1 := 177) rfl c13 (fun _ _ _ => rfl) ?_
      refine EX.aload_n (x := 65) rfl (List.mem_of_getElem? (i := 0) rfl) ?_
      refine EX.go (i := .getfield 116) (len := 3) (pc1 := 181) (st1 := [.int (x11.2.1 65 2)]) (hi1 := x11.2.1) (hl1 := x11.2.2) rfl ?_ (fun _ _ _ => rfl)
      obtain rfl := Option.some.inj h
      exact EX.iret rfl rfl
    · rcases ite_some h with ⟨c14, h⟩ | ⟨c14, h⟩
      · refine EX.tswI (x := p1) (k := 2) (pc1 := 182) rfl c14 (fun _ _ _ => rfl) ?_
        refine EX.aload_n (x := 65) rfl (List.mem_of_getElem? (i := 0) rfl) ?_
        refine EX.go (i := .getfield 13) (len := 3) (pc1 := 186) (st1 := [.int (x11.2.1 65 1)]) (hi1 := x11.2.1) (hl1 := x11.2.2) rfl ?_ (fun _ _ _ => rfl)
        obtain rfl := Option.some.inj h
        exact EX.iret rfl rfl
      · rcases ite_some h with ⟨c15, h⟩ | ⟨c15, h⟩
        · refine EX.tswI (x := p1) (k := 3) (pc1 := 187) rfl c15 (fun _ _ _ => rfl) ?_
          refine EX.iload_n (x := x7.1) rfl (List.mem_of_getElem? (i := 2) rfl) ?_
          obtain rfl := Option.some.inj h
          exact EX.iret rfl rfl
        · rcases ite_some h with ⟨c16, h⟩ | ⟨c16, h⟩
          · refine EX.tswI (x := p1) (k := 4) (pc1 := 189) rfl c16 (fun _ _ _ => rfl) ?_
            refine EX.iload_n (x := x7.2.1) rfl (List.mem_of_getElem? (i := 3) rfl) ?_
            obtain rfl := Option.some.inj h
            exact EX.iret rfl rfl
          · rcases ite_some h with ⟨c17, h⟩ | ⟨c17, h⟩
            · refine EX.tswI (x := p1) (k := 5) (pc1 := 191) rfl c17 (fun _ _ _ => rfl) ?_
              refine EX.aload_n (x := 65) rfl (List.mem_of_getElem? (i := 0) rfl) ?_
              refine EX.go (i := .getfield 119) (len := 3) (pc1 := 195) (st1 := [.int (x11.2.1 65 23)]) (hi1 := x11.2.1) (hl1 := x11.2.2) rfl ?_ (fun _ _ _ => rfl)
              obtain rfl := Option.some.inj h
              exact EX.iret rfl rfl
            · rcases ite_some h with ⟨c18, h⟩ | ⟨c18, h⟩
              · refine EX.tswI (x := p1) (k := 6) (pc1 := 196) rfl c18 (fun _ _ _ => rfl) ?_
                refine EX.iload (x := x11.1) rfl (List.mem_of_getElem? (i := 5) rfl) ?_
                obtain rfl := Option.some.inj h
                exact EX.iret rfl rfl
              · rcases ite_some h with ⟨c19, h⟩ | ⟨c19, h⟩
                · refine EX.tswI (x := p1) (k := 7) (pc1 := 199) rfl c19 (fun _ _ _ => rfl) ?_
                  refine EX.iload (x := x7.2.2.1) rfl (List.mem_of_getElem? (i := 4) rfl) ?_
                  obtain rfl := Option.some.inj h
                  exact EX.iret rfl rfl
                · rcases ite_some h with ⟨c20, h⟩ | ⟨c20, h⟩
                  · refine EX.tswI (x := p1) (k := 8) (pc1 := 202) rfl c20 (fun _ _ _ => rfl) ?_
                    refine EX.aload_n (x := 65) rfl (List.mem_of_getElem? (i := 0) rfl) ?_
                    refine EX.go (i := .getfield 225) (len := 3) (pc1 := 206) (st1 := [.int (x11.2.1 65 31)]) (hi1 := x11.2.1) (hl1 := x11.2.2) rfl ?_ (fun _ _ _ => rfl)
                    obtain rfl := Option.some.inj h
                    exact EX.iret rfl rfl
                  · rcases ite_some h with ⟨c21, h⟩ | ⟨c21, h⟩
                    · refine EX.tswI (x := p1) (k := 9) (pc1 := 207) rfl c21 (fun _ _ _ => rfl) ?_
                      refine EX.aload_n (x := 65) rfl (List.mem_of_getElem? (i := 0) rfl) ?_
                      refine EX.go (i := .getfield 99) (len := 3) (pc1 := 211) (st1 := [.ref 92]) (hi1 := x11.2.1) (hl1 := x11.2.2) rfl ?_ (fun _ _ _ => rfl)
                      refine EX.iconst (v := 0) rfl rfl ?_
                      obtain ⟨g22, h⟩ := grd_some h
                      refine EX.iaload rfl rfl g22 ?_
                      refine EX.bipush (v := (-4)) rfl rfl ?_
                      rcases ite_some h with ⟨c23, h⟩ | ⟨c23, h⟩
                      · refine EX.go (i := .if_icmp .ne 8) (len := 3) (pc1 := 218) (st1 := []) (hi1 := x11.2.1) (hl1 := x11.2.2) rfl ?_ (fun _ _ _ => if_pos c23)
                        refine EX.bipush (v := (-4)) rfl rfl ?_
                        refine EX.go (i := .goto 9) (len := 3) (pc1 := 229) (st1 := [.int ((-4))]) (hi1 := x11.2.1) (hl1 := x11.2.2) rfl ?_ (fun _ _ _ => rfl)
                        obtain rfl := Option.some.inj h
                        exact EX.iret rfl rfl
                      · refine EX.go (i := .if_icmp .ne 8) (len := 3) (pc1 := 223) (st1 := []) (hi1 := x11.2.1) (hl1 := x11.2.2) rfl ?_ (fun _ _ _ => if_neg c23)
                        refine EX.aload_n (x := 65) rfl (List.mem_of_getElem? (i := 0) rfl) ?_
                        refine EX.go (i := .getfield 102) (len := 3) (pc1 := 227) (st1 := [.ref 93]) (hi1 := x11.2.1) (hl1 := x11.2.2) rfl ?_ (fun _ _ _ => rfl)
                        refine EX.iconst (v := 0) rfl rfl ?_
                        obtain ⟨g24, h⟩ := grd_some h
                        refine EX.iaload rfl rfl g24 ?_
                        obtain rfl := Option.some.inj h
                        exact EX.iret rfl rfl
                    · refine EX.tswO (x := p1) (pc1 := 230) rfl (by have e0 := lv_neT c12 (show (0 : Int32).toInt = 0 from rfl); have e1 := lv_neT c13 (show (1 : Int32).toInt = 1 from rfl); have e2 := lv_neT c14 (show (2 : Int32).toInt = 2 from rfl); have e3 := lv_neT c15 (show (3 : Int32).toInt = 3 from rfl); have e4 := lv_neT c16 (show (4 : Int32).toInt = 4 from rfl); have e5 := lv_neT c17 (show (5 : Int32).toInt = 5 from rfl); have e6 := lv_neT c18 (show (6 : Int32).toInt = 6 from rfl); have e7 := lv_neT c19 (show (7 : Int32).toInt = 7 from rfl); have e8 := lv_neT c20 (show (8 : Int32).toInt = 8 from rfl); have e9 := lv_neT c21 (show (9 : Int32).toInt = 9 from rfl); omega) rfl rfl ?_
                      refine EX.iconst (v := (-1)) rfl rfl ?_
                      obtain rfl := Option.some.inj h
                      exact EX.iret rfl rfl
def J_LA_law_1166 (ev : EV) (N : Nat) (v3 : Int32) (hi : HI) (hl : HL) : Option ((Int32 × HI × HL) ⊕ (Nat × HI × HL)) :=
  some (.inl (v3 + 4, hi, hl))
set_option maxRecDepth 10000 in
set_option maxHeartbeats 4000000 in
theorem bJ_LA_law_1166 (ev : EV) {N : Nat} {v3 : Int32} {hi : HI} {hl : HL} {z : (Int32 × HI × HL) ⊕ (Nat × HI × HL)} {OUT : Option Value × HI × HL} (h : J_LA_law_1166 ev N v3 hi hl = some z) (hk : Sum.elim (fun s => EX w0 ev 29 m_LA_law 18 [(0, .ref 1000010), (1, .ref 0), (2, .ref 65), (3, .int (s.1))] [] (s.2.1) (s.2.2) OUT) (fun x => (x.1 = 0 → EX w0 ev 29 m_LA_law 1172 [] [] (x.2.1) (x.2.2) OUT) ∧ (x.1 = 1 → EX w0 ev 29 m_LA_law 205 [] [] (x.2.1) (x.2.2) OUT) ∧ (x.1 = 2 → EX w0 ev 29 m_LA_law 228 [] [] (x.2.1) (x.2.2) OUT) ∧ (x.1 = 3 → EX w0 ev 29 m_LA_law 271 [] [] (x.2.1) (x.2.2) OUT) ∧ (x.1 = 4 → EX w0 ev 29 m_LA_law 304 [] [] (x.2.1) (x.2.2) OUT) ∧ (x.1 = 5 → EX w0 ev 29 m_LA_law 337 [] [] (x.2.1) (x.2.2) OUT) ∧ (x.1 = 6 → EX w0 ev 29 m_LA_law 370 [] [] (x.2.1) (x.2.2) OUT) ∧ (x.1 = 7 → EX w0 ev 29 m_LA_law 403 [] [] (x.2.1) (x.2.2) OUT) ∧ (x.1 = 8 → EX w0 ev 29 m_LA_law 426 [] [] (x.2.1) (x.2.2) OUT) ∧ (x.1 = 9 → EX w0 ev 29 m_LA_law 449 [] [] (x.2.1) (x.2.2) OUT) ∧ (x.1 = 10 → EX w0 ev 29 m_LA_law 472 [] [] (x.2.1) (x.2.2) OUT) ∧ (x.1 = 11 → EX w0 ev 29 m_LA_law 495 [] [] (x.2.1) (x.2.2) OUT) ∧ (x.1 = 12 → EX w0 ev 29 m_LA_law 528 [] [] (x.2.1) (x.2.2) OUT) ∧ (x.1 = 13 → EX w0 ev 29 m_LA_law 541 [] [] (x.2.1) (x.2.2) OUT) ∧ (x.1 = 14 → EX w0 ev 29 m_LA_law 564 [] [] (x.2.1) (x.2.2) OUT) ∧ (x.1 = 15 → EX w0 ev 29 m_LA_law 597 [] [] (x.2.1) (x.2.2) OUT) ∧ (x.1 = 16 → EX w0 ev 29 m_LA_law 620 [] [] (x.2.1) (x.2.2) OUT) ∧ (x.1 = 17 → EX w0 ev 29 m_LA_law 653 [] [] (x.2.1) (x.2.2) OUT) ∧ (x.1 = 18 → EX w0 ev 29 m_LA_law 676 [] [] (x.2.1) (x.2.2) OUT) ∧ (x.1 = 19 → EX w0 ev 29 m_LA_law 729 [] [] (x.2.1) (x.2.2) OUT) ∧ (x.1 = 20 → EX w0 ev 29 m_LA_law 752 [] [] (x.2.1) (x.2.2) OUT) ∧ (x.1 = 21 → EX w0 ev 29 m_LA_law 765 [] [] (x.2.1) (x.2.2) OUT) ∧ (x.1 = 22 → EX w0 ev 29 m_LA_law 778 [] [] (x.2.1) (x.2.2) OUT) ∧ (x.1 = 23 → EX w0 ev 29 m_LA_law 811 [] [] (x.2.1) (x.2.2) OUT) ∧ (x.1 = 24 → EX w0 ev 29 m_LA_law 834 [] [] (x.2.1) (x.2.2) OUT) ∧ (x.1 = 25 → EX w0 ev 29 m_LA_law 867 [] [] (x.2.1) (x.2.2) OUT) ∧ (x.1 = 26 → EX w0 ev 29 m_LA_law 890 [] [] (x.2.1) (x.2.2) OUT) ∧ (x.1 = 27 → EX w0 ev 29 m_LA_law 923 [] [] (x.2.1) (x.2.2) OUT) ∧ (x.1 = 28 → EX w0 ev 29 m_LA_law 946 [] [] (x.2.1) (x.2.2) OUT) ∧ (x.1 = 29 → EX w0 ev 29 m_LA_law 969 [] [] (x.2.1) (x.2.2) OUT) ∧ (x.1 = 30 → EX w0 ev 29 m_LA_law 1012 [] [] (x.2.1) (x.2.2) OUT) ∧ (x.1 = 31 → EX w0 ev 29 m_LA_law 1055 [] [] (x.2.1) (x.2.2) OUT) ∧ (x.1 = 32 → EX w0 ev 29 m_LA_law 1098 [] [] (x.2.1) (x.2.2) OUT) ∧ (x.1 = 33 → EX w0 ev 29 m_LA_law 1141 [] [] (x.2.1) (x.2.2) OUT) ∧ (x.1 = 34 → EX w0 ev 29 m_LA_law 1164 [] [] (x.2.1) (x.2.2) OUT)) z) : EX w0 ev 29 m_LA_law 1166 [(0, .ref 1000010), (1, .ref 0), (2, .ref 65), (3, .int (v3))] [] (hi) (hl) OUT := by
  unfold J_LA_law_1166 at h
  refine EX.iinc (x := v3) (v := v3 + 4) (req1 := [(3, .int (v3 + 4)), (0, .ref 1000010), (1, .ref 0), (2, .ref 65)]) rfl rfl (List.mem_of_getElem? (i := 3) rfl) rfl rfl ?_
  refine EX.go (i := .goto (-1151)) (len := 3) (pc1 := 18) (st1 := []) (hi1 := hi) (hl1 := hl) rfl ?_ (fun _ _ _ => rfl)
  obtain rfl := Option.some.inj h
  have hk : EX w0 ev 29 m_LA_law 18 [(0, .ref 1000010), (1, .ref 0), (2, .ref 65), (3, .int (v3 + 4))] [] (hi) (hl) OUT := hk
  exact EX.pick [1, 2, 3, 0] hk rfl
def B_LA_law_18 (ev : EV) (N : Nat) (v3 : Int32) (hi : HI) (hl : HL) : Option ((Int32 × HI × HL) ⊕ (Nat × HI × HL)) :=
  if ((((Int32.ofNat ev.1) : Int32) - (4)) : Int32) < (v3 : Int32) then some (.inr (0, hi, hl)) else if (v3 : Int32) < 0 ∨ ev.1 ≤ Int32.toNatClampNeg (v3) then none else if ((((ev.2 (v3).toNatClampNeg) : Int32) &&& (63)) : Int32) = 0 then if ((v3 + (1)) : Int32) < 0 ∨ ev.1 ≤ Int32.toNatClampNeg ((v3 + (1))) then none else (f_LW_wires N ((ev.2 ((v3 + (1))).toNatClampNeg)) (hi) (hl)).bind fun z5 => if ((v3 + (1)) : Int32) < 0 ∨ ev.1 ≤ Int32.toNatClampNeg ((v3 + (1))) then none else (f_MD_wires N ((ev.2 ((v3 + (1))).toNatClampNeg)) (z5.2.1) (z5.2.2)).bind fun z7 => if (z5.1 : Int32) = (z7.1 : Int32) then J_LA_law_1166 ev N (v3) (z7.2.1) (z7.2.2) else some (.inr (1, z7.2.1, z7.2.2)) else if ((((ev.2 (v3).toNatClampNeg) : Int32) &&& (63)) : Int32) = 1 then if ((v3 + (1)) : Int32) < 0 ∨ ev.1 ≤ Int32.toNatClampNeg ((v3 + (1))) then none else (f_LW_supply N ((ev.2 ((v3 + (1))).toNatClampNeg)) (hi) (hl)).bind fun z11 => if ((v3 + (1)) : Int32) < 0 ∨ ev.1 ≤ Int32.toNatClampNeg ((v3 + (1))) then none else (f_MD_supply N ((ev.2 ((v3 + (1))).toNatClampNeg)) (z11.2.1) (z11.2.2)).bind fun z13 => if (z11.1 : Int32) = (z13.1 : Int32) then J_LA_law_1166 ev N (v3) (z13.2.1) (z13.2.2) else some (.inr (2, z13.2.1, z13.2.2)) else if ((((ev.2 (v3).toNatClampNeg) : Int32) &&& (63)) : Int32) = 2 then if ((v3 + (1)) : Int32) < 0 ∨ ev.1 ≤ Int32.toNatClampNeg ((v3 + (1))) then none else if ((v3 + (2)) : Int32) < 0 ∨ ev.1 ≤ Int32.toNatClampNeg ((v3 + (2))) then none else if ((v3 + (3)) : Int32) < 0 ∨ ev.1 ≤ Int32.toNatClampNeg ((v3 + (3))) then none else (f_LW_lamp N ((ev.2 ((v3 + (1))).toNatClampNeg)) ((ev.2 ((v3 + (2))).toNatClampNeg)) ((ev.2 ((v3 + (3))).toNatClampNeg)) (hi) (hl)).bind fun z19 => if ((v3 + (1)) : Int32) < 0 ∨ ev.1 ≤ Int32.toNatClampNeg ((v3 + (1))) then none else if ((v3 + (2)) : Int32) < 0 ∨ ev.1 ≤ Int32.toNatClampNeg ((v3 + (2))) then none else if ((v3 + (3)) : Int32) < 0 ∨ ev.1 ≤ Int32.toNatClampNeg ((v3 + (3))) then none else (f_MD_lamp N ((ev.2 ((v3 + (1))).toNatClampNeg)) ((ev.2 ((v3 + (2))).toNatClampNeg)) ((ev.2 ((v3 + (3))).toNatClampNeg)) (z19.2.1) (z19.2.2)).bind fun z23 => if (z19.1 : Int32) = (z23.1 : Int32) then J_LA_law_1166 ev N (v3) (z23.2.1) (z23.2.2) else some (.inr (3, z23.2.1, z23.2.2)) else if ((((ev.2 (v3).toNatClampNeg) : Int32) &&& (63)) : Int32) = 3 then if ((v3 + (1)) : Int32) < 0 ∨ ev.1 ≤ Int32.toNatClampNeg ((v3 + (1))) then none else if ((v3 + (2)) : Int32) < 0 ∨ ev.1 ≤ Int32.toNatClampNeg ((v3 + (2))) then none else (f_LW_lampOf N ((ev.2 ((v3 + (1))).toNatClampNeg)) ((ev.2 ((v3 + (2))).toNatClampNeg)) (hi) (hl)).bind fun z28 => if ((v3 + (1)) : Int32) < 0 ∨ ev.1 ≤ Int32.toNatClampNeg ((v3 + (1))) then none else if ((v3 + (2)) : Int32) < 0 ∨ ev.1 ≤ Int32.toNatClampNeg ((v3 + (2))) then none else (f_MD_lampOf N ((ev.2 ((v3 + (1))).toNatClampNeg)) ((ev.2 ((v3 + (2))).toNatClampNeg)) (z28.2.1) (z28.2.2)).bind fun z31 => if (z28.1 : Int32) = (z31.1 : Int32) then J_LA_law_1166 ev N (v3) (z31.2.1) (z31.2.2) else some (.inr (4, z31.2.1, z31.2.2)) else if ((((ev.2 (v3).toNatClampNeg) : Int32) &&& (63)) : Int32) = 4 then if ((v3 + (1)) : Int32) < 0 ∨ ev.1 ≤ Int32.toNatClampNeg ((v3 + (1))) then none else if ((v3 + (2)) : Int32) < 0 ∨ ev.1 ≤ Int32.toNatClampNeg ((v3 + (2))) then none else (f_LW_hurt N ((ev.2 ((v3 + (1))).toNatClampNeg)) ((ev.2 ((v3 + (2))).toNatClampNeg)) (hi) (hl)).bind fun z36 => if ((v3 + (1)) : Int32) < 0 ∨ ev.1 ≤ Int32.toNatClampNeg ((v3 + (1))) then none else if ((v3 + (2)) : Int32) < 0 ∨ ev.1 ≤ Int32.toNatClampNeg ((v3 + (2))) then none else (f_MD_hurt N ((ev.2 ((v3 + (1))).toNatClampNeg)) ((ev.2 ((v3 + (2))).toNatClampNeg)) (z36.2.1) (z36.2.2)).bind fun z39 => if (z36.1 : Int32) = (z39.1 : Int32) then J_LA_law_1166 ev N (v3) (z39.2.1) (z39.2.2) else some (.inr (5, z39.2.1, z39.2.2)) else if ((((ev.2 (v3).toNatClampNeg) : Int32) &&& (63)) : Int32) = 5 then if ((v3 + (1)) : Int32) < 0 ∨ ev.1 ≤ Int32.toNatClampNeg ((v3 + (1))) then none else if ((v3 + (2)) : Int32) < 0 ∨ ev.1 ≤ Int32.toNatClampNeg ((v3 + (2))) then none else (f_LW_between N ((ev.2 ((v3 + (1))).toNatClampNeg)) ((ev.2 ((v3 + (2))).toNatClampNeg)) (hi) (hl)).bind fun z44 => if ((v3 + (1)) : Int32) < 0 ∨ ev.1 ≤ Int32.toNatClampNeg ((v3 + (1))) then none else if ((v3 + (2)) : Int32) < 0 ∨ ev.1 ≤ Int32.toNatClampNeg ((v3 + (2))) then none else (f_MD_between N ((ev.2 ((v3 + (1))).toNatClampNeg)) ((ev.2 ((v3 + (2))).toNatClampNeg)) (z44.2.1) (z44.2.2)).bind fun z47 => if (z44.1 : Int32) = (z47.1 : Int32) then J_LA_law_1166 ev N (v3) (z47.2.1) (z47.2.2) else some (.inr (6, z47.2.1, z47.2.2)) else if ((((ev.2 (v3).toNatClampNeg) : Int32) &&& (63)) : Int32) = 6 then if ((v3 + (1)) : Int32) < 0 ∨ ev.1 ≤ Int32.toNatClampNeg ((v3 + (1))) then none else if ((v3 + (2)) : Int32) < 0 ∨ ev.1 ≤ Int32.toNatClampNeg ((v3 + (2))) then none else (f_LW_glow N ((ev.2 ((v3 + (1))).toNatClampNeg)) ((ev.2 ((v3 + (2))).toNatClampNeg)) (hi) (hl)).bind fun z52 => if ((v3 + (1)) : Int32) < 0 ∨ ev.1 ≤ Int32.toNatClampNeg ((v3 + (1))) then none else if ((v3 + (2)) : Int32) < 0 ∨ ev.1 ≤ Int32.toNatClampNeg ((v3 + (2))) then none else (f_MD_glow N ((ev.2 ((v3 + (1))).toNatClampNeg)) ((ev.2 ((v3 + (2))).toNatClampNeg)) (z52.2.1) (z52.2.2)).bind fun z55 => if (z52.1 : Int32) = (z55.1 : Int32) then J_LA_law_1166 ev N (v3) (z55.2.1) (z55.2.2) else some (.inr (7, z55.2.1, z55.2.2)) else if ((((ev.2 (v3).toNatClampNeg) : Int32) &&& (63)) : Int32) = 7 then if ((v3 + (1)) : Int32) < 0 ∨ ev.1 ≤ Int32.toNatClampNeg ((v3 + (1))) then none else (f_LW_turns N ((ev.2 ((v3 + (1))).toNatClampNeg)) (hi) (hl)).bind fun z59 => if ((v3 + (1)) : Int32) < 0 ∨ ev.1 ≤ Int32.toNatClampNeg ((v3 + (1))) then none else (f_MD_turns N ((ev.2 ((v3 + (1))).toNatClampNeg)) (z59.2.1) (z59.2.2)).bind fun z61 => if (z59.1 : Int32) = (z61.1 : Int32) then J_LA_law_1166 ev N (v3) (z61.2.1) (z61.2.2) else some (.inr (8, z61.2.1, z61.2.2)) else if ((((ev.2 (v3).toNatClampNeg) : Int32) &&& (63)) : Int32) = 8 then if ((v3 + (1)) : Int32) < 0 ∨ ev.1 ≤ Int32.toNatClampNeg ((v3 + (1))) then none else (f_LW_alone N ((ev.2 ((v3 + (1))).toNatClampNeg)) (hi) (hl)).bind fun z65 => if ((v3 + (1)) : Int32) < 0 ∨ ev.1 ≤ Int32.toNatClampNeg ((v3 + (1))) then none else (f_MD_alone N ((ev.2 ((v3 + (1))).toNatClampNeg)) (z65.2.1) (z65.2.2)).bind fun z67 => if (z65.1 : Int32) = (z67.1 : Int32) then J_LA_law_1166 ev N (v3) (z67.2.1) (z67.2.2) else some (.inr (9, z67.2.1, z67.2.2)) else if ((((ev.2 (v3).toNatClampNeg) : Int32) &&& (63)) : Int32) = 9 then if ((v3 + (1)) : Int32) < 0 ∨ ev.1 ≤ Int32.toNatClampNeg ((v3 + (1))) then none else (f_LW_astray N ((ev.2 ((v3 + (1))).toNatClampNeg)) (hi) (hl)).bind fun z71 => if ((v3 + (1)) : Int32) < 0 ∨ ev.1 ≤ Int32.toNatClampNeg ((v3 + (1))) then none else (f_MD_astray N ((ev.2 ((v3 + (1))).toNatClampNeg)) (z71.2.1) (z71.2.2)).bind fun z73 => if (z71.1 : Int32) = (z73.1 : Int32) then J_LA_law_1166 ev N (v3) (z73.2.1) (z73.2.2) else some (.inr (10, z73.2.1, z73.2.2)) else if ((((ev.2 (v3).toNatClampNeg) : Int32) &&& (63)) : Int32) = 10 then if ((v3 + (1)) : Int32) < 0 ∨ ev.1 ≤ Int32.toNatClampNeg ((v3 + (1))) then none else (f_LW_frame N ((ev.2 ((v3 + (1))).toNatClampNeg)) (hi) (hl)).bind fun z77 => if ((v3 + (1)) : Int32) < 0 ∨ ev.1 ≤ Int32.toNatClampNeg ((v3 + (1))) then none else (f_MD_frame N ((ev.2 ((v3 + (1))).toNatClampNeg)) (z77.2.1) (z77.2.2)).bind fun z79 => if (z77.1 : Int32) = (z79.1 : Int32) then J_LA_law_1166 ev N (v3) (z79.2.1) (z79.2.2) else some (.inr (11, z79.2.1, z79.2.2)) else if ((((ev.2 (v3).toNatClampNeg) : Int32) &&& (63)) : Int32) = 11 then if ((v3 + (1)) : Int32) < 0 ∨ ev.1 ≤ Int32.toNatClampNeg ((v3 + (1))) then none else if ((v3 + (2)) : Int32) < 0 ∨ ev.1 ≤ Int32.toNatClampNeg ((v3 + (2))) then none else (f_LW_frameTurn N ((ev.2 ((v3 + (1))).toNatClampNeg)) ((ev.2 ((v3 + (2))).toNatClampNeg)) (hi) (hl)).bind fun z84 => if ((v3 + (1)) : Int32) < 0 ∨ ev.1 ≤ Int32.toNatClampNeg ((v3 + (1))) then none else if ((v3 + (2)) : Int32) < 0 ∨ ev.1 ≤ Int32.toNatClampNeg ((v3 + (2))) then none else (f_MD_frameTurn N ((ev.2 ((v3 + (1))).toNatClampNeg)) ((ev.2 ((v3 + (2))).toNatClampNeg)) (z84.2.1) (z84.2.2)).bind fun z87 => if (z84.1 : Int32) = (z87.1 : Int32) then J_LA_law_1166 ev N (v3) (z87.2.1) (z87.2.2) else some (.inr (12, z87.2.1, z87.2.2)) else if ((((ev.2 (v3).toNatClampNeg) : Int32) &&& (63)) : Int32) = 12 then (f_LW_sets N (hi) (hl)).bind fun z90 => (f_MD_sets N (z90.2.1) (z90.2.2)).bind fun z91 => if (z90.1 : Int32) = (z91.1 : Int32) then J_LA_law_1166 ev N (v3) (z91.2.1) (z91.2.2) else some (.inr (13, z91.2.1, z91.2.2)) else if ((((ev.2 (v3).toNatClampNeg) : Int32) &&& (63)) : Int32) = 13 then if ((v3 + (1)) : Int32) < 0 ∨ ev.1 ≤ Int32.toNatClampNeg ((v3 + (1))) then none else (f_LW_shown N ((ev.2 ((v3 + (1))).toNatClampNeg)) (hi) (hl)).bind fun z95 => if ((v3 + (1)) : Int32) < 0 ∨ ev.1 ≤ Int32.toNatClampNeg ((v3 + (1))) then none else (f_MD_shown N ((ev.2 ((v3 + (1))).toNatClampNeg)) (z95.2.1) (z95.2.2)).bind fun z97 => if (z95.1 : Int32) = (z97.1 : Int32) then J_LA_law_1166 ev N (v3) (z97.2.1) (z97.2.2) else some (.inr (14, z97.2.1, z97.2.2)) else if ((((ev.2 (v3).toNatClampNeg) : Int32) &&& (63)) : Int32) = 14 then if ((v3 + (1)) : Int32) < 0 ∨ ev.1 ≤ Int32.toNatClampNeg ((v3 + (1))) then none else if ((v3 + (2)) : Int32) < 0 ∨ ev.1 ≤ Int32.toNatClampNeg ((v3 + (2))) then none else (f_LW_level N ((ev.2 ((v3 + (1))).toNatClampNeg)) ((ev.2 ((v3 + (2))).toNatClampNeg)) (hi) (hl)).bind fun z102 => if ((v3 + (1)) : Int32) < 0 ∨ ev.1 ≤ Int32.toNatClampNeg ((v3 + (1))) then none else if ((v3 + (2)) : Int32) < 0 ∨ ev.1 ≤ Int32.toNatClampNeg ((v3 + (2))) then none else (f_MD_level N ((ev.2 ((v3 + (1))).toNatClampNeg)) ((ev.2 ((v3 + (2))).toNatClampNeg)) (z102.2.1) (z102.2.2)).bind fun z105 => if (z102.1 : Int32) = (z105.1 : Int32) then J_LA_law_1166 ev N (v3) (z105.2.1) (z105.2.2) else some (.inr (15, z105.2.1, z105.2.2)) else if ((((ev.2 (v3).toNatClampNeg) : Int32) &&& (63)) : Int32) = 15 then if ((v3 + (1)) : Int32) < 0 ∨ ev.1 ≤ Int32.toNatClampNeg ((v3 + (1))) then none else (f_LW_plan N ((ev.2 ((v3 + (1))).toNatClampNeg)) (hi) (hl)).bind fun z109 => if ((v3 + (1)) : Int32) < 0 ∨ ev.1 ≤ Int32.toNatClampNeg ((v3 + (1))) then none else (f_MD_plan N ((ev.2 ((v3 + (1))).toNatClampNeg)) (z109.2.1) (z109.2.2)).bind fun z111 => if (z109.1 : Int32) = (z111.1 : Int32) then J_LA_law_1166 ev N (v3) (z111.2.1) (z111.2.2) else some (.inr (16, z111.2.1, z111.2.2)) else if ((((ev.2 (v3).toNatClampNeg) : Int32) &&& (63)) : Int32) = 16 then if ((v3 + (1)) : Int32) < 0 ∨ ev.1 ≤ Int32.toNatClampNeg ((v3 + (1))) then none else if ((v3 + (2)) : Int32) < 0 ∨ ev.1 ≤ Int32.toNatClampNeg ((v3 + (2))) then none else (f_LW_light N ((ev.2 ((v3 + (1))).toNatClampNeg)) ((ev.2 ((v3 + (2))).toNatClampNeg)) (hi) (hl)).bind fun z116 => if ((v3 + (1)) : Int32) < 0 ∨ ev.1 ≤ Int32.toNatClampNeg ((v3 + (1))) then none else if ((v3 + (2)) : Int32) < 0 ∨ ev.1 ≤ Int32.toNatClampNeg ((v3 + (2))) then none else (f_MD_light N ((ev.2 ((v3 + (1))).toNatClampNeg)) ((ev.2 ((v3 + (2))).toNatClampNeg)) (z116.2.1) (z116.2.2)).bind fun z119 => if (z116.1 : Int32) = (z119.1 : Int32) then J_LA_law_1166 ev N (v3) (z119.2.1) (z119.2.2) else some (.inr (17, z119.2.1, z119.2.2)) else if ((((ev.2 (v3).toNatClampNeg) : Int32) &&& (63)) : Int32) = 17 then if ((v3 + (1)) : Int32) < 0 ∨ ev.1 ≤ Int32.toNatClampNeg ((v3 + (1))) then none else (f_LW_uneven N ((ev.2 ((v3 + (1))).toNatClampNeg)) (hi) (hl)).bind fun z123 => if ((v3 + (1)) : Int32) < 0 ∨ ev.1 ≤ Int32.toNatClampNeg ((v3 + (1))) then none else (f_MD_uneven N ((ev.2 ((v3 + (1))).toNatClampNeg)) (z123.2.1) (z123.2.2)).bind fun z125 => if (z123.1 : Int32) = (z125.1 : Int32) then J_LA_law_1166 ev N (v3) (z125.2.1) (z125.2.2) else some (.inr (18, z125.2.1, z125.2.2)) else if ((((ev.2 (v3).toNatClampNeg) : Int32) &&& (63)) : Int32) = 18 then if ((v3 + (1)) : Int32) < 0 ∨ ev.1 ≤ Int32.toNatClampNeg ((v3 + (1))) then none else if ((v3 + (2)) : Int32) < 0 ∨ ev.1 ≤ Int32.toNatClampNeg ((v3 + (2))) then none else (f_LW_feed N ((((((Int32.toInt64 ((ev.2 ((v3 + (1))).toNatClampNeg))) : Int64) <<< (Int32.toInt64 (32) &&& 63)) : Int64) ||| ((((Int32.toInt64 ((ev.2 ((v3 + (2))).toNatClampNeg))) : Int64) &&& (4294967295))))) (hi) (hl)).bind fun z130 => if ((v3 + (1)) : Int32) < 0 ∨ ev.1 ≤ Int32.toNatClampNeg ((v3 + (1))) then none else if ((v3 + (2)) : Int32) < 0 ∨ ev.1 ≤ Int32.toNatClampNeg ((v3 + (2))) then none else (f_MD_feed N ((((((Int32.toInt64 ((ev.2 ((v3 + (1))).toNatClampNeg))) : Int64) <<< (Int32.toInt64 (32) &&& 63)) : Int64) ||| ((((Int32.toInt64 ((ev.2 ((v3 + (2))).toNatClampNeg))) : Int64) &&& (4294967295))))) (z130.2.1) (z130.2.2)).bind fun z133 => if (z130.1 : Int32) = (z133.1 : Int32) then J_LA_law_1166 ev N (v3) (z133.2.1) (z133.2.2) else some (.inr (19, z133.2.1, z133.2.2)) else if ((((ev.2 (v3).toNatClampNeg) : Int32) &&& (63)) : Int32) = 19 then if ((v3 + (1)) : Int32) < 0 ∨ ev.1 ≤ Int32.toNatClampNeg ((v3 + (1))) then none else (f_LW_end N ((ev.2 ((v3 + (1))).toNatClampNeg)) (hi) (hl)).bind fun z137 => if ((v3 + (1)) : Int32) < 0 ∨ ev.1 ≤ Int32.toNatClampNeg ((v3 + (1))) then none else (f_MD_end N ((ev.2 ((v3 + (1))).toNatClampNeg)) (z137.2.1) (z137.2.2)).bind fun z139 => if (z137.1 : Int32) = (z139.1 : Int32) then J_LA_law_1166 ev N (v3) (z139.2.1) (z139.2.2) else some (.inr (20, z139.2.1, z139.2.2)) else if ((((ev.2 (v3).toNatClampNeg) : Int32) &&& (63)) : Int32) = 20 then (f_LW_program N (hi) (hl)).bind fun z142 => (f_MD_program N (z142.2.1) (z142.2.2)).bind fun z143 => if (z142.1 : Int32) = (z143.1 : Int32) then J_LA_law_1166 ev N (v3) (z143.2.1) (z143.2.2) else some (.inr (21, z143.2.1, z143.2.2)) else if ((((ev.2 (v3).toNatClampNeg) : Int32) &&& (63)) : Int32) = 21 then (f_LW_fault N (hi) (hl)).bind fun z146 => (f_MD_fault N (z146.2.1) (z146.2.2)).bind fun z147 => if (z146.1 : Int32) = (z147.1 : Int32) then J_LA_law_1166 ev N (v3) (z147.2.1) (z147.2.2) else some (.inr (22, z147.2.1, z147.2.2)) else if ((((ev.2 (v3).toNatClampNeg) : Int32) &&& (63)) : Int32) = 22 then if ((v3 + (1)) : Int32) < 0 ∨ ev.1 ≤ Int32.toNatClampNeg ((v3 + (1))) then none else if ((v3 + (2)) : Int32) < 0 ∨ ev.1 ≤ Int32.toNatClampNeg ((v3 + (2))) then none else (f_LW_line N ((ev.2 ((v3 + (1))).toNatClampNeg)) ((ev.2 ((v3 + (2))).toNatClampNeg)) (hi) (hl)).bind fun z152 => if ((v3 + (1)) : Int32) < 0 ∨ ev.1 ≤ Int32.toNatClampNeg ((v3 + (1))) then none else if ((v3 + (2)) : Int32) < 0 ∨ ev.1 ≤ Int32.toNatClampNeg ((v3 + (2))) then none else (f_MD_line N ((ev.2 ((v3 + (1))).toNatClampNeg)) ((ev.2 ((v3 + (2))).toNatClampNeg)) (z152.2.1) (z152.2.2)).bind fun z155 => if (z152.1 : Int32) = (z155.1 : Int32) then J_LA_law_1166 ev N (v3) (z155.2.1) (z155.2.2) else some (.inr (23, z155.2.1, z155.2.2)) else if ((((ev.2 (v3).toNatClampNeg) : Int32) &&& (63)) : Int32) = 23 then if ((v3 + (1)) : Int32) < 0 ∨ ev.1 ≤ Int32.toNatClampNeg ((v3 + (1))) then none else (f_LW_round N ((ev.2 ((v3 + (1))).toNatClampNeg)) (hi) (hl)).bind fun z159 => if ((v3 + (1)) : Int32) < 0 ∨ ev.1 ≤ Int32.toNatClampNeg ((v3 + (1))) then none else (f_MD_round N ((ev.2 ((v3 + (1))).toNatClampNeg)) (z159.2.1) (z159.2.2)).bind fun z161 => if (z159.1 : Int32) = (z161.1 : Int32) then J_LA_law_1166 ev N (v3) (z161.2.1) (z161.2.2) else some (.inr (24, z161.2.1, z161.2.2)) else if ((((ev.2 (v3).toNatClampNeg) : Int32) &&& (63)) : Int32) = 24 then if ((v3 + (1)) : Int32) < 0 ∨ ev.1 ≤ Int32.toNatClampNeg ((v3 + (1))) then none else if ((v3 + (2)) : Int32) < 0 ∨ ev.1 ≤ Int32.toNatClampNeg ((v3 + (2))) then none else (f_LW_shows N ((ev.2 ((v3 + (1))).toNatClampNeg)) ((ev.2 ((v3 + (2))).toNatClampNeg)) (hi) (hl)).bind fun z166 => if ((v3 + (1)) : Int32) < 0 ∨ ev.1 ≤ Int32.toNatClampNeg ((v3 + (1))) then none else if ((v3 + (2)) : Int32) < 0 ∨ ev.1 ≤ Int32.toNatClampNeg ((v3 + (2))) then none else (f_MD_shows N ((ev.2 ((v3 + (1))).toNatClampNeg)) ((ev.2 ((v3 + (2))).toNatClampNeg)) (z166.2.1) (z166.2.2)).bind fun z169 => if (z166.1 : Int32) = (z169.1 : Int32) then J_LA_law_1166 ev N (v3) (z169.2.1) (z169.2.2) else some (.inr (25, z169.2.1, z169.2.2)) else if ((((ev.2 (v3).toNatClampNeg) : Int32) &&& (63)) : Int32) = 25 then if ((v3 + (1)) : Int32) < 0 ∨ ev.1 ≤ Int32.toNatClampNeg ((v3 + (1))) then none else (f_LW_at N ((ev.2 ((v3 + (1))).toNatClampNeg)) (hi) (hl)).bind fun z173 => if ((v3 + (1)) : Int32) < 0 ∨ ev.1 ≤ Int32.toNatClampNeg ((v3 + (1))) then none else (f_MD_at N ((ev.2 ((v3 + (1))).toNatClampNeg)) (z173.2.1) (z173.2.2)).bind fun z175 => if (z173.1 : Int32) = (z175.1 : Int32) then J_LA_law_1166 ev N (v3) (z175.2.1) (z175.2.2) else some (.inr (26, z175.2.1, z175.2.2)) else if ((((ev.2 (v3).toNatClampNeg) : Int32) &&& (63)) : Int32) = 26 then if ((v3 + (1)) : Int32) < 0 ∨ ev.1 ≤ Int32.toNatClampNeg ((v3 + (1))) then none else if ((v3 + (2)) : Int32) < 0 ∨ ev.1 ≤ Int32.toNatClampNeg ((v3 + (2))) then none else (f_LW_seen N ((ev.2 ((v3 + (1))).toNatClampNeg)) ((ev.2 ((v3 + (2))).toNatClampNeg)) (hi) (hl)).bind fun z180 => if ((v3 + (1)) : Int32) < 0 ∨ ev.1 ≤ Int32.toNatClampNeg ((v3 + (1))) then none else if ((v3 + (2)) : Int32) < 0 ∨ ev.1 ≤ Int32.toNatClampNeg ((v3 + (2))) then none else (f_MD_seen N ((ev.2 ((v3 + (1))).toNatClampNeg)) ((ev.2 ((v3 + (2))).toNatClampNeg)) (z180.2.1) (z180.2.2)).bind fun z183 => if (z180.1 : Int32) = (z183.1 : Int32) then J_LA_law_1166 ev N (v3) (z183.2.1) (z183.2.2) else some (.inr (27, z183.2.1, z183.2.2)) else if ((((ev.2 (v3).toNatClampNeg) : Int32) &&& (63)) : Int32) = 27 then if ((v3 + (1)) : Int32) < 0 ∨ ev.1 ≤ Int32.toNatClampNeg ((v3 + (1))) then none else (f_LW_likely N ((ev.2 ((v3 + (1))).toNatClampNeg)) (hi) (hl)).bind fun z187 => if ((v3 + (1)) : Int32) < 0 ∨ ev.1 ≤ Int32.toNatClampNeg ((v3 + (1))) then none else (f_MD_likely N ((ev.2 ((v3 + (1))).toNatClampNeg)) (z187.2.1) (z187.2.2)).bind fun z189 => if (z187.1 : Int32) = (z189.1 : Int32) then J_LA_law_1166 ev N (v3) (z189.2.1) (z189.2.2) else some (.inr (28, z189.2.1, z189.2.2)) else if ((((ev.2 (v3).toNatClampNeg) : Int32) &&& (63)) : Int32) = 28 then if ((v3 + (1)) : Int32) < 0 ∨ ev.1 ≤ Int32.toNatClampNeg ((v3 + (1))) then none else (f_LW_tells N ((ev.2 ((v3 + (1))).toNatClampNeg)) (hi) (hl)).bind fun z193 => if ((v3 + (1)) : Int32) < 0 ∨ ev.1 ≤ Int32.toNatClampNeg ((v3 + (1))) then none else (f_MD_tells N ((ev.2 ((v3 + (1))).toNatClampNeg)) (z193.2.1) (z193.2.2)).bind fun z195 => if (z193.1 : Int32) = (z195.1 : Int32) then J_LA_law_1166 ev N (v3) (z195.2.1) (z195.2.2) else some (.inr (29, z195.2.1, z195.2.2)) else if ((((ev.2 (v3).toNatClampNeg) : Int32) &&& (63)) : Int32) = 29 then if ((v3 + (1)) : Int32) < 0 ∨ ev.1 ≤ Int32.toNatClampNeg ((v3 + (1))) then none else if ((v3 + (2)) : Int32) < 0 ∨ ev.1 ≤ Int32.toNatClampNeg ((v3 + (2))) then none else if ((v3 + (3)) : Int32) < 0 ∨ ev.1 ≤ Int32.toNatClampNeg ((v3 + (3))) then none else (f_LW_would N ((ev.2 ((v3 + (1))).toNatClampNeg)) ((ev.2 ((v3 + (2))).toNatClampNeg)) ((ev.2 ((v3 + (3))).toNatClampNeg)) (hi) (hl)).bind fun z201 => if ((v3 + (1)) : Int32) < 0 ∨ ev.1 ≤ Int32.toNatClampNeg ((v3 + (1))) then none else if ((v3 + (2)) : Int32) < 0 ∨ ev.1 ≤ Int32.toNatClampNeg ((v3 + (2))) then none else if ((v3 + (3)) : Int32) < 0 ∨ ev.1 ≤ Int32.toNatClampNeg ((v3 + (3))) then none else (f_MD_would N ((ev.2 ((v3 + (1))).toNatClampNeg)) ((ev.2 ((v3 + (2))).toNatClampNeg)) ((ev.2 ((v3 + (3))).toNatClampNeg)) (z201.2.1) (z201.2.2)).bind fun z205 => if (z201.1 : Int32) = (z205.1 : Int32) then J_LA_law_1166 ev N (v3) (z205.2.1) (z205.2.2) else some (.inr (30, z205.2.1, z205.2.2)) else if ((((ev.2 (v3).toNatClampNeg) : Int32) &&& (63)) : Int32) = 30 then if ((v3 + (1)) : Int32) < 0 ∨ ev.1 ≤ Int32.toNatClampNeg ((v3 + (1))) then none else if ((v3 + (2)) : Int32) < 0 ∨ ev.1 ≤ Int32.toNatClampNeg ((v3 + (2))) then none else if ((v3 + (3)) : Int32) < 0 ∨ ev.1 ≤ Int32.toNatClampNeg ((v3 + (3))) then none else (f_LW_sheet N ((ev.2 ((v3 + (1))).toNatClampNeg)) ((ev.2 ((v3 + (2))).toNatClampNeg)) ((ev.2 ((v3 + (3))).toNatClampNeg)) (hi) (hl)).bind fun z211 => if ((v3 + (1)) : Int32) < 0 ∨ ev.1 ≤ Int32.toNatClampNeg ((v3 + (1))) then none else if ((v3 + (2)) : Int32) < 0 ∨ ev.1 ≤ Int32.toNatClampNeg ((v3 + (2))) then none else if ((v3 + (3)) : Int32) < 0 ∨ ev.1 ≤ Int32.toNatClampNeg ((v3 + (3))) then none else (f_MD_sheet N ((ev.2 ((v3 + (1))).toNatClampNeg)) ((ev.2 ((v3 + (2))).toNatClampNeg)) ((ev.2 ((v3 + (3))).toNatClampNeg)) (z211.2.1) (z211.2.2)).bind fun z215 => if (z211.1 : Int32) = (z215.1 : Int32) then J_LA_law_1166 ev N (v3) (z215.2.1) (z215.2.2) else some (.inr (31, z215.2.1, z215.2.2)) else if ((((ev.2 (v3).toNatClampNeg) : Int32) &&& (63)) : Int32) = 31 then if ((v3 + (1)) : Int32) < 0 ∨ ev.1 ≤ Int32.toNatClampNeg ((v3 + (1))) then none else if ((v3 + (2)) : Int32) < 0 ∨ ev.1 ≤ Int32.toNatClampNeg ((v3 + (2))) then none else if ((v3 + (3)) : Int32) < 0 ∨ ev.1 ≤ Int32.toNatClampNeg ((v3 + (3))) then none else (f_LW_lay N ((ev.2 ((v3 + (1))).toNatClampNeg)) ((ev.2 ((v3 + (2))).toNatClampNeg)) ((ev.2 ((v3 + (3))).toNatClampNeg)) (hi) (hl)).bind fun z221 => if ((v3 + (1)) : Int32) < 0 ∨ ev.1 ≤ Int32.toNatClampNeg ((v3 + (1))) then none else if ((v3 + (2)) : Int32) < 0 ∨ ev.1 ≤ Int32.toNatClampNeg ((v3 + (2))) then none else if ((v3 + (3)) : Int32) < 0 ∨ ev.1 ≤ Int32.toNatClampNeg ((v3 + (3))) then none else (f_MD_lay N ((ev.2 ((v3 + (1))).toNatClampNeg)) ((ev.2 ((v3 + (2))).toNatClampNeg)) ((ev.2 ((v3 + (3))).toNatClampNeg)) (z221.2.1) (z221.2.2)).bind fun z225 => if (z221.1 : Int32) = (z225.1 : Int32) then J_LA_law_1166 ev N (v3) (z225.2.1) (z225.2.2) else some (.inr (32, z225.2.1, z225.2.2)) else if ((((ev.2 (v3).toNatClampNeg) : Int32) &&& (63)) : Int32) = 32 then if ((v3 + (1)) : Int32) < 0 ∨ ev.1 ≤ Int32.toNatClampNeg ((v3 + (1))) then none else if ((v3 + (2)) : Int32) < 0 ∨ ev.1 ≤ Int32.toNatClampNeg ((v3 + (2))) then none else if ((v3 + (3)) : Int32) < 0 ∨ ev.1 ≤ Int32.toNatClampNeg ((v3 + (3))) then none else (f_LW_levels N ((ev.2 ((v3 + (1))).toNatClampNeg)) ((ev.2 ((v3 + (2))).toNatClampNeg)) ((ev.2 ((v3 + (3))).toNatClampNeg)) (hi) (hl)).bind fun z231 => if ((v3 + (1)) : Int32) < 0 ∨ ev.1 ≤ Int32.toNatClampNeg ((v3 + (1))) then none else if ((v3 + (2)) : Int32) < 0 ∨ ev.1 ≤ Int32.toNatClampNeg ((v3 + (2))) then none else if ((v3 + (3)) : Int32) < 0 ∨ ev.1 ≤ Int32.toNatClampNeg ((v3 + (3))) then none else (f_MD_levels N ((ev.2 ((v3 + (1))).toNatClampNeg)) ((ev.2 ((v3 + (2))).toNatClampNeg)) ((ev.2 ((v3 + (3))).toNatClampNeg)) (z231.2.1) (z231.2.2)).bind fun z235 => if (z231.1 : Int32) = (z235.1 : Int32) then J_LA_law_1166 ev N (v3) (z235.2.1) (z235.2.2) else some (.inr (33, z235.2.1, z235.2.2)) else if ((((ev.2 (v3).toNatClampNeg) : Int32) &&& (63)) : Int32) = 33 then if ((v3 + (1)) : Int32) < 0 ∨ ev.1 ≤ Int32.toNatClampNeg ((v3 + (1))) then none else (f_LW_count N ((ev.2 ((v3 + (1))).toNatClampNeg)) (hi) (hl)).bind fun z239 => if ((v3 + (1)) : Int32) < 0 ∨ ev.1 ≤ Int32.toNatClampNeg ((v3 + (1))) then none else (f_MD_count N ((ev.2 ((v3 + (1))).toNatClampNeg)) (z239.2.1) (z239.2.2)).bind fun z241 => if (z239.1 : Int32) = (z241.1 : Int32) then J_LA_law_1166 ev N (v3) (z241.2.1) (z241.2.2) else some (.inr (34, z241.2.1, z241.2.2)) else J_LA_law_1166 ev N (v3) (hi) (hl)
set_option maxRecDepth 10000 in
set_option maxHeartbeats 4000000 in
theorem bB_LA_law_18 (ev : EV) {N : Nat} {v3 : Int32} {hi : HI} {hl : HL} {z : (Int32 × HI × HL) ⊕ (Nat × HI × HL)} {OUT : Option Value × HI × HL} (h : B_LA_law_18 ev N v3 hi hl = some z) (hk : Sum.elim (fun s => EX w0 ev 29 m_LA_law 18 [(0, .ref 1000010), (1, .ref 0), (2, .ref 65), (3, .int (s.1))] [] (s.2.1) (s.2.2) OUT) (fun x => (x.1 = 0 → EX w0 ev 29 m_LA_law 1172 [] [] (x.2.1) (x.2.2) OUT) ∧ (x.1 = 1 → EX w0 ev 29 m_LA_law 205 [] [] (x.2.1) (x.2.2) OUT) ∧ (x.1 = 2 → EX w0 ev 29 m_LA_law 228 [] [] (x.2.1) (x.2.2) OUT) ∧ (x.1 = 3 → EX w0 ev 29 m_LA_law 271 [] [] (x.2.1) (x.2.2) OUT) ∧ (x.1 = 4 → EX w0 ev 29 m_LA_law 304 [] [] (x.2.1) (x.2.2) OUT) ∧ (x.1 = 5 → EX w0 ev 29 m_LA_law 337 [] [] (x.2.1) (x.2.2) OUT) ∧ (x.1 = 6 → EX w0 ev 29 m_LA_law 370 [] [] (x.2.1) (x.2.2) OUT) ∧ (x.1 = 7 → EX w0 ev 29 m_LA_law 403 [] [] (x.2.1) (x.2.2) OUT) ∧ (x.1 = 8 → EX w0 ev 29 m_LA_law 426 [] [] (x.2.1) (x.2.2) OUT) ∧ (x.1 = 9 → EX w0 ev 29 m_LA_law 449 [] [] (x.2.1) (x.2.2) OUT) ∧ (x.1 = 10 → EX w0 ev 29 m_LA_law 472 [] [] (x.2.1) (x.2.2) OUT) ∧ (x.1 = 11 → EX w0 ev 29 m_LA_law 495 [] [] (x.2.1) (x.2.2) OUT) ∧ (x.1 = 12 → EX w0 ev 29 m_LA_law 528 [] [] (x.2.1) (x.2.2) OUT) ∧ (x.1 = 13 → EX w0 ev 29 m_LA_law 541 [] [] (x.2.1) (x.2.2) OUT) ∧ (x.1 = 14 → EX w0 ev 29 m_LA_law 564 [] [] (x.2.1) (x.2.2) OUT) ∧ (x.1 = 15 → EX w0 ev 29 m_LA_law 597 [] [] (x.2.1) (x.2.2) OUT) ∧ (x.1 = 16 → EX w0 ev 29 m_LA_law 620 [] [] (x.2.1) (x.2.2) OUT) ∧ (x.1 = 17 → EX w0 ev 29 m_LA_law 653 [] [] (x.2.1) (x.2.2) OUT) ∧ (x.1 = 18 → EX w0 ev 29 m_LA_law 676 [] [] (x.2.1) (x.2.2) OUT) ∧ (x.1 = 19 → EX w0 ev 29 m_LA_law 729 [] [] (x.2.1) (x.2.2) OUT) ∧ (x.1 = 20 → EX w0 ev 29 m_LA_law 752 [] [] (x.2.1) (x.2.2) OUT) ∧ (x.1 = 21 → EX w0 ev 29 m_LA_law 765 [] [] (x.2.1) (x.2.2) OUT) ∧ (x.1 = 22 → EX w0 ev 29 m_LA_law 778 [] [] (x.2.1) (x.2.2) OUT) ∧ (x.1 = 23 → EX w0 ev 29 m_LA_law 811 [] [] (x.2.1) (x.2.2) OUT) ∧ (x.1 = 24 → EX w0 ev 29 m_LA_law 834 [] [] (x.2.1) (x.2.2) OUT) ∧ (x.1 = 25 → EX w0 ev 29 m_LA_law 867 [] [] (x.2.1) (x.2.2) OUT) ∧ (x.1 = 26 → EX w0 ev 29 m_LA_law 890 [] [] (x.2.1) (x.2.2) OUT) ∧ (x.1 = 27 → EX w0 ev 29 m_LA_law 923 [] [] (x.2.1) (x.2.2) OUT) ∧ (x.1 = 28 → EX w0 ev 29 m_LA_law 946 [] [] (x.2.1) (x.2.2) OUT) ∧ (x.1 = 29 → EX w0 ev 29 m_LA_law 969 [] [] (x.2.1) (x.2.2) OUT) ∧ (x.1 = 30 → EX w0 ev 29 m_LA_law 1012 [] [] (x.2.1) (x.2.2) OUT) ∧ (x.1 = 31 → EX w0 ev 29 m_LA_law 1055 [] [] (x.2.1) (x.2.2) OUT) ∧ (x.1 = 32 → EX w0 ev 29 m_LA_law 1098 [] [] (x.2.1) (x.2.2) OUT) ∧ (x.1 = 33 → EX w0 ev 29 m_LA_law 1141 [] [] (x.2.1) (x.2.2) OUT) ∧ (x.1 = 34 → EX w0 ev 29 m_LA_law 1164 [] [] (x.2.1) (x.2.2) OUT)) z) : EX w0 ev 29 m_LA_law 18 [(0, .ref 1000010), (1, .ref 0), (2, .ref 65), (3, .int (v3))] [] (hi) (hl) OUT := by
  unfold B_LA_law_18 at h
  refine EX.iload_n (x := v3) rfl (List.mem_of_getElem? (i := 3) rfl) ?_
  refine EX.aload_n (x := 1000010) rfl (List.mem_of_getElem? (i := 0) rfl) ?_
  refine EX.go (i := .arraylength) (len := 1) (pc1 := 21) (st1 := [.int ((Int32.ofNat ev.1)), .int (v3)]) (hi1 := hi) (hl1 := hl) rfl ?_ (fun _ _ _ => rfl)
  refine EX.iconst (v := 4) rfl rfl ?_
  refine EX.go (i := .isub) (len := 1) (pc1 := 23) (st1 := [.int ((((Int32.ofNat ev.1) : Int32) - (4))), .int (v3)]) (hi1 := hi) (hl1 := hl) rfl ?_ (fun _ _ _ => rfl)
  rcases ite_some h with ⟨c1, h⟩ | ⟨c1, h⟩
  · refine EX.go (i := .if_icmp .gt 1149) (len := 3) (pc1 := 1172) (st1 := []) (hi1 := hi) (hl1 := hl) rfl ?_ (fun _ _ _ => if_pos c1)
    obtain rfl := Option.some.inj h
    have hk := hk.1 rfl
    have hk : EX w0 ev 29 m_LA_law 1172 [] [] (hi) (hl) OUT := hk
    exact EX.pick [] hk rfl
  · refine EX.go (i := .if_icmp .gt 1149) (len := 3) (pc1 := 26) (st1 := []) (hi1 := hi) (hl1 := hl) rfl ?_ (fun _ _ _ => if_neg c1)
    refine EX.aload_n (x := 1000010) rfl (List.mem_of_getElem? (i := 0) rfl) ?_
    refine EX.iload_n (x := v3) rfl (List.mem_of_getElem? (i := 3) rfl) ?_
    obtain ⟨g2, h⟩ := grd_some h
    refine EX.ialoadR (v := .int ((ev.2 (v3).toNatClampNeg))) rfl rfl rfl g2 rfl ?_
    refine EX.bipush (v := 63) rfl rfl ?_
    refine EX.go (i := .iand) (len := 1) (pc1 := 32) (st1 := [.int ((((ev.2 (v3).toNatClampNeg) : Int32) &&& (63)))]) (hi1 := hi) (hl1 := hl) rfl ?_ (fun _ _ _ => rfl)
    rcases ite_some h with ⟨c3, h⟩ | ⟨c3, h⟩
    · refine EX.tswI (x := (((ev.2 (v3).toNatClampNeg) : Int32) &&& (63))) (k := 0) (pc1 := 184) rfl c3 (fun _ _ _ => rfl) ?_
      refine EX.aload_n (x := 0) rfl (List.mem_of_getElem? (i := 1) rfl) ?_
      refine EX.aload_n (x := 1000010) rfl (List.mem_of_getElem? (i := 0) rfl) ?_
      refine EX.iload_n (x := v3) rfl (List.mem_of_getElem? (i := 3) rfl) ?_
      refine EX.iconst (v := 1) rfl rfl ?_
      refine EX.go (i := .iadd) (len := 1) (pc1 := 189) (st1 := [.int ((v3 + (1))), .ref 1000010, .ref 0]) (hi1 := hi) (hl1 := hl) rfl ?_ (fun _ _ _ => rfl)
      obtain ⟨g4, h⟩ := grd_some h
      refine EX.ialoadR (v := .int ((ev.2 ((v3 + (1))).toNatClampNeg))) rfl rfl rfl g4 rfl ?_
      obtain ⟨z5, hz5, h⟩ := bnd_some h
      refine EX.callV (b := 0) (as := [.int ((ev.2 ((v3 + (1))).toNatClampNeg))]) (rest := []) (r := some (.int (z5.1))) (hi1 := z5.2.1) (hl1 := z5.2.2) rfl rfl rfl rfl rfl rfl ((b_LW_wires ev hz5).mono (by decide)) ?_
      show EX w0 ev 29 m_LA_law 193 [(0, .ref 1000010), (1, .ref 0), (2, .ref 65), (3, .int (v3))] [.int (z5.1)] (z5.2.1) (z5.2.2) OUT
      refine EX.aload_n (x := 65) rfl (List.mem_of_getElem? (i := 2) rfl) ?_
      refine EX.aload_n (x := 1000010) rfl (List.mem_of_getElem? (i := 0) rfl) ?_
      refine EX.iload_n (x := v3) rfl (List.mem_of_getElem? (i := 3) rfl) ?_
      refine EX.iconst (v := 1) rfl rfl ?_
      refine EX.go (i := .iadd) (len := 1) (pc1 := 198) (st1 := [.int ((v3 + (1))), .ref 1000010, .ref 65, .int (z5.1)]) (hi1 := z5.2.1) (hl1 := z5.2.2) rfl ?_ (fun _ _ _ => rfl)
      obtain ⟨g6, h⟩ := grd_some h
      refine EX.ialoadR (v := .int ((ev.2 ((v3 + (1))).toNatClampNeg))) rfl rfl rfl g6 rfl ?_
      obtain ⟨z7, hz7, h⟩ := bnd_some h
      refine EX.callV (b := 65) (as := [.int ((ev.2 ((v3 + (1))).toNatClampNeg))]) (rest := [.int (z5.1)]) (r := some (.int (z7.1))) (hi1 := z7.2.1) (hl1 := z7.2.2) rfl rfl rfl rfl rfl rfl ((b_MD_wires ev hz7).mono (by decide)) ?_
      show EX w0 ev 29 m_LA_law 202 [(0, .ref 1000010), (1, .ref 0), (2, .ref 65), (3, .int (v3))] [.int (z7.1), .int (z5.1)] (z7.2.1) (z7.2.2) OUT
      rcases ite_some h with ⟨c8, h⟩ | ⟨c8, h⟩
      · refine EX.go (i := .if_icmp .eq 964) (len := 3) (pc1 := 1166) (st1 := []) (hi1 := z7.2.1) (hl1 := z7.2.2) rfl ?_ (fun _ _ _ => if_pos c8)
        refine EX.pick [0, 1, 2, 3] ?_ rfl
        exact bJ_LA_law_1166 ev h hk
      · refine EX.go (i := .if_icmp .eq 964) (len := 3) (pc1 := 205) (st1 := []) (hi1 := z7.2.1) (hl1 := z7.2.2) rfl ?_ (fun _ _ _ => if_neg c8)
        obtain rfl := Option.some.inj h
        have hk := hk.2.1 rfl
        have hk : EX w0 ev 29 m_LA_law 205 [] [] (z7.2.1) (z7.2.2) OUT := hk
        exact EX.pick [] hk rfl
    · rcases ite_some h with ⟨c9, h⟩ | ⟨c9, h⟩
      · refine EX.tswI (x := (((ev.2 (v3).toNatClampNeg) : Int32) &&& (63))) (k := 1) (pc1 := 207) rfl c9 (fun _ _ _ => rfl) ?_
        refine EX.aload_n (x := 0) rfl (List.mem_of_getElem? (i := 1) rfl) ?_
        refine EX.aload_n (x := 1000010) rfl (List.mem_of_getElem? (i := 0) rfl) ?_
        refine EX.iload_n (x := v3) rfl (List.mem_of_getElem? (i := 3) rfl) ?_
        refine EX.iconst (v := 1) rfl rfl ?_
        refine EX.go (i := .iadd) (len := 1) (pc1 := 212) (st1 := [.int ((v3 + (1))), .ref 1000010, .ref 0]) (hi1 := hi) (hl1 := hl) rfl ?_ (fun _ _ _ => rfl)
        obtain ⟨g10, h⟩ := grd_some h
        refine EX.ialoadR (v := .int ((ev.2 ((v3 + (1))).toNatClampNeg))) rfl rfl rfl g10 rfl ?_
        obtain ⟨z11, hz11, h⟩ := bnd_some h
        refine EX.callV (b := 0) (as := [.int ((ev.2 ((v3 + (1))).toNatClampNeg))]) (rest := []) (r := some (.int (z11.1))) (hi1 := z11.2.1) (hl1 := z11.2.2) rfl rfl rfl rfl rfl rfl ((b_LW_supply ev hz11).mono (by decide)) ?_
        show EX w0 ev 29 m_LA_law 216 [(0, .ref 1000010), (1, .ref 0), (2, .ref 65), (3, .int (v3))] [.int (z11.1)] (z11.2.1) (z11.2.2) OUT
        refine EX.aload_n (x := 65) rfl (List.mem_of_getElem? (i := 2) rfl) ?_
        refine EX.aload_n (x := 1000010) rfl (List.mem_of_getElem? (i := 0) rfl) ?_
        refine EX.iload_n (x := v3) rfl (List.mem_of_getElem? (i := 3) rfl) ?_
        refine EX.iconst (v := 1) rfl rfl ?_
        refine EX.go (i := .iadd) (len := 1) (pc1 := 221) (st1 := [.int ((v3 + (1))), .ref 1000010, .ref 65, .int (z11.1)]) (hi1 := z11.2.1) (hl1 := z11.2.2) rfl ?_ (fun _ _ _ => rfl)
        obtain ⟨g12, h⟩ := grd_some h
        refine EX.ialoadR (v := .int ((ev.2 ((v3 + (1))).toNatClampNeg))) rfl rfl rfl g12 rfl ?_
        obtain ⟨z13, hz13, h⟩ := bnd_some h
        refine EX.callV (b := 65) (as := [.int ((ev.2 ((v3 + (1))).toNatClampNeg))]) (rest := [.int (z11.1)]) (r := some (.int (z13.1))) (hi1 := z13.2.1) (hl1 := z13.2.2) rfl rfl rfl rfl rfl rfl ((b_MD_supply ev hz13).mono (by decide)) ?_
        show EX w0 ev 29 m_LA_law 225 [(0, .ref 1000010), (1, .ref 0), (2, .ref 65), (3, .int (v3))] [.int (z13.1), .int (z11.1)] (z13.2.1) (z13.2.2) OUT
        rcases ite_some h with ⟨c14, h⟩ | ⟨c14, h⟩
        · refine EX.go (i := .if_icmp .eq 941) (len := 3) (pc1 := 1166) (st1 := []) (hi1 := z13.2.1) (hl1 := z13.2.2) rfl ?_ (fun _ _ _ => if_pos c14)
          refine EX.pick [0, 1, 2, 3] ?_ rfl
          exact bJ_LA_law_1166 ev h hk
        · refine EX.go (i := .if_icmp .eq 941) (len := 3) (pc1 := 228) (st1 := []) (hi1 := z13.2.1) (hl1 := z13.2.2) rfl ?_ (fun _ _ _ => if_neg c14)
          obtain rfl := Option.some.inj h
          have hk := hk.2.2.1 rfl
          have hk : EX w0 ev 29 m_LA_law 228 [] [] (z13.2.1) (z13.2.2) OUT := hk
          exact EX.pick [] hk rfl
      · rcases ite_some h with ⟨c15, h⟩ | ⟨c15, h⟩
        · refine EX.tswI (x := (((ev.2 (v3).toNatClampNeg) : Int32) &&& (63))) (k := 2) (pc1 := 230) rfl c15 (fun _ _ _ => rfl) ?_
          refine EX.aload_n (x := 0) rfl (List.mem_of_getElem? (i := 1) rfl) ?_
          refine EX.aload_n (x := 1000010) rfl (List.mem_of_getElem? (i := 0) rfl) ?_
          refine EX.iload_n (x := v3) rfl (List.mem_of_getElem? (i := 3) rfl) ?_
          refine EX.iconst (v := 1) rfl rfl ?_
          refine EX.go (i := .iadd) (len := 1) (pc1 := 235) (st1 := [.int ((v3 + (1))), .ref 1000010, .ref 0]) (hi1 := hi) (hl1 := hl) rfl ?_ (fun _ _ _ => rfl)
          obtain ⟨g16, h⟩ := grd_some h
          refine EX.ialoadR (v := .int ((ev.2 ((v3 + (1))).toNatClampNeg))) rfl rfl rfl g16 rfl ?_
          refine EX.aload_n (x := 1000010) rfl (List.mem_of_getElem? (i := 0) rfl) ?_
          refine EX.iload_n (x := v3) rfl (List.mem_of_getElem? (i := 3) rfl) ?_
          refine EX.iconst (v := 2) rfl rfl ?_
          refine EX.go (i := .iadd) (len := 1) (pc1 := 240) (st1 := [.int ((v3 + (2))), .ref 1000010, .int ((ev.2 ((v3 + (1))).toNatClampNeg)), .ref 0]) (hi1 := hi) (hl1 := hl) rfl ?_ (fun _ _ _ => rfl)
          obtain ⟨g17, h⟩ := grd_some h
          refine EX.ialoadR (v := .int ((ev.2 ((v3 + (2))).toNatClampNeg))) rfl rfl rfl g17 rfl ?_
          refine EX.aload_n (x := 1000010) rfl (List.mem_of_getElem? (i := 0) rfl) ?_
          refine EX.iload_n (x := v3) rfl (List.mem_of_getElem? (i := 3) rfl) ?_
          refine EX.iconst (v := 3) rfl rfl ?_
          refine EX.go (i := .iadd) (len := 1) (pc1 := 245) (st1 := [.int ((v3 + (3))), .ref 1000010, .int ((ev.2 ((v3 + (2))).toNatClampNeg)), .int ((ev.2 ((v3 + (1))).toNatClampNeg)), .ref 0]) (hi1 := hi) (hl1 := hl) rfl ?_ (fun _ _ _ => rfl)
          obtain ⟨g18, h⟩ := grd_some h
          refine EX.ialoadR (v := .int ((ev.2 ((v3 + (3))).toNatClampNeg))) rfl rfl rfl g18 rfl ?_
          obtain ⟨z19, hz19, h⟩ := bnd_some h
          refine EX.callV (b := 0) (as := [.int ((ev.2 ((v3 + (1))).toNatClampNeg)), .int ((ev.2 ((v3 + (2))).toNatClampNeg)), .int ((ev.2 ((v3 + (3))).toNatClampNeg))]) (rest := []) (r := some (.int (z19.1))) (hi1 := z19.2.1) (hl1 := z19.2.2) rfl rfl rfl rfl rfl rfl ((b_LW_lamp ev hz19).mono (by decide)) ?_
          show EX w0 ev 29 m_LA_law 249 [(0, .ref 1000010), (1, .ref 0), (2, .ref 65), (3, .int (v3))] [.int (z19.1)] (z19.2.1) (z19.2.2) OUT
          refine EX.aload_n (x := 65) rfl (List.mem_of_getElem? (i := 2) rfl) ?_
          refine EX.aload_n (x := 1000010) rfl (List.mem_of_getElem? (i := 0) rfl) ?_
          refine EX.iload_n (x := v3) rfl (List.mem_of_getElem? (i := 3) rfl) ?_
          refine EX.iconst (v := 1) rfl rfl ?_
          refine EX.go (i := .iadd) (len := 1) (pc1 := 254) (st1 := [.int ((v3 + (1))), .ref 1000010, .ref 65, .int (z19.1)]) (hi1 := z19.2.1) (hl1 := z19.2.2) rfl ?_ (fun _ _ _ => rfl)
          obtain ⟨g20, h⟩ := grd_some h
          refine EX.ialoadR (v := .int ((ev.2 ((v3 + (1))).toNatClampNeg))) rfl rfl rfl g20 rfl ?_
          refine EX.aload_n (x := 1000010) rfl (List.mem_of_getElem? (i := 0) rfl) ?_
          refine EX.iload_n (x := v3) rfl (List.mem_of_getElem? (i := 3) rfl) ?_
          refine EX.iconst (v := 2) rfl rfl ?_
          refine EX.go (i := .iadd) (len := 1) (pc1 := 259) (st1 := [.int ((v3 + (2))), .ref 1000010, .int ((ev.2 ((v3 + (1))).toNatClampNeg)), .ref 65, .int (z19.1)]) (hi1 := z19.2.1) (hl1 := z19.2.2) rfl ?_ (fun _ _ _ => rfl)
          obtain ⟨g21, h⟩ := grd_some h
          refine EX.ialoadR (v := .int ((ev.2 ((v3 + (2))).toNatClampNeg))) rfl rfl rfl g21 rfl ?_
          refine EX.aload_n (x := 1000010) rfl (List.mem_of_getElem? (i := 0) rfl) ?_
          refine EX.iload_n (x := v3) rfl (List.mem_of_getElem? (i := 3) rfl) ?_
          refine EX.iconst (v := 3) rfl rfl ?_
          refine EX.go (i := .iadd) (len := 1) (pc1 := 264) (st1 := [.int ((v3 + (3))), .ref 1000010, .int ((ev.2 ((v3 + (2))).toNatClampNeg)), .int ((ev.2 ((v3 + (1))).toNatClampNeg)), .ref 65, .int (z19.1)]) (hi1 := z19.2.1) (hl1 := z19.2.2) rfl ?_ (fun _ _ _ => rfl)
          obtain ⟨g22, h⟩ := grd_some h
          refine EX.ialoadR (v := .int ((ev.2 ((v3 + (3))).toNatClampNeg))) rfl rfl rfl g22 rfl ?_
          obtain ⟨z23, hz23, h⟩ := bnd_some h
          refine EX.callV (b := 65) (as := [.int ((ev.2 ((v3 + (1))).toNatClampNeg)), .int ((ev.2 ((v3 + (2))).toNatClampNeg)), .int ((ev.2 ((v3 + (3))).toNatClampNeg))]) (rest := [.int (z19.1)]) (r := some (.int (z23.1))) (hi1 := z23.2.1) (hl1 := z23.2.2) rfl rfl rfl rfl rfl rfl ((b_MD_lamp ev hz23).mono (by decide)) ?_
          show EX w0 ev 29 m_LA_law 268 [(0, .ref 1000010), (1, .ref 0), (2, .ref 65), (3, .int (v3))] [.int (z23.1), .int (z19.1)] (z23.2.1) (z23.2.2) OUT
          rcases ite_some h with ⟨c24, h⟩ | ⟨c24, h⟩
          · refine EX.go (i := .if_icmp .eq 898) (len := 3) (pc1 := 1166) (st1 := []) (hi1 := z23.2.1) (hl1 := z23.2.2) rfl ?_ (fun _ _ _ => if_pos c24)
            refine EX.pick [0, 1, 2, 3] ?_ rfl
            exact bJ_LA_law_1166 ev h hk
          · refine EX.go (i := .if_icmp .eq 898) (len := 3) (pc1 := 271) (st1 := []) (hi1 := z23.2.1) (hl1 := z23.2.2) rfl ?_ (fun _ _ _ => if_neg c24)
            obtain rfl := Option.some.inj h
            have hk := hk.2.2.2.1 rfl
            have hk : EX w0 ev 29 m_LA_law 271 [] [] (z23.2.1) (z23.2.2) OUT := hk
            exact EX.pick [] hk rfl
        · rcases ite_some h with ⟨c25, h⟩ | ⟨c25, h⟩
          · refine EX.tswI (x := (((ev.2 (v3).toNatClampNeg) : Int32) &&& (63))) (k := 3) (pc1 := 273) rfl c25 (fun _ _ _ => rfl) ?_
            refine EX.aload_n (x := 0) rfl (List.mem_of_getElem? (i := 1) rfl) ?_
            refine EX.aload_n (x := 1000010) rfl (List.mem_of_getElem? (i := 0) rfl) ?_
            refine EX.iload_n (x := v3) rfl (List.mem_of_getElem? (i := 3) rfl) ?_
            refine EX.iconst (v := 1) rfl rfl ?_
            refine EX.go (i := .iadd) (len := 1) (pc1 := 278) (st1 := [.int ((v3 + (1))), .ref 1000010, .ref 0]) (hi1 := hi) (hl1 := hl) rfl ?_ (fun _ _ _ => rfl)
            obtain ⟨g26, h⟩ := grd_some h
            refine EX.ialoadR (v := .int ((ev.2 ((v3 + (1))).toNatClampNeg))) rfl rfl rfl g26 rfl ?_
            refine EX.aload_n (x := 1000010) rfl (List.mem_of_getElem? (i := 0) rfl) ?_
            refine EX.iload_n (x := v3) rfl (List.mem_of_getElem? (i := 3) rfl) ?_
            refine EX.iconst (v := 2) rfl rfl ?_
            refine EX.go (i := .iadd) (len := 1) (pc1 := 283) (st1 := [.int ((v3 + (2))), .ref 1000010, .int ((ev.2 ((v3 + (1))).toNatClampNeg)), .ref 0]) (hi1 := hi) (hl1 := hl) rfl ?_ (fun _ _ _ => rfl)
            obtain ⟨g27, h⟩ := grd_some h
            refine EX.ialoadR (v := .int ((ev.2 ((v3 + (2))).toNatClampNeg))) rfl rfl rfl g27 rfl ?_
            obtain ⟨z28, hz28, h⟩ := bnd_some h
            refine EX.callV (b := 0) (as := [.int ((ev.2 ((v3 + (1))).toNatClampNeg)), .int ((ev.2 ((v3 + (2))).toNatClampNeg))]) (rest := []) (r := some (.int (z28.1))) (hi1 := z28.2.1) (hl1 := z28.2.2) rfl rfl rfl rfl rfl rfl ((b_LW_lampOf ev hz28).mono (by decide)) ?_
            show EX w0 ev 29 m_LA_law 287 [(0, .ref 1000010), (1, .ref 0), (2, .ref 65), (3, .int (v3))] [.int (z28.1)] (z28.2.1) (z28.2.2) OUT
            refine EX.aload_n (x := 65) rfl (List.mem_of_getElem? (i := 2) rfl) ?_
            refine EX.aload_n (x := 1000010) rfl (List.mem_of_getElem? (i := 0) rfl) ?_
            refine EX.iload_n (x := v3) rfl (List.mem_of_getElem? (i := 3) rfl) ?_
            refine EX.iconst (v := 1) rfl rfl ?_
            refine EX.go (i := .iadd) (len := 1) (pc1 := 292) (st1 := [.int ((v3 + (1))), .ref 1000010, .ref 65, .int (z28.1)]) (hi1 := z28.2.1) (hl1 := z28.2.2) rfl ?_ (fun _ _ _ => rfl)
            obtain ⟨g29, h⟩ := grd_some h
            refine EX.ialoadR (v := .int ((ev.2 ((v3 + (1))).toNatClampNeg))) rfl rfl rfl g29 rfl ?_
            refine EX.aload_n (x := 1000010) rfl (List.mem_of_getElem? (i := 0) rfl) ?_
            refine EX.iload_n (x := v3) rfl (List.mem_of_getElem? (i := 3) rfl) ?_
            refine EX.iconst (v := 2) rfl rfl ?_
            refine EX.go (i := .iadd) (len := 1) (pc1 := 297) (st1 := [.int ((v3 + (2))), .ref 1000010, .int ((ev.2 ((v3 + (1))).toNatClampNeg)), .ref 65, .int (z28.1)]) (hi1 := z28.2.1) (hl1 := z28.2.2) rfl ?_ (fun _ _ _ => rfl)
            obtain ⟨g30, h⟩ := grd_some h
            refine EX.ialoadR (v := .int ((ev.2 ((v3 + (2))).toNatClampNeg))) rfl rfl rfl g30 rfl ?_
            obtain ⟨z31, hz31, h⟩ := bnd_some h
            refine EX.callV (b := 65) (as := [.int ((ev.2 ((v3 + (1))).toNatClampNeg)), .int ((ev.2 ((v3 + (2))).toNatClampNeg))]) (rest := [.int (z28.1)]) (r := some (.int (z31.1))) (hi1 := z31.2.1) (hl1 := z31.2.2) rfl rfl rfl rfl rfl rfl ((b_MD_lampOf ev hz31).mono (by decide)) ?_
            show EX w0 ev 29 m_LA_law 301 [(0, .ref 1000010), (1, .ref 0), (2, .ref 65), (3, .int (v3))] [.int (z31.1), .int (z28.1)] (z31.2.1) (z31.2.2) OUT
            rcases ite_some h with ⟨c32, h⟩ | ⟨c32, h⟩
            · refine EX.go (i := .if_icmp .eq 865) (len := 3) (pc1 := 1166) (st1 := []) (hi1 := z31.2.1) (hl1 := z31.2.2) rfl ?_ (fun _ _ _ => if_pos c32)
              refine EX.pick [0, 1, 2, 3] ?_ rfl
              exact bJ_LA_law_1166 ev h hk
            · refine EX.go (i := .if_icmp .eq 865) (len := 3) (pc1 := 304) (st1 := []) (hi1 := z31.2.1) (hl1 := z31.2.2) rfl ?_ (fun _ _ _ => if_neg c32)
              obtain rfl := Option.some.inj h
              have hk := hk.2.2.2.2.1 rfl
              have hk : EX w0 ev 29 m_LA_law 304 [] [] (z31.2.1) (z31.2.2) OUT := hk
              exact EX.pick [] hk rfl
          · rcases ite_some h with ⟨c33, h⟩ | ⟨c33, h⟩
            · refine EX.tswI (x := (((ev.2 (v3).toNatClampNeg) : Int32) &&& (63))) (k := 4) (pc1 := 306) rfl c33 (fun _ _ _ => rfl) ?_
              refine EX.aload_n (x := 0) rfl (List.mem_of_getElem? (i := 1) rfl) ?_
              refine EX.aload_n (x := 1000010) rfl (List.mem_of_getElem? (i := 0) rfl) ?_
              refine EX.iload_n (x := v3) rfl (List.mem_of_getElem? (i := 3) rfl) ?_
              refine EX.iconst (v := 1) rfl rfl ?_
              refine EX.go (i := .iadd) (len := 1) (pc1 := 311) (st1 := [.int ((v3 + (1))), .ref 1000010, .ref 0]) (hi1 := hi) (hl1 := hl) rfl ?_ (fun _ _ _ => rfl)
              obtain ⟨g34, h⟩ := grd_some h
              refine EX.ialoadR (v := .int ((ev.2 ((v3 + (1))).toNatClampNeg))) rfl rfl rfl g34 rfl ?_
              refine EX.aload_n (x := 1000010) rfl (List.mem_of_getElem? (i := 0) rfl) ?_
              refine EX.iload_n (x := v3) rfl (List.mem_of_getElem? (i := 3) rfl) ?_
              refine EX.iconst (v := 2) rfl rfl ?_
              refine EX.go (i := .iadd) (len := 1) (pc1 := 316) (st1 := [.int ((v3 + (2))), .ref 1000010, .int ((ev.2 ((v3 + (1))).toNatClampNeg)), .ref 0]) (hi1 := hi) (hl1 := hl) rfl ?_ (fun _ _ _ => rfl)
              obtain ⟨g35, h⟩ := grd_some h
              refine EX.ialoadR (v := .int ((ev.2 ((v3 + (2))).toNatClampNeg))) rfl rfl rfl g35 rfl ?_
              obtain ⟨z36, hz36, h⟩ := bnd_some h
              refine EX.callV (b := 0) (as := [.int ((ev.2 ((v3 + (1))).toNatClampNeg)), .int ((ev.2 ((v3 + (2))).toNatClampNeg))]) (rest := []) (r := some (.int (z36.1))) (hi1 := z36.2.1) (hl1 := z36.2.2) rfl rfl rfl rfl rfl rfl ((b_LW_hurt ev hz36).mono (by decide)) ?_
              show EX w0 ev 29 m_LA_law 320 [(0, .ref 1000010), (1, .ref 0), (2, .ref 65), (3, .int (v3))] [.int (z36.1)] (z36.2.1) (z36.2.2) OUT
              refine EX.aload_n (x := 65) rfl (List.mem_of_getElem? (i := 2) rfl) ?_
              refine EX.aload_n (x := 1000010) rfl (List.mem_of_getElem? (i := 0) rfl) ?_
              refine EX.iload_n (x := v3) rfl (List.mem_of_getElem? (i := 3) rfl) ?_
              refine EX.iconst (v := 1) rfl rfl ?_
              refine EX.go (i := .iadd) (len := 1) (pc1 := 325) (st1 := [.int ((v3 + (1))), .ref 1000010, .ref 65, .int (z36.1)]) (hi1 := z36.2.1) (hl1 := z36.2.2) rfl ?_ (fun _ _ _ => rfl)
              obtain ⟨g37, h⟩ := grd_some h
              refine EX.ialoadR (v := .int ((ev.2 ((v3 + (1))).toNatClampNeg))) rfl rfl rfl g37 rfl ?_
              refine EX.aload_n (x := 1000010) rfl (List.mem_of_getElem? (i := 0) rfl) ?_
              refine EX.iload_n (x := v3) rfl (List.mem_of_getElem? (i := 3) rfl) ?_
              refine EX.iconst (v := 2) rfl rfl ?_
              refine EX.go (i := .iadd) (len := 1) (pc1 := 330) (st1 := [.int ((v3 + (2))), .ref 1000010, .int ((ev.2 ((v3 + (1))).toNatClampNeg)), .ref 65, .int (z36.1)]) (hi1 := z36.2.1) (hl1 := z36.2.2) rfl ?_ (fun _ _ _ => rfl)
              obtain ⟨g38, h⟩ := grd_some h
              refine EX.ialoadR (v := .int ((ev.2 ((v3 + (2))).toNatClampNeg))) rfl rfl rfl g38 rfl ?_
              obtain ⟨z39, hz39, h⟩ := bnd_some h
              refine EX.callV (b := 65) (as := [.int ((ev.2 ((v3 + (1))).toNatClampNeg)), .int ((ev.2 ((v3 + (2))).toNatClampNeg))]) (rest := [.int (z36.1)]) (r := some (.int (z39.1))) (hi1 := z39.2.1) (hl1 := z39.2.2) rfl rfl rfl rfl rfl rfl ((b_MD_hurt ev hz39).mono (by decide)) ?_
              show EX w0 ev 29 m_LA_law 334 [(0, .ref 1000010), (1, .ref 0), (2, .ref 65), (3, .int (v3))] [.int (z39.1), .int (z36.1)] (z39.2.1) (z39.2.2) OUT
              rcases ite_some h with ⟨c40, h⟩ | ⟨c40, h⟩
              · refine EX.go (i := .if_icmp .eq 832) (len := 3) (pc1 := 1166) (st1 := []) (hi1 := z39.2.1) (hl1 := z39.2.2) rfl ?_ (fun _ _ _ => if_pos c40)
                refine EX.pick [0, 1, 2, 3] ?_ rfl
                exact bJ_LA_law_1166 ev h hk
              · refine EX.go (i := .if_icmp .eq 832) (len := 3) (pc1 := 337) (st1 := []) (hi1 := z39.2.1) (hl1 := z39.2.2) rfl ?_ (fun _ _ _ => if_neg c40)
                obtain rfl := Option.some.inj h
                have hk := hk.2.2.2.2.2.1 rfl
                have hk : EX w0 ev 29 m_LA_law 337 [] [] (z39.2.1) (z39.2.2) OUT := hk
                exact EX.pick [] hk rfl
            · rcases ite_some h with ⟨c41, h⟩ | ⟨c41, h⟩
              · refine EX.tswI (x := (((ev.2 (v3).toNatClampNeg) : Int32) &&& (63))) (k := 5) (pc1 := 339) rfl c41 (fun _ _ _ => rfl) ?_
                refine EX.aload_n (x := 0) rfl (List.mem_of_getElem? (i := 1) rfl) ?_
                refine EX.aload_n (x := 1000010) rfl (List.mem_of_getElem? (i := 0) rfl) ?_
                refine EX.iload_n (x := v3) rfl (List.mem_of_getElem? (i := 3) rfl) ?_
                refine EX.iconst (v := 1) rfl rfl ?_
                refine EX.go (i := .iadd) (len := 1) (pc1 := 344) (st1 := [.int ((v3 + (1))), .ref 1000010, .ref 0]) (hi1 := hi) (hl1 := hl) rfl ?_ (fun _ _ _ => rfl)
                obtain ⟨g42, h⟩ := grd_some h
                refine EX.ialoadR (v := .int ((ev.2 ((v3 + (1))).toNatClampNeg))) rfl rfl rfl g42 rfl ?_
                refine EX.aload_n (x := 1000010) rfl (List.mem_of_getElem? (i := 0) rfl) ?_
                refine EX.iload_n (x := v3) rfl (List.mem_of_getElem? (i := 3) rfl) ?_
                refine EX.iconst (v := 2) rfl rfl ?_
                refine EX.go (i := .iadd) (len := 1) (pc1 := 349) (st1 := [.int ((v3 + (2))), .ref 1000010, .int ((ev.2 ((v3 + (1))).toNatClampNeg)), .ref 0]) (hi1 := hi) (hl1 := hl) rfl ?_ (fun _ _ _ => rfl)
                obtain ⟨g43, h⟩ := grd_some h
                refine EX.ialoadR (v := .int ((ev.2 ((v3 + (2))).toNatClampNeg))) rfl rfl rfl g43 rfl ?_
                obtain ⟨z44, hz44, h⟩ := bnd_some h
                refine EX.callV (b := 0) (as := [.int ((ev.2 ((v3 + (1))).toNatClampNeg)), .int ((ev.2 ((v3 + (2))).toNatClampNeg))]) (rest := []) (r := some (.int (z44.1))) (hi1 := z44.2.1) (hl1 := z44.2.2) rfl rfl rfl rfl rfl rfl ((b_LW_between ev hz44).mono (by decide)) ?_
                show EX w0 ev 29 m_LA_law 353 [(0, .ref 1000010), (1, .ref 0), (2, .ref 65), (3, .int (v3))] [.int (z44.1)] (z44.2.1) (z44.2.2) OUT
                refine EX.aload_n (x := 65) rfl (List.mem_of_getElem? (i := 2) rfl) ?_
                refine EX.aload_n (x := 1000010) rfl (List.mem_of_getElem? (i := 0) rfl) ?_
                refine EX.iload_n (x := v3) rfl (List.mem_of_getElem? (i := 3) rfl) ?_
                refine EX.iconst (v := 1) rfl rfl ?_
                refine EX.go (i := .iadd) (len := 1) (pc1 := 358) (st1 := [.int ((v3 + (1))), .ref 1000010, .ref 65, .int (z44.1)]) (hi1 := z44.2.1) (hl1 := z44.2.2) rfl ?_ (fun _ _ _ => rfl)
                obtain ⟨g45, h⟩ := grd_some h
                refine EX.ialoadR (v := .int ((ev.2 ((v3 + (1))).toNatClampNeg))) rfl rfl rfl g45 rfl ?_
                refine EX.aload_n (x := 1000010) rfl (List.mem_of_getElem? (i := 0) rfl) ?_
                refine EX.iload_n (x := v3) rfl (List.mem_of_getElem? (i := 3) rfl) ?_
                refine EX.iconst (v := 2) rfl rfl ?_
                refine EX.go (i := .iadd) (len := 1) (pc1 := 363) (st1 := [.int ((v3 + (2))), .ref 1000010, .int ((ev.2 ((v3 + (1))).toNatClampNeg)), .ref 65, .int (z44.1)]) (hi1 := z44.2.1) (hl1 := z44.2.2) rfl ?_ (fun _ _ _ => rfl)
                obtain ⟨g46, h⟩ := grd_some h
                refine EX.ialoadR (v := .int ((ev.2 ((v3 + (2))).toNatClampNeg))) rfl rfl rfl g46 rfl ?_
                obtain ⟨z47, hz47, h⟩ := bnd_some h
                refine EX.callV (b := 65) (as := [.int ((ev.2 ((v3 + (1))).toNatClampNeg)), .int ((ev.2 ((v3 + (2))).toNatClampNeg))]) (rest := [.int (z44.1)]) (r := some (.int (z47.1))) (hi1 := z47.2.1) (hl1 := z47.2.2) rfl rfl rfl rfl rfl rfl ((b_MD_between ev hz47).mono (by decide)) ?_
                show EX w0 ev 29 m_LA_law 367 [(0, .ref 1000010), (1, .ref 0), (2, .ref 65), (3, .int (v3))] [.int (z47.1), .int (z44.1)] (z47.2.1) (z47.2.2) OUT
                rcases ite_some h with ⟨c48, h⟩ | ⟨c48, h⟩
                · refine EX.go (i := .if_icmp .eq 799) (len := 3) (pc1 := 1166) (st1 := []) (hi1 := z47.2.1) (hl1 := z47.2.2) rfl ?_ (fun _ _ _ => if_pos c48)
                  refine EX.pick [0, 1, 2, 3] ?_ rfl
                  exact bJ_LA_law_1166 ev h hk
                · refine EX.go (i := .if_icmp .eq 799) (len := 3) (pc1 := 370) (st1 := []) (hi1 := z47.2.1) (hl1 := z47.2.2) rfl ?_ (fun _ _ _ => if_neg c48)
                  obtain rfl := Option.some.inj h
                  have hk := hk.2.2.2.2.2.2.1 rfl
                  have hk : EX w0 ev 29 m_LA_law 370 [] [] (z47.2.1) (z47.2.2) OUT := hk
                  exact EX.pick [] hk rfl
              · rcases ite_some h with ⟨c49, h⟩ | ⟨c49, h⟩
                · refine EX.tswI (x := (((ev.2 (v3).toNatClampNeg) : Int32) &&& (63))) (k := 6) (pc1 := 372) rfl c49 (fun _ _ _ => rfl) ?_
                  refine EX.aload_n (x := 0) rfl (List.mem_of_getElem? (i := 1) rfl) ?_
                  refine EX.aload_n (x := 1000010) rfl (List.mem_of_getElem? (i := 0) rfl) ?_
                  refine EX.iload_n (x := v3) rfl (List.mem_of_getElem? (i := 3) rfl) ?_
                  refine EX.iconst (v := 1) rfl rfl ?_
                  refine EX.go (i := .iadd) (len := 1) (pc1 := 377) (st1 := [.int ((v3 + (1))), .ref 1000010, .ref 0]) (hi1 := hi) (hl1 := hl) rfl ?_ (fun _ _ _ => rfl)
                  obtain ⟨g50, h⟩ := grd_some h
                  refine EX.ialoadR (v := .int ((ev.2 ((v3 + (1))).toNatClampNeg))) rfl rfl rfl g50 rfl ?_
                  refine EX.aload_n (x := 1000010) rfl (List.mem_of_getElem? (i := 0) rfl) ?_
                  refine EX.iload_n (x := v3) rfl (List.mem_of_getElem? (i := 3) rfl) ?_
                  refine EX.iconst (v := 2) rfl rfl ?_
                  refine EX.go (i := .iadd) (len := 1) (pc1 := 382) (st1 := [.int ((v3 + (2))), .ref 1000010, .int ((ev.2 ((v3 + (1))).toNatClampNeg)), .ref 0]) (hi1 := hi) (hl1 := hl) rfl ?_ (fun _ _ _ => rfl)
                  obtain ⟨g51, h⟩ := grd_some h
                  refine EX.ialoadR (v := .int ((ev.2 ((v3 + (2))).toNatClampNeg))) rfl rfl rfl g51 rfl ?_
                  obtain ⟨z52, hz52, h⟩ := bnd_some h
                  refine EX.callV (b := 0) (as := [.int ((ev.2 ((v3 + (1))).toNatClampNeg)), .int ((ev.2 ((v3 + (2))).toNatClampNeg))]) (rest := []) (r := some (.int (z52.1))) (hi1 := z52.2.1) (hl1 := z52.2.2) rfl rfl rfl rfl rfl rfl ((b_LW_glow ev hz52).mono (by decide)) ?_
                  show EX w0 ev 29 m_LA_law 386 [(0, .ref 1000010), (1, .ref 0), (2, .ref 65), (3, .int (v3))] [.int (z52.1)] (z52.2.1) (z52.2.2) OUT
                  refine EX.aload_n (x := 65) rfl (List.mem_of_getElem? (i := 2) rfl) ?_
                  refine EX.aload_n (x := 1000010) rfl (List.mem_of_getElem? (i := 0) rfl) ?_
                  refine EX.iload_n (x := v3) rfl (List.mem_of_getElem? (i := 3) rfl) ?_
                  refine EX.iconst (v := 1) rfl rfl ?_
                  refine EX.go (i := .iadd) (len := 1) (pc1 := 391) (st1 := [.int ((v3 + (1))), .ref 1000010, .ref 65, .int (z52.1)]) (hi1 := z52.2.1) (hl1 := z52.2.2) rfl ?_ (fun _ _ _ => rfl)
                  obtain ⟨g53, h⟩ := grd_some h
                  refine EX.ialoadR (v := .int ((ev.2 ((v3 + (1))).toNatClampNeg))) rfl rfl rfl g53 rfl ?_
                  refine EX.aload_n (x := 1000010) rfl (List.mem_of_getElem? (i := 0) rfl) ?_
                  refine EX.iload_n (x := v3) rfl (List.mem_of_getElem? (i := 3) rfl) ?_
                  refine EX.iconst (v := 2) rfl rfl ?_
                  refine EX.go (i := .iadd) (len := 1) (pc1 := 396) (st1 := [.int ((v3 + (2))), .ref 1000010, .int ((ev.2 ((v3 + (1))).toNatClampNeg)), .ref 65, .int (z52.1)]) (hi1 := z52.2.1) (hl1 := z52.2.2) rfl ?_ (fun _ _ _ => rfl)
                  obtain ⟨g54, h⟩ := grd_some h
                  refine EX.ialoadR (v := .int ((ev.2 ((v3 + (2))).toNatClampNeg))) rfl rfl rfl g54 rfl ?_
                  obtain ⟨z55, hz55, h⟩ := bnd_some h
                  refine EX.callV (b := 65) (as := [.int ((ev.2 ((v3 + (1))).toNatClampNeg)), .int ((ev.2 ((v3 + (2))).toNatClampNeg))]) (rest := [.int (z52.1)]) (r := some (.int (z55.1))) (hi1 := z55.2.1) (hl1 := z55.2.2) rfl rfl rfl rfl rfl rfl ((b_MD_glow ev hz55).mono (by decide)) ?_
                  show EX w0 ev 29 m_LA_law 400 [(0, .ref 1000010), (1, .ref 0), (2, .ref 65), (3, .int (v3))] [.int (z55.1), .int (z52.1)] (z55.2.1) (z55.2.2) OUT
                  rcases ite_some h with ⟨c56, h⟩ | ⟨c56, h⟩
                  · refine EX.go (i := .if_icmp .eq 766) (len := 3) (pc1 := 1166) (st1 := []) (hi1 := z55.2.1) (hl1 := z55.2.2) rfl ?_ (fun _ _ _ => if_pos c56)
                    refine EX.pick [0, 1, 2, 3] ?_ rfl
                    exact bJ_LA_law_1166 ev h hk
                  · refine EX.go (i := .if_icmp .eq 766) (len := 3) (pc1 := 403) (st1 := []) (hi1 := z55.2.1) (hl1 := z55.2.2) rfl ?_ (fun _ _ _ => if_neg c56)
                    obtain rfl := Option.some.inj h
                    have hk := hk.2.2.2.2.2.2.2.1 rfl
                    have hk : EX w0 ev 29 m_LA_law 403 [] [] (z55.2.1) (z55.2.2) OUT := hk
                    exact EX.pick [] hk rfl
                · rcases ite_some h with ⟨c57, h⟩ | ⟨c57, h⟩
                  · refine EX.tswI (x := (((ev.2 (v3).toNatClampNeg) : Int32) &&& (63))) (k := 7) (pc1 := 405) rfl c57 (fun _ _ _ => rfl) ?_
                    refine EX.aload_n (x := 0) rfl (List.mem_of_getElem? (i := 1) rfl) ?_
                    refine EX.aload_n (x := 1000010) rfl (List.mem_of_getElem? (i := 0) rfl) ?_
                    refine EX.iload_n (x := v3) rfl (List.mem_of_getElem? (i := 3) rfl) ?_
                    refine EX.iconst (v := 1) rfl rfl ?_
                    refine EX.go (i := .iadd) (len := 1) (pc1 := 410) (st1 := [.int ((v3 + (1))), .ref 1000010, .ref 0]) (hi1 := hi) (hl1 := hl) rfl ?_ (fun _ _ _ => rfl)
                    obtain ⟨g58, h⟩ := grd_some h
                    refine EX.ialoadR (v := .int ((ev.2 ((v3 + (1))).toNatClampNeg))) rfl rfl rfl g58 rfl ?_
                    obtain ⟨z59, hz59, h⟩ := bnd_some h
                    refine EX.callV (b := 0) (as := [.int ((ev.2 ((v3 + (1))).toNatClampNeg))]) (rest := []) (r := some (.int (z59.1))) (hi1 := z59.2.1) (hl1 := z59.2.2) rfl rfl rfl rfl rfl rfl ((b_LW_turns ev hz59).mono (by decide)) ?_
                    show EX w0 ev 29 m_LA_law 414 [(0, .ref 1000010), (1, .ref 0), (2, .ref 65), (3, .int (v3))] [.int (z59.1)] (z59.2.1) (z59.2.2) OUT
                    refine EX.aload_n (x := 65) rfl (List.mem_of_getElem? (i := 2) rfl) ?_
                    refine EX.aload_n (x := 1000010) rfl (List.mem_of_getElem? (i := 0) rfl) ?_
                    refine EX.iload_n (x := v3) rfl (List.mem_of_getElem? (i := 3) rfl) ?_
                    refine EX.iconst (v := 1) rfl rfl ?_
                    refine EX.go (i := .iadd) (len := 1) (pc1 := 419) (st1 := [.int ((v3 + (1))), .ref 1000010, .ref 65, .int (z59.1)]) (hi1 := z59.2.1) (hl1 := z59.2.2) rfl ?_ (fun _ _ _ => rfl)
                    obtain ⟨g60, h⟩ := grd_some h
                    refine EX.ialoadR (v := .int ((ev.2 ((v3 + (1))).toNatClampNeg))) rfl rfl rfl g60 rfl ?_
                    obtain ⟨z61, hz61, h⟩ := bnd_some h
                    refine EX.callV (b := 65) (as := [.int ((ev.2 ((v3 + (1))).toNatClampNeg))]) (rest := [.int (z59.1)]) (r := some (.int (z61.1))) (hi1 := z61.2.1) (hl1 := z61.2.2) rfl rfl rfl rfl rfl rfl ((b_MD_turns ev hz61).mono (by decide)) ?_
                    show EX w0 ev 29 m_LA_law 423 [(0, .ref 1000010), (1, .ref 0), (2, .ref 65), (3, .int (v3))] [.int (z61.1), .int (z59.1)] (z61.2.1) (z61.2.2) OUT
                    rcases ite_some h with ⟨c62, h⟩ | ⟨c62, h⟩
                    · refine EX.go (i := .if_icmp .eq 743) (len := 3) (pc1 := 1166) (st1 := []) (hi1 := z61.2.1) (hl1 := z61.2.2) rfl ?_ (fun _ _ _ => if_pos c62)
                      refine EX.pick [0, 1, 2, 3] ?_ rfl
                      exact bJ_LA_law_1166 ev h hk
                    · refine EX.go (i := .if_icmp .eq 743) (len := 3) (pc1 := 426) (st1 := []) (hi1 := z61.2.1) (hl1 := z61.2.2) rfl ?_ (fun _ _ _ => if_neg c62)
                      obtain rfl := Option.some.inj h
                      have hk := hk.2.2.2.2.2.2.2.2.1 rfl
                      have hk : EX w0 ev 29 m_LA_law 426 [] [] (z61.2.1) (z61.2.2) OUT := hk
                      exact EX.pick [] hk rfl
                  · rcases ite_some h with ⟨c63, h⟩ | ⟨c63, h⟩
                    · refine EX.tswI (x := (((ev.2 (v3).toNatClampNeg) : Int32) &&& (63))) (k := 8) (pc1 := 428) rfl c63 (fun _ _ _ => rfl) ?_
                      refine EX.aload_n (x := 0) rfl (List.mem_of_getElem? (i := 1) rfl) ?_
                      refine EX.aload_n (x := 1000010) rfl (List.mem_of_getElem? (i := 0) rfl) ?_
                      refine EX.iload_n (x := v3) rfl (List.mem_of_getElem? (i := 3) rfl) ?_
                      refine EX.iconst (v := 1) rfl rfl ?_
                      refine EX.go (i := .iadd) (len := 1) (pc1 := 433) (st1 := [.int ((v3 + (1))), .ref 1000010, .ref 0]) (hi1 := hi) (hl1 := hl) rfl ?_ (fun _ _ _ => rfl)
                      obtain ⟨g64, h⟩ := grd_some h
                      refine EX.ialoadR (v := .int ((ev.2 ((v3 + (1))).toNatClampNeg))) rfl rfl rfl g64 rfl ?_
                      obtain ⟨z65, hz65, h⟩ := bnd_some h
                      refine EX.callV (b := 0) (as := [.int ((ev.2 ((v3 + (1))).toNatClampNeg))]) (rest := []) (r := some (.int (z65.1))) (hi1 := z65.2.1) (hl1 := z65.2.2) rfl rfl rfl rfl rfl rfl ((b_LW_alone ev hz65).mono (by decide)) ?_
                      show EX w0 ev 29 m_LA_law 437 [(0, .ref 1000010), (1, .ref 0), (2, .ref 65), (3, .int (v3))] [.int (z65.1)] (z65.2.1) (z65.2.2) OUT
                      refine EX.aload_n (x := 65) rfl (List.mem_of_getElem? (i := 2) rfl) ?_
                      refine EX.aload_n (x := 1000010) rfl (List.mem_of_getElem? (i := 0) rfl) ?_
                      refine EX.iload_n (x := v3) rfl (List.mem_of_getElem? (i := 3) rfl) ?_
                      refine EX.iconst (v := 1) rfl rfl ?_
                      refine EX.go (i := .iadd) (len := 1) (pc1 := 442) (st1 := [.int ((v3 + (1))), .ref 1000010, .ref 65, .int (z65.1)]) (hi1 := z65.2.1) (hl1 := z65.2.2) rfl ?_ (fun _ _ _ => rfl)
                      obtain ⟨g66, h⟩ := grd_some h
                      refine EX.ialoadR (v := .int ((ev.2 ((v3 + (1))).toNatClampNeg))) rfl rfl rfl g66 rfl ?_
                      obtain ⟨z67, hz67, h⟩ := bnd_some h
                      refine EX.callV (b := 65) (as := [.int ((ev.2 ((v3 + (1))).toNatClampNeg))]) (rest := [.int (z65.1)]) (r := some (.int (z67.1))) (hi1 := z67.2.1) (hl1 := z67.2.2) rfl rfl rfl rfl rfl rfl ((b_MD_alone ev hz67).mono (by decide)) ?_
                      show EX w0 ev 29 m_LA_law 446 [(0, .ref 1000010), (1, .ref 0), (2, .ref 65), (3, .int (v3))] [.int (z67.1), .int (z65.1)] (z67.2.1) (z67.2.2) OUT
                      rcases ite_some h with ⟨c68, h⟩ | ⟨c68, h⟩
                      · refine EX.go (i := .if_icmp .eq 720) (len := 3) (pc1 := 1166) (st1 := []) (hi1 := z67.2.1) (hl1 := z67.2.2) rfl ?_ (fun _ _ _ => if_pos c68)
                        refine EX.pick [0, 1, 2, 3] ?_ rfl
                        exact bJ_LA_law_1166 ev h hk
                      · refine EX.go (i := .if_icmp .eq 720) (len := 3) (pc1 := 449) (st1 := []) (hi1 := z67.2.1) (hl1 := z67.2.2) rfl ?_ (fun _ _ _ => if_neg c68)
                        obtain rfl := Option.some.inj h
                        have hk := hk.2.2.2.2.2.2.2.2.2.1 rfl
                        have hk : EX w0 ev 29 m_LA_law 449 [] [] (z67.2.1) (z67.2.2) OUT := hk
                        exact EX.pick [] hk rfl
                    · rcases ite_some h with ⟨c69, h⟩ | ⟨c69, h⟩
                      · refine EX.tswI (x := (((ev.2 (v3).toNatClampNeg) : Int32) &&& (63))) (k := 9) (pc1 := 451) rfl c69 (fun _ _ _ => rfl) ?_
                        refine EX.aload_n (x := 0) rfl (List.mem_of_getElem? (i := 1) rfl) ?_
                        refine EX.aload_n (x := 1000010) rfl (List.mem_of_getElem? (i := 0) rfl) ?_
                        refine EX.iload_n (x := v3) rfl (List.mem_of_getElem? (i := 3) rfl) ?_
                        refine EX.iconst (v := 1) rfl rfl ?_
                        refine EX.go (i := .iadd) (len := 1) (pc1 := 456) (st1 := [.int ((v3 + (1))), .ref 1000010, .ref 0]) (hi1 := hi) (hl1 := hl) rfl ?_ (fun _ _ _ => rfl)
                        obtain ⟨g70, h⟩ := grd_some h
                        refine EX.ialoadR (v := .int ((ev.2 ((v3 + (1))).toNatClampNeg))) rfl rfl rfl g70 rfl ?_
                        obtain ⟨z71, hz71, h⟩ := bnd_some h
                        refine EX.callV (b := 0) (as := [.int ((ev.2 ((v3 + (1))).toNatClampNeg))]) (rest := []) (r := some (.int (z71.1))) (hi1 := z71.2.1) (hl1 := z71.2.2) rfl rfl rfl rfl rfl rfl ((b_LW_astray ev hz71).mono (by decide)) ?_
                        show EX w0 ev 29 m_LA_law 460 [(0, .ref 1000010), (1, .ref 0), (2, .ref 65), (3, .int (v3))] [.int (z71.1)] (z71.2.1) (z71.2.2) OUT
                        refine EX.aload_n (x := 65) rfl (List.mem_of_getElem? (i := 2) rfl) ?_
                        refine EX.aload_n (x := 1000010) rfl (List.mem_of_getElem? (i := 0) rfl) ?_
                        refine EX.iload_n (x := v3) rfl (List.mem_of_getElem? (i := 3) rfl) ?_
                        refine EX.iconst (v := 1) rfl rfl ?_
                        refine EX.go (i := .iadd) (len := 1) (pc1 := 465) (st1 := [.int ((v3 + (1))), .ref 1000010, .ref 65, .int (z71.1)]) (hi1 := z71.2.1) (hl1 := z71.2.2) rfl ?_ (fun _ _ _ => rfl)
                        obtain ⟨g72, h⟩ := grd_some h
                        refine EX.ialoadR (v := .int ((ev.2 ((v3 + (1))).toNatClampNeg))) rfl rfl rfl g72 rfl ?_
                        obtain ⟨z73, hz73, h⟩ := bnd_some h
                        refine EX.callV (b := 65) (as := [.int ((ev.2 ((v3 + (1))).toNatClampNeg))]) (rest := [.int (z71.1)]) (r := some (.int (z73.1))) (hi1 := z73.2.1) (hl1 := z73.2.2) rfl rfl rfl rfl rfl rfl ((b_MD_astray ev hz73).mono (by decide)) ?_
                        show EX w0 ev 29 m_LA_law 469 [(0, .ref 1000010), (1, .ref 0), (2, .ref 65), (3, .int (v3))] [.int (z73.1), .int (z71.1)] (z73.2.1) (z73.2.2) OUT
                        rcases ite_some h with ⟨c74, h⟩ | ⟨c74, h⟩
                        · refine EX.go (i := .if_icmp .eq 697) (len := 3) (pc1 := 1166) (st1 := []) (hi1 := z73.2.1) (hl1 := z73.2.2) rfl ?_ (fun _ _ _ => if_pos c74)
                          refine EX.pick [0, 1, 2, 3] ?_ rfl
                          exact bJ_LA_law_1166 ev h hk
                        · refine EX.go (i := .if_icmp .eq 697) (len := 3) (pc1 := 472) (st1 := []) (hi1 := z73.2.1) (hl1 := z73.2.2) rfl ?_ (fun _ _ _ => if_neg c74)
                          obtain rfl := Option.some.inj h
                          have hk := hk.2.2.2.2.2.2.2.2.2.2.1 rfl
                          have hk : EX w0 ev 29 m_LA_law 472 [] [] (z73.2.1) (z73.2.2) OUT := hk
                          exact EX.pick [] hk rfl
                      · rcases ite_some h with ⟨c75, h⟩ | ⟨c75, h⟩
                        · refine EX.tswI (x := (((ev.2 (v3).toNatClampNeg) : Int32) &&& (63))) (k := 10) (pc1 := 474) rfl c75 (fun _ _ _ => rfl) ?_
                          refine EX.aload_n (x := 0) rfl (List.mem_of_getElem? (i := 1) rfl) ?_
                          refine EX.aload_n (x := 1000010) rfl (List.mem_of_getElem? (i := 0) rfl) ?_
                          refine EX.iload_n (x := v3) rfl (List.mem_of_getElem? (i := 3) rfl) ?_
                          refine EX.iconst (v := 1) rfl rfl ?_
                          refine EX.go (i := .iadd) (len := 1) (pc1 := 479) (st1 := [.int ((v3 + (1))), .ref 1000010, .ref 0]) (hi1 := hi) (hl1 := hl) rfl ?_ (fun _ _ _ => rfl)
                          obtain ⟨g76, h⟩ := grd_some h
                          refine EX.ialoadR (v := .int ((ev.2 ((v3 + (1))).toNatClampNeg))) rfl rfl rfl g76 rfl ?_
                          obtain ⟨z77, hz77, h⟩ := bnd_some h
                          refine EX.callV (b := 0) (as := [.int ((ev.2 ((v3 + (1))).toNatClampNeg))]) (rest := []) (r := some (.int (z77.1))) (hi1 := z77.2.1) (hl1 := z77.2.2) rfl rfl rfl rfl rfl rfl ((b_LW_frame ev hz77).mono (by decide)) ?_
                          show EX w0 ev 29 m_LA_law 483 [(0, .ref 1000010), (1, .ref 0), (2, .ref 65), (3, .int (v3))] [.int (z77.1)] (z77.2.1) (z77.2.2) OUT
                          refine EX.aload_n (x := 65) rfl (List.mem_of_getElem? (i := 2) rfl) ?_
                          refine EX.aload_n (x := 1000010) rfl (List.mem_of_getElem? (i := 0) rfl) ?_
                          refine EX.iload_n (x := v3) rfl (List.mem_of_getElem? (i := 3) rfl) ?_
                          refine EX.iconst (v := 1) rfl rfl ?_
                          refine EX.go (i := .iadd) (len := 1) (pc1 := 488) (st1 := [.int ((v3 + (1))), .ref 1000010, .ref 65, .int (z77.1)]) (hi1 := z77.2.1) (hl1 := z77.2.2) rfl ?_ (fun _ _ _ => rfl)
                          obtain ⟨g78, h⟩ := grd_some h
                          refine EX.ialoadR (v := .int ((ev.2 ((v3 + (1))).toNatClampNeg))) rfl rfl rfl g78 rfl ?_
                          obtain ⟨z79, hz79, h⟩ := bnd_some h
                          refine EX.callV (b := 65) (as := [.int ((ev.2 ((v3 + (1))).toNatClampNeg))]) (rest := [.int (z77.1)]) (r := some (.int (z79.1))) (hi1 := z79.2.1) (hl1 := z79.2.2) rfl rfl rfl rfl rfl rfl ((b_MD_frame ev hz79).mono (by decide)) ?_
                          show EX w0 ev 29 m_LA_law 492 [(0, .ref 1000010), (1, .ref 0), (2, .ref 65), (3, .int (v3))] [.int (z79.1), .int (z77.1)] (z79.2.1) (z79.2.2) OUT
                          rcases ite_some h with ⟨c80, h⟩ | ⟨c80, h⟩
                          · refine EX.go (i := .if_icmp .eq 674) (len := 3) (pc1 := 1166) (st1 := []) (hi1 := z79.2.1) (hl1 := z79.2.2) rfl ?_ (fun _ _ _ => if_pos c80)
                            refine EX.pick [0, 1, 2, 3] ?_ rfl
                            exact bJ_LA_law_1166 ev h hk
                          · refine EX.go (i := .if_icmp .eq 674) (len := 3) (pc1 := 495) (st1 := []) (hi1 := z79.2.1) (hl1 := z79.2.2) rfl ?_ (fun _ _ _ => if_neg c80)
                            obtain rfl := Option.some.inj h
                            have hk := hk.2.2.2.2.2.2.2.2.2.2.2.1 rfl
                            have hk : EX w0 ev 29 m_LA_law 495 [] [] (z79.2.1) (z79.2.2) OUT := hk
                            exact EX.pick [] hk rfl
                        · rcases ite_some h with ⟨c81, h⟩ | ⟨c81, h⟩
                          · refine EX.tswI (x := (((ev.2 (v3).toNatClampNeg) : Int32) &&& (63))) (k := 11) (pc1 := 497) rfl c81 (fun _ _ _ => rfl) ?_
                            refine EX.aload_n (x := 0) rfl (List.mem_of_getElem? (i := 1) rfl) ?_
                            refine EX.aload_n (x := 1000010) rfl (List.mem_of_getElem? (i := 0) rfl) ?_
                            refine EX.iload_n (x := v3) rfl (List.mem_of_getElem? (i := 3) rfl) ?_
                            refine EX.iconst (v := 1) rfl rfl ?_
                            refine EX.go (i := .iadd) (len := 1) (pc1 := 502) (st1 := [.int ((v3 + (1))), .ref 1000010, .ref 0]) (hi1 := hi) (hl1 := hl) rfl ?_ (fun _ _ _ => rfl)
                            obtain ⟨g82, h⟩ := grd_some h
                            refine EX.ialoadR (v := .int ((ev.2 ((v3 + (1))).toNatClampNeg))) rfl rfl rfl g82 rfl ?_
                            refine EX.aload_n (x := 1000010) rfl (List.mem_of_getElem? (i := 0) rfl) ?_
                            refine EX.iload_n (x := v3) rfl (List.mem_of_getElem? (i := 3) rfl) ?_
                            refine EX.iconst (v := 2) rfl rfl ?_
                            refine EX.go (i := .iadd) (len := 1) (pc1 := 507) (st1 := [.int ((v3 + (2))), .ref 1000010, .int ((ev.2 ((v3 + (1))).toNatClampNeg)), .ref 0]) (hi1 := hi) (hl1 := hl) rfl ?_ (fun _ _ _ => rfl)
                            obtain ⟨g83, h⟩ := grd_some h
                            refine EX.ialoadR (v := .int ((ev.2 ((v3 + (2))).toNatClampNeg))) rfl rfl rfl g83 rfl ?_
                            obtain ⟨z84, hz84, h⟩ := bnd_some h
                            refine EX.callV (b := 0) (as := [.int ((ev.2 ((v3 + (1))).toNatClampNeg)), .int ((ev.2 ((v3 + (2))).toNatClampNeg))]) (rest := []) (r := some (.int (z84.1))) (hi1 := z84.2.1) (hl1 := z84.2.2) rfl rfl rfl rfl rfl rfl ((b_LW_frameTurn ev hz84).mono (by decide)) ?_
                            show EX w0 ev 29 m_LA_law 511 [(0, .ref 1000010), (1, .ref 0), (2, .ref 65), (3, .int (v3))] [.int (z84.1)] (z84.2.1) (z84.2.2) OUT
                            refine EX.aload_n (x := 65) rfl (List.mem_of_getElem? (i := 2) rfl) ?_
                            refine EX.aload_n (x := 1000010) rfl (List.mem_of_getElem? (i := 0) rfl) ?_
                            refine EX.iload_n (x := v3) rfl (List.mem_of_getElem? (i := 3) rfl) ?_
                            refine EX.iconst (v := 1) rfl rfl ?_
                            refine EX.go (i := .iadd) (len := 1) (pc1 := 516) (st1 := [.int ((v3 + (1))), .ref 1000010, .ref 65, .int (z84.1)]) (hi1 := z84.2.1) (hl1 := z84.2.2) rfl ?_ (fun _ _ _ => rfl)
                            obtain ⟨g85, h⟩ := grd_some h
                            refine EX.ialoadR (v := .int ((ev.2 ((v3 + (1))).toNatClampNeg))) rfl rfl rfl g85 rfl ?_
                            refine EX.aload_n (x := 1000010) rfl (List.mem_of_getElem? (i := 0) rfl) ?_
                            refine EX.iload_n (x := v3) rfl (List.mem_of_getElem? (i := 3) rfl) ?_
                            refine EX.iconst (v := 2) rfl rfl ?_
                            refine EX.go (i := .iadd) (len := 1) (pc1 := 521) (st1 := [.int ((v3 + (2))), .ref 1000010, .int ((ev.2 ((v3 + (1))).toNatClampNeg)), .ref 65, .int (z84.1)]) (hi1 := z84.2.1) (hl1 := z84.2.2) rfl ?_ (fun _ _ _ => rfl)
                            obtain ⟨g86, h⟩ := grd_some h
                            refine EX.ialoadR (v := .int ((ev.2 ((v3 + (2))).toNatClampNeg))) rfl rfl rfl g86 rfl ?_
                            obtain ⟨z87, hz87, h⟩ := bnd_some h
                            refine EX.callV (b := 65) (as := [.int ((ev.2 ((v3 + (1))).toNatClampNeg)), .int ((ev.2 ((v3 + (2))).toNatClampNeg))]) (rest := [.int (z84.1)]) (r := some (.int (z87.1))) (hi1 := z87.2.1) (hl1 := z87.2.2) rfl rfl rfl rfl rfl rfl ((b_MD_frameTurn ev hz87).mono (by decide)) ?_
                            show EX w0 ev 29 m_LA_law 525 [(0, .ref 1000010), (1, .ref 0), (2, .ref 65), (3, .int (v3))] [.int (z87.1), .int (z84.1)] (z87.2.1) (z87.2.2) OUT
                            rcases ite_some h with ⟨c88, h⟩ | ⟨c88, h⟩
                            · refine EX.go (i := .if_icmp .eq 641) (len := 3) (pc1 := 1166) (st1 := []) (hi1 := z87.2.1) (hl1 := z87.2.2) rfl ?_ (fun _ _ _ => if_pos c88)
                              refine EX.pick [0, 1, 2, 3] ?_ rfl
                              exact bJ_LA_law_1166 ev h hk
                            · refine EX.go (i := .if_icmp .eq 641) (len := 3) (pc1 := 528) (st1 := []) (hi1 := z87.2.1) (hl1 := z87.2.2) rfl ?_ (fun _ _ _ => if_neg c88)
                              obtain rfl := Option.some.inj h
                              have hk := hk.2.2.2.2.2.2.2.2.2.2.2.2.1 rfl
                              have hk : EX w0 ev 29 m_LA_law 528 [] [] (z87.2.1) (z87.2.2) OUT := hk
                              exact EX.pick [] hk rfl
                          · rcases ite_some h with ⟨c89, h⟩ | ⟨c89, h⟩
                            · refine EX.tswI (x := (((ev.2 (v3).toNatClampNeg) : Int32) &&& (63))) (k := 12) (pc1 := 530) rfl c89 (fun _ _ _ => rfl) ?_
                              refine EX.aload_n (x := 0) rfl (List.mem_of_getElem? (i := 1) rfl) ?_
                              obtain ⟨z90, hz90, h⟩ := bnd_some h
                              refine EX.callV (b := 0) (as := []) (rest := []) (r := some (.int (z90.1))) (hi1 := z90.2.1) (hl1 := z90.2.2) rfl rfl rfl rfl rfl rfl ((b_LW_sets ev hz90).mono (by decide)) ?_
                              show EX w0 ev 29 m_LA_law 534 [(0, .ref 1000010), (1, .ref 0), (2, .ref 65), (3, .int (v3))] [.int (z90.1)] (z90.2.1) (z90.2.2) OUT
                              refine EX.aload_n (x := 65) rfl (List.mem_of_getElem? (i := 2) rfl) ?_
                              obtain ⟨z91, hz91, h⟩ := bnd_some h
                              refine EX.callV (b := 65) (as := []) (rest := [.int (z90.1)]) (r := some (.int (z91.1))) (hi1 := z91.2.1) (hl1 := z91.2.2) rfl rfl rfl rfl rfl rfl ((b_MD_sets ev hz91).mono (by decide)) ?_
                              show EX w0 ev 29 m_LA_law 538 [(0, .ref 1000010), (1, .ref 0), (2, .ref 65), (3, .int (v3))] [.int (z91.1), .int (z90.1)] (z91.2.1) (z91.2.2) OUT
                              rcases ite_some h with ⟨c92, h⟩ | ⟨c92, h⟩
                              · refine EX.go (i := .if_icmp .eq 628) (len := 3) (pc1 := 1166) (st1 := []) (hi1 := z91.2.1) (hl1 := z91.2.2) rfl ?_ (fun _ _ _ => if_pos c92)
                                refine EX.pick [0, 1, 2, 3] ?_ rfl
                                exact bJ_LA_law_1166 ev h hk
                              · refine EX.go (i := .if_icmp .eq 628) (len := 3) (pc1 := 541) (st1 := []) (hi1 := z91.2.1) (hl1 := z91.2.2) rfl ?_ (fun _ _ _ => if_neg c92)
                                obtain rfl := Option.some.inj h
                                have hk := hk.2.2.2.2.2.2.2.2.2.2.2.2.2.1 rfl
                                have hk : EX w0 ev 29 m_LA_law 541 [] [] (z91.2.1) (z91.2.2) OUT := hk
                                exact EX.pick [] hk rfl
                            · rcases ite_some h with ⟨c93, h⟩ | ⟨c93, h⟩
                              · refine EX.tswI (x := (((ev.2 (v3).toNatClampNeg) : Int32) &&& (63))) (k := 13) (pc1 := 543) rfl c93 (fun _ _ _ => rfl) ?_
                                refine EX.aload_n (x := 0) rfl (List.mem_of_getElem? (i := 1) rfl) ?_
                                refine EX.aload_n (x := 1000010) rfl (List.mem_of_getElem? (i := 0) rfl) ?_
                                refine EX.iload_n (x := v3) rfl (List.mem_of_getElem? (i := 3) rfl) ?_
                                refine EX.iconst (v := 1) rfl rfl ?_
                                refine EX.go (i := .iadd) (len := 1) (pc1 := 548) (st1 := [.int ((v3 + (1))), .ref 1000010, .ref 0]) (hi1 := hi) (hl1 := hl) rfl ?_ (fun _ _ _ => rfl)
                                obtain ⟨g94, h⟩ := grd_some h
                                refine EX.ialoadR (v := .int ((ev.2 ((v3 + (1))).toNatClampNeg))) rfl rfl rfl g94 rfl ?_
                                obtain ⟨z95, hz95, h⟩ := bnd_some h
                                refine EX.callV (b := 0) (as := [.int ((ev.2 ((v3 + (1))).toNatClampNeg))]) (rest := []) (r := some (.int (z95.1))) (hi1 := z95.2.1) (hl1 := z95.2.2) rfl rfl rfl rfl rfl rfl ((b_LW_shown ev hz95).mono (by decide)) ?_
                                show EX w0 ev 29 m_LA_law 552 [(0, .ref 1000010), (1, .ref 0), (2, .ref 65), (3, .int (v3))] [.int (z95.1)] (z95.2.1) (z95.2.2) OUT
                                refine EX.aload_n (x := 65) rfl (List.mem_of_getElem? (i := 2) rfl) ?_
                                refine EX.aload_n (x := 1000010) rfl (List.mem_of_getElem? (i := 0) rfl) ?_
                                refine EX.iload_n (x := v3) rfl (List.mem_of_getElem? (i := 3) rfl) ?_
                                refine EX.iconst (v := 1) rfl rfl ?_
                                refine EX.go (i := .iadd) (len := 1) (pc1 := 557) (st1 := [.int ((v3 + (1))), .ref 1000010, .ref 65, .int (z95.1)]) (hi1 := z95.2.1) (hl1 := z95.2.2) rfl ?_ (fun _ _ _ => rfl)
                                obtain ⟨g96, h⟩ := grd_some h
                                refine EX.ialoadR (v := .int ((ev.2 ((v3 + (1))).toNatClampNeg))) rfl rfl rfl g96 rfl ?_
                                obtain ⟨z97, hz97, h⟩ := bnd_some h
                                refine EX.callV (b := 65) (as := [.int ((ev.2 ((v3 + (1))).toNatClampNeg))]) (rest := [.int (z95.1)]) (r := some (.int (z97.1))) (hi1 := z97.2.1) (hl1 := z97.2.2) rfl rfl rfl rfl rfl rfl ((b_MD_shown ev hz97).mono (by decide)) ?_
                                show EX w0 ev 29 m_LA_law 561 [(0, .ref 1000010), (1, .ref 0), (2, .ref 65), (3, .int (v3))] [.int (z97.1), .int (z95.1)] (z97.2.1) (z97.2.2) OUT
                                rcases ite_some h with ⟨c98, h⟩ | ⟨c98, h⟩
                                · refine EX.go (i := .if_icmp .eq 605) (len := 3) (pc1 := 1166) (st1 := []) (hi1 := z97.2.1) (hl1 := z97.2.2) rfl ?_ (fun _ _ _ => if_pos c98)
                                  refine EX.pick [0, 1, 2, 3] ?_ rfl
                                  exact bJ_LA_law_1166 ev h hk
                                · refine EX.go (i := .if_icmp .eq 605) (len := 3) (pc1 := 564) (st1 := []) (hi1 := z97.2.1) (hl1 := z97.2.2) rfl ?_ (fun _ _ _ => if_neg c98)
                                  obtain rfl := Option.some.inj h
                                  have hk := hk.2.2.2.2.2.2.2.2.2.2.2.2.2.2.1 rfl
                                  have hk : EX w0 ev 29 m_LA_law 564 [] [] (z97.2.1) (z97.2.2) OUT := hk
                                  exact EX.pick [] hk rfl
                              · rcases ite_some h with ⟨c99, h⟩ | ⟨c99, h⟩
                                · refine EX.tswI (x := (((ev.2 (v3).toNatClampNeg) : Int32) &&& (63))) (k := 14) (pc1 := 566) rfl c99 (fun _ _ _ => rfl) ?_
                                  refine EX.aload_n (x := 0) rfl (List.mem_of_getElem? (i := 1) rfl) ?_
                                  refine EX.aload_n (x := 1000010) rfl (List.mem_of_getElem? (i := 0) rfl) ?_
                                  refine EX.iload_n (x := v3) rfl (List.mem_of_getElem? (i := 3) rfl) ?_
                                  refine EX.iconst (v := 1) rfl rfl ?_
                                  refine EX.go (i := .iadd) (len := 1) (pc1 := 571) (st1 := [.int ((v3 + (1))), .ref 1000010, .ref 0]) (hi1 := hi) (hl1 := hl) rfl ?_ (fun _ _ _ => rfl)
                                  obtain ⟨g100, h⟩ := grd_some h
                                  refine EX.ialoadR (v := .int ((ev.2 ((v3 + (1))).toNatClampNeg))) rfl rfl rfl g100 rfl ?_
                                  refine EX.aload_n (x := 1000010) rfl (List.mem_of_getElem? (i := 0) rfl) ?_
                                  refine EX.iload_n (x := v3) rfl (List.mem_of_getElem? (i := 3) rfl) ?_
                                  refine EX.iconst (v := 2) rfl rfl ?_
                                  refine EX.go (i := .iadd) (len := 1) (pc1 := 576) (st1 := [.int ((v3 + (2))), .ref 1000010, .int ((ev.2 ((v3 + (1))).toNatClampNeg)), .ref 0]) (hi1 := hi) (hl1 := hl) rfl ?_ (fun _ _ _ => rfl)
                                  obtain ⟨g101, h⟩ := grd_some h
                                  refine EX.ialoadR (v := .int ((ev.2 ((v3 + (2))).toNatClampNeg))) rfl rfl rfl g101 rfl ?_
                                  obtain ⟨z102, hz102, h⟩ := bnd_some h
                                  refine EX.callV (b := 0) (as := [.int ((ev.2 ((v3 + (1))).toNatClampNeg)), .int ((ev.2 ((v3 + (2))).toNatClampNeg))]) (rest := []) (r := some (.int (z102.1))) (hi1 := z102.2.1) (hl1 := z102.2.2) rfl rfl rfl rfl rfl rfl ((b_LW_level ev hz102).mono (by decide)) ?_
                                  show EX w0 ev 29 m_LA_law 580 [(0, .ref 1000010), (1, .ref 0), (2, .ref 65), (3, .int (v3))] [.int (z102.1)] (z102.2.1) (z102.2.2) OUT
                                  refine EX.aload_n (x := 65) rfl (List.mem_of_getElem? (i := 2) rfl) ?_
                                  refine EX.aload_n (x := 1000010) rfl (List.mem_of_getElem? (i := 0) rfl) ?_
                                  refine EX.iload_n (x := v3) rfl (List.mem_of_getElem? (i := 3) rfl) ?_
                                  refine EX.iconst (v := 1) rfl rfl ?_
                                  refine EX.go (i := .iadd) (len := 1) (pc1 := 585) (st1 := [.int ((v3 + (1))), .ref 1000010, .ref 65, .int (z102.1)]) (hi1 := z102.2.1) (hl1 := z102.2.2) rfl ?_ (fun _ _ _ => rfl)
                                  obtain ⟨g103, h⟩ := grd_some h
                                  refine EX.ialoadR (v := .int ((ev.2 ((v3 + (1))).toNatClampNeg))) rfl rfl rfl g103 rfl ?_
                                  refine EX.aload_n (x := 1000010) rfl (List.mem_of_getElem? (i := 0) rfl) ?_
                                  refine EX.iload_n (x := v3) rfl (List.mem_of_getElem? (i := 3) rfl) ?_
                                  refine EX.iconst (v := 2) rfl rfl ?_
                                  refine EX.go (i := .iadd) (len := 1) (pc1 := 590) (st1 := [.int ((v3 + (2))), .ref 1000010, .int ((ev.2 ((v3 + (1))).toNatClampNeg)), .ref 65, .int (z102.1)]) (hi1 := z102.2.1) (hl1 := z102.2.2) rfl ?_ (fun _ _ _ => rfl)
                                  obtain ⟨g104, h⟩ := grd_some h
                                  refine EX.ialoadR (v := .int ((ev.2 ((v3 + (2))).toNatClampNeg))) rfl rfl rfl g104 rfl ?_
                                  obtain ⟨z105, hz105, h⟩ := bnd_some h
                                  refine EX.callV (b := 65) (as := [.int ((ev.2 ((v3 + (1))).toNatClampNeg)), .int ((ev.2 ((v3 + (2))).toNatClampNeg))]) (rest := [.int (z102.1)]) (r := some (.int (z105.1))) (hi1 := z105.2.1) (hl1 := z105.2.2) rfl rfl rfl rfl rfl rfl ((b_MD_level ev hz105).mono (by decide)) ?_
                                  show EX w0 ev 29 m_LA_law 594 [(0, .ref 1000010), (1, .ref 0), (2, .ref 65), (3, .int (v3))] [.int (z105.1), .int (z102.1)] (z105.2.1) (z105.2.2) OUT
                                  rcases ite_some h with ⟨c106, h⟩ | ⟨c106, h⟩
                                  · refine EX.go (i := .if_icmp .eq 572) (len := 3) (pc1 := 1166) (st1 := []) (hi1 := z105.2.1) (hl1 := z105.2.2) rfl ?_ (fun _ _ _ => if_pos c106)
                                    refine EX.pick [0, 1, 2, 3] ?_ rfl
                                    exact bJ_LA_law_1166 ev h hk
                                  · refine EX.go (i := .if_icmp .eq 572) (len := 3) (pc1 := 597) (st1 := []) (hi1 := z105.2.1) (hl1 := z105.2.2) rfl ?_ (fun _ _ _ => if_neg c106)
                                    obtain rfl := Option.some.inj h
                                    have hk := hk.2.2.2.2.2.2.2.2.2.2.2.2.2.2.2.1 rfl
                                    have hk : EX w0 ev 29 m_LA_law 597 [] [] (z105.2.1) (z105.2.2) OUT := hk
                                    exact EX.pick [] hk rfl
                                · rcases ite_some h with ⟨c107, h⟩ | ⟨c107, h⟩
                                  · refine EX.tswI (x := (((ev.2 (v3).toNatClampNeg) : Int32) &&& (63))) (k := 15) (pc1 := 599) rfl c107 (fun _ _ _ => rfl) ?_
                                    refine EX.aload_n (x := 0) rfl (List.mem_of_getElem? (i := 1) rfl) ?_
                                    refine EX.aload_n (x := 1000010) rfl (List.mem_of_getElem? (i := 0) rfl) ?_
                                    refine EX.iload_n (x := v3) rfl (List.mem_of_getElem? (i := 3) rfl) ?_
                                    refine EX.iconst (v := 1) rfl rfl ?_
                                    refine EX.go (i := .iadd) (len := 1) (pc1 := 604) (st1 := [.int ((v3 + (1))), .ref 1000010, .ref 0]) (hi1 := hi) (hl1 := hl) rfl ?_ (fun _ _ _ => rfl)
                                    obtain ⟨g108, h⟩ := grd_some h
                                    refine EX.ialoadR (v := .int ((ev.2 ((v3 + (1))).toNatClampNeg))) rfl rfl rfl g108 rfl ?_
                                    obtain ⟨z109, hz109, h⟩ := bnd_some h
                                    refine EX.callV (b := 0) (as := [.int ((ev.2 ((v3 + (1))).toNatClampNeg))]) (rest := []) (r := some (.int (z109.1))) (hi1 := z109.2.1) (hl1 := z109.2.2) rfl rfl rfl rfl rfl rfl ((b_LW_plan ev hz109).mono (by decide)) ?_
                                    show EX w0 ev 29 m_LA_law 608 [(0, .ref 1000010), (1, .ref 0), (2, .ref 65), (3, .int (v3))] [.int (z109.1)] (z109.2.1) (z109.2.2) OUT
                                    refine EX.aload_n (x := 65) rfl (List.mem_of_getElem? (i := 2) rfl) ?_
                                    refine EX.aload_n (x := 1000010) rfl (List.mem_of_getElem? (i := 0) rfl) ?_
                                    refine EX.iload_n (x := v3) rfl (List.mem_of_getElem? (i := 3) rfl) ?_
                                    refine EX.iconst (v := 1) rfl rfl ?_
                                    refine EX.go (i := .iadd) (len := 1) (pc1 := 613) (st1 := [.int ((v3 + (1))), .ref 1000010, .ref 65, .int (z109.1)]) (hi1 := z109.2.1) (hl1 := z109.2.2) rfl ?_ (fun _ _ _ => rfl)
                                    obtain ⟨g110, h⟩ := grd_some h
                                    refine EX.ialoadR (v := .int ((ev.2 ((v3 + (1))).toNatClampNeg))) rfl rfl rfl g110 rfl ?_
                                    obtain ⟨z111, hz111, h⟩ := bnd_some h
                                    refine EX.callV (b := 65) (as := [.int ((ev.2 ((v3 + (1))).toNatClampNeg))]) (rest := [.int (z109.1)]) (r := some (.int (z111.1))) (hi1 := z111.2.1) (hl1 := z111.2.2) rfl rfl rfl rfl rfl rfl ((b_MD_plan ev hz111).mono (by decide)) ?_
                                    show EX w0 ev 29 m_LA_law 617 [(0, .ref 1000010), (1, .ref 0), (2, .ref 65), (3, .int (v3))] [.int (z111.1), .int (z109.1)] (z111.2.1) (z111.2.2) OUT
                                    rcases ite_some h with ⟨c112, h⟩ | ⟨c112, h⟩
                                    · refine EX.go (i := .if_icmp .eq 549) (len := 3) (pc1 := 1166) (st1 := []) (hi1 := z111.2.1) (hl1 := z111.2.2) rfl ?_ (fun _ _ _ => if_pos c112)
                                      refine EX.pick [0, 1, 2, 3] ?_ rfl
                                      exact bJ_LA_law_1166 ev h hk
                                    · refine EX.go (i := .if_icmp .eq 549) (len := 3) (pc1 := 620) (st1 := []) (hi1 := z111.2.1) (hl1 := z111.2.2) rfl ?_ (fun _ _ _ => if_neg c112)
                                      obtain rfl := Option.some.inj h
                                      have hk := hk.2.2.2.2.2.2.2.2.2.2.2.2.2.2.2.2.1 rfl
                                      have hk : EX w0 ev 29 m_LA_law 620 [] [] (z111.2.1) (z111.2.2) OUT := hk
                                      exact EX.pick [] hk rfl
                                  · rcases ite_some h with ⟨c113, h⟩ | ⟨c113, h⟩
                                    · refine EX.tswI (x := (((ev.2 (v3).toNatClampNeg) : Int32) &&& (63))) (k := 16) (pc1 := 622) rfl c113 (fun _ _ _ => rfl) ?_
                                      refine EX.aload_n (x := 0) rfl (List.mem_of_getElem? (i := 1) rfl) ?_
                                      refine EX.aload_n (x := 1000010) rfl (List.mem_of_getElem? (i := 0) rfl) ?_
                                      refine EX.iload_n (x := v3) rfl (List.mem_of_getElem? (i := 3) rfl) ?_
                                      refine EX.iconst (v := 1) rfl rfl ?_
                                      refine EX.go (i := .iadd) (len := 1) (pc1 := 627) (st1 := [.int ((v3 + (1))), .ref 1000010, .ref 0]) (hi1 := hi) (hl1 := hl) rfl ?_ (fun _ _ _ => rfl)
                                      obtain ⟨g114, h⟩ := grd_some h
                                      refine EX.ialoadR (v := .int ((ev.2 ((v3 + (1))).toNatClampNeg))) rfl rfl rfl g114 rfl ?_
                                      refine EX.aload_n (x := 1000010) rfl (List.mem_of_getElem? (i := 0) rfl) ?_
                                      refine EX.iload_n (x := v3) rfl (List.mem_of_getElem? (i := 3) rfl) ?_
                                      refine EX.iconst (v := 2) rfl rfl ?_
                                      refine EX.go (i := .iadd) (len := 1) (pc1 := 632) (st1 := [.int ((v3 + (2))), .ref 1000010, .int ((ev.2 ((v3 + (1))).toNatClampNeg)), .ref 0]) (hi1 := hi) (hl1 := hl) rfl ?_ (fun _ _ _ => rfl)
                                      obtain ⟨g115, h⟩ := grd_some h
                                      refine EX.ialoadR (v := .int ((ev.2 ((v3 + (2))).toNatClampNeg))) rfl rfl rfl g115 rfl ?_
                                      obtain ⟨z116, hz116, h⟩ := bnd_some h
                                      refine EX.callV (b := 0) (as := [.int ((ev.2 ((v3 + (1))).toNatClampNeg)), .int ((ev.2 ((v3 + (2))).toNatClampNeg))]) (rest := []) (r := some (.int (z116.1))) (hi1 := z116.2.1) (hl1 := z116.2.2) rfl rfl rfl rfl rfl rfl ((b_LW_light ev hz116).mono (by decide)) ?_
                                      show EX w0 ev 29 m_LA_law 636 [(0, .ref 1000010), (1, .ref 0), (2, .ref 65), (3, .int (v3))] [.int (z116.1)] (z116.2.1) (z116.2.2) OUT
                                      refine EX.aload_n (x := 65) rfl (List.mem_of_getElem? (i := 2) rfl) ?_
                                      refine EX.aload_n (x := 1000010) rfl (List.mem_of_getElem? (i := 0) rfl) ?_
                                      refine EX.iload_n (x := v3) rfl (List.mem_of_getElem? (i := 3) rfl) ?_
                                      refine EX.iconst (v := 1) rfl rfl ?_
                                      refine EX.go (i := .iadd) (len := 1) (pc1 := 641) (st1 := [.int ((v3 + (1))), .ref 1000010, .ref 65, .int (z116.1)]) (hi1 := z116.2.1) (hl1 := z116.2.2) rfl ?_ (fun _ _ _ => rfl)
                                      obtain ⟨g117, h⟩ := grd_some h
                                      refine EX.ialoadR (v := .int ((ev.2 ((v3 + (1))).toNatClampNeg))) rfl rfl rfl g117 rfl ?_
                                      refine EX.aload_n (x := 1000010) rfl (List.mem_of_getElem? (i := 0) rfl) ?_
                                      refine EX.iload_n (x := v3) rfl (List.mem_of_getElem? (i := 3) rfl) ?_
                                      refine EX.iconst (v := 2) rfl rfl ?_
                                      refine EX.go (i := .iadd) (len := 1) (pc1 := 646) (st1 := [.int ((v3 + (2))), .ref 1000010, .int ((ev.2 ((v3 + (1))).toNatClampNeg)), .ref 65, .int (z116.1)]) (hi1 := z116.2.1) (hl1 := z116.2.2) rfl ?_ (fun _ _ _ => rfl)
                                      obtain ⟨g118, h⟩ := grd_some h
                                      refine EX.ialoadR (v := .int ((ev.2 ((v3 + (2))).toNatClampNeg))) rfl rfl rfl g118 rfl ?_
                                      obtain ⟨z119, hz119, h⟩ := bnd_some h
                                      refine EX.callV (b := 65) (as := [.int ((ev.2 ((v3 + (1))).toNatClampNeg)), .int ((ev.2 ((v3 + (2))).toNatClampNeg))]) (rest := [.int (z116.1)]) (r := some (.int (z119.1))) (hi1 := z119.2.1) (hl1 := z119.2.2) rfl rfl rfl rfl rfl rfl ((b_MD_light ev hz119).mono (by decide)) ?_
                                      show EX w0 ev 29 m_LA_law 650 [(0, .ref 1000010), (1, .ref 0), (2, .ref 65), (3, .int (v3))] [.int (z119.1), .int (z116.1)] (z119.2.1) (z119.2.2) OUT
                                      rcases ite_some h with ⟨c120, h⟩ | ⟨c120, h⟩
                                      · refine EX.go (i := .if_icmp .eq 516) (len := 3) (pc1 := 1166) (st1 := []) (hi1 := z119.2.1) (hl1 := z119.2.2) rfl ?_ (fun _ _ _ => if_pos c120)
                                        refine EX.pick [0, 1, 2, 3] ?_ rfl
                                        exact bJ_LA_law_1166 ev h hk
                                      · refine EX.go (i := .if_icmp .eq 516) (len := 3) (pc1 := 653) (st1 := []) (hi1 := z119.2.1) (hl1 := z119.2.2) rfl ?_ (fun _ _ _ => if_neg c120)
                                        obtain rfl := Option.some.inj h
                                        have hk := hk.2.2.2.2.2.2.2.2.2.2.2.2.2.2.2.2.2.1 rfl
                                        have hk : EX w0 ev 29 m_LA_law 653 [] [] (z119.2.1) (z119.2.2) OUT := hk
                                        exact EX.pick [] hk rfl
                                    · rcases ite_some h with ⟨c121, h⟩ | ⟨c121, h⟩
                                      · refine EX.tswI (x := (((ev.2 (v3).toNatClampNeg) : Int32) &&& (63))) (k := 17) (pc1 := 655) rfl c121 (fun _ _ _ => rfl) ?_
                                        refine EX.aload_n (x := 0) rfl (List.mem_of_getElem? (i := 1) rfl) ?_
                                        refine EX.aload_n (x := 1000010) rfl (List.mem_of_getElem? (i := 0) rfl) ?_
                                        refine EX.iload_n (x := v3) rfl (List.mem_of_getElem? (i := 3) rfl) ?_
                                        refine EX.iconst (v := 1) rfl rfl ?_
                                        refine EX.go (i := .iadd) (len := 1) (pc1 := 660) (st1 := [.int ((v3 + (1))), .ref 1000010, .ref 0]) (hi1 := hi) (hl1 := hl) rfl ?_ (fun _ _ _ => rfl)
                                        obtain ⟨g122, h⟩ := grd_some h
                                        refine EX.ialoadR (v := .int ((ev.2 ((v3 + (1))).toNatClampNeg))) rfl rfl rfl g122 rfl ?_
                                        obtain ⟨z123, hz123, h⟩ := bnd_some h
                                        refine EX.callV (b := 0) (as := [.int ((ev.2 ((v3 + (1))).toNatClampNeg))]) (rest := []) (r := some (.int (z123.1))) (hi1 := z123.2.1) (hl1 := z123.2.2) rfl rfl rfl rfl rfl rfl ((b_LW_uneven ev hz123).mono (by decide)) ?_
                                        show EX w0 ev 29 m_LA_law 664 [(0, .ref 1000010), (1, .ref 0), (2, .ref 65), (3, .int (v3))] [.int (z123.1)] (z123.2.1) (z123.2.2) OUT
                                        refine EX.aload_n (x := 65) rfl (List.mem_of_getElem? (i := 2) rfl) ?_
                                        refine EX.aload_n (x := 1000010) rfl (List.mem_of_getElem? (i := 0) rfl) ?_
                                        refine EX.iload_n (x := v3) rfl (List.mem_of_getElem? (i := 3) rfl) ?_
                                        refine EX.iconst (v := 1) rfl rfl ?_
                                        refine EX.go (i := .iadd) (len := 1) (pc1 := 669) (st1 := [.int ((v3 + (1))), .ref 1000010, .ref 65, .int (z123.1)]) (hi1 := z123.2.1) (hl1 := z123.2.2) rfl ?_ (fun _ _ _ => rfl)
                                        obtain ⟨g124, h⟩ := grd_some h
                                        refine EX.ialoadR (v := .int ((ev.2 ((v3 + (1))).toNatClampNeg))) rfl rfl rfl g124 rfl ?_
                                        obtain ⟨z125, hz125, h⟩ := bnd_some h
                                        refine EX.callV (b := 65) (as := [.int ((ev.2 ((v3 + (1))).toNatClampNeg))]) (rest := [.int (z123.1)]) (r := some (.int (z125.1))) (hi1 := z125.2.1) (hl1 := z125.2.2) rfl rfl rfl rfl rfl rfl ((b_MD_uneven ev hz125).mono (by decide)) ?_
                                        show EX w0 ev 29 m_LA_law 673 [(0, .ref 1000010), (1, .ref 0), (2, .ref 65), (3, .int (v3))] [.int (z125.1), .int (z123.1)] (z125.2.1) (z125.2.2) OUT
                                        rcases ite_some h with ⟨c126, h⟩ | ⟨c126, h⟩
                                        · refine EX.go (i := .if_icmp .eq 493) (len := 3) (pc1 := 1166) (st1 := []) (hi1 := z125.2.1) (hl1 := z125.2.2) rfl ?_ (fun _ _ _ => if_pos c126)
                                          refine EX.pick [0, 1, 2, 3] ?_ rfl
                                          exact bJ_LA_law_1166 ev h hk
                                        · refine EX.go (i := .if_icmp .eq 493) (len := 3) (pc1 := 676) (st1 := []) (hi1 := z125.2.1) (hl1 := z125.2.2) rfl ?_ (fun _ _ _ => if_neg c126)
                                          obtain rfl := Option.some.inj h
                                          have hk := hk.2.2.2.2.2.2.2.2.2.2.2.2.2.2.2.2.2.2.1 rfl
                                          have hk : EX w0 ev 29 m_LA_law 676 [] [] (z125.2.1) (z125.2.2) OUT := hk
                                          exact EX.pick [] hk rfl
                                      · rcases ite_some h with ⟨c127, h⟩ | ⟨c127, h⟩
                                        · refine EX.tswI (x := (((ev.2 (v3).toNatClampNeg) : Int32) &&& (63))) (k := 18) (pc1 := 678) rfl c127 (fun _ _ _ => rfl) ?_
                                          refine EX.aload_n (x := 0) rfl (List.mem_of_getElem? (i := 1) rfl) ?_
                                          refine EX.aload_n (x := 1000010) rfl (List.mem_of_getElem? (i := 0) rfl) ?_
                                          refine EX.iload_n (x := v3) rfl (List.mem_of_getElem? (i := 3) rfl) ?_
                                          refine EX.iconst (v := 1) rfl rfl ?_
                                          refine EX.go (i := .iadd) (len := 1) (pc1 := 683) (st1 := [.int ((v3 + (1))), .ref 1000010, .ref 0]) (hi1 := hi) (hl1 := hl) rfl ?_ (fun _ _ _ => rfl)
                                          obtain ⟨g128, h⟩ := grd_some h
                                          refine EX.ialoadR (v := .int ((ev.2 ((v3 + (1))).toNatClampNeg))) rfl rfl rfl g128 rfl ?_
                                          refine EX.go (i := .i2l) (len := 1) (pc1 := 685) (st1 := [.long ((Int32.toInt64 ((ev.2 ((v3 + (1))).toNatClampNeg)))), .ref 0]) (hi1 := hi) (hl1 := hl) rfl ?_ (fun _ _ _ => rfl)
                                          refine EX.bipush (v := 32) rfl rfl ?_
                                          refine EX.go (i := .lshl) (len := 1) (pc1 := 688) (st1 := [.long ((((Int32.toInt64 ((ev.2 ((v3 + (1))).toNatClampNeg))) : Int64) <<< (Int32.toInt64 (32) &&& 63))), .ref 0]) (hi1 := hi) (hl1 := hl) rfl ?_ (fun _ _ _ => rfl)
                                          refine EX.aload_n (x := 1000010) rfl (List.mem_of_getElem? (i := 0) rfl) ?_
                                          refine EX.iload_n (x := v3) rfl (List.mem_of_getElem? (i := 3) rfl) ?_
                                          refine EX.iconst (v := 2) rfl rfl ?_
                                          refine EX.go (i := .iadd) (len := 1) (pc1 := 692) (st1 := [.int ((v3 + (2))), .ref 1000010, .long ((((Int32.toInt64 ((ev.2 ((v3 + (1))).toNatClampNeg))) : Int64) <<< (Int32.toInt64 (32) &&& 63))), .ref 0]) (hi1 := hi) (hl1 := hl) rfl ?_ (fun _ _ _ => rfl)
                                          obtain ⟨g129, h⟩ := grd_some h
                                          refine EX.ialoadR (v := .int ((ev.2 ((v3 + (2))).toNatClampNeg))) rfl rfl rfl g129 rfl ?_
                                          refine EX.go (i := .i2l) (len := 1) (pc1 := 694) (st1 := [.long ((Int32.toInt64 ((ev.2 ((v3 + (2))).toNatClampNeg)))), .long ((((Int32.toInt64 ((ev.2 ((v3 + (1))).toNatClampNeg))) : Int64) <<< (Int32.toInt64 (32) &&& 63))), .ref 0]) (hi1 := hi) (hl1 := hl) rfl ?_ (fun _ _ _ => rfl)
                                          refine EX.go (i := .ldc2_w 89) (len := 3) (pc1 := 697) (st1 := [.long (4294967295), .long ((Int32.toInt64 ((ev.2 ((v3 + (2))).toNatClampNeg)))), .long ((((Int32.toInt64 ((ev.2 ((v3 + (1))).toNatClampNeg))) : Int64) <<< (Int32.toInt64 (32) &&& 63))), .ref 0]) (hi1 := hi) (hl1 := hl) rfl ?_ (fun _ _ _ => rfl)
                                          refine EX.go (i := .land) (len := 1) (pc1 := 698) (st1 := [.long ((((Int32.toInt64 ((ev.2 ((v3 + (2))).toNatClampNeg))) : Int64) &&& (4294967295))), .long ((((Int32.toInt64 ((ev.2 ((v3 + (1))).toNatClampNeg))) : Int64) <<< (Int32.toInt64 (32) &&& 63))), .ref 0]) (hi1 := hi) (hl1 := hl) rfl ?_ (fun _ _ _ => rfl)
                                          refine EX.go (i := .lor) (len := 1) (pc1 := 699) (st1 := [.long ((((((Int32.toInt64 ((ev.2 ((v3 + (1))).toNatClampNeg))) : Int64) <<< (Int32.toInt64 (32) &&& 63)) : Int64) ||| ((((Int32.toInt64 ((ev.2 ((v3 + (2))).toNatClampNeg))) : Int64) &&& (4294967295))))), .ref 0]) (hi1 := hi) (hl1 := hl) rfl ?_ (fun _ _ _ => rfl)
                                          obtain ⟨z130, hz130, h⟩ := bnd_some h
                                          refine EX.callV (b := 0) (as := [.long ((((((Int32.toInt64 ((ev.2 ((v3 + (1))).toNatClampNeg))) : Int64) <<< (Int32.toInt64 (32) &&& 63)) : Int64) ||| ((((Int32.toInt64 ((ev.2 ((v3 + (2))).toNatClampNeg))) : Int64) &&& (4294967295)))))]) (rest := []) (r := some (.int (z130.1))) (hi1 := z130.2.1) (hl1 := z130.2.2) rfl rfl rfl rfl rfl rfl ((b_LW_feed ev hz130).mono (by decide)) ?_
                                          show EX w0 ev 29 m_LA_law 702 [(0, .ref 1000010), (1, .ref 0), (2, .ref 65), (3, .int (v3))] [.int (z130.1)] (z130.2.1) (z130.2.2) OUT
                                          refine EX.aload_n (x := 65) rfl (List.mem_of_getElem? (i := 2) rfl) ?_
                                          refine EX.aload_n (x := 1000010) rfl (List.mem_of_getElem? (i := 0) rfl) ?_
                                          refine EX.iload_n (x := v3) rfl (List.mem_of_getElem? (i := 3) rfl) ?_
                                          refine EX.iconst (v := 1) rfl rfl ?_
                                          refine EX.go (i := .iadd) (len := 1) (pc1 := 707) (st1 := [.int ((v3 + (1))), .ref 1000010, .ref 65, .int (z130.1)]) (hi1 := z130.2.1) (hl1 := z130.2.2) rfl ?_ (fun _ _ _ => rfl)
                                          obtain ⟨g131, h⟩ := grd_some h
                                          refine EX.ialoadR (v := .int ((ev.2 ((v3 + (1))).toNatClampNeg))) rfl rfl rfl g131 rfl ?_
                                          refine EX.go (i := .i2l) (len := 1) (pc1 := 709) (st1 := [.long ((Int32.toInt64 ((ev.2 ((v3 + (1))).toNatClampNeg)))), .ref 65, .int (z130.1)]) (hi1 := z130.2.1) (hl1 := z130.2.2) rfl ?_ (fun _ _ _ => rfl)
                                          refine EX.bipush (v := 32) rfl rfl ?_
                                          refine EX.go (i := .lshl) (len := 1) (pc1 := 712) (st1 := [.long ((((Int32.toInt64 ((ev.2 ((v3 + (1))).toNatClampNeg))) : Int64) <<< (Int32.toInt64 (32) &&& 63))), .ref 65, .int (z130.1)]) (hi1 := z130.2.1) (hl1 := z130.2.2) rfl ?_ (fun _ _ _ => rfl)
                                          refine EX.aload_n (x := 1000010) rfl (List.mem_of_getElem? (i := 0) rfl) ?_
                                          refine EX.iload_n (x := v3) rfl (List.mem_of_getElem? (i := 3) rfl) ?_
                                          refine EX.iconst (v := 2) rfl rfl ?_
                                          refine EX.go (i := .iadd) (len := 1) (pc1 := 716) (st1 := [.int ((v3 + (2))), .ref 1000010, .long ((((Int32.toInt64 ((ev.2 ((v3 + (1))).toNatClampNeg))) : Int64) <<< (Int32.toInt64 (32) &&& 63))), .ref 65, .int (z130.1)]) (hi1 := z130.2.1) (hl1 := z130.2.2) rfl ?_ (fun _ _ _ => rfl)
                                          obtain ⟨g132, h⟩ := grd_some h
                                          refine EX.ialoadR (v := .int ((ev.2 ((v3 + (2))).toNatClampNeg))) rfl rfl rfl g132 rfl ?_
                                          refine EX.go (i := .i2l) (len := 1) (pc1 := 718) (st1 := [.long ((Int32.toInt64 ((ev.2 ((v3 + (2))).toNatClampNeg)))), .long ((((Int32.toInt64 ((ev.2 ((v3 + (1))).toNatClampNeg))) : Int64) <<< (Int32.toInt64 (32) &&& 63))), .ref 65, .int (z130.1)]) (hi1 := z130.2.1) (hl1 := z130.2.2) rfl ?_ (fun _ _ _ => rfl)
                                          refine EX.go (i := .ldc2_w 89) (len := 3) (pc1 := 721) (st1 := [.long (4294967295), .long ((Int32.toInt64 ((ev.2 ((v3 + (2))).toNatClampNeg)))), .long ((((Int32.toInt64 ((ev.2 ((v3 + (1))).toNatClampNeg))) : Int64) <<< (Int32.toInt64 (32) &&& 63))), .ref 65, .int (z130.1)]) (hi1 := z130.2.1) (hl1 := z130.2.2) rfl ?_ (fun _ _ _ => rfl)
                                          refine EX.go (i := .land) (len := 1) (pc1 := 722) (st1 := [.long ((((Int32.toInt64 ((ev.2 ((v3 + (2))).toNatClampNeg))) : Int64) &&& (4294967295))), .long ((((Int32.toInt64 ((ev.2 ((v3 + (1))).toNatClampNeg))) : Int64) <<< (Int32.toInt64 (32) &&& 63))), .ref 65, .int (z130.1)]) (hi1 := z130.2.1) (hl1 := z130.2.2) rfl ?_ (fun _ _ _ => rfl)
                                          refine EX.go (i := .lor) (len := 1) (pc1 := 723) (st1 := [.long ((((((Int32.toInt64 ((ev.2 ((v3 + (1))).toNatClampNeg))) : Int64) <<< (Int32.toInt64 (32) &&& 63)) : Int64) ||| ((((Int32.toInt64 ((ev.2 ((v3 + (2))).toNatClampNeg))) : Int64) &&& (4294967295))))), .ref 65, .int (z130.1)]) (hi1 := z130.2.1) (hl1 := z130.2.2) rfl ?_ (fun _ _ _ => rfl)
                                          obtain ⟨z133, hz133, h⟩ := bnd_some h
                                          refine EX.callV (b := 65) (as := [.long ((((((Int32.toInt64 ((ev.2 ((v3 + (1))).toNatClampNeg))) : Int64) <<< (Int32.toInt64 (32) &&& 63)) : Int64) ||| ((((Int32.toInt64 ((ev.2 ((v3 + (2))).toNatClampNeg))) : Int64) &&& (4294967295)))))]) (rest := [.int (z130.1)]) (r := some (.int (z133.1))) (hi1 := z133.2.1) (hl1 := z133.2.2) rfl rfl rfl rfl rfl rfl ((b_MD_feed ev hz133).mono (by decide)) ?_
                                          show EX w0 ev 29 m_LA_law 726 [(0, .ref 1000010), (1, .ref 0), (2, .ref 65), (3, .int (v3))] [.int (z133.1), .int (z130.1)] (z133.2.1) (z133.2.2) OUT
                                          rcases ite_some h with ⟨c134, h⟩ | ⟨c134, h⟩
                                          · refine EX.go (i := .if_icmp .eq 440) (len := 3) (pc1 := 1166) (st1 := []) (hi1 := z133.2.1) (hl1 := z133.2.2) rfl ?_ (fun _ _ _ => if_pos c134)
                                            refine EX.pick [0, 1, 2, 3] ?_ rfl
                                            exact bJ_LA_law_1166 ev h hk
                                          · refine EX.go (i := .if_icmp .eq 440) (len := 3) (pc1 := 729) (st1 := []) (hi1 := z133.2.1) (hl1 := z133.2.2) rfl ?_ (fun _ _ _ => if_neg c134)
                                            obtain rfl := Option.some.inj h
                                            have hk := hk.2.2.2.2.2.2.2.2.2.2.2.2.2.2.2.2.2.2.2.1 rfl
                                            have hk : EX w0 ev 29 m_LA_law 729 [] [] (z133.2.1) (z133.2.2) OUT := hk
                                            exact EX.pick [] hk rfl
                                        · rcases ite_some h with ⟨c135, h⟩ | ⟨c135, h⟩
                                          · refine EX.tswI (x := (((ev.2 (v3).toNatClampNeg) : Int32) &&& (63))) (k := 19) (pc1 := 731) rfl c135 (fun _ _ _ => rfl) ?_
                                            refine EX.aload_n (x := 0) rfl (List.mem_of_getElem? (i := 1) rfl) ?_
                                            refine EX.aload_n (x := 1000010) rfl (List.mem_of_getElem? (i := 0) rfl) ?_
                                            refine EX.iload_n (x := v3) rfl (List.mem_of_getElem? (i := 3) rfl) ?_
                                            refine EX.iconst (v := 1) rfl rfl ?_
                                            refine EX.go (i := .iadd) (len := 1) (pc1 := 736) (st1 := [.int ((v3 + (1))), .ref 1000010, .ref 0]) (hi1 := hi) (hl1 := hl) rfl ?_ (fun _ _ _ => rfl)
                                            obtain ⟨g136, h⟩ := grd_some h
                                            refine EX.ialoadR (v := .int ((ev.2 ((v3 + (1))).toNatClampNeg))) rfl rfl rfl g136 rfl ?_
                                            obtain ⟨z137, hz137, h⟩ := bnd_some h
                                            refine EX.callV (b := 0) (as := [.int ((ev.2 ((v3 + (1))).toNatClampNeg))]) (rest := []) (r := some (.int (z137.1))) (hi1 := z137.2.1) (hl1 := z137.2.2) rfl rfl rfl rfl rfl rfl ((b_LW_end ev hz137).mono (by decide)) ?_
                                            show EX w0 ev 29 m_LA_law 740 [(0, .ref 1000010), (1, .ref 0), (2, .ref 65), (3, .int (v3))] [.int (z137.1)] (z137.2.1) (z137.2.2) OUT
                                            refine EX.aload_n (x := 65) rfl (List.mem_of_getElem? (i := 2) rfl) ?_
                                            refine EX.aload_n (x := 1000010) rfl (List.mem_of_getElem? (i := 0) rfl) ?_
                                            refine EX.iload_n (x := v3) rfl (List.mem_of_getElem? (i := 3) rfl) ?_
                                            refine EX.iconst (v := 1) rfl rfl ?_
                                            refine EX.go (i := .iadd) (len := 1) (pc1 := 745) (st1 := [.int ((v3 + (1))), .ref 1000010, .ref 65, .int (z137.1)]) (hi1 := z137.2.1) (hl1 := z137.2.2) rfl ?_ (fun _ _ _ => rfl)
                                            obtain ⟨g138, h⟩ := grd_some h
                                            refine EX.ialoadR (v := .int ((ev.2 ((v3 + (1))).toNatClampNeg))) rfl rfl rfl g138 rfl ?_
                                            obtain ⟨z139, hz139, h⟩ := bnd_some h
                                            refine EX.callV (b := 65) (as := [.int ((ev.2 ((v3 + (1))).toNatClampNeg))]) (rest := [.int (z137.1)]) (r := some (.int (z139.1))) (hi1 := z139.2.1) (hl1 := z139.2.2) rfl rfl rfl rfl rfl rfl ((b_MD_end ev hz139).mono (by decide)) ?_
                                            show EX w0 ev 29 m_LA_law 749 [(0, .ref 1000010), (1, .ref 0), (2, .ref 65), (3, .int (v3))] [.int (z139.1), .int (z137.1)] (z139.2.1) (z139.2.2) OUT
                                            rcases ite_some h with ⟨c140, h⟩ | ⟨c140, h⟩
                                            · refine EX.go (i := .if_icmp .eq 417) (len := 3) (pc1 := 1166) (st1 := []) (hi1 := z139.2.1) (hl1 := z139.2.2) rfl ?_ (fun _ _ _ => if_pos c140)
                                              refine EX.pick [0, 1, 2, 3] ?_ rfl
                                              exact bJ_LA_law_1166 ev h hk
                                            · refine EX.go (i := .if_icmp .eq 417) (len := 3) (pc1 := 752) (st1 := []) (hi1 := z139.2.1) (hl1 := z139.2.2) rfl ?_ (fun _ _ _ => if_neg c140)
                                              obtain rfl := Option.some.inj h
                                              have hk := hk.2.2.2.2.2.2.2.2.2.2.2.2.2.2.2.2.2.2.2.2.1 rfl
                                              have hk : EX w0 ev 29 m_LA_law 752 [] [] (z139.2.1) (z139.2.2) OUT := hk
                                              exact EX.pick [] hk rfl
                                          · rcases ite_some h with ⟨c141, h⟩ | ⟨c141, h⟩
                                            · refine EX.tswI (x := (((ev.2 (v3).toNatClampNeg) : Int32) &&& (63))) (k := 20) (pc1 := 754) rfl c141 (fun _ _ _ => rfl) ?_
                                              refine EX.aload_n (x := 0) rfl (List.mem_of_getElem? (i := 1) rfl) ?_
                                              obtain ⟨z142, hz142, h⟩ := bnd_some h
                                              refine EX.callV (b := 0) (as := []) (rest := []) (r := some (.int (z142.1))) (hi1 := z142.2.1) (hl1 := z142.2.2) rfl rfl rfl rfl rfl rfl ((b_LW_program ev hz142).mono (by decide)) ?_
                                              show EX w0 ev 29 m_LA_law 758 [(0, .ref 1000010), (1, .ref 0), (2, .ref 65), (3, .int (v3))] [.int (z142.1)] (z142.2.1) (z142.2.2) OUT
                                              refine EX.aload_n (x := 65) rfl (List.mem_of_getElem? (i := 2) rfl) ?_
                                              obtain ⟨z143, hz143, h⟩ := bnd_some h
                                              refine EX.callV (b := 65) (as := []) (rest := [.int (z142.1)]) (r := some (.int (z143.1))) (hi1 := z143.2.1) (hl1 := z143.2.2) rfl rfl rfl rfl rfl rfl ((b_MD_program ev hz143).mono (by decide)) ?_
                                              show EX w0 ev 29 m_LA_law 762 [(0, .ref 1000010), (1, .ref 0), (2, .ref 65), (3, .int (v3))] [.int (z143.1), .int (z142.1)] (z143.2.1) (z143.2.2) OUT
                                              rcases ite_some h with ⟨c144, h⟩ | ⟨c144, h⟩
                                              · refine EX.go (i := .if_icmp .eq 404) (len := 3) (pc1 := 1166) (st1 := []) (hi1 := z143.2.1) (hl1 := z143.2.2) rfl ?_ (fun _ _ _ => if_pos c144)
                                                refine EX.pick [0, 1, 2, 3] ?_ rfl
                                                exact bJ_LA_law_1166 ev h hk
                                              · refine EX.go (i := .if_icmp .eq 404) (len := 3) (pc1 := 765) (st1 := []) (hi1 := z143.2.1) (hl1 := z143.2.2) rfl ?_ (fun _ _ _ => if_neg c144)
                                                obtain rfl := Option.some.inj h
                                                have hk := hk.2.2.2.2.2.2.2.2.2.2.2.2.2.2.2.2.2.2.2.2.2.1 rfl
                                                have hk : EX w0 ev 29 m_LA_law 765 [] [] (z143.2.1) (z143.2.2) OUT := hk
                                                exact EX.pick [] hk rfl
                                            · rcases ite_some h with ⟨c145, h⟩ | ⟨c145, h⟩
                                              · refine EX.tswI (x := (((ev.2 (v3).toNatClampNeg) : Int32) &&& (63))) (k := 21) (pc1 := 767) rfl c145 (fun _ _ _ => rfl) ?_
                                                refine EX.aload_n (x := 0) rfl (List.mem_of_getElem? (i := 1) rfl) ?_
                                                obtain ⟨z146, hz146, h⟩ := bnd_some h
                                                refine EX.callV (b := 0) (as := []) (rest := []) (r := some (.int (z146.1))) (hi1 := z146.2.1) (hl1 := z146.2.2) rfl rfl rfl rfl rfl rfl ((b_LW_fault ev hz146).mono (by decide)) ?_
                                                show EX w0 ev 29 m_LA_law 771 [(0, .ref 1000010), (1, .ref 0), (2, .ref 65), (3, .int (v3))] [.int (z146.1)] (z146.2.1) (z146.2.2) OUT
                                                refine EX.aload_n (x := 65) rfl (List.mem_of_getElem? (i := 2) rfl) ?_
                                                obtain ⟨z147, hz147, h⟩ := bnd_some h
                                                refine EX.callV (b := 65) (as := []) (rest := [.int (z146.1)]) (r := some (.int (z147.1))) (hi1 := z147.2.1) (hl1 := z147.2.2) rfl rfl rfl rfl rfl rfl ((b_MD_fault ev hz147).mono (by decide)) ?_
                                                show EX w0 ev 29 m_LA_law 775 [(0, .ref 1000010), (1, .ref 0), (2, .ref 65), (3, .int (v3))] [.int (z147.1), .int (z146.1)] (z147.2.1) (z147.2.2) OUT
                                                rcases ite_some h with ⟨c148, h⟩ | ⟨c148, h⟩
                                                · refine EX.go (i := .if_icmp .eq 391) (len := 3) (pc1 := 1166) (st1 := []) (hi1 := z147.2.1) (hl1 := z147.2.2) rfl ?_ (fun _ _ _ => if_pos c148)
                                                  refine EX.pick [0, 1, 2, 3] ?_ rfl
                                                  exact bJ_LA_law_1166 ev h hk
                                                · refine EX.go (i := .if_icmp .eq 391) (len := 3) (pc1 := 778) (st1 := []) (hi1 := z147.2.1) (hl1 := z147.2.2) rfl ?_ (fun _ _ _ => if_neg c148)
                                                  obtain rfl := Option.some.inj h
                                                  have hk := hk.2.2.2.2.2.2.2.2.2.2.2.2.2.2.2.2.2.2.2.2.2.2.1 rfl
                                                  have hk : EX w0 ev 29 m_LA_law 778 [] [] (z147.2.1) (z147.2.2) OUT := hk
                                                  exact EX.pick [] hk rfl
                                              · rcases ite_some h with ⟨c149, h⟩ | ⟨c149, h⟩
                                                · refine EX.tswI (x := (((ev.2 (v3).toNatClampNeg) : Int32) &&& (63))) (k := 22) (pc1 := 780) rfl c149 (fun _ _ _ => rfl) ?_
                                                  refine EX.aload_n (x := 0) rfl (List.mem_of_getElem? (i := 1) rfl) ?_
                                                  refine EX.aload_n (x := 1000010) rfl (List.mem_of_getElem? (i := 0) rfl) ?_
                                                  refine EX.iload_n (x := v3) rfl (List.mem_of_getElem? (i := 3) rfl) ?_
                                                  refine EX.iconst (v := 1) rfl rfl ?_
                                                  refine EX.go (i := .iadd) (len := 1) (pc1 := 785) (st1 := [.int ((v3 + (1))), .ref 1000010, .ref 0]) (hi1 := hi) (hl1 := hl) rfl ?_ (fun _ _ _ => rfl)
                                                  obtain ⟨g150, h⟩ := grd_some h
                                                  refine EX.ialoadR (v := .int ((ev.2 ((v3 + (1))).toNatClampNeg))) rfl rfl rfl g150 rfl ?_
                                                  refine EX.aload_n (x := 1000010) rfl (List.mem_of_getElem? (i := 0) rfl) ?_
                                                  refine EX.iload_n (x := v3) rfl (List.mem_of_getElem? (i := 3) rfl) ?_
                                                  refine EX.iconst (v := 2) rfl rfl ?_
                                                  refine EX.go (i := .iadd) (len := 1) (pc1 := 790) (st1 := [.int ((v3 + (2))), .ref 1000010, .int ((ev.2 ((v3 + (1))).toNatClampNeg)), .ref 0]) (hi1 := hi) (hl1 := hl) rfl ?_ (fun _ _ _ => rfl)
                                                  obtain ⟨g151, h⟩ := grd_some h
                                                  refine EX.ialoadR (v := .int ((ev.2 ((v3 + (2))).toNatClampNeg))) rfl rfl rfl g151 rfl ?_
                                                  obtain ⟨z152, hz152, h⟩ := bnd_some h
                                                  refine EX.callV (b := 0) (as := [.int ((ev.2 ((v3 + (1))).toNatClampNeg)), .int ((ev.2 ((v3 + (2))).toNatClampNeg))]) (rest := []) (r := some (.int (z152.1))) (hi1 := z152.2.1) (hl1 := z152.2.2) rfl rfl rfl rfl rfl rfl ((b_LW_line ev hz152).mono (by decide)) ?_
                                                  show EX w0 ev 29 m_LA_law 794 [(0, .ref 1000010), (1, .ref 0), (2, .ref 65), (3, .int (v3))] [.int (z152.1)] (z152.2.1) (z152.2.2) OUT
                                                  refine EX.aload_n (x := 65) rfl (List.mem_of_getElem? (i := 2) rfl) ?_
                                                  refine EX.aload_n (x := 1000010) rfl (List.mem_of_getElem? (i := 0) rfl) ?_
                                                  refine EX.iload_n (x := v3) rfl (List.mem_of_getElem? (i := 3) rfl) ?_
                                                  refine EX.iconst (v := 1) rfl rfl ?_
                                                  refine EX.go (i := .iadd) (len := 1) (pc1 := 799) (st1 := [.int ((v3 + (1))), .ref 1000010, .ref 65, .int (z152.1)]) (hi1 := z152.2.1) (hl1 := z152.2.2) rfl ?_ (fun _ _ _ => rfl)
                                                  obtain ⟨g153, h⟩ := grd_some h
                                                  refine EX.ialoadR (v := .int ((ev.2 ((v3 + (1))).toNatClampNeg))) rfl rfl rfl g153 rfl ?_
                                                  refine EX.aload_n (x := 1000010) rfl (List.mem_of_getElem? (i := 0) rfl) ?_
                                                  refine EX.iload_n (x := v3) rfl (List.mem_of_getElem? (i := 3) rfl) ?_
                                                  refine EX.iconst (v := 2) rfl rfl ?_
                                                  refine EX.go (i := .iadd) (len := 1) (pc1 := 804) (st1 := [.int ((v3 + (2))), .ref 1000010, .int ((ev.2 ((v3 + (1))).toNatClampNeg)), .ref 65, .int (z152.1)]) (hi1 := z152.2.1) (hl1 := z152.2.2) rfl ?_ (fun _ _ _ => rfl)
                                                  obtain ⟨g154, h⟩ := grd_some h
                                                  refine EX.ialoadR (v := .int ((ev.2 ((v3 + (2))).toNatClampNeg))) rfl rfl rfl g154 rfl ?_
                                                  obtain ⟨z155, hz155, h⟩ := bnd_some h
                                                  refine EX.callV (b := 65) (as := [.int ((ev.2 ((v3 + (1))).toNatClampNeg)), .int ((ev.2 ((v3 + (2))).toNatClampNeg))]) (rest := [.int (z152.1)]) (r := some (.int (z155.1))) (hi1 := z155.2.1) (hl1 := z155.2.2) rfl rfl rfl rfl rfl rfl ((b_MD_line ev hz155).mono (by decide)) ?_
                                                  show EX w0 ev 29 m_LA_law 808 [(0, .ref 1000010), (1, .ref 0), (2, .ref 65), (3, .int (v3))] [.int (z155.1), .int (z152.1)] (z155.2.1) (z155.2.2) OUT
                                                  rcases ite_some h with ⟨c156, h⟩ | ⟨c156, h⟩
                                                  · refine EX.go (i := .if_icmp .eq 358) (len := 3) (pc1 := 1166) (st1 := []) (hi1 := z155.2.1) (hl1 := z155.2.2) rfl ?_ (fun _ _ _ => if_pos c156)
                                                    refine EX.pick [0, 1, 2, 3] ?_ rfl
                                                    exact bJ_LA_law_1166 ev h hk
                                                  · refine EX.go (i := .if_icmp .eq 358) (len := 3) (pc1 := 811) (st1 := []) (hi1 := z155.2.1) (hl1 := z155.2.2) rfl ?_ (fun _ _ _ => if_neg c156)
                                                    obtain rfl := Option.some.inj h
                                                    have hk := hk.2.2.2.2.2.2.2.2.2.2.2.2.2.2.2.2.2.2.2.2.2.2.2.1 rfl
                                                    have hk : EX w0 ev 29 m_LA_law 811 [] [] (z155.2.1) (z155.2.2) OUT := hk
                                                    exact EX.pick [] hk rfl
                                                · rcases ite_some h with ⟨c157, h⟩ | ⟨c157, h⟩
                                                  · refine EX.tswI (x := (((ev.2 (v3).toNatClampNeg) : Int32) &&& (63))) (k := 23) (pc1 := 813) rfl c157 (fun _ _ _ => rfl) ?_
                                                    refine EX.aload_n (x := 0) rfl (List.mem_of_getElem? (i := 1) rfl) ?_
                                                    refine EX.aload_n (x := 1000010) rfl (List.mem_of_getElem? (i := 0) rfl) ?_
                                                    refine EX.iload_n (x := v3) rfl (List.mem_of_getElem? (i := 3) rfl) ?_
                                                    refine EX.iconst (v := 1) rfl rfl ?_
                                                    refine EX.go (i := .iadd) (len := 1) (pc1 := 818) (st1 := [.int ((v3 + (1))), .ref 1000010, .ref 0]) (hi1 := hi) (hl1 := hl) rfl ?_ (fun _ _ _ => rfl)
                                                    obtain ⟨g158, h⟩ := grd_some h
                                                    refine EX.ialoadR (v := .int ((ev.2 ((v3 + (1))).toNatClampNeg))) rfl rfl rfl g158 rfl ?_
                                                    obtain ⟨z159, hz159, h⟩ := bnd_some h
                                                    refine EX.callV (b := 0) (as := [.int ((ev.2 ((v3 + (1))).toNatClampNeg))]) (rest := []) (r := some (.int (z159.1))) (hi1 := z159.2.1) (hl1 := z159.2.2) rfl rfl rfl rfl rfl rfl ((b_LW_round ev hz159).mono (by decide)) ?_
                                                    show EX w0 ev 29 m_LA_law 822 [(0, .ref 1000010), (1, .ref 0), (2, .ref 65), (3, .int (v3))] [.int (z159.1)] (z159.2.1) (z159.2.2) OUT
                                                    refine EX.aload_n (x := 65) rfl (List.mem_of_getElem? (i := 2) rfl) ?_
                                                    refine EX.aload_n (x := 1000010) rfl (List.mem_of_getElem? (i := 0) rfl) ?_
                                                    refine EX.iload_n (x := v3) rfl (List.mem_of_getElem? (i := 3) rfl) ?_
                                                    refine EX.iconst (v := 1) rfl rfl ?_
                                                    refine EX.go (i := .iadd) (len := 1) (pc1 := 827) (st1 := [.int ((v3 + (1))), .ref 1000010, .ref 65, .int (z159.1)]) (hi1 := z159.2.1) (hl1 := z159.2.2) rfl ?_ (fun _ _ _ => rfl)
                                                    obtain ⟨g160, h⟩ := grd_some h
                                                    refine EX.ialoadR (v := .int ((ev.2 ((v3 + (1))).toNatClampNeg))) rfl rfl rfl g160 rfl ?_
                                                    obtain ⟨z161, hz161, h⟩ := bnd_some h
                                                    refine EX.callV (b := 65) (as := [.int ((ev.2 ((v3 + (1))).toNatClampNeg))]) (rest := [.int (z159.1)]) (r := some (.int (z161.1))) (hi1 := z161.2.1) (hl1 := z161.2.2) rfl rfl rfl rfl rfl rfl ((b_MD_round ev hz161).mono (by decide)) ?_
                                                    show EX w0 ev 29 m_LA_law 831 [(0, .ref 1000010), (1, .ref 0), (2, .ref 65), (3, .int (v3))] [.int (z161.1), .int (z159.1)] (z161.2.1) (z161.2.2) OUT
                                                    rcases ite_some h with ⟨c162, h⟩ | ⟨c162, h⟩
                                                    · refine EX.go (i := .if_icmp .eq 335) (len := 3) (pc1 := 1166) (st1 := []) (hi1 := z161.2.1) (hl1 := z161.2.2) rfl ?_ (fun _ _ _ => if_pos c162)
                                                      refine EX.pick [0, 1, 2, 3] ?_ rfl
                                                      exact bJ_LA_law_1166 ev h hk
                                                    · refine EX.go (i := .if_icmp .eq 335) (len := 3) (pc1 := 834) (st1 := []) (hi1 := z161.2.1) (hl1 := z161.2.2) rfl ?_ (fun _ _ _ => if_neg c162)
                                                      obtain rfl := Option.some.inj h
                                                      have hk := hk.2.2.2.2.2.2.2.2.2.2.2.2.2.2.2.2.2.2.2.2.2.2.2.2.1 rfl
                                                      have hk : EX w0 ev 29 m_LA_law 834 [] [] (z161.2.1) (z161.2.2) OUT := hk
                                                      exact EX.pick [] hk rfl
                                                  · rcases ite_some h with ⟨c163, h⟩ | ⟨c163, h⟩
                                                    · refine EX.tswI (x := (((ev.2 (v3).toNatClampNeg) : Int32) &&& (63))) (k := 24) (pc1 := 836) rfl c163 (fun _ _ _ => rfl) ?_
                                                      refine EX.aload_n (x := 0) rfl (List.mem_of_getElem? (i := 1) rfl) ?_
                                                      refine EX.aload_n (x := 1000010) rfl (List.mem_of_getElem? (i := 0) rfl) ?_
                                                      refine EX.iload_n (x := v3) rfl (List.mem_of_getElem? (i := 3) rfl) ?_
                                                      refine EX.iconst (v := 1) rfl rfl ?_
                                                      refine EX.go (i := .iadd) (len := 1) (pc1 := 841) (st1 := [.int ((v3 + (1))), .ref 1000010, .ref 0]) (hi1 := hi) (hl1 := hl) rfl ?_ (fun _ _ _ => rfl)
                                                      obtain ⟨g164, h⟩ := grd_some h
                                                      refine EX.ialoadR (v := .int ((ev.2 ((v3 + (1))).toNatClampNeg))) rfl rfl rfl g164 rfl ?_
                                                      refine EX.aload_n (x := 1000010) rfl (List.mem_of_getElem? (i := 0) rfl) ?_
                                                      refine EX.iload_n (x := v3) rfl (List.mem_of_getElem? (i := 3) rfl) ?_
                                                      refine EX.iconst (v := 2) rfl rfl ?_
                                                      refine EX.go (i := .iadd) (len := 1) (pc1 := 846) (st1 := [.int ((v3 + (2))), .ref 1000010, .int ((ev.2 ((v3 + (1))).toNatClampNeg)), .ref 0]) (hi1 := hi) (hl1 := hl) rfl ?_ (fun _ _ _ => rfl)
                                                      obtain ⟨g165, h⟩ := grd_some h
                                                      refine EX.ialoadR (v := .int ((ev.2 ((v3 + (2))).toNatClampNeg))) rfl rfl rfl g165 rfl ?_
                                                      obtain ⟨z166, hz166, h⟩ := bnd_some h
                                                      refine EX.callV (b := 0) (as := [.int ((ev.2 ((v3 + (1))).toNatClampNeg)), .int ((ev.2 ((v3 + (2))).toNatClampNeg))]) (rest := []) (r := some (.int (z166.1))) (hi1 := z166.2.1) (hl1 := z166.2.2) rfl rfl rfl rfl rfl rfl ((b_LW_shows ev hz166).mono (by decide)) ?_
                                                      show EX w0 ev 29 m_LA_law 850 [(0, .ref 1000010), (1, .ref 0), (2, .ref 65), (3, .int (v3))] [.int (z166.1)] (z166.2.1) (z166.2.2) OUT
                                                      refine EX.aload_n (x := 65) rfl (List.mem_of_getElem? (i := 2) rfl) ?_
                                                      refine EX.aload_n (x := 1000010) rfl (List.mem_of_getElem? (i := 0) rfl) ?_
                                                      refine EX.iload_n (x := v3) rfl (List.mem_of_getElem? (i := 3) rfl) ?_
                                                      refine EX.iconst (v := 1) rfl rfl ?_
                                                      refine EX.go (i := .iadd) (len := 1) (pc1 := 855) (st1 := [.int ((v3 + (1))), .ref 1000010, .ref 65, .int (z166.1)]) (hi1 := z166.2.1) (hl1 := z166.2.2) rfl ?_ (fun _ _ _ => rfl)
                                                      obtain ⟨g167, h⟩ := grd_some h
                                                      refine EX.ialoadR (v := .int ((ev.2 ((v3 + (1))).toNatClampNeg))) rfl rfl rfl g167 rfl ?_
                                                      refine EX.aload_n (x := 1000010) rfl (List.mem_of_getElem? (i := 0) rfl) ?_
                                                      refine EX.iload_n (x := v3) rfl (List.mem_of_getElem? (i := 3) rfl) ?_
                                                      refine EX.iconst (v := 2) rfl rfl ?_
                                                      refine EX.go (i := .iadd) (len := 1) (pc1 := 860) (st1 := [.int ((v3 + (2))), .ref 1000010, .int ((ev.2 ((v3 + (1))).toNatClampNeg)), .ref 65, .int (z166.1)]) (hi1 := z166.2.1) (hl1 := z166.2.2) rfl ?_ (fun _ _ _ => rfl)
                                                      obtain ⟨g168, h⟩ := grd_some h
                                                      refine EX.ialoadR (v := .int ((ev.2 ((v3 + (2))).toNatClampNeg))) rfl rfl rfl g168 rfl ?_
                                                      obtain ⟨z169, hz169, h⟩ := bnd_some h
                                                      refine EX.callV (b := 65) (as := [.int ((ev.2 ((v3 + (1))).toNatClampNeg)), .int ((ev.2 ((v3 + (2))).toNatClampNeg))]) (rest := [.int (z166.1)]) (r := some (.int (z169.1))) (hi1 := z169.2.1) (hl1 := z169.2.2) rfl rfl rfl rfl rfl rfl ((b_MD_shows ev hz169).mono (by decide)) ?_
                                                      show EX w0 ev 29 m_LA_law 864 [(0, .ref 1000010), (1, .ref 0), (2, .ref 65), (3, .int (v3))] [.int (z169.1), .int (z166.1)] (z169.2.1) (z169.2.2) OUT
                                                      rcases ite_some h with ⟨c170, h⟩ | ⟨c170, h⟩
                                                      · refine EX.go (i := .if_icmp .eq 302) (len := 3) (pc1 := 1166) (st1 := []) (hi1 := z169.2.1) (hl1 := z169.2.2) rfl ?_ (fun _ _ _ => if_pos c170)
                                                        refine EX.pick [0, 1, 2, 3] ?_ rfl
                                                        exact bJ_LA_law_1166 ev h hk
                                                      · refine EX.go (i := .if_icmp .eq 302) (len := 3) (pc1 := 867) (st1 := []) (hi1 := z169.2.1) (hl1 := z169.2.2) rfl ?_ (fun _ _ _ => if_neg c170)
                                                        obtain rfl := Option.some.inj h
                                                        have hk := hk.2.2.2.2.2.2.2.2.2.2.2.2.2.2.2.2.2.2.2.2.2.2.2.2.2.1 rfl
                                                        have hk : EX w0 ev 29 m_LA_law 867 [] [] (z169.2.1) (z169.2.2) OUT := hk
                                                        exact EX.pick [] hk rfl
                                                    · rcases ite_some h with ⟨c171, h⟩ | ⟨c171, h⟩
                                                      · refine EX.tswI (x := (((ev.2 (v3).toNatClampNeg) : Int32) &&& (63))) (k := 25) (pc1 := 869) rfl c171 (fun _ _ _ => rfl) ?_
                                                        refine EX.aload_n (x := 0) rfl (List.mem_of_getElem? (i := 1) rfl) ?_
                                                        refine EX.aload_n (x := 1000010) rfl (List.mem_of_getElem? (i := 0) rfl) ?_
                                                        refine EX.iload_n (x := v3) rfl (List.mem_of_getElem? (i := 3) rfl) ?_
                                                        refine EX.iconst (v := 1) rfl rfl ?_
                                                        refine EX.go (i := .iadd) (len := 1) (pc1 := 874) (st1 := [.int ((v3 + (1))), .ref 1000010, .ref 0]) (hi1 := hi) (hl1 := hl) rfl ?_ (fun _ _ _ => rfl)
                                                        obtain ⟨g172, h⟩ := grd_some h
                                                        refine EX.ialoadR (v := .int ((ev.2 ((v3 + (1))).toNatClampNeg))) rfl rfl rfl g172 rfl ?_
                                                        obtain ⟨z173, hz173, h⟩ := bnd_some h
                                                        refine EX.callV (b := 0) (as := [.int ((ev.2 ((v3 + (1))).toNatClampNeg))]) (rest := []) (r := some (.int (z173.1))) (hi1 := z173.2.1) (hl1 := z173.2.2) rfl rfl rfl rfl rfl rfl ((b_LW_at ev hz173).mono (by decide)) ?_
                                                        show EX w0 ev 29 m_LA_law 878 [(0, .ref 1000010), (1, .ref 0), (2, .ref 65), (3, .int (v3))] [.int (z173.1)] (z173.2.1) (z173.2.2) OUT
                                                        refine EX.aload_n (x := 65) rfl (List.mem_of_getElem? (i := 2) rfl) ?_
                                                        refine EX.aload_n (x := 1000010) rfl (List.mem_of_getElem? (i := 0) rfl) ?_
                                                        refine EX.iload_n (x := v3) rfl (List.mem_of_getElem? (i := 3) rfl) ?_
                                                        refine EX.iconst (v := 1) rfl rfl ?_
                                                        refine EX.go (i := .iadd) (len := 1) (pc1 := 883) (st1 := [.int ((v3 + (1))), .ref 1000010, .ref 65, .int (z173.1)]) (hi1 := z173.2.1) (hl1 := z173.2.2) rfl ?_ (fun _ _ _ => rfl)
                                                        obtain ⟨g174, h⟩ := grd_some h
                                                        refine EX.ialoadR (v := .int ((ev.2 ((v3 + (1))).toNatClampNeg))) rfl rfl rfl g174 rfl ?_
                                                        obtain ⟨z175, hz175, h⟩ := bnd_some h
                                                        refine EX.callV (b := 65) (as := [.int ((ev.2 ((v3 + (1))).toNatClampNeg))]) (rest := [.int (z173.1)]) (r := some (.int (z175.1))) (hi1 := z175.2.1) (hl1 := z175.2.2) rfl rfl rfl rfl rfl rfl ((b_MD_at ev hz175).mono (by decide)) ?_
                                                        show EX w0 ev 29 m_LA_law 887 [(0, .ref 1000010), (1, .ref 0), (2, .ref 65), (3, .int (v3))] [.int (z175.1), .int (z173.1)] (z175.2.1) (z175.2.2) OUT
                                                        rcases ite_some h with ⟨c176, h⟩ | ⟨c176, h⟩
                                                        · refine EX.go (i := .if_icmp .eq 279) (len := 3) (pc1 := 1166) (st1 := []) (hi1 := z175.2.1) (hl1 := z175.2.2) rfl ?_ (fun _ _ _ => if_pos c176)
                                                          refine EX.pick [0, 1, 2, 3] ?_ rfl
                                                          exact bJ_LA_law_1166 ev h hk
                                                        · refine EX.go (i := .if_icmp .eq 279) (len := 3) (pc1 := 890) (st1 := []) (hi1 := z175.2.1) (hl1 := z175.2.2) rfl ?_ (fun _ _ _ => if_neg c176)
                                                          obtain rfl := Option.some.inj h
                                                          have hk := hk.2.2.2.2.2.2.2.2.2.2.2.2.2.2.2.2.2.2.2.2.2.2.2.2.2.2.1 rfl
                                                          have hk : EX w0 ev 29 m_LA_law 890 [] [] (z175.2.1) (z175.2.2) OUT := hk
                                                          exact EX.pick [] hk rfl
                                                      · rcases ite_some h with ⟨c177, h⟩ | ⟨c177, h⟩
                                                        · refine EX.tswI (x := (((ev.2 (v3).toNatClampNeg) : Int32) &&& (63))) (k := 26) (pc1 := 892) rfl c177 (fun _ _ _ => rfl) ?_
                                                          refine EX.aload_n (x := 0) rfl (List.mem_of_getElem? (i := 1) rfl) ?_
                                                          refine EX.aload_n (x := 1000010) rfl (List.mem_of_getElem? (i := 0) rfl) ?_
                                                          refine EX.iload_n (x := v3) rfl (List.mem_of_getElem? (i := 3) rfl) ?_
                                                          refine EX.iconst (v := 1) rfl rfl ?_
                                                          refine EX.go (i := .iadd) (len := 1) (pc1 := 897) (st1 := [.int ((v3 + (1))), .ref 1000010, .ref 0]) (hi1 := hi) (hl1 := hl) rfl ?_ (fun _ _ _ => rfl)
                                                          obtain ⟨g178, h⟩ := grd_some h
                                                          refine EX.ialoadR (v := .int ((ev.2 ((v3 + (1))).toNatClampNeg))) rfl rfl rfl g178 rfl ?_
                                                          refine EX.aload_n (x := 1000010) rfl (List.mem_of_getElem? (i := 0) rfl) ?_
                                                          refine EX.iload_n (x := v3) rfl (List.mem_of_getElem? (i := 3) rfl) ?_
                                                          refine EX.iconst (v := 2) rfl rfl ?_
                                                          refine EX.go (i := .iadd) (len := 1) (pc1 := 902) (st1 := [.int ((v3 + (2))), .ref 1000010, .int ((ev.2 ((v3 + (1))).toNatClampNeg)), .ref 0]) (hi1 := hi) (hl1 := hl) rfl ?_ (fun _ _ _ => rfl)
                                                          obtain ⟨g179, h⟩ := grd_some h
                                                          refine EX.ialoadR (v := .int ((ev.2 ((v3 + (2))).toNatClampNeg))) rfl rfl rfl g179 rfl ?_
                                                          obtain ⟨z180, hz180, h⟩ := bnd_some h
                                                          refine EX.callV (b := 0) (as := [.int ((ev.2 ((v3 + (1))).toNatClampNeg)), .int ((ev.2 ((v3 + (2))).toNatClampNeg))]) (rest := []) (r := some (.int (z180.1))) (hi1 := z180.2.1) (hl1 := z180.2.2) rfl rfl rfl rfl rfl rfl ((b_LW_seen ev hz180).mono (by decide)) ?_
                                                          show EX w0 ev 29 m_LA_law 906 [(0, .ref 1000010), (1, .ref 0), (2, .ref 65), (3, .int (v3))] [.int (z180.1)] (z180.2.1) (z180.2.2) OUT
                                                          refine EX.aload_n (x := 65) rfl (List.mem_of_getElem? (i := 2) rfl) ?_
                                                          refine EX.aload_n (x := 1000010) rfl (List.mem_of_getElem? (i := 0) rfl) ?_
                                                          refine EX.iload_n (x := v3) rfl (List.mem_of_getElem? (i := 3) rfl) ?_
                                                          refine EX.iconst (v := 1) rfl rfl ?_
                                                          refine EX.go (i := .iadd) (len := 1) (pc1 := 911) (st1 := [.int ((v3 + (1))), .ref 1000010, .ref 65, .int (z180.1)]) (hi1 := z180.2.1) (hl1 := z180.2.2) rfl ?_ (fun _ _ _ => rfl)
                                                          obtain ⟨g181, h⟩ := grd_some h
                                                          refine EX.ialoadR (v := .int ((ev.2 ((v3 + (1))).toNatClampNeg))) rfl rfl rfl g181 rfl ?_
                                                          refine EX.aload_n (x := 1000010) rfl (List.mem_of_getElem? (i := 0) rfl) ?_
                                                          refine EX.iload_n (x := v3) rfl (List.mem_of_getElem? (i := 3) rfl) ?_
                                                          refine EX.iconst (v := 2) rfl rfl ?_
                                                          refine EX.go (i := .iadd) (len := 1) (pc1 := 916) (st1 := [.int ((v3 + (2))), .ref 1000010, .int ((ev.2 ((v3 + (1))).toNatClampNeg)), .ref 65, .int (z180.1)]) (hi1 := z180.2.1) (hl1 := z180.2.2) rfl ?_ (fun _ _ _ => rfl)
                                                          obtain ⟨g182, h⟩ := grd_some h
                                                          refine EX.ialoadR (v := .int ((ev.2 ((v3 + (2))).toNatClampNeg))) rfl rfl rfl g182 rfl ?_
                                                          obtain ⟨z183, hz183, h⟩ := bnd_some h
                                                          refine EX.callV (b := 65) (as := [.int ((ev.2 ((v3 + (1))).toNatClampNeg)), .int ((ev.2 ((v3 + (2))).toNatClampNeg))]) (rest := [.int (z180.1)]) (r := some (.int (z183.1))) (hi1 := z183.2.1) (hl1 := z183.2.2) rfl rfl rfl rfl rfl rfl ((b_MD_seen ev hz183).mono (by decide)) ?_
                                                          show EX w0 ev 29 m_LA_law 920 [(0, .ref 1000010), (1, .ref 0), (2, .ref 65), (3, .int (v3))] [.int (z183.1), .int (z180.1)] (z183.2.1) (z183.2.2) OUT
                                                          rcases ite_some h with ⟨c184, h⟩ | ⟨c184, h⟩
                                                          · refine EX.go (i := .if_icmp .eq 246) (len := 3) (pc1 := 1166) (st1 := []) (hi1 := z183.2.1) (hl1 := z183.2.2) rfl ?_ (fun _ _ _ => if_pos c184)
                                                            refine EX.pick [0, 1, 2, 3] ?_ rfl
                                                            exact bJ_LA_law_1166 ev h hk
                                                          · refine EX.go (i := .if_icmp .eq 246) (len := 3) (pc1 := 923) (st1 := []) (hi1 := z183.2.1) (hl1 := z183.2.2) rfl ?_ (fun _ _ _ => if_neg c184)
                                                            obtain rfl := Option.some.inj h
                                                            have hk := hk.2.2.2.2.2.2.2.2.2.2.2.2.2.2.2.2.2.2.2.2.2.2.2.2.2.2.2.1 rfl
                                                            have hk : EX w0 ev 29 m_LA_law 923 [] [] (z183.2.1) (z183.2.2) OUT := hk
                                                            exact EX.pick [] hk rfl
                                                        · rcases ite_some h with ⟨c185, h⟩ | ⟨c185, h⟩
                                                          · refine EX.tswI (x := (((ev.2 (v3).toNatClampNeg) : Int32) &&& (63))) (k := 27) (pc1 := 925) rfl c185 (fun _ _ _ => rfl) ?_
                                                            refine EX.aload_n (x := 0) rfl (List.mem_of_getElem? (i := 1) rfl) ?_
                                                            refine EX.aload_n (x := 1000010) rfl (List.mem_of_getElem? (i := 0) rfl) ?_
                                                            refine EX.iload_n (x := v3) rfl (List.mem_of_getElem? (i := 3) rfl) ?_
                                                            refine EX.iconst (v := 1) rfl rfl ?_
                                                            refine EX.go (i := .iadd) (len := 1) (pc1 := 930) (st1 := [.int ((v3 + (1))), .ref 1000010, .ref 0]) (hi1 := hi) (hl1 := hl) rfl ?_ (fun _ _ _ => rfl)
                                                            obtain ⟨g186, h⟩ := grd_some h
                                                            refine EX.ialoadR (v := .int ((ev.2 ((v3 + (1))).toNatClampNeg))) rfl rfl rfl g186 rfl ?_
                                                            obtain ⟨z187, hz187, h⟩ := bnd_some h
                                                            refine EX.callV (b := 0) (as := [.int ((ev.2 ((v3 + (1))).toNatClampNeg))]) (rest := []) (r := some (.int (z187.1))) (hi1 := z187.2.1) (hl1 := z187.2.2) rfl rfl rfl rfl rfl rfl ((b_LW_likely ev hz187).mono (by decide)) ?_
                                                            show EX w0 ev 29 m_LA_law 934 [(0, .ref 1000010), (1, .ref 0), (2, .ref 65), (3, .int (v3))] [.int (z187.1)] (z187.2.1) (z187.2.2) OUT
                                                            refine EX.aload_n (x := 65) rfl (List.mem_of_getElem? (i := 2) rfl) ?_
                                                            refine EX.aload_n (x := 1000010) rfl (List.mem_of_getElem? (i := 0) rfl) ?_
                                                            refine EX.iload_n (x := v3) rfl (List.mem_of_getElem? (i := 3) rfl) ?_
                                                            refine EX.iconst (v := 1) rfl rfl ?_
                                                            refine EX.go (i := .iadd) (len := 1) (pc1 := 939) (st1 := [.int ((v3 + (1))), .ref 1000010, .ref 65, .int (z187.1)]) (hi1 := z187.2.1) (hl1 := z187.2.2) rfl ?_ (fun _ _ _ => rfl)
                                                            obtain ⟨g188, h⟩ := grd_some h
                                                            refine EX.ialoadR (v := .int ((ev.2 ((v3 + (1))).toNatClampNeg))) rfl rfl rfl g188 rfl ?_
                                                            obtain ⟨z189, hz189, h⟩ := bnd_some h
                                                            refine EX.callV (b := 65) (as := [.int ((ev.2 ((v3 + (1))).toNatClampNeg))]) (rest := [.int (z187.1)]) (r := some (.int (z189.1))) (hi1 := z189.2.1) (hl1 := z189.2.2) rfl rfl rfl rfl rfl rfl ((b_MD_likely ev hz189).mono (by decide)) ?_
                                                            show EX w0 ev 29 m_LA_law 943 [(0, .ref 1000010), (1, .ref 0), (2, .ref 65), (3, .int (v3))] [.int (z189.1), .int (z187.1)] (z189.2.1) (z189.2.2) OUT
                                                            rcases ite_some h with ⟨c190, h⟩ | ⟨c190, h⟩
                                                            · refine EX.go (i := .if_icmp .eq 223) (len := 3) (pc1 := 1166) (st1 := []) (hi1 := z189.2.1) (hl1 := z189.2.2) rfl ?_ (fun _ _ _ => if_pos c190)
                                                              refine EX.pick [0, 1, 2, 3] ?_ rfl
                                                              exact bJ_LA_law_1166 ev h hk
                                                            · refine EX.go (i := .if_icmp .eq 223) (len := 3) (pc1 := 946) (st1 := []) (hi1 := z189.2.1) (hl1 := z189.2.2) rfl ?_ (fun _ _ _ => if_neg c190)
                                                              obtain rfl := Option.some.inj h
                                                              have hk := hk.2.2.2.2.2.2.2.2.2.2.2.2.2.2.2.2.2.2.2.2.2.2.2.2.2.2.2.2.1 rfl
                                                              have hk : EX w0 ev 29 m_LA_law 946 [] [] (z189.2.1) (z189.2.2) OUT := hk
                                                              exact EX.pick [] hk rfl
                                                          · rcases ite_some h with ⟨c191, h⟩ | ⟨c191, h⟩
                                                            · refine EX.tswI (x := (((ev.2 (v3).toNatClampNeg) : Int32) &&& (63))) (k := 28) (pc1 := 948) rfl c191 (fun _ _ _ => rfl) ?_
                                                              refine EX.aload_n (x := 0) rfl (List.mem_of_getElem? (i := 1) rfl) ?_
                                                              refine EX.aload_n (x := 1000010) rfl (List.mem_of_getElem? (i := 0) rfl) ?_
                                                              refine EX.iload_n (x := v3) rfl (List.mem_of_getElem? (i := 3) rfl) ?_
                                                              refine EX.iconst (v := 1) rfl rfl ?_
                                                              refine EX.go (i := .iadd) (len := 1) (pc1 := 953) (st1 := [.int ((v3 + (1))), .ref 1000010, .ref 0]) (hi1 := hi) (hl1 := hl) rfl ?_ (fun _ _ _ => rfl)
                                                              obtain ⟨g192, h⟩ := grd_some h
                                                              refine EX.ialoadR (v := .int ((ev.2 ((v3 + (1))).toNatClampNeg))) rfl rfl rfl g192 rfl ?_
                                                              obtain ⟨z193, hz193, h⟩ := bnd_some h
                                                              refine EX.callV (b := 0) (as := [.int ((ev.2 ((v3 + (1))).toNatClampNeg))]) (rest := []) (r := some (.int (z193.1))) (hi1 := z193.2.1) (hl1 := z193.2.2) rfl rfl rfl rfl rfl rfl ((b_LW_tells ev hz193).mono (by decide)) ?_
                                                              show EX w0 ev 29 m_LA_law 957 [(0, .ref 1000010), (1, .ref 0), (2, .ref 65), (3, .int (v3))] [.int (z193.1)] (z193.2.1) (z193.2.2) OUT
                                                              refine EX.aload_n (x := 65) rfl (List.mem_of_getElem? (i := 2) rfl) ?_
                                                              refine EX.aload_n (x := 1000010) rfl (List.mem_of_getElem? (i := 0) rfl) ?_
                                                              refine EX.iload_n (x := v3) rfl (List.mem_of_getElem? (i := 3) rfl) ?_
                                                              refine EX.iconst (v := 1) rfl rfl ?_
                                                              refine EX.go (i := .iadd) (len := 1) (pc1 := 962) (st1 := [.int ((v3 + (1))), .ref 1000010, .ref 65, .int (z193.1)]) (hi1 := z193.2.1) (hl1 := z193.2.2) rfl ?_ (fun _ _ _ => rfl)
                                                              obtain ⟨g194, h⟩ := grd_some h
                                                              refine EX.ialoadR (v := .int ((ev.2 ((v3 + (1))).toNatClampNeg))) rfl rfl rfl g194 rfl ?_
                                                              obtain ⟨z195, hz195, h⟩ := bnd_some h
                                                              refine EX.callV (b := 65) (as := [.int ((ev.2 ((v3 + (1))).toNatClampNeg))]) (rest := [.int (z193.1)]) (r := some (.int (z195.1))) (hi1 := z195.2.1) (hl1 := z195.2.2) rfl rfl rfl rfl rfl rfl ((b_MD_tells ev hz195).mono (by decide)) ?_
                                                              show EX w0 ev 29 m_LA_law 966 [(0, .ref 1000010), (1, .ref 0), (2, .ref 65), (3, .int (v3))] [.int (z195.1), .int (z193.1)] (z195.2.1) (z195.2.2) OUT
                                                              rcases ite_some h with ⟨c196, h⟩ | ⟨c196, h⟩
                                                              · refine EX.go (i := .if_icmp .eq 200) (len := 3) (pc1 := 1166) (st1 := []) (hi1 := z195.2.1) (hl1 := z195.2.2) rfl ?_ (fun _ _ _ => if_pos c196)
                                                                refine EX.pick [0, 1, 2, 3] ?_ rfl
                                                                exact bJ_LA_law_1166 ev h hk
                                                              · refine EX.go (i := .if_icmp .eq 200) (len := 3) (pc1 := 969) (st1 := []) (hi1 := z195.2.1) (hl1 := z195.2.2) rfl ?_ (fun _ _ _ => if_neg c196)
                                                                obtain rfl := Option.some.inj h
                                                                have hk := hk.2.2.2.2.2.2.2.2.2.2.2.2.2.2.2.2.2.2.2.2.2.2.2.2.2.2.2.2.2.1 rfl
                                                                have hk : EX w0 ev 29 m_LA_law 969 [] [] (z195.2.1) (z195.2.2) OUT := hk
                                                                exact EX.pick [] hk rfl
                                                            · rcases ite_some h with ⟨c197, h⟩ | ⟨c197, h⟩
                                                              · refine EX.tswI (x := (((ev.2 (v3).toNatClampNeg) : Int32) &&& (63))) (k := 29) (pc1 := 971) rfl c197 (fun _ _ _ => rfl) ?_
                                                                refine EX.aload_n (x := 0) rfl (List.mem_of_getElem? (i := 1) rfl) ?_
                                                                refine EX.aload_n (x := 1000010) rfl (List.mem_of_getElem? (i := 0) rfl) ?_
                                                                refine EX.iload_n (x := v3) rfl (List.mem_of_getElem? (i := 3) rfl) ?_
                                                                refine EX.iconst (v := 1) rfl rfl ?_
                                                                refine EX.go (i := .iadd) (len := 1) (pc1 := 976) (st1 := [.int ((v3 + (1))), .ref 1000010, .ref 0]) (hi1 := hi) (hl1 := hl) rfl ?_ (fun _ _ _ => rfl)
                                                                obtain ⟨g198, h⟩ := grd_some h
                                                                refine EX.ialoadR (v := .int ((ev.2 ((v3 + (1))).toNatClampNeg))) rfl rfl rfl g198 rfl ?_
                                                                refine EX.aload_n (x := 1000010) rfl (List.mem_of_getElem? (i := 0) rfl) ?_
                                                                refine EX.iload_n (x := v3) rfl (List.mem_of_getElem? (i := 3) rfl) ?_
                                                                refine EX.iconst (v := 2) rfl rfl ?_
                                                                refine EX.go (i := .iadd) (len := 1) (pc1 := 981) (st1 := [.int ((v3 + (2))), .ref 1000010, .int ((ev.2 ((v3 + (1))).toNatClampNeg)), .ref 0]) (hi1 := hi) (hl1 := hl) rfl ?_ (fun _ _ _ => rfl)
                                                                obtain ⟨g199, h⟩ := grd_some h
                                                                refine EX.ialoadR (v := .int ((ev.2 ((v3 + (2))).toNatClampNeg))) rfl rfl rfl g199 rfl ?_
                                                                refine EX.aload_n (x := 1000010) rfl (List.mem_of_getElem? (i := 0) rfl) ?_
                                                                refine EX.iload_n (x := v3) rfl (List.mem_of_getElem? (i := 3) rfl) ?_
                                                                refine EX.iconst (v := 3) rfl rfl ?_
                                                                refine EX.go (i := .iadd) (len := 1) (pc1 := 986) (st1 := [.int ((v3 + (3))), .ref 1000010, .int ((ev.2 ((v3 + (2))).toNatClampNeg)), .int ((ev.2 ((v3 + (1))).toNatClampNeg)), .ref 0]) (hi1 := hi) (hl1 := hl) rfl ?_ (fun _ _ _ => rfl)
                                                                obtain ⟨g200, h⟩ := grd_some h
                                                                refine EX.ialoadR (v := .int ((ev.2 ((v3 + (3))).toNatClampNeg))) rfl rfl rfl g200 rfl ?_
                                                                obtain ⟨z201, hz201, h⟩ := bnd_some h
                                                                refine EX.callV (b := 0) (as := [.int ((ev.2 ((v3 + (1))).toNatClampNeg)), .int ((ev.2 ((v3 + (2))).toNatClampNeg)), .int ((ev.2 ((v3 + (3))).toNatClampNeg))]) (rest := []) (r := some (.int (z201.1))) (hi1 := z201.2.1) (hl1 := z201.2.2) rfl rfl rfl rfl rfl rfl ((b_LW_would ev hz201).mono (by decide)) ?_
                                                                show EX w0 ev 29 m_LA_law 990 [(0, .ref 1000010), (1, .ref 0), (2, .ref 65), (3, .int (v3))] [.int (z201.1)] (z201.2.1) (z201.2.2) OUT
                                                                refine EX.aload_n (x := 65) rfl (List.mem_of_getElem? (i := 2) rfl) ?_
                                                                refine EX.aload_n (x := 1000010) rfl (List.mem_of_getElem? (i := 0) rfl) ?_
                                                                refine EX.iload_n (x := v3) rfl (List.mem_of_getElem? (i := 3) rfl) ?_
                                                                refine EX.iconst (v := 1) rfl rfl ?_
                                                                refine EX.go (i := .iadd) (len := 1) (pc1 := 995) (st1 := [.int ((v3 + (1))), .ref 1000010, .ref 65, .int (z201.1)]) (hi1 := z201.2.1) (hl1 := z201.2.2) rfl ?_ (fun _ _ _ => rfl)
                                                                obtain ⟨g202, h⟩ := grd_some h
                                                                refine EX.ialoadR (v := .int ((ev.2 ((v3 + (1))).toNatClampNeg))) rfl rfl rfl g202 rfl ?_
                                                                refine EX.aload_n (x := 1000010) rfl (List.mem_of_getElem? (i := 0) rfl) ?_
                                                                refine EX.iload_n (x := v3) rfl (List.mem_of_getElem? (i := 3) rfl) ?_
                                                                refine EX.iconst (v := 2) rfl rfl ?_
                                                                refine EX.go (i := .iadd) (len := 1) (pc1 := 1000) (st1 := [.int ((v3 + (2))), .ref 1000010, .int ((ev.2 ((v3 + (1))).toNatClampNeg)), .ref 65, .int (z201.1)]) (hi1 := z201.2.1) (hl1 := z201.2.2) rfl ?_ (fun _ _ _ => rfl)
                                                                obtain ⟨g203, h⟩ := grd_some h
                                                                refine EX.ialoadR (v := .int ((ev.2 ((v3 + (2))).toNatClampNeg))) rfl rfl rfl g203 rfl ?_
                                                                refine EX.aload_n (x := 1000010) rfl (List.mem_of_getElem? (i := 0) rfl) ?_
                                                                refine EX.iload_n (x := v3) rfl (List.mem_of_getElem? (i := 3) rfl) ?_
                                                                refine EX.iconst (v := 3) rfl rfl ?_
                                                                refine EX.go (i := .iadd) (len := 1) (pc1 := 1005) (st1 := [.int ((v3 + (3))), .ref 1000010, .int ((ev.2 ((v3 + (2))).toNatClampNeg)), .int ((ev.2 ((v3 + (1))).toNatClampNeg)), .ref 65, .int (z201.1)]) (hi1 := z201.2.1) (hl1 := z201.2.2) rfl ?_ (fun _ _ _ => rfl)
                                                                obtain ⟨g204, h⟩ := grd_some h
                                                                refine EX.ialoadR (v := .int ((ev.2 ((v3 + (3))).toNatClampNeg))) rfl rfl rfl g204 rfl ?_
                                                                obtain ⟨z205, hz205, h⟩ := bnd_some h
                                                                refine EX.callV (b := 65) (as := [.int ((ev.2 ((v3 + (1))).toNatClampNeg)), .int ((ev.2 ((v3 + (2))).toNatClampNeg)), .int ((ev.2 ((v3 + (3))).toNatClampNeg))]) (rest := [.int (z201.1)]) (r := some (.int (z205.1))) (hi1 := z205.2.1) (hl1 := z205.2.2) rfl rfl rfl rfl rfl rfl ((b_MD_would ev hz205).mono (by decide)) ?_
                                                                show EX w0 ev 29 m_LA_law 1009 [(0, .ref 1000010), (1, .ref 0), (2, .ref 65), (3, .int (v3))] [.int (z205.1), .int (z201.1)] (z205.2.1) (z205.2.2) OUT
                                                                rcases ite_some h with ⟨c206, h⟩ | ⟨c206, h⟩
                                                                · refine EX.go (i := .if_icmp .eq 157) (len := 3) (pc1 := 1166) (st1 := []) (hi1 := z205.2.1) (hl1 := z205.2.2) rfl ?_ (fun _ _ _ => if_pos c206)
                                                                  refine EX.pick [0, 1, 2, 3] ?_ rfl
                                                                  exact bJ_LA_law_1166 ev h hk
                                                                · refine EX.go (i := .if_icmp .eq 157) (len := 3) (pc1 := 1012) (st1 := []) (hi1 := z205.2.1) (hl1 := z205.2.2) rfl ?_ (fun _ _ _ => if_neg c206)
                                                                  obtain rfl := Option.some.inj h
                                                                  have hk := hk.2.2.2.2.2.2.2.2.2.2.2.2.2.2.2.2.2.2.2.2.2.2.2.2.2.2.2.2.2.2.1 rfl
                                                                  have hk : EX w0 ev 29 m_LA_law 1012 [] [] (z205.2.1) (z205.2.2) OUT := hk
                                                                  exact EX.pick [] hk rfl
                                                              · rcases ite_some h with ⟨c207, h⟩ | ⟨c207, h⟩
                                                                · refine EX.tswI (x := (((ev.2 (v3).toNatClampNeg) : Int32) &&& (63))) (k := 30) (pc1 := 1014) rfl c207 (fun _ _ _ => rfl) ?_
                                                                  refine EX.aload_n (x := 0) rfl (List.mem_of_getElem? (i := 1) rfl) ?_
                                                                  refine EX.aload_n (x := 1000010) rfl (List.mem_of_getElem? (i := 0) rfl) ?_
                                                                  refine EX.iload_n (x := v3) rfl (List.mem_of_getElem? (i := 3) rfl) ?_
                                                                  refine EX.iconst (v := 1) rfl rfl ?_
                                                                  refine EX.go (i := .iadd) (len := 1) (pc1 := 1019) (st1 := [.int ((v3 + (1))), .ref 1000010, .ref 0]) (hi1 := hi) (hl1 := hl) rfl ?_ (fun _ _ _ => rfl)
                                                                  obtain ⟨g208, h⟩ := grd_some h
                                                                  refine EX.ialoadR (v := .int ((ev.2 ((v3 + (1))).toNatClampNeg))) rfl rfl rfl g208 rfl ?_
                                                                  refine EX.aload_n (x := 1000010) rfl (List.mem_of_getElem? (i := 0) rfl) ?_
                                                                  refine EX.iload_n (x := v3) rfl (List.mem_of_getElem? (i := 3) rfl) ?_
                                                                  refine EX.iconst (v := 2) rfl rfl ?_
                                                                  refine EX.go (i := .iadd) (len := 1) (pc1 := 1024) (st1 := [.int ((v3 + (2))), .ref 1000010, .int ((ev.2 ((v3 + (1))).toNatClampNeg)), .ref 0]) (hi1 := hi) (hl1 := hl) rfl ?_ (fun _ _ _ => rfl)
                                                                  obtain ⟨g209, h⟩ := grd_some h
                                                                  refine EX.ialoadR (v := .int ((ev.2 ((v3 + (2))).toNatClampNeg))) rfl rfl rfl g209 rfl ?_
                                                                  refine EX.aload_n (x := 1000010) rfl (List.mem_of_getElem? (i := 0) rfl) ?_
                                                                  refine EX.iload_n (x := v3) rfl (List.mem_of_getElem? (i := 3) rfl) ?_
                                                                  refine EX.iconst (v := 3) rfl rfl ?_
                                                                  refine EX.go (i := .iadd) (len := 1) (pc1 := 1029) (st1 := [.int ((v3 + (3))), .ref 1000010, .int ((ev.2 ((v3 + (2))).toNatClampNeg)), .int ((ev.2 ((v3 + (1))).toNatClampNeg)), .ref 0]) (hi1 := hi) (hl1 := hl) rfl ?_ (fun _ _ _ => rfl)
                                                                  obtain ⟨g210, h⟩ := grd_some h
                                                                  refine EX.ialoadR (v := .int ((ev.2 ((v3 + (3))).toNatClampNeg))) rfl rfl rfl g210 rfl ?_
                                                                  obtain ⟨z211, hz211, h⟩ := bnd_some h
                                                                  refine EX.callV (b := 0) (as := [.int ((ev.2 ((v3 + (1))).toNatClampNeg)), .int ((ev.2 ((v3 + (2))).toNatClampNeg)), .int ((ev.2 ((v3 + (3))).toNatClampNeg))]) (rest := []) (r := some (.int (z211.1))) (hi1 := z211.2.1) (hl1 := z211.2.2) rfl rfl rfl rfl rfl rfl ((b_LW_sheet ev hz211).mono (by decide)) ?_
                                                                  show EX w0 ev 29 m_LA_law 1033 [(0, .ref 1000010), (1, .ref 0), (2, .ref 65), (3, .int (v3))] [.int (z211.1)] (z211.2.1) (z211.2.2) OUT
                                                                  refine EX.aload_n (x := 65) rfl (List.mem_of_getElem? (i := 2) rfl) ?_
                                                                  refine EX.aload_n (x := 1000010) rfl (List.mem_of_getElem? (i := 0) rfl) ?_
                                                                  refine EX.iload_n (x := v3) rfl (List.mem_of_getElem? (i := 3) rfl) ?_
                                                                  refine EX.iconst (v := 1) rfl rfl ?_
                                                                  refine EX.go (i := .iadd) (len := 1) (pc1 := 1038) (st1 := [.int ((v3 + (1))), .ref 1000010, .ref 65, .int (z211.1)]) (hi1 := z211.2.1) (hl1 := z211.2.2) rfl ?_ (fun _ _ _ => rfl)
                                                                  obtain ⟨g212, h⟩ := grd_some h
                                                                  refine EX.ialoadR (v := .int ((ev.2 ((v3 + (1))).toNatClampNeg))) rfl rfl rfl g212 rfl ?_
                                                                  refine EX.aload_n (x := 1000010) rfl (List.mem_of_getElem? (i := 0) rfl) ?_
                                                                  refine EX.iload_n (x := v3) rfl (List.mem_of_getElem? (i := 3) rfl) ?_
                                                                  refine EX.iconst (v := 2) rfl rfl ?_
                                                                  refine EX.go (i := .iadd) (len := 1) (pc1 := 1043) (st1 := [.int ((v3 + (2))), .ref 1000010, .int ((ev.2 ((v3 + (1))).toNatClampNeg)), .ref 65, .int (z211.1)]) (hi1 := z211.2.1) (hl1 := z211.2.2) rfl ?_ (fun _ _ _ => rfl)
                                                                  obtain ⟨g213, h⟩ := grd_some h
                                                                  refine EX.ialoadR (v := .int ((ev.2 ((v3 + (2))).toNatClampNeg))) rfl rfl rfl g213 rfl ?_
                                                                  refine EX.aload_n (x := 1000010) rfl (List.mem_of_getElem? (i := 0) rfl) ?_
                                                                  refine EX.iload_n (x := v3) rfl (List.mem_of_getElem? (i := 3) rfl) ?_
                                                                  refine EX.iconst (v := 3) rfl rfl ?_
                                                                  refine EX.go (i := .iadd) (len := 1) (pc1 := 1048) (st1 := [.int ((v3 + (3))), .ref 1000010, .int ((ev.2 ((v3 + (2))).toNatClampNeg)), .int ((ev.2 ((v3 + (1))).toNatClampNeg)), .ref 65, .int (z211.1)]) (hi1 := z211.2.1) (hl1 := z211.2.2) rfl ?_ (fun _ _ _ => rfl)
                                                                  obtain ⟨g214, h⟩ := grd_some h
                                                                  refine EX.ialoadR (v := .int ((ev.2 ((v3 + (3))).toNatClampNeg))) rfl rfl rfl g214 rfl ?_
                                                                  obtain ⟨z215, hz215, h⟩ := bnd_some h
                                                                  refine EX.callV (b := 65) (as := [.int ((ev.2 ((v3 + (1))).toNatClampNeg)), .int ((ev.2 ((v3 + (2))).toNatClampNeg)), .int ((ev.2 ((v3 + (3))).toNatClampNeg))]) (rest := [.int (z211.1)]) (r := some (.int (z215.1))) (hi1 := z215.2.1) (hl1 := z215.2.2) rfl rfl rfl rfl rfl rfl ((b_MD_sheet ev hz215).mono (by decide)) ?_
                                                                  show EX w0 ev 29 m_LA_law 1052 [(0, .ref 1000010), (1, .ref 0), (2, .ref 65), (3, .int (v3))] [.int (z215.1), .int (z211.1)] (z215.2.1) (z215.2.2) OUT
                                                                  rcases ite_some h with ⟨c216, h⟩ | ⟨c216, h⟩
                                                                  · refine EX.go (i := .if_icmp .eq 114) (len := 3) (pc1 := 1166) (st1 := []) (hi1 := z215.2.1) (hl1 := z215.2.2) rfl ?_ (fun _ _ _ => if_pos c216)
                                                                    refine EX.pick [0, 1, 2, 3] ?_ rfl
                                                                    exact bJ_LA_law_1166 ev h hk
                                                                  · refine EX.go (i := .if_icmp .eq 114) (len := 3) (pc1 := 1055) (st1 := []) (hi1 := z215.2.1) (hl1 := z215.2.2) rfl ?_ (fun _ _ _ => if_neg c216)
                                                                    obtain rfl := Option.some.inj h
                                                                    have hk := hk.2.2.2.2.2.2.2.2.2.2.2.2.2.2.2.2.2.2.2.2.2.2.2.2.2.2.2.2.2.2.2.1 rfl
                                                                    have hk : EX w0 ev 29 m_LA_law 1055 [] [] (z215.2.1) (z215.2.2) OUT := hk
                                                                    exact EX.pick [] hk rfl
                                                                · rcases ite_some h with ⟨c217, h⟩ | ⟨c217, h⟩
                                                                  · refine EX.tswI (x := (((ev.2 (v3).toNatClampNeg) : Int32) &&& (63))) (k := 31) (pc1 := 1057) rfl c217 (fun _ _ _ => rfl) ?_
                                                                    refine EX.aload_n (x := 0) rfl (List.mem_of_getElem? (i := 1) rfl) ?_
                                                                    refine EX.aload_n (x := 1000010) rfl (List.mem_of_getElem? (i := 0) rfl) ?_
                                                                    refine EX.iload_n (x := v3) rfl (List.mem_of_getElem? (i := 3) rfl) ?_
                                                                    refine EX.iconst (v := 1) rfl rfl ?_
                                                                    refine EX.go (i := .iadd) (len := 1) (pc1 := 1062) (st1 := [.int ((v3 + (1))), .ref 1000010, .ref 0]) (hi1 := hi) (hl1 := hl) rfl ?_ (fun _ _ _ => rfl)
                                                                    obtain ⟨g218, h⟩ := grd_some h
                                                                    refine EX.ialoadR (v := .int ((ev.2 ((v3 + (1))).toNatClampNeg))) rfl rfl rfl g218 rfl ?_
                                                                    refine EX.aload_n (x := 1000010) rfl (List.mem_of_getElem? (i := 0) rfl) ?_
                                                                    refine EX.iload_n (x := v3) rfl (List.mem_of_getElem? (i := 3) rfl) ?_
                                                                    refine EX.iconst (v := 2) rfl rfl ?_
                                                                    refine EX.go (i := .iadd) (len := 1) (pc1 := 1067) (st1 := [.int ((v3 + (2))), .ref 1000010, .int ((ev.2 ((v3 + (1))).toNatClampNeg)), .ref 0]) (hi1 := hi) (hl1 := hl) rfl ?_ (fun _ _ _ => rfl)
                                                                    obtain ⟨g219, h⟩ := grd_some h
                                                                    refine EX.ialoadR (v := .int ((ev.2 ((v3 + (2))).toNatClampNeg))) rfl rfl rfl g219 rfl ?_
                                                                    refine EX.aload_n (x := 1000010) rfl (List.mem_of_getElem? (i := 0) rfl) ?_
                                                                    refine EX.iload_n (x := v3) rfl (List.mem_of_getElem? (i := 3) rfl) ?_
                                                                    refine EX.iconst (v := 3) rfl rfl ?_
                                                                    refine EX.go (i := .iadd) (len := 1) (pc1 := 1072) (st1 := [.int ((v3 + (3))), .ref 1000010, .int ((ev.2 ((v3 + (2))).toNatClampNeg)), .int ((ev.2 ((v3 + (1))).toNatClampNeg)), .ref 0]) (hi1 := hi) (hl1 := hl) rfl ?_ (fun _ _ _ => rfl)
                                                                    obtain ⟨g220, h⟩ := grd_some h
                                                                    refine EX.ialoadR (v := .int ((ev.2 ((v3 + (3))).toNatClampNeg))) rfl rfl rfl g220 rfl ?_
                                                                    obtain ⟨z221, hz221, h⟩ := bnd_some h
                                                                    refine EX.callV (b := 0) (as := [.int ((ev.2 ((v3 + (1))).toNatClampNeg)), .int ((ev.2 ((v3 + (2))).toNatClampNeg)), .int ((ev.2 ((v3 + (3))).toNatClampNeg))]) (rest := []) (r := some (.int (z221.1))) (hi1 := z221.2.1) (hl1 := z221.2.2) rfl rfl rfl rfl rfl rfl ((b_LW_lay ev hz221).mono (by decide)) ?_
                                                                    show EX w0 ev 29 m_LA_law 1076 [(0, .ref 1000010), (1, .ref 0), (2, .ref 65), (3, .int (v3))] [.int (z221.1)] (z221.2.1) (z221.2.2) OUT
                                                                    refine EX.aload_n (x := 65) rfl (List.mem_of_getElem? (i := 2) rfl) ?_
                                                                    refine EX.aload_n (x := 1000010) rfl (List.mem_of_getElem? (i := 0) rfl) ?_
                                                                    refine EX.iload_n (x := v3) rfl (List.mem_of_getElem? (i := 3) rfl) ?_
                                                                    refine EX.iconst (v := 1) rfl rfl ?_
                                                                    refine EX.go (i := .iadd) (len := 1) (pc1 := 1081) (st1 := [.int ((v3 + (1))), .ref 1000010, .ref 65, .int (z221.1)]) (hi1 := z221.2.1) (hl1 := z221.2.2) rfl ?_ (fun _ _ _ => rfl)
                                                                    obtain ⟨g222, h⟩ := grd_some h
                                                                    refine EX.ialoadR (v := .int ((ev.2 ((v3 + (1))).toNatClampNeg))) rfl rfl rfl g222 rfl ?_
                                                                    refine EX.aload_n (x := 1000010) rfl (List.mem_of_getElem? (i := 0) rfl) ?_
                                                                    refine EX.iload_n (x := v3) rfl (List.mem_of_getElem? (i := 3) rfl) ?_
                                                                    refine EX.iconst (v := 2) rfl rfl ?_
                                                                    refine EX.go (i := .iadd) (len := 1) (pc1 := 1086) (st1 := [.int ((v3 + (2))), .ref 1000010, .int ((ev.2 ((v3 + (1))).toNatClampNeg)), .ref 65, .int (z221.1)]) (hi1 := z221.2.1) (hl1 := z221.2.2) rfl ?_ (fun _ _ _ => rfl)
                                                                    obtain ⟨g223, h⟩ := grd_some h
                                                                    refine EX.ialoadR (v := .int ((ev.2 ((v3 + (2))).toNatClampNeg))) rfl rfl rfl g223 rfl ?_
                                                                    refine EX.aload_n (x := 1000010) rfl (List.mem_of_getElem? (i := 0) rfl) ?_
                                                                    refine EX.iload_n (x := v3) rfl (List.mem_of_getElem? (i := 3) rfl) ?_
                                                                    refine EX.iconst (v := 3) rfl rfl ?_
                                                                    refine EX.go (i := .iadd) (len := 1) (pc1 := 1091) (st1 := [.int ((v3 + (3))), .ref 1000010, .int ((ev.2 ((v3 + (2))).toNatClampNeg)), .int ((ev.2 ((v3 + (1))).toNatClampNeg)), .ref 65, .int (z221.1)]) (hi1 := z221.2.1) (hl1 := z221.2.2) rfl ?_ (fun _ _ _ => rfl)
                                                                    obtain ⟨g224, h⟩ := grd_some h
                                                                    refine EX.ialoadR (v := .int ((ev.2 ((v3 + (3))).toNatClampNeg))) rfl rfl rfl g224 rfl ?_
                                                                    obtain ⟨z225, hz225, h⟩ := bnd_some h
                                                                    refine EX.callV (b := 65) (as := [.int ((ev.2 ((v3 + (1))).toNatClampNeg)), .int ((ev.2 ((v3 + (2))).toNatClampNeg)), .int ((ev.2 ((v3 + (3))).toNatClampNeg))]) (rest := [.int (z221.1)]) (r := some (.int (z225.1))) (hi1 := z225.2.1) (hl1 := z225.2.2) rfl rfl rfl rfl rfl rfl ((b_MD_lay ev hz225).mono (by decide)) ?_
                                                                    show EX w0 ev 29 m_LA_law 1095 [(0, .ref 1000010), (1, .ref 0), (2, .ref 65), (3, .int (v3))] [.int (z225.1), .int (z221.1)] (z225.2.1) (z225.2.2) OUT
                                                                    rcases ite_some h with ⟨c226, h⟩ | ⟨c226, h⟩
                                                                    · refine EX.go (i := .if_icmp .eq 71) (len := 3) (pc1 := 1166) (st1 := []) (hi1 := z225.2.1) (hl1 := z225.2.2) rfl ?_ (fun _ _ _ => if_pos c226)
                                                                      refine EX.pick [0, 1, 2, 3] ?_ rfl
                                                                      exact bJ_LA_law_1166 ev h hk
                                                                    · refine EX.go (i := .if_icmp .eq 71) (len := 3) (pc1 := 1098) (st1 := []) (hi1 := z225.2.1) (hl1 := z225.2.2) rfl ?_ (fun _ _ _ => if_neg c226)
                                                                      obtain rfl := Option.some.inj h
                                                                      have hk := hk.2.2.2.2.2.2.2.2.2.2.2.2.2.2.2.2.2.2.2.2.2.2.2.2.2.2.2.2.2.2.2.2.1 rfl
                                                                      have hk : EX w0 ev 29 m_LA_law 1098 [] [] (z225.2.1) (z225.2.2) OUT := hk
                                                                      exact EX.pick [] hk rfl
                                                                  · rcases ite_some h with ⟨c227, h⟩ | ⟨c227, h⟩
                                                                    · refine EX.tswI (x := (((ev.2 (v3).toNatClampNeg) : Int32) &&& (63))) (k := 32) (pc1 := 1100) rfl c227 (fun _ _ _ => rfl) ?_
                                                                      refine EX.aload_n (x := 0) rfl (List.mem_of_getElem? (i := 1) rfl) ?_
                                                                      refine EX.aload_n (x := 1000010) rfl (List.mem_of_getElem? (i := 0) rfl) ?_
                                                                      refine EX.iload_n (x := v3) rfl (List.mem_of_getElem? (i := 3) rfl) ?_
                                                                      refine EX.iconst (v := 1) rfl rfl ?_
                                                                      refine EX.go (i := .iadd) (len := 1) (pc1 := 1105) (st1 := [.int ((v3 + (1))), .ref 1000010, .ref 0]) (hi1 := hi) (hl1 := hl) rfl ?_ (fun _ _ _ => rfl)
                                                                      obtain ⟨g228, h⟩ := grd_some h
                                                                      refine EX.ialoadR (v := .int ((ev.2 ((v3 + (1))).toNatClampNeg))) rfl rfl rfl g228 rfl ?_
                                                                      refine EX.aload_n (x := 1000010) rfl (List.mem_of_getElem? (i := 0) rfl) ?_
                                                                      refine EX.iload_n (x := v3) rfl (List.mem_of_getElem? (i := 3) rfl) ?_
                                                                      refine EX.iconst (v := 2) rfl rfl ?_
                                                                      refine EX.go (i := .iadd) (len := 1) (pc1 := 1110) (st1 := [.int ((v3 + (2))), .ref 1000010, .int ((ev.2 ((v3 + (1))).toNatClampNeg)), .ref 0]) (hi1 := hi) (hl1 := hl) rfl ?_ (fun _ _ _ => rfl)
                                                                      obtain ⟨g229, h⟩ := grd_some h
                                                                      refine EX.ialoadR (v := .int ((ev.2 ((v3 + (2))).toNatClampNeg))) rfl rfl rfl g229 rfl ?_
                                                                      refine EX.aload_n (x := 1000010) rfl (List.mem_of_getElem? (i := 0) rfl) ?_
                                                                      refine EX.iload_n (x := v3) rfl (List.mem_of_getElem? (i := 3) rfl) ?_
                                                                      refine EX.iconst (v := 3) rfl rfl ?_
                                                                      refine EX.go (i := .iadd) (len := 1) (pc1 := 1115) (st1 := [.int ((v3 + (3))), .ref 1000010, .int ((ev.2 ((v3 + (2))).toNatClampNeg)), .int ((ev.2 ((v3 + (1))).toNatClampNeg)), .ref 0]) (hi1 := hi) (hl1 := hl) rfl ?_ (fun _ _ _ => rfl)
                                                                      obtain ⟨g230, h⟩ := grd_some h
                                                                      refine EX.ialoadR (v := .int ((ev.2 ((v3 + (3))).toNatClampNeg))) rfl rfl rfl g230 rfl ?_
                                                                      obtain ⟨z231, hz231, h⟩ := bnd_some h
                                                                      refine EX.callV (b := 0) (as := [.int ((ev.2 ((v3 + (1))).toNatClampNeg)), .int ((ev.2 ((v3 + (2))).toNatClampNeg)), .int ((ev.2 ((v3 + (3))).toNatClampNeg))]) (rest := []) (r := some (.int (z231.1))) (hi1 := z231.2.1) (hl1 := z231.2.2) rfl rfl rfl rfl rfl rfl ((b_LW_levels ev hz231).mono (by decide)) ?_
                                                                      show EX w0 ev 29 m_LA_law 1119 [(0, .ref 1000010), (1, .ref 0), (2, .ref 65), (3, .int (v3))] [.int (z231.1)] (z231.2.1) (z231.2.2) OUT
                                                                      refine EX.aload_n (x := 65) rfl (List.mem_of_getElem? (i := 2) rfl) ?_
                                                                      refine EX.aload_n (x := 1000010) rfl (List.mem_of_getElem? (i := 0) rfl) ?_
                                                                      refine EX.iload_n (x := v3) rfl (List.mem_of_getElem? (i := 3) rfl) ?_
                                                                      refine EX.iconst (v := 1) rfl rfl ?_
                                                                      refine EX.go (i := .iadd) (len := 1) (pc1 := 1124) (st1 := [.int ((v3 + (1))), .ref 1000010, .ref 65, .int (z231.1)]) (hi1 := z231.2.1) (hl1 := z231.2.2) rfl ?_ (fun _ _ _ => rfl)
                                                                      obtain ⟨g232, h⟩ := grd_some h
                                                                      refine EX.ialoadR (v := .int ((ev.2 ((v3 + (1))).toNatClampNeg))) rfl rfl rfl g232 rfl ?_
                                                                      refine EX.aload_n (x := 1000010) rfl (List.mem_of_getElem? (i := 0) rfl) ?_
                                                                      refine EX.iload_n (x := v3) rfl (List.mem_of_getElem? (i := 3) rfl) ?_
                                                                      refine EX.iconst (v := 2) rfl rfl ?_
                                                                      refine EX.go (i := .iadd) (len := 1) (pc1 := 1129) (st1 := [.int ((v3 + (2))), .ref 1000010, .int ((ev.2 ((v3 + (1))).toNatClampNeg)), .ref 65, .int (z231.1)]) (hi1 := z231.2.1) (hl1 := z231.2.2) rfl ?_ (fun _ _ _ => rfl)
                                                                      obtain ⟨g233, h⟩ := grd_some h
                                                                      refine EX.ialoadR (v := .int ((ev.2 ((v3 + (2))).toNatClampNeg))) rfl rfl rfl g233 rfl ?_
                                                                      refine EX.aload_n (x := 1000010) rfl (List.mem_of_getElem? (i := 0) rfl) ?_
                                                                      refine EX.iload_n (x := v3) rfl (List.mem_of_getElem? (i := 3) rfl) ?_
                                                                      refine EX.iconst (v := 3) rfl rfl ?_
                                                                      refine EX.go (i := .iadd) (len := 1) (pc1 := 1134) (st1 := [.int ((v3 + (3))), .ref 1000010, .int ((ev.2 ((v3 + (2))).toNatClampNeg)), .int ((ev.2 ((v3 + (1))).toNatClampNeg)), .ref 65, .int (z231.1)]) (hi1 := z231.2.1) (hl1 := z231.2.2) rfl ?_ (fun _ _ _ => rfl)
                                                                      obtain ⟨g234, h⟩ := grd_some h
                                                                      refine EX.ialoadR (v := .int ((ev.2 ((v3 + (3))).toNatClampNeg))) rfl rfl rfl g234 rfl ?_
                                                                      obtain ⟨z235, hz235, h⟩ := bnd_some h
                                                                      refine EX.callV (b := 65) (as := [.int ((ev.2 ((v3 + (1))).toNatClampNeg)), .int ((ev.2 ((v3 + (2))).toNatClampNeg)), .int ((ev.2 ((v3 + (3))).toNatClampNeg))]) (rest := [.int (z231.1)]) (r := some (.int (z235.1))) (hi1 := z235.2.1) (hl1 := z235.2.2) rfl rfl rfl rfl rfl rfl ((b_MD_levels ev hz235).mono (by decide)) ?_
                                                                      show EX w0 ev 29 m_LA_law 1138 [(0, .ref 1000010), (1, .ref 0), (2, .ref 65), (3, .int (v3))] [.int (z235.1), .int (z231.1)] (z235.2.1) (z235.2.2) OUT
                                                                      rcases ite_some h with ⟨c236, h⟩ | ⟨c236, h⟩
                                                                      · refine EX.go (i := .if_icmp .eq 28) (len := 3) (pc1 := 1166) (st1 := []) (hi1 := z235.2.1) (hl1 := z235.2.2) rfl ?_ (fun _ _ _ => if_pos c236)
                                                                        refine EX.pick [0, 1, 2, 3] ?_ rfl
                                                                        exact bJ_LA_law_1166 ev h hk
                                                                      · refine EX.go (i := .if_icmp .eq 28) (len := 3) (pc1 := 1141) (st1 := []) (hi1 := z235.2.1) (hl1 := z235.2.2) rfl ?_ (fun _ _ _ => if_neg c236)
                                                                        obtain rfl := Option.some.inj h
                                                                        have hk := hk.2.2.2.2.2.2.2.2.2.2.2.2.2.2.2.2.2.2.2.2.2.2.2.2.2.2.2.2.2.2.2.2.2.1 rfl
                                                                        have hk : EX w0 ev 29 m_LA_law 1141 [] [] (z235.2.1) (z235.2.2) OUT := hk
                                                                        exact EX.pick [] hk rfl
                                                                    · rcases ite_some h with ⟨c237, h⟩ | ⟨c237, h⟩
                                                                      · refine EX.tswI (x := (((ev.2 (v3).toNatClampNeg) : Int32) &&& (63))) (k := 33) (pc1 := 1143) rfl c237 (fun _ _ _ => rfl) ?_
                                                                        refine EX.aload_n (x := 0) rfl (List.mem_of_getElem? (i := 1) rfl) ?_
                                                                        refine EX.aload_n (x := 1000010) rfl (List.mem_of_getElem? (i := 0) rfl) ?_
                                                                        refine EX.iload_n (x := v3) rfl (List.mem_of_getElem? (i := 3) rfl) ?_
                                                                        refine EX.iconst (v := 1) rfl rfl ?_
                                                                        refine EX.go (i := .iadd) (len := 1) (pc1 := 1148) (st1 := [.int ((v3 + (1))), .ref 1000010, .ref 0]) (hi1 := hi) (hl1 := hl) rfl ?_ (fun _ _ _ => rfl)
                                                                        obtain ⟨g238, h⟩ := grd_some h
                                                                        refine EX.ialoadR (v := .int ((ev.2 ((v3 + (1))).toNatClampNeg))) rfl rfl rfl g238 rfl ?_
                                                                        obtain ⟨z239, hz239, h⟩ := bnd_some h
                                                                        refine EX.callV (b := 0) (as := [.int ((ev.2 ((v3 + (1))).toNatClampNeg))]) (rest := []) (r := some (.int (z239.1))) (hi1 := z239.2.1) (hl1 := z239.2.2) rfl rfl rfl rfl rfl rfl ((b_LW_count ev hz239).mono (by decide)) ?_
                                                                        show EX w0 ev 29 m_LA_law 1152 [(0, .ref 1000010), (1, .ref 0), (2, .ref 65), (3, .int (v3))] [.int (z239.1)] (z239.2.1) (z239.2.2) OUT
                                                                        refine EX.aload_n (x := 65) rfl (List.mem_of_getElem? (i := 2) rfl) ?_
                                                                        refine EX.aload_n (x := 1000010) rfl (List.mem_of_getElem? (i := 0) rfl) ?_
                                                                        refine EX.iload_n (x := v3) rfl (List.mem_of_getElem? (i := 3) rfl) ?_
                                                                        refine EX.iconst (v := 1) rfl rfl ?_
                                                                        refine EX.go (i := .iadd) (len := 1) (pc1 := 1157) (st1 := [.int ((v3 + (1))), .ref 1000010, .ref 65, .int (z239.1)]) (hi1 := z239.2.1) (hl1 := z239.2.2) rfl ?_ (fun _ _ _ => rfl)
                                                                        obtain ⟨g240, h⟩ := grd_some h
                                                                        refine EX.ialoadR (v := .int ((ev.2 ((v3 + (1))).toNatClampNeg))) rfl rfl rfl g240 rfl ?_
                                                                        obtain ⟨z241, hz241, h⟩ := bnd_some h
                                                                        refine EX.callV (b := 65) (as := [.int ((ev.2 ((v3 + (1))).toNatClampNeg))]) (rest := [.int (z239.1)]) (r := some (.int (z241.1))) (hi1 := z241.2.1) (hl1 := z241.2.2) rfl rfl rfl rfl rfl rfl ((b_MD_count ev hz241).mono (by decide)) ?_
                                                                        show EX w0 ev 29 m_LA_law 1161 [(0, .ref 1000010), (1, .ref 0), (2, .ref 65), (3, .int (v3))] [.int (z241.1), .int (z239.1)] (z241.2.1) (z241.2.2) OUT
                                                                        rcases ite_some h with ⟨c242, h⟩ | ⟨c242, h⟩
                                                                        · refine EX.go (i := .if_icmp .eq 5) (len := 3) (pc1 := 1166) (st1 := []) (hi1 := z241.2.1) (hl1 := z241.2.2) rfl ?_ (fun _ _ _ => if_pos c242)
                                                                          refine EX.pick [0, 1, 2, 3] ?_ rfl
                                                                          exact bJ_LA_law_1166 ev h hk
                                                                        · refine EX.go (i := .if_icmp .eq 5) (len := 3) (pc1 := 1164) (st1 := []) (hi1 := z241.2.1) (hl1 := z241.2.2) rfl ?_ (fun _ _ _ => if_neg c242)
                                                                          obtain rfl := Option.some.inj h
                                                                          have hk := hk.2.2.2.2.2.2.2.2.2.2.2.2.2.2.2.2.2.2.2.2.2.2.2.2.2.2.2.2.2.2.2.2.2.2 rfl
                                                                          have hk : EX w0 ev 29 m_LA_law 1164 [] [] (z241.2.1) (z241.2.2) OUT := hk
                                                                          exact EX.pick [] hk rfl
                                                                      · refine EX.tswO (x := (((ev.2 (v3).toNatClampNeg) : Int32) &&& (63))) (pc1 := 1166) rfl (by have e0 := lv_neT c3 (show (0 : Int32).toInt = 0 from rfl); have e1 := lv_neT c9 (show (1 : Int32).toInt = 1 from rfl); have e2 := lv_neT c15 (show (2 : Int32).toInt = 2 from rfl); have e3 := lv_neT c25 (show (3 : Int32).toInt = 3 from rfl); have e4 := lv_neT c33 (show (4 : Int32).toInt = 4 from rfl); have e5 := lv_neT c41 (show (5 : Int32).toInt = 5 from rfl); have e6 := lv_neT c49 (show (6 : Int32).toInt = 6 from rfl); have e7 := lv_neT c57 (show (7 : Int32).toInt = 7 from rfl); have e8 := lv_neT c63 (show (8 : Int32).toInt = 8 from rfl); have e9 := lv_neT c69 (show (9 : Int32).toInt = 9 from rfl); have e10 := lv_neT c75 (show (10 : Int32).toInt = 10 from rfl); have e11 := lv_neT c81 (show (11 : Int32).toInt = 11 from rfl); have e12 := lv_neT c89 (show (12 : Int32).toInt = 12 from rfl); have e13 := lv_neT c93 (show (13 : Int32).toInt = 13 from rfl); have e14 := lv_neT c99 (show (14 : Int32).toInt = 14 from rfl); have e15 := lv_neT c107 (show (15 : Int32).toInt = 15 from rfl); have e16 := lv_neT c113 (show (16 : Int32).toInt = 16 from rfl); have e17 := lv_neT c121 (show (17 : Int32).toInt = 17 from rfl); have e18 := lv_neT c127 (show (18 : Int32).toInt = 18 from rfl); have e19 := lv_neT c135 (show (19 : Int32).toInt = 19 from rfl); have e20 := lv_neT c141 (show (20 : Int32).toInt = 20 from rfl); have e21 := lv_neT c145 (show (21 : Int32).toInt = 21 from rfl); have e22 := lv_neT c149 (show (22 : Int32).toInt = 22 from rfl); have e23 := lv_neT c157 (show (23 : Int32).toInt = 23 from rfl); have e24 := lv_neT c163 (show (24 : Int32).toInt = 24 from rfl); have e25 := lv_neT c171 (show (25 : Int32).toInt = 25 from rfl); have e26 := lv_neT c177 (show (26 : Int32).toInt = 26 from rfl); have e27 := lv_neT c185 (show (27 : Int32).toInt = 27 from rfl); have e28 := lv_neT c191 (show (28 : Int32).toInt = 28 from rfl); have e29 := lv_neT c197 (show (29 : Int32).toInt = 29 from rfl); have e30 := lv_neT c207 (show (30 : Int32).toInt = 30 from rfl); have e31 := lv_neT c217 (show (31 : Int32).toInt = 31 from rfl); have e32 := lv_neT c227 (show (32 : Int32).toInt = 32 from rfl); have e33 := lv_neT c237 (show (33 : Int32).toInt = 33 from rfl); omega) rfl rfl ?_
                                                                        refine EX.pick [0, 1, 2, 3] ?_ rfl
                                                                        exact bJ_LA_law_1166 ev h hk
def f_LA_law (ev : EV) (N : Nat) (hi : HI) (hl : HL) : Option (Int32 × HI × HL) :=
  (lpN (fun s => B_LA_law_18 ev N s.1 s.2.1 s.2.2) N (0, hi, hl)).bind fun x243 => if x243.1 = 0 then some (1, x243.2.1, x243.2.2) else if x243.1 = 1 then some (0, x243.2.1, x243.2.2) else if x243.1 = 2 then some (0, x243.2.1, x243.2.2) else if x243.1 = 3 then some (0, x243.2.1, x243.2.2) else if x243.1 = 4 then some (0, x243.2.1, x243.2.2) else if x243.1 = 5 then some (0, x243.2.1, x243.2.2) else if x243.1 = 6 then some (0, x243.2.1, x243.2.2) else if x243.1 = 7 then some (0, x243.2.1, x243.2.2) else if x243.1 = 8 then some (0, x243.2.1, x243.2.2) else if x243.1 = 9 then some (0, x243.2.1, x243.2.2) else if x243.1 = 10 then some (0, x243.2.1, x243.2.2) else if x243.1 = 11 then some (0, x243.2.1, x243.2.2) else if x243.1 = 12 then some (0, x243.2.1, x243.2.2) else if x243.1 = 13 then some (0, x243.2.1, x243.2.2) else if x243.1 = 14 then some (0, x243.2.1, x243.2.2) else if x243.1 = 15 then some (0, x243.2.1, x243.2.2) else if x243.1 = 16 then some (0, x243.2.1, x243.2.2) else if x243.1 = 17 then some (0, x243.2.1, x243.2.2) else if x243.1 = 18 then some (0, x243.2.1, x243.2.2) else if x243.1 = 19 then some (0, x243.2.1, x243.2.2) else if x243.1 = 20 then some (0, x243.2.1, x243.2.2) else if x243.1 = 21 then some (0, x243.2.1, x243.2.2) else if x243.1 = 22 then some (0, x243.2.1, x243.2.2) else if x243.1 = 23 then some (0, x243.2.1, x243.2.2) else if x243.1 = 24 then some (0, x243.2.1, x243.2.2) else if x243.1 = 25 then some (0, x243.2.1, x243.2.2) else if x243.1 = 26 then some (0, x243.2.1, x243.2.2) else if x243.1 = 27 then some (0, x243.2.1, x243.2.2) else if x243.1 = 28 then some (0, x243.2.1, x243.2.2) else if x243.1 = 29 then some (0, x243.2.1, x243.2.2) else if x243.1 = 30 then some (0, x243.2.1, x243.2.2) else if x243.1 = 31 then some (0, x243.2.1, x243.2.2) else if x243.1 = 32 then some (0, x243.2.1, x243.2.2) else if x243.1 = 33 then some (0, x243.2.1, x243.2.2) else some (0, x243.2.1, x243.2.2)
set_option maxRecDepth 10000 in
set_option maxHeartbeats 4000000 in
theorem b_LA_law (ev : EV) {N : Nat} {hi : HI} {hl : HL} {o : Int32 × HI × HL} (h : f_LA_law ev N hi hl = some o) : EX w0 ev 29 m_LA_law 16 [(0, .ref 1000010), (1, .ref 0), (2, .ref 65)] [] (hi) (hl) (oI o) := by
  unfold f_LA_law at h
  refine EX.iconst (v := 0) rfl rfl ?_
  refine EX.istore_n (req1 := [(3, .int (0)), (0, .ref 1000010), (1, .ref 0), (2, .ref 65)]) rfl rfl rfl ?_
  obtain ⟨x243, hx243, h⟩ := bnd_some h
  refine EX.pick [1, 2, 3, 0] ?_ rfl
  refine lp_sound (f := fun s => B_LA_law_18 ev N s.1 s.2.1 s.2.2) (PS := fun s => EX w0 ev 29 m_LA_law 18 [(0, .ref 1000010), (1, .ref 0), (2, .ref 65), (3, .int (s.1))] [] (s.2.1) (s.2.2) (oI o)) (PX := fun x => (x.1 = 0 → EX w0 ev 29 m_LA_law 1172 [] [] (x.2.1) (x.2.2) (oI o)) ∧ (x.1 = 1 → EX w0 ev 29 m_LA_law 205 [] [] (x.2.1) (x.2.2) (oI o)) ∧ (x.1 = 2 → EX w0 ev 29 m_LA_law 228 [] [] (x.2.1) (x.2.2) (oI o)) ∧ (x.1 = 3 → EX w0 ev 29 m_LA_law 271 [] [] (x.2.1) (x.2.2) (oI o)) ∧ (x.1 = 4 → EX w0 ev 29 m_LA_law 304 [] [] (x.2.1) (x.2.2) (oI o)) ∧ (x.1 = 5 → EX w0 ev 29 m_LA_law 337 [] [] (x.2.1) (x.2.2) (oI o)) ∧ (x.1 = 6 → EX w0 ev 29 m_LA_law 370 [] [] (x.2.1) (x.2.2) (oI o)) ∧ (x.1 = 7 → EX w0 ev 29 m_LA_law 403 [] [] (x.2.1) (x.2.2) (oI o)) ∧ (x.1 = 8 → EX w0 ev 29 m_LA_law 426 [] [] (x.2.1) (x.2.2) (oI o)) ∧ (x.1 = 9 → EX w0 ev 29 m_LA_law 449 [] [] (x.2.1) (x.2.2) (oI o)) ∧ (x.1 = 10 → EX w0 ev 29 m_LA_law 472 [] [] (x.2.1) (x.2.2) (oI o)) ∧ (x.1 = 11 → EX w0 ev 29 m_LA_law 495 [] [] (x.2.1) (x.2.2) (oI o)) ∧ (x.1 = 12 → EX w0 ev 29 m_LA_law 528 [] [] (x.2.1) (x.2.2) (oI o)) ∧ (x.1 = 13 → EX w0 ev 29 m_LA_law 541 [] [] (x.2.1) (x.2.2) (oI o)) ∧ (x.1 = 14 → EX w0 ev 29 m_LA_law 564 [] [] (x.2.1) (x.2.2) (oI o)) ∧ (x.1 = 15 → EX w0 ev 29 m_LA_law 597 [] [] (x.2.1) (x.2.2) (oI o)) ∧ (x.1 = 16 → EX w0 ev 29 m_LA_law 620 [] [] (x.2.1) (x.2.2) (oI o)) ∧ (x.1 = 17 → EX w0 ev 29 m_LA_law 653 [] [] (x.2.1) (x.2.2) (oI o)) ∧ (x.1 = 18 → EX w0 ev 29 m_LA_law 676 [] [] (x.2.1) (x.2.2) (oI o)) ∧ (x.1 = 19 → EX w0 ev 29 m_LA_law 729 [] [] (x.2.1) (x.2.2) (oI o)) ∧ (x.1 = 20 → EX w0 ev 29 m_LA_law 752 [] [] (x.2.1) (x.2.2) (oI o)) ∧ (x.1 = 21 → EX w0 ev 29 m_LA_law 765 [] [] (x.2.1) (x.2.2) (oI o)) ∧ (x.1 = 22 → EX w0 ev 29 m_LA_law 778 [] [] (x.2.1) (x.2.2) (oI o)) ∧ (x.1 = 23 → EX w0 ev 29 m_LA_law 811 [] [] (x.2.1) (x.2.2) (oI o)) ∧ (x.1 = 24 → EX w0 ev 29 m_LA_law 834 [] [] (x.2.1) (x.2.2) (oI o)) ∧ (x.1 = 25 → EX w0 ev 29 m_LA_law 867 [] [] (x.2.1) (x.2.2) (oI o)) ∧ (x.1 = 26 → EX w0 ev 29 m_LA_law 890 [] [] (x.2.1) (x.2.2) (oI o)) ∧ (x.1 = 27 → EX w0 ev 29 m_LA_law 923 [] [] (x.2.1) (x.2.2) (oI o)) ∧ (x.1 = 28 → EX w0 ev 29 m_LA_law 946 [] [] (x.2.1) (x.2.2) (oI o)) ∧ (x.1 = 29 → EX w0 ev 29 m_LA_law 969 [] [] (x.2.1) (x.2.2) (oI o)) ∧ (x.1 = 30 → EX w0 ev 29 m_LA_law 1012 [] [] (x.2.1) (x.2.2) (oI o)) ∧ (x.1 = 31 → EX w0 ev 29 m_LA_law 1055 [] [] (x.2.1) (x.2.2) (oI o)) ∧ (x.1 = 32 → EX w0 ev 29 m_LA_law 1098 [] [] (x.2.1) (x.2.2) (oI o)) ∧ (x.1 = 33 → EX w0 ev 29 m_LA_law 1141 [] [] (x.2.1) (x.2.2) (oI o)) ∧ (x.1 = 34 → EX w0 ev 29 m_LA_law 1164 [] [] (x.2.1) (x.2.2) (oI o))) ?_ N _ x243 hx243 ?_
  · exact fun s z hz hk => bB_LA_law_18 ev hz hk
  rcases ite_some h with ⟨c244, h⟩ | ⟨c244, h⟩
  · refine ⟨fun _ => ?_, fun e9 => absurd (c244.symm.trans e9) (by decide), fun e9 => absurd (c244.symm.trans e9) (by decide), fun e9 => absurd (c244.symm.trans e9) (by decide), fun e9 => absurd (c244.symm.trans e9) (by decide), fun e9 => absurd (c244.symm.trans e9) (by decide), fun e9 => absurd (c244.symm.trans e9) (by decide), fun e9 => absurd (c244.symm.trans e9) (by decide), fun e9 => absurd (c244.symm.trans e9) (by decide), fun e9 => absurd (c244.symm.trans e9) (by decide), fun e9 => absurd (c244.symm.trans e9) (by decide), fun e9 => absurd (c244.symm.trans e9) (by decide), fun e9 => absurd (c244.symm.trans e9) (by decide), fun e9 => absurd (c244.symm.trans e9) (by decide), fun e9 => absurd (c244.symm.trans e9) (by decide), fun e9 => absurd (c244.symm.trans e9) (by decide), fun e9 => absurd (c244.symm.trans e9) (by decide), fun e9 => absurd (c244.symm.trans e9) (by decide), fun e9 => absurd (c244.symm.trans e9) (by decide), fun e9 => absurd (c244.symm.trans e9) (by decide), fun e9 => absurd (c244.symm.trans e9) (by decide), fun e9 => absurd (c244.symm.trans e9) (by decide), fun e9 => absurd (c244.symm.trans e9) (by decide), fun e9 => absurd (c244.symm.trans e9) (by decide), fun e9 => absurd (c244.symm.trans e9) (by decide), fun e9 => absurd (c244.symm.trans e9) (by decide), fun e9 => absurd (c244.symm.trans e9) (by decide), fun e9 => absurd (c244.symm.trans e9) (by decide), fun e9 => absurd (c244.symm.trans e9) (by decide), fun e9 => absurd (c244.symm.trans e9) (by decide), fun e9 => absurd (c244.symm.trans e9) (by decide), fun e9 => absurd (c244.symm.trans e9) (by decide), fun e9 => absurd (c244.symm.trans e9) (by decide), fun e9 => absurd (c244.symm.trans e9) (by decide), fun e9 => absurd (c244.symm.trans e9) (by decide)⟩
    show EX w0 ev 29 m_LA_law 1172 [] [] (x243.2.1) (x243.2.2) (oI o)
    refine EX.iconst (v := 1) rfl rfl ?_
    obtain rfl := Option.some.inj h
    exact EX.zret rfl rfl (Or.inr rfl)
  · rcases ite_some h with ⟨c245, h⟩ | ⟨c245, h⟩
    · refine ⟨fun e9 => absurd e9 c244, fun _ => ?_, fun e9 => absurd (c245.symm.trans e9) (by decide), fun e9 => absurd (c245.symm.trans e9) (by decide), fun e9 => absurd (c245.symm.trans e9) (by decide), fun e9 => absurd (c245.symm.trans e9) (by decide), fun e9 => absurd (c245.symm.trans e9) (by decide), fun e9 => absurd (c245.symm.trans e9) (by decide), fun e9 => absurd (c245.symm.trans e9) (by decide), fun e9 => absurd (c245.symm.trans e9) (by decide), fun e9 => absurd (c245.symm.trans e9) (by decide), fun e9 => absurd (c245.symm.trans e9) (by decide), fun e9 => absurd (c245.symm.trans e9) (by decide), fun e9 => absurd (c245.symm.trans e9) (by decide), fun e9 => absurd (c245.symm.trans e9) (by decide), fun e9 => absurd (c245.symm.trans e9) (by decide), fun e9 => absurd (c245.symm.trans e9) (by decide), fun e9 => absurd (c245.symm.trans e9) (by decide), fun e9 => absurd (c245.symm.trans e9) (by decide), fun e9 => absurd (c245.symm.trans e9) (by decide), fun e9 => absurd (c245.symm.trans e9) (by decide), fun e9 => absurd (c245.symm.trans e9) (by decide), fun e9 => absurd (c245.symm.trans e9) (by decide), fun e9 => absurd (c245.symm.trans e9) (by decide), fun e9 => absurd (c245.symm.trans e9) (by decide), fun e9 => absurd (c245.symm.trans e9) (by decide), fun e9 => absurd (c245.symm.trans e9) (by decide), fun e9 => absurd (c245.symm.trans e9) (by decide), fun e9 => absurd (c245.symm.trans e9) (by decide), fun e9 => absurd (c245.symm.trans e9) (by decide), fun e9 => absurd (c245.symm.trans e9) (by decide), fun e9 => absurd (c245.symm.trans e9) (by decide), fun e9 => absurd (c245.symm.trans e9) (by decide), fun e9 => absurd (c245.symm.trans e9) (by decide), fun e9 => absurd (c245.symm.trans e9) (by decide)⟩
      show EX w0 ev 29 m_LA_law 205 [] [] (x243.2.1) (x243.2.2) (oI o)
      refine EX.iconst (v := 0) rfl rfl ?_
      obtain rfl := Option.some.inj h
      exact EX.zret rfl rfl (Or.inl rfl)
    · rcases ite_some h with ⟨c246, h⟩ | ⟨c246, h⟩
      · refine ⟨fun e9 => absurd e9 c244, fun e9 => absurd e9 c245, fun _ => ?_, fun e9 => absurd (c246.symm.trans e9) (by decide), fun e9 => absurd (c246.symm.trans e9) (by decide), fun e9 => absurd (c246.symm.trans e9) (by decide), fun e9 => absurd (c246.symm.trans e9) (by decide), fun e9 => absurd (c246.symm.trans e9) (by decide), fun e9 => absurd (c246.symm.trans e9) (by decide), fun e9 => absurd (c246.symm.trans e9) (by decide), fun e9 => absurd (c246.symm.trans e9) (by decide), fun e9 => absurd (c246.symm.trans e9) (by decide), fun e9 => absurd (c246.symm.trans e9) (by decide), fun e9 => absurd (c246.symm.trans e9) (by decide), fun e9 => absurd (c246.symm.trans e9) (by decide), fun e9 => absurd (c246.symm.trans e9) (by decide), fun e9 => absurd (c246.symm.trans e9) (by decide), fun e9 => absurd (c246.symm.trans e9) (by decide), fun e9 => absurd (c246.symm.trans e9) (by decide), fun e9 => absurd (c246.symm.trans e9) (by decide), fun e9 => absurd (c246.symm.trans e9) (by decide), fun e9 => absurd (c246.symm.trans e9) (by decide), fun e9 => absurd (c246.symm.trans e9) (by decide), fun e9 => absurd (c246.symm.trans e9) (by decide), fun e9 => absurd (c246.symm.trans e9) (by decide), fun e9 => absurd (c246.symm.trans e9) (by decide), fun e9 => absurd (c246.symm.trans e9) (by decide), fun e9 => absurd (c246.symm.trans e9) (by decide), fun e9 => absurd (c246.symm.trans e9) (by decide), fun e9 => absurd (c246.symm.trans e9) (by decide), fun e9 => absurd (c246.symm.trans e9) (by decide), fun e9 => absurd (c246.symm.trans e9) (by decide), fun e9 => absurd (c246.symm.trans e9) (by decide), fun e9 => absurd (c246.symm.trans e9) (by decide), fun e9 => absurd (c246.symm.trans e9) (by decide)⟩
        show EX w0 ev 29 m_LA_law 228 [] [] (x243.2.1) (x243.2.2) (oI o)
        refine EX.iconst (v := 0) rfl rfl ?_
        obtain rfl := Option.some.inj h
        exact EX.zret rfl rfl (Or.inl rfl)
      · rcases ite_some h with ⟨c247, h⟩ | ⟨c247, h⟩
        · refine ⟨fun e9 => absurd e9 c244, fun e9 => absurd e9 c245, fun e9 => absurd e9 c246, fun _ => ?_, fun e9 => absurd (c247.symm.trans e9) (by decide), fun e9 => absurd (c247.symm.trans e9) (by decide), fun e9 => absurd (c247.symm.trans e9) (by decide), fun e9 => absurd (c247.symm.trans e9) (by decide), fun e9 => absurd (c247.symm.trans e9) (by decide), fun e9 => absurd (c247.symm.trans e9) (by decide), fun e9 => absurd (c247.symm.trans e9) (by decide), fun e9 => absurd (c247.symm.trans e9) (by decide), fun e9 => absurd (c247.symm.trans e9) (by decide), fun e9 => absurd (c247.symm.trans e9) (by decide), fun e9 => absurd (c247.symm.trans e9) (by decide), fun e9 => absurd (c247.symm.trans e9) (by decide), fun e9 => absurd (c247.symm.trans e9) (by decide), fun e9 => absurd (c247.symm.trans e9) (by decide), fun e9 => absurd (c247.symm.trans e9) (by decide), fun e9 => absurd (c247.symm.trans e9) (by decide), fun e9 => absurd (c247.symm.trans e9) (by decide), fun e9 => absurd (c247.symm.trans e9) (by decide), fun e9 => absurd (c247.symm.trans e9) (by decide), fun e9 => absurd (c247.symm.trans e9) (by decide), fun e9 => absurd (c247.symm.trans e9) (by decide), fun e9 => absurd (c247.symm.trans e9) (by decide), fun e9 => absurd (c247.symm.trans e9) (by decide), fun e9 => absurd (c247.symm.trans e9) (by decide), fun e9 => absurd (c247.symm.trans e9) (by decide), fun e9 => absurd (c247.symm.trans e9) (by decide), fun e9 => absurd (c247.symm.trans e9) (by decide), fun e9 => absurd (c247.symm.trans e9) (by decide), fun e9 => absurd (c247.symm.trans e9) (by decide), fun e9 => absurd (c247.symm.trans e9) (by decide), fun e9 => absurd (c247.symm.trans e9) (by decide)⟩
          show EX w0 ev 29 m_LA_law 271 [] [] (x243.2.1) (x243.2.2) (oI o)
          refine EX.iconst (v := 0) rfl rfl ?_
          obtain rfl := Option.some.inj h
          exact EX.zret rfl rfl (Or.inl rfl)
        · rcases ite_some h with ⟨c248, h⟩ | ⟨c248, h⟩
          · refine ⟨fun e9 => absurd e9 c244, fun e9 => absurd e9 c245, fun e9 => absurd e9 c246, fun e9 => absurd e9 c247, fun _ => ?_, fun e9 => absurd (c248.symm.trans e9) (by decide), fun e9 => absurd (c248.symm.trans e9) (by decide), fun e9 => absurd (c248.symm.trans e9) (by decide), fun e9 => absurd (c248.symm.trans e9) (by decide), fun e9 => absurd (c248.symm.trans e9) (by decide), fun e9 => absurd (c248.symm.trans e9) (by decide), fun e9 => absurd (c248.symm.trans e9) (by decide), fun e9 => absurd (c248.symm.trans e9) (by decide), fun e9 => absurd (c248.symm.trans e9) (by decide), fun e9 => absurd (c248.symm.trans e9) (by decide), fun e9 => absurd (c248.symm.trans e9) (by decide), fun e9 => absurd (c248.symm.trans e9) (by decide), fun e9 => absurd (c248.symm.trans e9) (by decide), fun e9 => absurd (c248.symm.trans e9) (by decide), fun e9 => absurd (c248.symm.trans e9) (by decide), fun e9 => absurd (c248.symm.trans e9) (by decide), fun e9 => absurd (c248.symm.trans e9) (by decide), fun e9 => absurd (c248.symm.trans e9) (by decide), fun e9 => absurd (c248.symm.trans e9) (by decide), fun e9 => absurd (c248.symm.trans e9) (by decide), fun e9 => absurd (c248.symm.trans e9) (by decide), fun e9 => absurd (c248.symm.trans e9) (by decide), fun e9 => absurd (c248.symm.trans e9) (by decide), fun e9 => absurd (c248.symm.trans e9) (by decide), fun e9 => absurd (c248.symm.trans e9) (by decide), fun e9 => absurd (c248.symm.trans e9) (by decide), fun e9 => absurd (c248.symm.trans e9) (by decide), fun e9 => absurd (c248.symm.trans e9) (by decide), fun e9 => absurd (c248.symm.trans e9) (by decide), fun e9 => absurd (c248.symm.trans e9) (by decide)⟩
            show EX w0 ev 29 m_LA_law 304 [] [] (x243.2.1) (x243.2.2) (oI o)
            refine EX.iconst (v := 0) rfl rfl ?_
            obtain rfl := Option.some.inj h
            exact EX.zret rfl rfl (Or.inl rfl)
          · rcases ite_some h with ⟨c249, h⟩ | ⟨c249, h⟩
            · refine ⟨fun e9 => absurd e9 c244, fun e9 => absurd e9 c245, fun e9 => absurd e9 c246, fun e9 => absurd e9 c247, fun e9 => absurd e9 c248, fun _ => ?_, fun e9 => absurd (c249.symm.trans e9) (by decide), fun e9 => absurd (c249.symm.trans e9) (by decide), fun e9 => absurd (c249.symm.trans e9) (by decide), fun e9 => absurd (c249.symm.trans e9) (by decide), fun e9 => absurd (c249.symm.trans e9) (by decide), fun e9 => absurd (c249.symm.trans e9) (by decide), fun e9 => absurd (c249.symm.trans e9) (by decide), fun e9 => absurd (c249.symm.trans e9) (by decide), fun e9 => absurd (c249.symm.trans e9) (by decide), fun e9 => absurd (c249.symm.trans e9) (by decide), fun e9 => absurd (c249.symm.trans e9) (by decide), fun e9 => absurd (c249.symm.trans e9) (by decide), fun e9 => absurd (c249.symm.trans e9) (by decide), fun e9 => absurd (c249.symm.trans e9) (by decide), fun e9 => absurd (c249.symm.trans e9) (by decide), fun e9 => absurd (c249.symm.trans e9) (by decide), fun e9 => absurd (c249.symm.trans e9) (by decide), fun e9 => absurd (c249.symm.trans e9) (by decide), fun e9 => absurd (c249.symm.trans e9) (by decide), fun e9 => absurd (c249.symm.trans e9) (by decide), fun e9 => absurd (c249.symm.trans e9) (by decide), fun e9 => absurd (c249.symm.trans e9) (by decide), fun e9 => absurd (c249.symm.trans e9) (by decide), fun e9 => absurd (c249.symm.trans e9) (by decide), fun e9 => absurd (c249.symm.trans e9) (by decide), fun e9 => absurd (c249.symm.trans e9) (by decide), fun e9 => absurd (c249.symm.trans e9) (by decide), fun e9 => absurd (c249.symm.trans e9) (by decide), fun e9 => absurd (c249.symm.trans e9) (by decide)⟩
              show EX w0 ev 29 m_LA_law 337 [] [] (x243.2.1) (x243.2.2) (oI o)
              refine EX.iconst (v := 0) rfl rfl ?_
              obtain rfl := Option.some.inj h
              exact EX.zret rfl rfl (Or.inl rfl)
            · rcases ite_some h with ⟨c250, h⟩ | ⟨c250, h⟩
              · refine ⟨fun e9 => absurd e9 c244, fun e9 => absurd e9 c245, fun e9 => absurd e9 c246, fun e9 => absurd e9 c247, fun e9 => absurd e9 c248, fun e9 => absurd e9 c249, fun _ => ?_, fun e9 => absurd (c250.symm.trans e9) (by decide), fun e9 => absurd (c250.symm.trans e9) (by decide), fun e9 => absurd (c250.symm.trans e9) (by decide), fun e9 => absurd (c250.symm.trans e9) (by decide), fun e9 => absurd (c250.symm.trans e9) (by decide), fun e9 => absurd (c250.symm.trans e9) (by decide), fun e9 => absurd (c250.symm.trans e9) (by decide), fun e9 => absurd (c250.symm.trans e9) (by decide), fun e9 => absurd (c250.symm.trans e9) (by decide), fun e9 => absurd (c250.symm.trans e9) (by decide), fun e9 => absurd (c250.symm.trans e9) (by decide), fun e9 => absurd (c250.symm.trans e9) (by decide), fun e9 => absurd (c250.symm.trans e9) (by decide), fun e9 => absurd (c250.symm.trans e9) (by decide), fun e9 => absurd (c250.symm.trans e9) (by decide), fun e9 => absurd (c250.symm.trans e9) (by decide), fun e9 => absurd (c250.symm.trans e9) (by decide), fun e9 => absurd (c250.symm.trans e9) (by decide), fun e9 => absurd (c250.symm.trans e9) (by decide), fun e9 => absurd (c250.symm.trans e9) (by decide), fun e9 => absurd (c250.symm.trans e9) (by decide), fun e9 => absurd (c250.symm.trans e9) (by decide), fun e9 => absurd (c250.symm.trans e9) (by decide), fun e9 => absurd (c250.symm.trans e9) (by decide), fun e9 => absurd (c250.symm.trans e9) (by decide), fun e9 => absurd (c250.symm.trans e9) (by decide), fun e9 => absurd (c250.symm.trans e9) (by decide), fun e9 => absurd (c250.symm.trans e9) (by decide)⟩
                show EX w0 ev 29 m_LA_law 370 [] [] (x243.2.1) (x243.2.2) (oI o)
                refine EX.iconst (v := 0) rfl rfl ?_
                obtain rfl := Option.some.inj h
                exact EX.zret rfl rfl (Or.inl rfl)
              · rcases ite_some h with ⟨c251, h⟩ | ⟨c251, h⟩
                · refine ⟨fun e9 => absurd e9 c244, fun e9 => absurd e9 c245, fun e9 => absurd e9 c246, fun e9 => absurd e9 c247, fun e9 => absurd e9 c248, fun e9 => absurd e9 c249, fun e9 => absurd e9 c250, fun _ => ?_, fun e9 => absurd (c251.symm.trans e9) (by decide), fun e9 => absurd (c251.symm.trans e9) (by decide), fun e9 => absurd (c251.symm.trans e9) (by decide), fun e9 => absurd (c251.symm.trans e9) (by decide), fun e9 => absurd (c251.symm.trans e9) (by decide), fun e9 => absurd (c251.symm.trans e9) (by decide), fun e9 => absurd (c251.symm.trans e9) (by decide), fun e9 => absurd (c251.symm.trans e9) (by decide), fun e9 => absurd (c251.symm.trans e9) (by decide), fun e9 => absurd (c251.symm.trans e9) (by decide), fun e9 => absurd (c251.symm.trans e9) (by decide), fun e9 => absurd (c251.symm.trans e9) (by decide), fun e9 => absurd (c251.symm.trans e9) (by decide), fun e9 => absurd (c251.symm.trans e9) (by decide), fun e9 => absurd (c251.symm.trans e9) (by decide), fun e9 => absurd (c251.symm.trans e9) (by decide), fun e9 => absurd (c251.symm.trans e9) (by decide), fun e9 => absurd (c251.symm.trans e9) (by decide), fun e9 => absurd (c251.symm.trans e9) (by decide), fun e9 => absurd (c251.symm.trans e9) (by decide), fun e9 => absurd (c251.symm.trans e9) (by decide), fun e9 => absurd (c251.symm.trans e9) (by decide), fun e9 => absurd (c251.symm.trans e9) (by decide), fun e9 => absurd (c251.symm.trans e9) (by decide), fun e9 => absurd (c251.symm.trans e9) (by decide), fun e9 => absurd (c251.symm.trans e9) (by decide), fun e9 => absurd (c251.symm.trans e9) (by decide)⟩
                  show EX w0 ev 29 m_LA_law 403 [] [] (x243.2.1) (x243.2.2) (oI o)
                  refine EX.iconst (v := 0) rfl rfl ?_
                  obtain rfl := Option.some.inj h
                  exact EX.zret rfl rfl (Or.inl rfl)
                · rcases ite_some h with ⟨c252, h⟩ | ⟨c252, h⟩
                  · refine ⟨fun e9 => absurd e9 c244, fun e9 => absurd e9 c245, fun e9 => absurd e9 c246, fun e9 => absurd e9 c247, fun e9 => absurd e9 c248, fun e9 => absurd e9 c249, fun e9 => absurd e9 c250, fun e9 => absurd e9 c251, fun _ => ?_, fun e9 => absurd (c252.symm.trans e9) (by decide), fun e9 => absurd (c252.symm.trans e9) (by decide), fun e9 => absurd (c252.symm.trans e9) (by decide), fun e9 => absurd (c252.symm.trans e9) (by decide), fun e9 => absurd (c252.symm.trans e9) (by decide), fun e9 => absurd (c252.symm.trans e9) (by decide), fun e9 => absurd (c252.symm.trans e9) (by decide), fun e9 => absurd (c252.symm.trans e9) (by decide), fun e9 => absurd (c252.symm.trans e9) (by decide), fun e9 => absurd (c252.symm.trans e9) (by decide), fun e9 => absurd (c252.symm.trans e9) (by decide), fun e9 => absurd (c252.symm.trans e9) (by decide), fun e9 => absurd (c252.symm.trans e9) (by decide), fun e9 => absurd (c252.symm.trans e9) (by decide), fun e9 => absurd (c252.symm.trans e9) (by decide), fun e9 => absurd (c252.symm.trans e9) (by decide), fun e9 => absurd (c252.symm.trans e9) (by decide), fun e9 => absurd (c252.symm.trans e9) (by decide), fun e9 => absurd (c252.symm.trans e9) (by decide), fun e9 => absurd (c252.symm.trans e9) (by decide), fun e9 => absurd (c252.symm.trans e9) (by decide), fun e9 => absurd (c252.symm.trans e9) (by decide), fun e9 => absurd (c252.symm.trans e9) (by decide), fun e9 => absurd (c252.symm.trans e9) (by decide), fun e9 => absurd (c252.symm.trans e9) (by decide), fun e9 => absurd (c252.symm.trans e9) (by decide)⟩
                    show EX w0 ev 29 m_LA_law 426 [] [] (x243.2.1) (x243.2.2) (oI o)
                    refine EX.iconst (v := 0) rfl rfl ?_
                    obtain rfl := Option.some.inj h
                    exact EX.zret rfl rfl (Or.inl rfl)
                  · rcases ite_some h with ⟨c253, h⟩ | ⟨c253, h⟩
                    · refine ⟨fun e9 => absurd e9 c244, fun e9 => absurd e9 c245, fun e9 => absurd e9 c246, fun e9 => absurd e9 c247, fun e9 => absurd e9 c248, fun e9 => absurd e9 c249, fun e9 => absurd e9 c250, fun e9 => absurd e9 c251, fun e9 => absurd e9 c252, fun _ => ?_, fun e9 => absurd (c253.symm.trans e9) (by decide), fun e9 => absurd (c253.symm.trans e9) (by decide), fun e9 => absurd (c253.symm.trans e9) (by decide), fun e9 => absurd (c253.symm.trans e9) (by decide), fun e9 => absurd (c253.symm.trans e9) (by decide), fun e9 => absurd (c253.symm.trans e9) (by decide), fun e9 => absurd (c253.symm.trans e9) (by decide), fun e9 => absurd (c253.symm.trans e9) (by decide), fun e9 => absurd (c253.symm.trans e9) (by decide), fun e9 => absurd (c253.symm.trans e9) (by decide), fun e9 => absurd (c253.symm.trans e9) (by decide), fun e9 => absurd (c253.symm.trans e9) (by decide), fun e9 => absurd (c253.symm.trans e9) (by decide), fun e9 => absurd (c253.symm.trans e9) (by decide), fun e9 => absurd (c253.symm.trans e9) (by decide), fun e9 => absurd (c253.symm.trans e9) (by decide), fun e9 => absurd (c253.symm.trans e9) (by decide), fun e9 => absurd (c253.symm.trans e9) (by decide), fun e9 => absurd (c253.symm.trans e9) (by decide), fun e9 => absurd (c253.symm.trans e9) (by decide), fun e9 => absurd (c253.symm.trans e9) (by decide), fun e9 => absurd (c253.symm.trans e9) (by decide), fun e9 => absurd (c253.symm.trans e9) (by decide), fun e9 => absurd (c253.symm.trans e9) (by decide), fun e9 => absurd (c253.symm.trans e9) (by decide)⟩
                      show EX w0 ev 29 m_LA_law 449 [] [] (x243.2.1) (x243.2.2) (oI o)
                      refine EX.iconst (v := 0) rfl rfl ?_
                      obtain rfl := Option.some.inj h
                      exact EX.zret rfl rfl (Or.inl rfl)
                    · rcases ite_some h with ⟨c254, h⟩ | ⟨c254, h⟩
                      · refine ⟨fun e9 => absurd e9 c244, fun e9 => absurd e9 c245, fun e9 => absurd e9 c246, fun e9 => absurd e9 c247, fun e9 => absurd e9 c248, fun e9 => absurd e9 c249, fun e9 => absurd e9 c250, fun e9 => absurd e9 c251, fun e9 => absurd e9 c252, fun e9 => absurd e9 c253, fun _ => ?_, fun e9 => absurd (c254.symm.trans e9) (by decide), fun e9 => absurd (c254.symm.trans e9) (by decide), fun e9 => absurd (c254.symm.trans e9) (by decide), fun e9 => absurd (c254.symm.trans e9) (by decide), fun e9 => absurd (c254.symm.trans e9) (by decide), fun e9 => absurd (c254.symm.trans e9) (by decide), fun e9 => absurd (c254.symm.trans e9) (by decide), fun e9 => absurd (c254.symm.trans e9) (by decide), fun e9 => absurd (c254.symm.trans e9) (by decide), fun e9 => absurd (c254.symm.trans e9) (by decide), fun e9 => absurd (c254.symm.trans e9) (by decide), fun e9 => absurd (c254.symm.trans e9) (by decide), fun e9 => absurd (c254.symm.trans e9) (by decide), fun e9 => absurd (c254.symm.trans e9) (by decide), fun e9 => absurd (c254.symm.trans e9) (by decide), fun e9 => absurd (c254.symm.trans e9) (by decide), fun e9 => absurd (c254.symm.trans e9) (by decide), fun e9 => absurd (c254.symm.trans e9) (by decide), fun e9 => absurd (c254.symm.trans e9) (by decide), fun e9 => absurd (c254.symm.trans e9) (by decide), fun e9 => absurd (c254.symm.trans e9) (by decide), fun e9 => absurd (c254.symm.trans e9) (by decide), fun e9 => absurd (c254.symm.trans e9) (by decide), fun e9 => absurd (c254.symm.trans e9) (by decide)⟩
                        show EX w0 ev 29 m_LA_law 472 [] [] (x243.2.1) (x243.2.2) (oI o)
                        refine EX.iconst (v := 0) rfl rfl ?_
                        obtain rfl := Option.some.inj h
                        exact EX.zret rfl rfl (Or.inl rfl)
                      · rcases ite_some h with ⟨c255, h⟩ | ⟨c255, h⟩
                        · refine ⟨fun e9 => absurd e9 c244, fun e9 => absurd e9 c245, fun e9 => absurd e9 c246, fun e9 => absurd e9 c247, fun e9 => absurd e9 c248, fun e9 => absurd e9 c249, fun e9 => absurd e9 c250, fun e9 => absurd e9 c251, fun e9 => absurd e9 c252, fun e9 => absurd e9 c253, fun e9 => absurd e9 c254, fun _ => ?_, fun e9 => absurd (c255.symm.trans e9) (by decide), fun e9 => absurd (c255.symm.trans e9) (by decide), fun e9 => absurd (c255.symm.trans e9) (by decide), fun e9 => absurd (c255.symm.trans e9) (by decide), fun e9 => absurd (c255.symm.trans e9) (by decide), fun e9 => absurd (c255.symm.trans e9) (by decide), fun e9 => absurd (c255.symm.trans e9) (by decide), fun e9 => absurd (c255.symm.trans e9) (by decide), fun e9 => absurd (c255.symm.trans e9) (by decide), fun e9 => absurd (c255.symm.trans e9) (by decide), fun e9 => absurd (c255.symm.trans e9) (by decide), fun e9 => absurd (c255.symm.trans e9) (by decide), fun e9 => absurd (c255.symm.trans e9) (by decide), fun e9 => absurd (c255.symm.trans e9) (by decide), fun e9 => absurd (c255.symm.trans e9) (by decide), fun e9 => absurd (c255.symm.trans e9) (by decide), fun e9 => absurd (c255.symm.trans e9) (by decide), fun e9 => absurd (c255.symm.trans e9) (by decide), fun e9 => absurd (c255.symm.trans e9) (by decide), fun e9 => absurd (c255.symm.trans e9) (by decide), fun e9 => absurd (c255.symm.trans e9) (by decide), fun e9 => absurd (c255.symm.trans e9) (by decide), fun e9 => absurd (c255.symm.trans e9) (by decide)⟩
                          show EX w0 ev 29 m_LA_law 495 [] [] (x243.2.1) (x243.2.2) (oI o)
                          refine EX.iconst (v := 0) rfl rfl ?_
                          obtain rfl := Option.some.inj h
                          exact EX.zret rfl rfl (Or.inl rfl)
                        · rcases ite_some h with ⟨c256, h⟩ | ⟨c256, h⟩
                          · refine ⟨fun e9 => absurd e9 c244, fun e9 => absurd e9 c245, fun e9 => absurd e9 c246, fun e9 => absurd e9 c247, fun e9 => absurd e9 c248, fun e9 => absurd e9 c249, fun e9 => absurd e9 c250, fun e9 => absurd e9 c251, fun e9 => absurd e9 c252, fun e9 => absurd e9 c253, fun e9 => absurd e9 c254, fun e9 => absurd e9 c255, fun _ => ?_, fun e9 => absurd (c256.symm.trans e9) (by decide), fun e9 => absurd (c256.symm.trans e9) (by decide), fun e9 => absurd (c256.symm.trans e9) (by decide), fun e9 => absurd (c256.symm.trans e9) (by decide), fun e9 => absurd (c256.symm.trans e9) (by decide), fun e9 => absurd (c256.symm.trans e9) (by decide), fun e9 => absurd (c256.symm.trans e9) (by decide), fun e9 => absurd (c256.symm.trans e9) (by decide), fun e9 => absurd (c256.symm.trans e9) (by decide), fun e9 => absurd (c256.symm.trans e9) (by decide), fun e9 => absurd (c256.symm.trans e9) (by decide), fun e9 => absurd (c256.symm.trans e9) (by decide), fun e9 => absurd (c256.symm.trans e9) (by decide), fun e9 => absurd (c256.symm.trans e9) (by decide), fun e9 => absurd (c256.symm.trans e9) (by decide), fun e9 => absurd (c256.symm.trans e9) (by decide), fun e9 => absurd (c256.symm.trans e9) (by decide), fun e9 => absurd (c256.symm.trans e9) (by decide), fun e9 => absurd (c256.symm.trans e9) (by decide), fun e9 => absurd (c256.symm.trans e9) (by decide), fun e9 => absurd (c256.symm.trans e9) (by decide), fun e9 => absurd (c256.symm.trans e9) (by decide)⟩
                            show EX w0 ev 29 m_LA_law 528 [] [] (x243.2.1) (x243.2.2) (oI o)
                            refine EX.iconst (v := 0) rfl rfl ?_
                            obtain rfl := Option.some.inj h
                            exact EX.zret rfl rfl (Or.inl rfl)
                          · rcases ite_some h with ⟨c257, h⟩ | ⟨c257, h⟩
                            · refine ⟨fun e9 => absurd e9 c244, fun e9 => absurd e9 c245, fun e9 => absurd e9 c246, fun e9 => absurd e9 c247, fun e9 => absurd e9 c248, fun e9 => absurd e9 c249, fun e9 => absurd e9 c250, fun e9 => absurd e9 c251, fun e9 => absurd e9 c252, fun e9 => absurd e9 c253, fun e9 => absurd e9 c254, fun e9 => absurd e9 c255, fun e9 => absurd e9 c256, fun _ => ?_, fun e9 => absurd (c257.symm.trans e9) (by decide), fun e9 => absurd (c257.symm.trans e9) (by decide), fun e9 => absurd (c257.symm.trans e9) (by decide), fun e9 => absurd (c257.symm.trans e9) (by decide), fun e9 => absurd (c257.symm.trans e9) (by decide), fun e9 => absurd (c257.symm.trans e9) (by decide), fun e9 => absurd (c257.symm.trans e9) (by decide), fun e9 => absurd (c257.symm.trans e9) (by decide), fun e9 => absurd (c257.symm.trans e9) (by decide), fun e9 => absurd (c257.symm.trans e9) (by decide), fun e9 => absurd (c257.symm.trans e9) (by decide), fun e9 => absurd (c257.symm.trans e9) (by decide), fun e9 => absurd (c257.symm.trans e9) (by decide), fun e9 => absurd (c257.symm.trans e9) (by decide), fun e9 => absurd (c257.symm.trans e9) (by decide), fun e9 => absurd (c257.symm.trans e9) (by decide), fun e9 => absurd (c257.symm.trans e9) (by decide), fun e9 => absurd (c257.symm.trans e9) (by decide), fun e9 => absurd (c257.symm.trans e9) (by decide), fun e9 => absurd (c257.symm.trans e9) (by decide), fun e9 => absurd (c257.symm.trans e9) (by decide)⟩
                              show EX w0 ev 29 m_LA_law 541 [] [] (x243.2.1) (x243.2.2) (oI o)
                              refine EX.iconst (v := 0) rfl rfl ?_
                              obtain rfl := Option.some.inj h
                              exact EX.zret rfl rfl (Or.inl rfl)
                            · rcases ite_some h with ⟨c258, h⟩ | ⟨c258, h⟩
                              · refine ⟨fun e9 => absurd e9 c244, fun e9 => absurd e9 c245, fun e9 => absurd e9 c246, fun e9 => absurd e9 c247, fun e9 => absurd e9 c248, fun e9 => absurd e9 c249, fun e9 => absurd e9 c250, fun e9 => absurd e9 c251, fun e9 => absurd e9 c252, fun e9 => absurd e9 c253, fun e9 => absurd e9 c254, fun e9 => absurd e9 c255, fun e9 => absurd e9 c256, fun e9 => absurd e9 c257, fun _ => ?_, fun e9 => absurd (c258.symm.trans e9) (by decide), fun e9 => absurd (c258.symm.trans e9) (by decide), fun e9 => absurd (c258.symm.trans e9) (by decide), fun e9 => absurd (c258.symm.trans e9) (by decide), fun e9 => absurd (c258.symm.trans e9) (by decide), fun e9 => absurd (c258.symm.trans e9) (by decide), fun e9 => absurd (c258.symm.trans e9) (by decide), fun e9 => absurd (c258.symm.trans e9) (by decide), fun e9 => absurd (c258.symm.trans e9) (by decide), fun e9 => absurd (c258.symm.trans e9) (by decide), fun e9 => absurd (c258.symm.trans e9) (by decide), fun e9 => absurd (c258.symm.trans e9) (by decide), fun e9 => absurd (c258.symm.trans e9) (by decide), fun e9 => absurd (c258.symm.trans e9) (by decide), fun e9 => absurd (c258.symm.trans e9) (by decide), fun e9 => absurd (c258.symm.trans e9) (by decide), fun e9 => absurd (c258.symm.trans e9) (by decide), fun e9 => absurd (c258.symm.trans e9) (by decide), fun e9 => absurd (c258.symm.trans e9) (by decide), fun e9 => absurd (c258.symm.trans e9) (by decide)⟩
                                show EX w0 ev 29 m_LA_law 564 [] [] (x243.2.1) (x243.2.2) (oI o)
                                refine EX.iconst (v := 0) rfl rfl ?_
                                obtain rfl := Option.some.inj h
                                exact EX.zret rfl rfl (Or.inl rfl)
                              · rcases ite_some h with ⟨c259, h⟩ | ⟨c259, h⟩
                                · refine ⟨fun e9 => absurd e9 c244, fun e9 => absurd e9 c245, fun e9 => absurd e9 c246, fun e9 => absurd e9 c247, fun e9 => absurd e9 c248, fun e9 => absurd e9 c249, fun e9 => absurd e9 c250, fun e9 => absurd e9 c251, fun e9 => absurd e9 c252, fun e9 => absurd e9 c253, fun e9 => absurd e9 c254, fun e9 => absurd e9 c255, fun e9 => absurd e9 c256, fun e9 => absurd e9 c257, fun e9 => absurd e9 c258, fun _ => ?_, fun e9 => absurd (c259.symm.trans e9) (by decide), fun e9 => absurd (c259.symm.trans e9) (by decide), fun e9 => absurd (c259.symm.trans e9) (by decide), fun e9 => absurd (c259.symm.trans e9) (by decide), fun e9 => absurd (c259.symm.trans e9) (by decide), fun e9 => absurd (c259.symm.trans e9) (by decide), fun e9 => absurd (c259.symm.trans e9) (by decide), fun e9 => absurd (c259.symm.trans e9) (by decide), fun e9 => absurd (c259.symm.trans e9) (by decide), fun e9 => absurd (c259.symm.trans e9) (by decide), fun e9 => absurd (c259.symm.trans e9) (by decide), fun e9 => absurd (c259.symm.trans e9) (by decide), fun e9 => absurd (c259.symm.trans e9) (by decide), fun e9 => absurd (c259.symm.trans e9) (by decide), fun e9 => absurd (c259.symm.trans e9) (by decide), fun e9 => absurd (c259.symm.trans e9) (by decide), fun e9 => absurd (c259.symm.trans e9) (by decide), fun e9 => absurd (c259.symm.trans e9) (by decide), fun e9 => absurd (c259.symm.trans e9) (by decide)⟩
                                  show EX w0 ev 29 m_LA_law 597 [] [] (x243.2.1) (x243.2.2) (oI o)
                                  refine EX.iconst (v := 0) rfl rfl ?_
                                  obtain rfl := Option.some.inj h
                                  exact EX.zret rfl rfl (Or.inl rfl)
                                · rcases ite_some h with ⟨c260, h⟩ | ⟨c260, h⟩
                                  · refine ⟨fun e9 => absurd e9 c244, fun e9 => absurd e9 c245, fun e9 => absurd e9 c246, fun e9 => absurd e9 c247, fun e9 => absurd e9 c248, fun e9 => absurd e9 c249, fun e9 => absurd e9 c250, fun e9 => absurd e9 c251, fun e9 => absurd e9 c252, fun e9 => absurd e9 c253, fun e9 => absurd e9 c254, fun e9 => absurd e9 c255, fun e9 => absurd e9 c256, fun e9 => absurd e9 c257, fun e9 => absurd e9 c258, fun e9 => absurd e9 c259, fun _ => ?_, fun e9 => absurd (c260.symm.trans e9) (by decide), fun e9 => absurd (c260.symm.trans e9) (by decide), fun e9 => absurd (c260.symm.trans e9) (by decide), fun e9 => absurd (c260.symm.trans e9) (by decide), fun e9 => absurd (c260.symm.trans e9) (by decide), fun e9 => absurd (c260.symm.trans e9) (by decide), fun e9 => absurd (c260.symm.trans e9) (by decide), fun e9 => absurd (c260.symm.trans e9) (by decide), fun e9 => absurd (c260.symm.trans e9) (by decide), fun e9 => absurd (c260.symm.trans e9) (by decide), fun e9 => absurd (c260.symm.trans e9) (by decide), fun e9 => absurd (c260.symm.trans e9) (by decide), fun e9 => absurd (c260.symm.trans e9) (by decide), fun e9 => absurd (c260.symm.trans e9) (by decide), fun e9 => absurd (c260.symm.trans e9) (by decide), fun e9 => absurd (c260.symm.trans e9) (by decide), fun e9 => absurd (c260.symm.trans e9) (by decide), fun e9 => absurd (c260.symm.trans e9) (by decide)⟩
                                    show EX w0 ev 29 m_LA_law 620 [] [] (x243.2.1) (x243.2.2) (oI o)
                                    refine EX.iconst (v := 0) rfl rfl ?_
                                    obtain rfl := Option.some.inj h
                                    exact EX.zret rfl rfl (Or.inl rfl)
                                  · rcases ite_some h with ⟨c261, h⟩ | ⟨c261, h⟩
                                    · refine ⟨fun e9 => absurd e9 c244, fun e9 => absurd e9 c245, fun e9 => absurd e9 c246, fun e9 => absurd e9 c247, fun e9 => absurd e9 c248, fun e9 => absurd e9 c249, fun e9 => absurd e9 c250, fun e9 => absurd e9 c251, fun e9 => absurd e9 c252, fun e9 => absurd e9 c253, fun e9 => absurd e9 c254, fun e9 => absurd e9 c255, fun e9 => absurd e9 c256, fun e9 => absurd e9 c257, fun e9 => absurd e9 c258, fun e9 => absurd e9 c259, fun e9 => absurd e9 c260, fun _ => ?_, fun e9 => absurd (c261.symm.trans e9) (by decide), fun e9 => absurd (c261.symm.trans e9) (by decide), fun e9 => absurd (c261.symm.trans e9) (by decide), fun e9 => absurd (c261.symm.trans e9) (by decide), fun e9 => absurd (c261.symm.trans e9) (by decide), fun e9 => absurd (c261.symm.trans e9) (by decide), fun e9 => absurd (c261.symm.trans e9) (by decide), fun e9 => absurd (c261.symm.trans e9) (by decide), fun e9 => absurd (c261.symm.trans e9) (by decide), fun e9 => absurd (c261.symm.trans e9) (by decide), fun e9 => absurd (c261.symm.trans e9) (by decide), fun e9 => absurd (c261.symm.trans e9) (by decide), fun e9 => absurd (c261.symm.trans e9) (by decide), fun e9 => absurd (c261.symm.trans e9) (by decide), fun e9 => absurd (c261.symm.trans e9) (by decide), fun e9 => absurd (c261.symm.trans e9) (by decide), fun e9 => absurd (c261.symm.trans e9) (by decide)⟩
                                      show EX w0 ev 29 m_LA_law 653 [] [] (x243.2.1) (x243.2.2) (oI o)
                                      refine EX.iconst (v := 0) rfl rfl ?_
                                      obtain rfl := Option.some.inj h
                                      exact EX.zret rfl rfl (Or.inl rfl)
                                    · rcases ite_some h with ⟨c262, h⟩ | ⟨c262, h⟩
                                      · refine ⟨fun e9 => absurd e9 c244, fun e9 => absurd e9 c245, fun e9 => absurd e9 c246, fun e9 => absurd e9 c247, fun e9 => absurd e9 c248, fun e9 => absurd e9 c249, fun e9 => absurd e9 c250, fun e9 => absurd e9 c251, fun e9 => absurd e9 c252, fun e9 => absurd e9 c253, fun e9 => absurd e9 c254, fun e9 => absurd e9 c255, fun e9 => absurd e9 c256, fun e9 => absurd e9 c257, fun e9 => absurd e9 c258, fun e9 => absurd e9 c259, fun e9 => absurd e9 c260, fun e9 => absurd e9 c261, fun _ => ?_, fun e9 => absurd (c262.symm.trans e9) (by decide), fun e9 => absurd (c262.symm.trans e9) (by decide), fun e9 => absurd (c262.symm.trans e9) (by decide), fun e9 => absurd (c262.symm.trans e9) (by decide), fun e9 => absurd (c262.symm.trans e9) (by decide), fun e9 => absurd (c262.symm.trans e9) (by decide), fun e9 => absurd (c262.symm.trans e9) (by decide), fun e9 => absurd (c262.symm.trans e9) (by decide), fun e9 => absurd (c262.symm.trans e9) (by decide), fun e9 => absurd (c262.symm.trans e9) (by decide), fun e9 => absurd (c262.symm.trans e9) (by decide), fun e9 => absurd (c262.symm.trans e9) (by decide), fun e9 => absurd (c262.symm.trans e9) (by decide), fun e9 => absurd (c262.symm.trans e9) (by decide), fun e9 => absurd (c262.symm.trans e9) (by decide), fun e9 => absurd (c262.symm.trans e9) (by decide)⟩
                                        show EX w0 ev 29 m_LA_law 676 [] [] (x243.2.1) (x243.2.2) (oI o)
                                        refine EX.iconst (v := 0) rfl rfl ?_
                                        obtain rfl := Option.some.inj h
                                        exact EX.zret rfl rfl (Or.inl rfl)
                                      · rcases ite_some h with ⟨c263, h⟩ | ⟨c263, h⟩
                                        · refine ⟨fun e9 => absurd e9 c244, fun e9 => absurd e9 c245, fun e9 => absurd e9 c246, fun e9 => absurd e9 c247, fun e9 => absurd e9 c248, fun e9 => absurd e9 c249, fun e9 => absurd e9 c250, fun e9 => absurd e9 c251, fun e9 => absurd e9 c252, fun e9 => absurd e9 c253, fun e9 => absurd e9 c254, fun e9 => absurd e9 c255, fun e9 => absurd e9 c256, fun e9 => absurd e9 c257, fun e9 => absurd e9 c258, fun e9 => absurd e9 c259, fun e9 => absurd e9 c260, fun e9 => absurd e9 c261, fun e9 => absurd e9 c262, fun _ => ?_, fun e9 => absurd (c263.symm.trans e9) (by decide), fun e9 => absurd (c263.symm.trans e9) (by decide), fun e9 => absurd (c263.symm.trans e9) (by decide), fun e9 => absurd (c263.symm.trans e9) (by decide), fun e9 => absurd (c263.symm.trans e9) (by decide), fun e9 => absurd (c263.symm.trans e9) (by decide), fun e9 => absurd (c263.symm.trans e9) (by decide), fun e9 => absurd (c263.symm.trans e9) (by decide), fun e9 => absurd (c263.symm.trans e9) (by decide), fun e9 => absurd (c263.symm.trans e9) (by decide), fun e9 => absurd (c263.symm.trans e9) (by decide), fun e9 => absurd (c263.symm.trans e9) (by decide), fun e9 => absurd (c263.symm.trans e9) (by decide), fun e9 => absurd (c263.symm.trans e9) (by decide), fun e9 => absurd (c263.symm.trans e9) (by decide)⟩
                                          show EX w0 ev 29 m_LA_law 729 [] [] (x243.2.1) (x243.2.2) (oI o)
                                          refine EX.iconst (v := 0) rfl rfl ?_
                                          obtain rfl := Option.some.inj h
                                          exact EX.zret rfl rfl (Or.inl rfl)
                                        · rcases ite_some h with ⟨c264, h⟩ | ⟨c264, h⟩
                                          · refine ⟨fun e9 => absurd e9 c244, fun e9 => absurd e9 c245, fun e9 => absurd e9 c246, fun e9 => absurd e9 c247, fun e9 => absurd e9 c248, fun e9 => absurd e9 c249, fun e9 => absurd e9 c250, fun e9 => absurd e9 c251, fun e9 => absurd e9 c252, fun e9 => absurd e9 c253, fun e9 => absurd e9 c254, fun e9 => absurd e9 c255, fun e9 => absurd e9 c256, fun e9 => absurd e9 c257, fun e9 => absurd e9 c258, fun e9 => absurd e9 c259, fun e9 => absurd e9 c260, fun e9 => absurd e9 c261, fun e9 => absurd e9 c262, fun e9 => absurd e9 c263, fun _ => ?_, fun e9 => absurd (c264.symm.trans e9) (by decide), fun e9 => absurd (c264.symm.trans e9) (by decide), fun e9 => absurd (c264.symm.trans e9) (by decide), fun e9 => absurd (c264.symm.trans e9) (by decide), fun e9 => absurd (c264.symm.trans e9) (by decide), fun e9 => absurd (c264.symm.trans e9) (by decide), fun e9 => absurd (c264.symm.trans e9) (by decide), fun e9 => absurd (c264.symm.trans e9) (by decide), fun e9 => absurd (c264.symm.trans e9) (by decide), fun e9 => absurd (c264.symm.trans e9) (by decide), fun e9 => absurd (c264.symm.trans e9) (by decide), fun e9 => absurd (c264.symm.trans e9) (by decide), fun e9 => absurd (c264.symm.trans e9) (by decide), fun e9 => absurd (c264.symm.trans e9) (by decide)⟩
                                            show EX w0 ev 29 m_LA_law 752 [] [] (x243.2.1) (x243.2.2) (oI o)
                                            refine EX.iconst (v := 0) rfl rfl ?_
                                            obtain rfl := Option.some.inj h
                                            exact EX.zret rfl rfl (Or.inl rfl)
                                          · rcases ite_some h with ⟨c265, h⟩ | ⟨c265, h⟩
                                            · refine ⟨fun e9 => absurd e9 c244, fun e9 => absurd e9 c245, fun e9 => absurd e9 c246, fun e9 => absurd e9 c247, fun e9 => absurd e9 c248, fun e9 => absurd e9 c249, fun e9 => absurd e9 c250, fun e9 => absurd e9 c251, fun e9 => absurd e9 c252, fun e9 => absurd e9 c253, fun e9 => absurd e9 c254, fun e9 => absurd e9 c255, fun e9 => absurd e9 c256, fun e9 => absurd e9 c257, fun e9 => absurd e9 c258, fun e9 => absurd e9 c259, fun e9 => absurd e9 c260, fun e9 => absurd e9 c261, fun e9 => absurd e9 c262, fun e9 => absurd e9 c263, fun e9 => absurd e9 c264, fun _ => ?_, fun e9 => absurd (c265.symm.trans e9) (by decide), fun e9 => absurd (c265.symm.trans e9) (by decide), fun e9 => absurd (c265.symm.trans e9) (by decide), fun e9 => absurd (c265.symm.trans e9) (by decide), fun e9 => absurd (c265.symm.trans e9) (by decide), fun e9 => absurd (c265.symm.trans e9) (by decide), fun e9 => absurd (c265.symm.trans e9) (by decide), fun e9 => absurd (c265.symm.trans e9) (by decide), fun e9 => absurd (c265.symm.trans e9) (by decide), fun e9 => absurd (c265.symm.trans e9) (by decide), fun e9 => absurd (c265.symm.trans e9) (by decide), fun e9 => absurd (c265.symm.trans e9) (by decide), fun e9 => absurd (c265.symm.trans e9) (by decide)⟩
                                              show EX w0 ev 29 m_LA_law 765 [] [] (x243.2.1) (x243.2.2) (oI o)
                                              refine EX.iconst (v := 0) rfl rfl ?_
                                              obtain rfl := Option.some.inj h
                                              exact EX.zret rfl rfl (Or.inl rfl)
                                            · rcases ite_some h with ⟨c266, h⟩ | ⟨c266, h⟩
                                              · refine ⟨fun e9 => absurd e9 c244, fun e9 => absurd e9 c245, fun e9 => absurd e9 c246, fun e9 => absurd e9 c247, fun e9 => absurd e9 c248, fun e9 => absurd e9 c249, fun e9 => absurd e9 c250, fun e9 => absurd e9 c251, fun e9 => absurd e9 c252, fun e9 => absurd e9 c253, fun e9 => absurd e9 c254, fun e9 => absurd e9 c255, fun e9 => absurd e9 c256, fun e9 => absurd e9 c257, fun e9 => absurd e9 c258, fun e9 => absurd e9 c259, fun e9 => absurd e9 c260, fun e9 => absurd e9 c261, fun e9 => absurd e9 c262, fun e9 => absurd e9 c263, fun e9 => absurd e9 c264, fun e9 => absurd e9 c265, fun _ => ?_, fun e9 => absurd (c266.symm.trans e9) (by decide), fun e9 => absurd (c266.symm.trans e9) (by decide), fun e9 => absurd (c266.symm.trans e9) (by decide), fun e9 => absurd (c266.symm.trans e9) (by decide), fun e9 => absurd (c266.symm.trans e9) (by decide), fun e9 => absurd (c266.symm.trans e9) (by decide), fun e9 => absurd (c266.symm.trans e9) (by decide), fun e9 => absurd (c266.symm.trans e9) (by decide), fun e9 => absurd (c266.symm.trans e9) (by decide), fun e9 => absurd (c266.symm.trans e9) (by decide), fun e9 => absurd (c266.symm.trans e9) (by decide), fun e9 => absurd (c266.symm.trans e9) (by decide)⟩
                                                show EX w0 ev 29 m_LA_law 778 [] [] (x243.2.1) (x243.2.2) (oI o)
                                                refine EX.iconst (v := 0) rfl rfl ?_
                                                obtain rfl := Option.some.inj h
                                                exact EX.zret rfl rfl (Or.inl rfl)
                                              · rcases ite_some h with ⟨c267, h⟩ | ⟨c267, h⟩
                                                · refine ⟨fun e9 => absurd e9 c244, fun e9 => absurd e9 c245, fun e9 => absurd e9 c246, fun e9 => absurd e9 c247, fun e9 => absurd e9 c248, fun e9 => absurd e9 c249, fun e9 => absurd e9 c250, fun e9 => absurd e9 c251, fun e9 => absurd e9 c252, fun e9 => absurd e9 c253, fun e9 => absurd e9 c254, fun e9 => absurd e9 c255, fun e9 => absurd e9 c256, fun e9 => absurd e9 c257, fun e9 => absurd e9 c258, fun e9 => absurd e9 c259, fun e9 => absurd e9 c260, fun e9 => absurd e9 c261, fun e9 => absurd e9 c262, fun e9 => absurd e9 c263, fun e9 => absurd e9 c264, fun e9 => absurd e9 c265, fun e9 => absurd e9 c266, fun _ => ?_, fun e9 => absurd (c267.symm.trans e9) (by decide), fun e9 => absurd (c267.symm.trans e9) (by decide), fun e9 => absurd (c267.symm.trans e9) (by decide), fun e9 => absurd (c267.symm.trans e9) (by decide), fun e9 => absurd (c267.symm.trans e9) (by decide), fun e9 => absurd (c267.symm.trans e9) (by decide), fun e9 => absurd (c267.symm.trans e9) (by decide), fun e9 => absurd (c267.symm.trans e9) (by decide), fun e9 => absurd (c267.symm.trans e9) (by decide), fun e9 => absurd (c267.symm.trans e9) (by decide), fun e9 => absurd (c267.symm.trans e9) (by decide)⟩
                                                  show EX w0 ev 29 m_LA_law 811 [] [] (x243.2.1) (x243.2.2) (oI o)
                                                  refine EX.iconst (v := 0) rfl rfl ?_
                                                  obtain rfl := Option.some.inj h
                                                  exact EX.zret rfl rfl (Or.inl rfl)
                                                · rcases ite_some h with ⟨c268, h⟩ | ⟨c268, h⟩
                                                  · refine ⟨fun e9 => absurd e9 c244, fun e9 => absurd e9 c245, fun e9 => absurd e9 c246, fun e9 => absurd e9 c247, fun e9 => absurd e9 c248, fun e9 => absurd e9 c249, fun e9 => absurd e9 c250, fun e9 => absurd e9 c251, fun e9 => absurd e9 c252, fun e9 => absurd e9 c253, fun e9 => absurd e9 c254, fun e9 => absurd e9 c255, fun e9 => absurd e9 c256, fun e9 => absurd e9 c257, fun e9 => absurd e9 c258, fun e9 => absurd e9 c259, fun e9 => absurd e9 c260, fun e9 => absurd e9 c261, fun e9 => absurd e9 c262, fun e9 => absurd e9 c263, fun e9 => absurd e9 c264, fun e9 => absurd e9 c265, fun e9 => absurd e9 c266, fun e9 => absurd e9 c267, fun _ => ?_, fun e9 => absurd (c268.symm.trans e9) (by decide), fun e9 => absurd (c268.symm.trans e9) (by decide), fun e9 => absurd (c268.symm.trans e9) (by decide), fun e9 => absurd (c268.symm.trans e9) (by decide), fun e9 => absurd (c268.symm.trans e9) (by decide), fun e9 => absurd (c268.symm.trans e9) (by decide), fun e9 => absurd (c268.symm.trans e9) (by decide), fun e9 => absurd (c268.symm.trans e9) (by decide), fun e9 => absurd (c268.symm.trans e9) (by decide), fun e9 => absurd (c268.symm.trans e9) (by decide)⟩
                                                    show EX w0 ev 29 m_LA_law 834 [] [] (x243.2.1) (x243.2.2) (oI o)
                                                    refine EX.iconst (v := 0) rfl rfl ?_
                                                    obtain rfl := Option.some.inj h
                                                    exact EX.zret rfl rfl (Or.inl rfl)
                                                  · rcases ite_some h with ⟨c269, h⟩ | ⟨c269, h⟩
                                                    · refine ⟨fun e9 => absurd e9 c244, fun e9 => absurd e9 c245, fun e9 => absurd e9 c246, fun e9 => absurd e9 c247, fun e9 => absurd e9 c248, fun e9 => absurd e9 c249, fun e9 => absurd e9 c250, fun e9 => absurd e9 c251, fun e9 => absurd e9 c252, fun e9 => absurd e9 c253, fun e9 => absurd e9 c254, fun e9 => absurd e9 c255, fun e9 => absurd e9 c256, fun e9 => absurd e9 c257, fun e9 => absurd e9 c258, fun e9 => absurd e9 c259, fun e9 => absurd e9 c260, fun e9 => absurd e9 c261, fun e9 => absurd e9 c262, fun e9 => absurd e9 c263, fun e9 => absurd e9 c264, fun e9 => absurd e9 c265, fun e9 => absurd e9 c266, fun e9 => absurd e9 c267, fun e9 => absurd e9 c268, fun _ => ?_, fun e9 => absurd (c269.symm.trans e9) (by decide), fun e9 => absurd (c269.symm.trans e9) (by decide), fun e9 => absurd (c269.symm.trans e9) (by decide), fun e9 => absurd (c269.symm.trans e9) (by decide), fun e9 => absurd (c269.symm.trans e9) (by decide), fun e9 => absurd (c269.symm.trans e9) (by decide), fun e9 => absurd (c269.symm.trans e9) (by decide), fun e9 => absurd (c269.symm.trans e9) (by decide), fun e9 => absurd (c269.symm.trans e9) (by decide)⟩
                                                      show EX w0 ev 29 m_LA_law 867 [] [] (x243.2.1) (x243.2.2) (oI o)
                                                      refine EX.iconst (v := 0) rfl rfl ?_
                                                      obtain rfl := Option.some.inj h
                                                      exact EX.zret rfl rfl (Or.inl rfl)
                                                    · rcases ite_some h with ⟨c270, h⟩ | ⟨c270, h⟩
                                                      · refine ⟨fun e9 => absurd e9 c244, fun e9 => absurd e9 c245, fun e9 => absurd e9 c246, fun e9 => absurd e9 c247, fun e9 => absurd e9 c248, fun e9 => absurd e9 c249, fun e9 => absurd e9 c250, fun e9 => absurd e9 c251, fun e9 => absurd e9 c252, fun e9 => absurd e9 c253, fun e9 => absurd e9 c254, fun e9 => absurd e9 c255, fun e9 => absurd e9 c256, fun e9 => absurd e9 c257, fun e9 => absurd e9 c258, fun e9 => absurd e9 c259, fun e9 => absurd e9 c260, fun e9 => absurd e9 c261, fun e9 => absurd e9 c262, fun e9 => absurd e9 c263, fun e9 => absurd e9 c264, fun e9 => absurd e9 c265, fun e9 => absurd e9 c266, fun e9 => absurd e9 c267, fun e9 => absurd e9 c268, fun e9 => absurd e9 c269, fun _ => ?_, fun e9 => absurd (c270.symm.trans e9) (by decide), fun e9 => absurd (c270.symm.trans e9) (by decide), fun e9 => absurd (c270.symm.trans e9) (by decide), fun e9 => absurd (c270.symm.trans e9) (by decide), fun e9 => absurd (c270.symm.trans e9) (by decide), fun e9 => absurd (c270.symm.trans e9) (by decide), fun e9 => absurd (c270.symm.trans e9) (by decide), fun e9 => absurd (c270.symm.trans e9) (by decide)⟩
                                                        show EX w0 ev 29 m_LA_law 890 [] [] (x243.2.1) (x243.2.2) (oI o)
                                                        refine EX.iconst (v := 0) rfl rfl ?_
                                                        obtain rfl := Option.some.inj h
                                                        exact EX.zret rfl rfl (Or.inl rfl)
                                                      · rcases ite_some h with ⟨c271, h⟩ | ⟨c271, h⟩
                                                        · refine ⟨fun e9 => absurd e9 c244, fun e9 => absurd e9 c245, fun e9 => absurd e9 c246, fun e9 => absurd e9 c247, fun e9 => absurd e9 c248, fun e9 => absurd e9 c249, fun e9 => absurd e9 c250, fun e9 => absurd e9 c251, fun e9 => absurd e9 c252, fun e9 => absurd e9 c253, fun e9 => absurd e9 c254, fun e9 => absurd e9 c255, fun e9 => absurd e9 c256, fun e9 => absurd e9 c257, fun e9 => absurd e9 c258, fun e9 => absurd e9 c259, fun e9 => absurd e9 c260, fun e9 => absurd e9 c261, fun e9 => absurd e9 c262, fun e9 => absurd e9 c263, fun e9 => absurd e9 c264, fun e9 => absurd e9 c265, fun e9 => absurd e9 c266, fun e9 => absurd e9 c267, fun e9 => absurd e9 c268, fun e9 => absurd e9 c269, fun e9 => absurd e9 c270, fun _ => ?_, fun e9 => absurd (c271.symm.trans e9) (by decide), fun e9 => absurd (c271.symm.trans e9) (by decide), fun e9 => absurd (c271.symm.trans e9) (by decide), fun e9 => absurd (c271.symm.trans e9) (by decide), fun e9 => absurd (c271.symm.trans e9) (by decide), fun e9 => absurd (c271.symm.trans e9) (by decide), fun e9 => absurd (c271.symm.trans e9) (by decide)⟩
                                                          show EX w0 ev 29 m_LA_law 923 [] [] (x243.2.1) (x243.2.2) (oI o)
                                                          refine EX.iconst (v := 0) rfl rfl ?_
                                                          obtain rfl := Option.some.inj h
                                                          exact EX.zret rfl rfl (Or.inl rfl)
                                                        · rcases ite_some h with ⟨c272, h⟩ | ⟨c272, h⟩
                                                          · refine ⟨fun e9 => absurd e9 c244, fun e9 => absurd e9 c245, fun e9 => absurd e9 c246, fun e9 => absurd e9 c247, fun e9 => absurd e9 c248, fun e9 => absurd e9 c249, fun e9 => absurd e9 c250, fun e9 => absurd e9 c251, fun e9 => absurd e9 c252, fun e9 => absurd e9 c253, fun e9 => absurd e9 c254, fun e9 => absurd e9 c255, fun e9 => absurd e9 c256, fun e9 => absurd e9 c257, fun e9 => absurd e9 c258, fun e9 => absurd e9 c259, fun e9 => absurd e9 c260, fun e9 => absurd e9 c261, fun e9 => absurd e9 c262, fun e9 => absurd e9 c263, fun e9 => absurd e9 c264, fun e9 => absurd e9 c265, fun e9 => absurd e9 c266, fun e9 => absurd e9 c267, fun e9 => absurd e9 c268, fun e9 => absurd e9 c269, fun e9 => absurd e9 c270, fun e9 => absurd e9 c271, fun _ => ?_, fun e9 => absurd (c272.symm.trans e9) (by decide), fun e9 => absurd (c272.symm.trans e9) (by decide), fun e9 => absurd (c272.symm.trans e9) (by decide), fun e9 => absurd (c272.symm.trans e9) (by decide), fun e9 => absurd (c272.symm.trans e9) (by decide), fun e9 => absurd (c272.symm.trans e9) (by decide)⟩
                                                            show EX w0 ev 29 m_LA_law 946 [] [] (x243.2.1) (x243.2.2) (oI o)
                                                            refine EX.iconst (v := 0) rfl rfl ?_
                                                            obtain rfl := Option.some.inj h
                                                            exact EX.zret rfl rfl (Or.inl rfl)
                                                          · rcases ite_some h with ⟨c273, h⟩ | ⟨c273, h⟩
                                                            · refine ⟨fun e9 => absurd e9 c244, fun e9 => absurd e9 c245, fun e9 => absurd e9 c246, fun e9 => absurd e9 c247, fun e9 => absurd e9 c248, fun e9 => absurd e9 c249, fun e9 => absurd e9 c250, fun e9 => absurd e9 c251, fun e9 => absurd e9 c252, fun e9 => absurd e9 c253, fun e9 => absurd e9 c254, fun e9 => absurd e9 c255, fun e9 => absurd e9 c256, fun e9 => absurd e9 c257, fun e9 => absurd e9 c258, fun e9 => absurd e9 c259, fun e9 => absurd e9 c260, fun e9 => absurd e9 c261, fun e9 => absurd e9 c262, fun e9 => absurd e9 c263, fun e9 => absurd e9 c264, fun e9 => absurd e9 c265, fun e9 => absurd e9 c266, fun e9 => absurd e9 c267, fun e9 => absurd e9 c268, fun e9 => absurd e9 c269, fun e9 => absurd e9 c270, fun e9 => absurd e9 c271, fun e9 => absurd e9 c272, fun _ => ?_, fun e9 => absurd (c273.symm.trans e9) (by decide), fun e9 => absurd (c273.symm.trans e9) (by decide), fun e9 => absurd (c273.symm.trans e9) (by decide), fun e9 => absurd (c273.symm.trans e9) (by decide), fun e9 => absurd (c273.symm.trans e9) (by decide)⟩
                                                              show EX w0 ev 29 m_LA_law 969 [] [] (x243.2.1) (x243.2.2) (oI o)
                                                              refine EX.iconst (v := 0) rfl rfl ?_
                                                              obtain rfl := Option.some.inj h
                                                              exact EX.zret rfl rfl (Or.inl rfl)
                                                            · rcases ite_some h with ⟨c274, h⟩ | ⟨c274, h⟩
                                                              · refine ⟨fun e9 => absurd e9 c244, fun e9 => absurd e9 c245, fun e9 => absurd e9 c246, fun e9 => absurd e9 c247, fun e9 => absurd e9 c248, fun e9 => absurd e9 c249, fun e9 => absurd e9 c250, fun e9 => absurd e9 c251, fun e9 => absurd e9 c252, fun e9 => absurd e9 c253, fun e9 => absurd e9 c254, fun e9 => absurd e9 c255, fun e9 => absurd e9 c256, fun e9 => absurd e9 c257, fun e9 => absurd e9 c258, fun e9 => absurd e9 c259, fun e9 => absurd e9 c260, fun e9 => absurd e9 c261, fun e9 => absurd e9 c262, fun e9 => absurd e9 c263, fun e9 => absurd e9 c264, fun e9 => absurd e9 c265, fun e9 => absurd e9 c266, fun e9 => absurd e9 c267, fun e9 => absurd e9 c268, fun e9 => absurd e9 c269, fun e9 => absurd e9 c270, fun e9 => absurd e9 c271, fun e9 => absurd e9 c272, fun e9 => absurd e9 c273, fun _ => ?_, fun e9 => absurd (c274.symm.trans e9) (by decide), fun e9 => absurd (c274.symm.trans e9) (by decide), fun e9 => absurd (c274.symm.trans e9) (by decide), fun e9 => absurd (c274.symm.trans e9) (by decide)⟩
                                                                show EX w0 ev 29 m_LA_law 1012 [] [] (x243.2.1) (x243.2.2) (oI o)
                                                                refine EX.iconst (v := 0) rfl rfl ?_
                                                                obtain rfl := Option.some.inj h
                                                                exact EX.zret rfl rfl (Or.inl rfl)
                                                              · rcases ite_some h with ⟨c275, h⟩ | ⟨c275, h⟩
                                                                · refine ⟨fun e9 => absurd e9 c244, fun e9 => absurd e9 c245, fun e9 => absurd e9 c246, fun e9 => absurd e9 c247, fun e9 => absurd e9 c248, fun e9 => absurd e9 c249, fun e9 => absurd e9 c250, fun e9 => absurd e9 c251, fun e9 => absurd e9 c252, fun e9 => absurd e9 c253, fun e9 => absurd e9 c254, fun e9 => absurd e9 c255, fun e9 => absurd e9 c256, fun e9 => absurd e9 c257, fun e9 => absurd e9 c258, fun e9 => absurd e9 c259, fun e9 => absurd e9 c260, fun e9 => absurd e9 c261, fun e9 => absurd e9 c262, fun e9 => absurd e9 c263, fun e9 => absurd e9 c264, fun e9 => absurd e9 c265, fun e9 => absurd e9 c266, fun e9 => absurd e9 c267, fun e9 => absurd e9 c268, fun e9 => absurd e9 c269, fun e9 => absurd e9 c270, fun e9 => absurd e9 c271, fun e9 => absurd e9 c272, fun e9 => absurd e9 c273, fun e9 => absurd e9 c274, fun _ => ?_, fun e9 => absurd (c275.symm.trans e9) (by decide), fun e9 => absurd (c275.symm.trans e9) (by decide), fun e9 => absurd (c275.symm.trans e9) (by decide)⟩
                                                                  show EX w0 ev 29 m_LA_law 1055 [] [] (x243.2.1) (x243.2.2) (oI o)
                                                                  refine EX.iconst (v := 0) rfl rfl ?_
                                                                  obtain rfl := Option.some.inj h
                                                                  exact EX.zret rfl rfl (Or.inl rfl)
                                                                · rcases ite_some h with ⟨c276, h⟩ | ⟨c276, h⟩
                                                                  · refine ⟨fun e9 => absurd e9 c244, fun e9 => absurd e9 c245, fun e9 => absurd e9 c246, fun e9 => absurd e9 c247, fun e9 => absurd e9 c248, fun e9 => absurd e9 c249, fun e9 => absurd e9 c250, fun e9 => absurd e9 c251, fun e9 => absurd e9 c252, fun e9 => absurd e9 c253, fun e9 => absurd e9 c254, fun e9 => absurd e9 c255, fun e9 => absurd e9 c256, fun e9 => absurd e9 c257, fun e9 => absurd e9 c258, fun e9 => absurd e9 c259, fun e9 => absurd e9 c260, fun e9 => absurd e9 c261, fun e9 => absurd e9 c262, fun e9 => absurd e9 c263, fun e9 => absurd e9 c264, fun e9 => absurd e9 c265, fun e9 => absurd e9 c266, fun e9 => absurd e9 c267, fun e9 => absurd e9 c268, fun e9 => absurd e9 c269, fun e9 => absurd e9 c270, fun e9 => absurd e9 c271, fun e9 => absurd e9 c272, fun e9 => absurd e9 c273, fun e9 => absurd e9 c274, fun e9 => absurd e9 c275, fun _ => ?_, fun e9 => absurd (c276.symm.trans e9) (by decide), fun e9 => absurd (c276.symm.trans e9) (by decide)⟩
                                                                    show EX w0 ev 29 m_LA_law 1098 [] [] (x243.2.1) (x243.2.2) (oI o)
                                                                    refine EX.iconst (v := 0) rfl rfl ?_
                                                                    obtain rfl := Option.some.inj h
                                                                    exact EX.zret rfl rfl (Or.inl rfl)
                                                                  · rcases ite_some h with ⟨c277, h⟩ | ⟨c277, h⟩
                                                                    · refine ⟨fun e9 => absurd e9 c244, fun e9 => absurd e9 c245, fun e9 => absurd e9 c246, fun e9 => absurd e9 c247, fun e9 => absurd e9 c248, fun e9 => absurd e9 c249, fun e9 => absurd e9 c250, fun e9 => absurd e9 c251, fun e9 => absurd e9 c252, fun e9 => absurd e9 c253, fun e9 => absurd e9 c254, fun e9 => absurd e9 c255, fun e9 => absurd e9 c256, fun e9 => absurd e9 c257, fun e9 => absurd e9 c258, fun e9 => absurd e9 c259, fun e9 => absurd e9 c260, fun e9 => absurd e9 c261, fun e9 => absurd e9 c262, fun e9 => absurd e9 c263, fun e9 => absurd e9 c264, fun e9 => absurd e9 c265, fun e9 => absurd e9 c266, fun e9 => absurd e9 c267, fun e9 => absurd e9 c268, fun e9 => absurd e9 c269, fun e9 => absurd e9 c270, fun e9 => absurd e9 c271, fun e9 => absurd e9 c272, fun e9 => absurd e9 c273, fun e9 => absurd e9 c274, fun e9 => absurd e9 c275, fun e9 => absurd e9 c276, fun _ => ?_, fun e9 => absurd (c277.symm.trans e9) (by decide)⟩
                                                                      show EX w0 ev 29 m_LA_law 1141 [] [] (x243.2.1) (x243.2.2) (oI o)
                                                                      refine EX.iconst (v := 0) rfl rfl ?_
                                                                      obtain rfl := Option.some.inj h
                                                                      exact EX.zret rfl rfl (Or.inl rfl)
                                                                    · refine ⟨fun e9 => absurd e9 c244, fun e9 => absurd e9 c245, fun e9 => absurd e9 c246, fun e9 => absurd e9 c247, fun e9 => absurd e9 c248, fun e9 => absurd e9 c249, fun e9 => absurd e9 c250, fun e9 => absurd e9 c251, fun e9 => absurd e9 c252, fun e9 => absurd e9 c253, fun e9 => absurd e9 c254, fun e9 => absurd e9 c255, fun e9 => absurd e9 c256, fun e9 => absurd e9 c257, fun e9 => absurd e9 c258, fun e9 => absurd e9 c259, fun e9 => absurd e9 c260, fun e9 => absurd e9 c261, fun e9 => absurd e9 c262, fun e9 => absurd e9 c263, fun e9 => absurd e9 c264, fun e9 => absurd e9 c265, fun e9 => absurd e9 c266, fun e9 => absurd e9 c267, fun e9 => absurd e9 c268, fun e9 => absurd e9 c269, fun e9 => absurd e9 c270, fun e9 => absurd e9 c271, fun e9 => absurd e9 c272, fun e9 => absurd e9 c273, fun e9 => absurd e9 c274, fun e9 => absurd e9 c275, fun e9 => absurd e9 c276, fun e9 => absurd e9 c277, fun _ => ?_⟩
                                                                      show EX w0 ev 29 m_LA_law 1164 [] [] (x243.2.1) (x243.2.2) (oI o)
                                                                      refine EX.iconst (v := 0) rfl rfl ?_
                                                                      obtain rfl := Option.some.inj h
                                                                      exact EX.zret rfl rfl (Or.inl rfl)
