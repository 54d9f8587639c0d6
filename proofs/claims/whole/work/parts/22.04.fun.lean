/-! methods as functions -/
def J_Unions_reckon_98 (N : Nat) (v4 : Int32) (v6 : Int32) (s0 : Int32) (hi : HI) (hl : HL) : Option ((Int32 × Int32 × HI × HL) ⊕ (HI × HL)) :=
  if ((v6 - (1)) : Int32) < 0 ∨ 17 ≤ Int32.toNatClampNeg ((v6 - (1))) then none else if (v6 : Int32) < 0 ∨ 17 ≤ Int32.toNatClampNeg (v6) then none else some (.inl (s0, v6 + 1, wr (hi) 39 (Int32.toNatClampNeg (v6)) (((hi 39 (Int32.toNatClampNeg ((v6 - (1)))) : Int32) + s0)), hl))
set_option maxRecDepth 10000 in
set_option maxHeartbeats 4000000 in
theorem bJ_Unions_reckon_98 (ev : EV) {N : Nat} {v4 : Int32} {v6 : Int32} {s0 : Int32} {hi : HI} {hl : HL} {z : (Int32 × Int32 × HI × HL) ⊕ (HI × HL)} {OUT : Option Value × HI × HL} (h : J_Unions_reckon_98 N v4 v6 s0 hi hl = some z) (hk : Sum.elim (fun s => EX w0 ev 3 m_Unions_reckon 64 [(0, .ref 38), (4, .int (v4)), (5, .int (s.1)), (6, .int (s.2.1))] [] (s.2.2.1) (s.2.2.2) OUT) (fun x => EX w0 ev 3 m_Unions_reckon 125 [(0, .ref 38)] [] (x.1) (x.2) OUT) z) : EX w0 ev 3 m_Unions_reckon 98 [(0, .ref 38), (4, .int (v4)), (6, .int (v6))] [.int (s0)] (hi) (hl) OUT := by
  unfold J_Unions_reckon_98 at h
  refine EX.istore (req1 := [(5, .int (s0)), (0, .ref 38), (4, .int (v4)), (6, .int (v6))]) rfl rfl rfl ?_
  refine EX.aload_n (x := 38) rfl (List.mem_of_getElem? (i := 1) rfl) ?_
  refine EX.go (i := .getfield 11) (len := 3) (pc1 := 104) (st1 := [.ref 39]) (hi1 := hi) (hl1 := hl) rfl ?_ (fun _ _ _ => rfl)
  refine EX.iload (x := v6) rfl (List.mem_of_getElem? (i := 3) rfl) ?_
  refine EX.aload_n (x := 38) rfl (List.mem_of_getElem? (i := 1) rfl) ?_
  refine EX.go (i := .getfield 11) (len := 3) (pc1 := 110) (st1 := [.ref 39, .int (v6), .ref 39]) (hi1 := hi) (hl1 := hl) rfl ?_ (fun _ _ _ => rfl)
  refine EX.iload (x := v6) rfl (List.mem_of_getElem? (i := 3) rfl) ?_
  refine EX.iconst (v := 1) rfl rfl ?_
  refine EX.go (i := .isub) (len := 1) (pc1 := 114) (st1 := [.int ((v6 - (1))), .ref 39, .int (v6), .ref 39]) (hi1 := hi) (hl1 := hl) rfl ?_ (fun _ _ _ => rfl)
  obtain ⟨g11, h⟩ := grd_some h
  refine EX.iaload rfl rfl g11 ?_
  refine EX.iload (x := s0) rfl (List.mem_of_getElem? (i := 0) rfl) ?_
  refine EX.go (i := .iadd) (len := 1) (pc1 := 118) (st1 := [.int (((hi 39 (Int32.toNatClampNeg ((v6 - (1)))) : Int32) + s0)), .int (v6), .ref 39]) (hi1 := hi) (hl1 := hl) rfl ?_ (fun _ _ _ => rfl)
  obtain ⟨g12, h⟩ := grd_some h
  refine EX.iastore rfl rfl g12 ?_
  refine EX.iinc (x := v6) (v := v6 + 1) (req1 := [(6, .int (v6 + 1)), (5, .int (s0)), (0, .ref 38), (4, .int (v4))]) rfl rfl (List.mem_of_getElem? (i := 3) rfl) rfl rfl ?_
  refine EX.go (i := .goto (-58)) (len := 3) (pc1 := 64) (st1 := []) (hi1 := wr (hi) 39 (Int32.toNatClampNeg (v6)) (((hi 39 (Int32.toNatClampNeg ((v6 - (1)))) : Int32) + s0))) (hl1 := hl) rfl ?_ (fun _ _ _ => rfl)
  obtain rfl := Option.some.inj h
  have hk : EX w0 ev 3 m_Unions_reckon 64 [(0, .ref 38), (4, .int (v4)), (5, .int (s0)), (6, .int (v6 + 1))] [] (wr (hi) 39 (Int32.toNatClampNeg (v6)) (((hi 39 (Int32.toNatClampNeg ((v6 - (1)))) : Int32) + s0))) (hl) OUT := hk
  exact EX.pick [2, 3, 1, 0] hk rfl
def J_Unions_reckon_90 (N : Nat) (v4 : Int32) (v6 : Int32) (hi : HI) (hl : HL) : Option ((Int32 × Int32 × HI × HL) ⊕ (HI × HL)) :=
  J_Unions_reckon_98 N (v4) (v6) (0) (hi) (hl)
set_option maxRecDepth 10000 in
set_option maxHeartbeats 4000000 in
theorem bJ_Unions_reckon_90 (ev : EV) {N : Nat} {v4 : Int32} {v6 : Int32} {hi : HI} {hl : HL} {z : (Int32 × Int32 × HI × HL) ⊕ (HI × HL)} {OUT : Option Value × HI × HL} (h : J_Unions_reckon_90 N v4 v6 hi hl = some z) (hk : Sum.elim (fun s => EX w0 ev 3 m_Unions_reckon 64 [(0, .ref 38), (4, .int (v4)), (5, .int (s.1)), (6, .int (s.2.1))] [] (s.2.2.1) (s.2.2.2) OUT) (fun x => EX w0 ev 3 m_Unions_reckon 125 [(0, .ref 38)] [] (x.1) (x.2) OUT) z) : EX w0 ev 3 m_Unions_reckon 90 [(0, .ref 38), (4, .int (v4)), (6, .int (v6))] [] (hi) (hl) OUT := by
  unfold J_Unions_reckon_90 at h
  refine EX.iconst (v := 0) rfl rfl ?_
  refine EX.go (i := .goto 7) (len := 3) (pc1 := 98) (st1 := [.int (0)]) (hi1 := hi) (hl1 := hl) rfl ?_ (fun _ _ _ => rfl)
  refine EX.pick [0, 1, 2] ?_ rfl
  exact bJ_Unions_reckon_98 ev h hk
def B_Unions_reckon_64 (N : Nat) (v4 : Int32) (v5 : Int32) (v6 : Int32) (hi : HI) (hl : HL) : Option ((Int32 × Int32 × HI × HL) ⊕ (HI × HL)) :=
  if (16 : Int32) < (v6 : Int32) then some (.inr (hi, hl)) else if (v5 : Int32) = 0 then J_Unions_reckon_90 N (v4) (v6) (hi) (hl) else if ((v6 - (1)) : Int32) < 0 ∨ 17 ≤ Int32.toNatClampNeg ((v6 - (1))) then none else if (hi 39 (Int32.toNatClampNeg ((v6 - (1)))) : Int32) = (v4 : Int32) then J_Unions_reckon_90 N (v4) (v6) (hi) (hl) else (f_Unions_advance N (hi) (hl)).bind fun z15 => J_Unions_reckon_98 N (v4) (v6) (z15.1) (z15.2.1) (z15.2.2)
set_option maxRecDepth 10000 in
set_option maxHeartbeats 4000000 in
theorem bB_Unions_reckon_64 (ev : EV) {N : Nat} {v4 : Int32} {v5 : Int32} {v6 : Int32} {hi : HI} {hl : HL} {z : (Int32 × Int32 × HI × HL) ⊕ (HI × HL)} {OUT : Option Value × HI × HL} (h : B_Unions_reckon_64 N v4 v5 v6 hi hl = some z) (hk : Sum.elim (fun s => EX w0 ev 3 m_Unions_reckon 64 [(0, .ref 38), (4, .int (v4)), (5, .int (s.1)), (6, .int (s.2.1))] [] (s.2.2.1) (s.2.2.2) OUT) (fun x => EX w0 ev 3 m_Unions_reckon 125 [(0, .ref 38)] [] (x.1) (x.2) OUT) z) : EX w0 ev 3 m_Unions_reckon 64 [(0, .ref 38), (4, .int (v4)), (5, .int (v5)), (6, .int (v6))] [] (hi) (hl) OUT := by
  unfold B_Unions_reckon_64 at h
  refine EX.iload (x := v6) rfl (List.mem_of_getElem? (i := 3) rfl) ?_
  refine EX.bipush (v := 16) rfl rfl ?_
  rcases ite_some h with ⟨c9, h⟩ | ⟨c9, h⟩
  · refine EX.go (i := .if_icmp .gt 57) (len := 3) (pc1 := 125) (st1 := []) (hi1 := hi) (hl1 := hl) rfl ?_ (fun _ _ _ => if_pos c9)
    obtain rfl := Option.some.inj h
    have hk : EX w0 ev 3 m_Unions_reckon 125 [(0, .ref 38)] [] (hi) (hl) OUT := hk
    exact EX.pick [0] hk rfl
  · refine EX.go (i := .if_icmp .gt 57) (len := 3) (pc1 := 71) (st1 := []) (hi1 := hi) (hl1 := hl) rfl ?_ (fun _ _ _ => if_neg c9)
    refine EX.iload (x := v5) rfl (List.mem_of_getElem? (i := 2) rfl) ?_
    rcases ite_some h with ⟨c10, h⟩ | ⟨c10, h⟩
    · refine EX.go (i := .ifCond .eq 17) (len := 3) (pc1 := 90) (st1 := []) (hi1 := hi) (hl1 := hl) rfl ?_ (fun _ _ _ => if_pos c10)
      refine EX.pick [0, 1, 3] ?_ rfl
      exact bJ_Unions_reckon_90 ev h hk
    · refine EX.go (i := .ifCond .eq 17) (len := 3) (pc1 := 76) (st1 := []) (hi1 := hi) (hl1 := hl) rfl ?_ (fun _ _ _ => if_neg c10)
      refine EX.aload_n (x := 38) rfl (List.mem_of_getElem? (i := 0) rfl) ?_
      refine EX.go (i := .getfield 11) (len := 3) (pc1 := 80) (st1 := [.ref 39]) (hi1 := hi) (hl1 := hl) rfl ?_ (fun _ _ _ => rfl)
      refine EX.iload (x := v6) rfl (List.mem_of_getElem? (i := 3) rfl) ?_
      refine EX.iconst (v := 1) rfl rfl ?_
      refine EX.go (i := .isub) (len := 1) (pc1 := 84) (st1 := [.int ((v6 - (1))), .ref 39]) (hi1 := hi) (hl1 := hl) rfl ?_ (fun _ _ _ => rfl)
      obtain ⟨g13, h⟩ := grd_some h
      refine EX.iaload rfl rfl g13 ?_
      refine EX.iload (x := v4) rfl (List.mem_of_getElem? (i := 1) rfl) ?_
      rcases ite_some h with ⟨c14, h⟩ | ⟨c14, h⟩
      · refine EX.go (i := .if_icmp .ne 7) (len := 3) (pc1 := 90) (st1 := []) (hi1 := hi) (hl1 := hl) rfl ?_ (fun _ _ _ => if_pos c14)
        refine EX.pick [0, 1, 3] ?_ rfl
        exact bJ_Unions_reckon_90 ev h hk
      · refine EX.go (i := .if_icmp .ne 7) (len := 3) (pc1 := 94) (st1 := []) (hi1 := hi) (hl1 := hl) rfl ?_ (fun _ _ _ => if_neg c14)
        refine EX.aload_n (x := 38) rfl (List.mem_of_getElem? (i := 0) rfl) ?_
        obtain ⟨z15, hz15, h⟩ := bnd_some h
        refine EX.callV (b := 38) (as := []) (rest := []) (r := some (.int (z15.1))) (hi1 := z15.2.1) (hl1 := z15.2.2) rfl rfl rfl rfl rfl rfl ((b_Unions_advance ev hz15).mono (by decide)) ?_
        show EX w0 ev 3 m_Unions_reckon 98 [(0, .ref 38), (4, .int (v4)), (5, .int (v5)), (6, .int (v6))] [.int (z15.1)] (z15.2.1) (z15.2.2) OUT
        refine EX.pick [0, 1, 3] ?_ rfl
        exact bJ_Unions_reckon_98 ev h hk
def f_Unions_reckon (N : Nat) (p2 : Int32) (hi : HI) (hl : HL) : Option (Unit × HI × HL) :=
  (f_Unions_order N (wr (wr (hi) 38 5 (42)) 38 4 (((1 : Int32) <<< (((if (10 : Int32) < (p2) then (10) else (p2))) &&& 31)))) (hl)).bind fun z1 => if z1.2.1 38 5 = 42 then (f_Arrays_fill N (0) (z1.2.1) (z1.2.2)).bind fun z3 => if z3.2.1 38 5 = 42 then if (0 : Int32) < 0 ∨ 4096 ≤ Int32.toNatClampNeg (0) then none else if z3.2.1 38 5 = 42 then if (1024 : Int32) < 0 ∨ 4096 ≤ Int32.toNatClampNeg (1024) then none else if (0 : Int32) < 0 ∨ 17 ≤ Int32.toNatClampNeg (0) then none else (lpN (fun s => B_Unions_reckon_64 N (((1 : Int32) <<< (p2 &&& 31))) s.1 s.2.1 s.2.2.1 s.2.2.2) N (1, 1, wr (z3.2.1) 39 (Int32.toNatClampNeg (0)) (1), wrL (wrL (z3.2.2) 41 (Int32.toNatClampNeg (0)) (1)) 41 (Int32.toNatClampNeg (1024)) (1))).bind fun x16 => some ((), wr (x16.1) 38 0 (1), x16.2) else none else none else none
set_option maxRecDepth 10000 in
set_option maxHeartbeats 4000000 in
theorem b_Unions_reckon (ev : EV) {N : Nat} {p2 : Int32} {hi : HI} {hl : HL} {o : Unit × HI × HL} (h : f_Unions_reckon N p2 hi hl = some o) : EM w0 ev 4 m_Unions_reckon [.ref 38, .ref 12, .int (p2), .ref 41] hi hl (oV o) := by
  unfold f_Unions_reckon at h
  refine EM.of rfl ?_
  show EX w0 ev 3 m_Unions_reckon 0 [(0, .ref 38), (1, .ref 12), (2, .int (p2)), (3, .ref 41)] [] (hi) (hl) (oV o)
  refine EX.aload_n (x := 38) rfl (List.mem_of_getElem? (i := 0) rfl) ?_
  refine EX.aload_n (x := 41) rfl (List.mem_of_getElem? (i := 3) rfl) ?_
  refine EX.go (i := .putfield 18) (len := 3) (pc1 := 5) (st1 := []) (hi1 := wr (hi) 38 5 (42)) (hl1 := hl) rfl ?_ (fun _ _ _ => rfl)
  refine EX.aload_n (x := 38) rfl (List.mem_of_getElem? (i := 0) rfl) ?_
  refine EX.iconst (v := 1) rfl rfl ?_
  refine EX.iload_n (x := p2) rfl (List.mem_of_getElem? (i := 2) rfl) ?_
  refine EX.bipush (v := 10) rfl rfl ?_
  refine EX.mn (x := p2) (y := 10) (v := (if (10 : Int32) < (p2) then (10) else (p2))) rfl rfl rfl rfl rfl ?_
  refine EX.go (i := .ishl) (len := 1) (pc1 := 14) (st1 := [.int (((1 : Int32) <<< (((if (10 : Int32) < (p2) then (10) else (p2))) &&& 31))), .ref 38]) (hi1 := wr (hi) 38 5 (42)) (hl1 := hl) rfl ?_ (fun _ _ _ => rfl)
  refine EX.go (i := .putfield 28) (len := 3) (pc1 := 17) (st1 := []) (hi1 := wr (wr (hi) 38 5 (42)) 38 4 (((1 : Int32) <<< (((if (10 : Int32) < (p2) then (10) else (p2))) &&& 31)))) (hl1 := hl) rfl ?_ (fun _ _ _ => rfl)
  refine EX.aload_n (x := 38) rfl (List.mem_of_getElem? (i := 0) rfl) ?_
  refine EX.aload_n (x := 12) rfl (List.mem_of_getElem? (i := 1) rfl) ?_
  obtain ⟨z1, hz1, h⟩ := bnd_some h
  refine EX.callV (b := 38) (as := [.ref 12]) (rest := []) (r := none) (hi1 := z1.2.1) (hl1 := z1.2.2) rfl rfl rfl rfl rfl rfl ((b_Unions_order ev hz1).mono (by decide)) ?_
  show EX w0 ev 3 m_Unions_reckon 22 [(0, .ref 38), (1, .ref 12), (2, .int (p2)), (3, .ref 41)] [] (z1.2.1) (z1.2.2) (oV o)
  refine EX.aload_n (x := 38) rfl (List.mem_of_getElem? (i := 0) rfl) ?_
  obtain ⟨g2, h⟩ := grp_some h
  refine EX.getfieldV (v := .ref 41) rfl rfl rfl rfl (fv3 rfl g2) ?_
  refine EX.lconst (v := 0) rfl rfl ?_
  obtain ⟨z3, hz3, h⟩ := bnd_some h
  refine EX.callS (as := [.ref 41, .long (0)]) (rest := []) (r := none) (hi1 := z3.2.1) (hl1 := z3.2.2) rfl rfl rfl rfl rfl rfl ((b_Arrays_fill ev hz3).mono (by decide)) ?_
  show EX w0 ev 3 m_Unions_reckon 30 [(0, .ref 38), (1, .ref 12), (2, .int (p2)), (3, .ref 41)] [] (z3.2.1) (z3.2.2) (oV o)
  refine EX.aload_n (x := 38) rfl (List.mem_of_getElem? (i := 0) rfl) ?_
  obtain ⟨g4, h⟩ := grp_some h
  refine EX.getfieldV (v := .ref 41) rfl rfl rfl rfl (fv3 rfl g4) ?_
  refine EX.iconst (v := 0) rfl rfl ?_
  refine EX.lconst (v := 1) rfl rfl ?_
  obtain ⟨g5, h⟩ := grd_some h
  refine EX.lastore rfl rfl g5 ?_
  refine EX.aload_n (x := 38) rfl (List.mem_of_getElem? (i := 0) rfl) ?_
  obtain ⟨g6, h⟩ := grp_some h
  refine EX.getfieldV (v := .ref 41) rfl rfl rfl rfl (fv3 rfl g6) ?_
  refine EX.sipush (v := 1024) rfl rfl ?_
  refine EX.lconst (v := 1) rfl rfl ?_
  obtain ⟨g7, h⟩ := grd_some h
  refine EX.lastore rfl rfl g7 ?_
  refine EX.iconst (v := 1) rfl rfl ?_
  refine EX.iload_n (x := p2) rfl (List.mem_of_getElem? (i := 2) rfl) ?_
  refine EX.go (i := .ishl) (len := 1) (pc1 := 49) (st1 := [.int (((1 : Int32) <<< (p2 &&& 31)))]) (hi1 := z3.2.1) (hl1 := wrL (wrL (z3.2.2) 41 (Int32.toNatClampNeg (0)) (1)) 41 (Int32.toNatClampNeg (1024)) (1)) rfl ?_ (fun _ _ _ => rfl)
  refine EX.istore (req1 := [(4, .int (((1 : Int32) <<< (p2 &&& 31)))), (0, .ref 38), (1, .ref 12), (2, .int (p2)), (3, .ref 41)]) rfl rfl rfl ?_
  refine EX.iconst (v := 1) rfl rfl ?_
  refine EX.istore (req1 := [(5, .int (1)), (4, .int (((1 : Int32) <<< (p2 &&& 31)))), (0, .ref 38), (1, .ref 12), (2, .int (p2)), (3, .ref 41)]) rfl rfl rfl ?_
  refine EX.aload_n (x := 38) rfl (List.mem_of_getElem? (i := 2) rfl) ?_
  refine EX.go (i := .getfield 11) (len := 3) (pc1 := 58) (st1 := [.ref 39]) (hi1 := z3.2.1) (hl1 := wrL (wrL (z3.2.2) 41 (Int32.toNatClampNeg (0)) (1)) 41 (Int32.toNatClampNeg (1024)) (1)) rfl ?_ (fun _ _ _ => rfl)
  refine EX.iconst (v := 0) rfl rfl ?_
  refine EX.iconst (v := 1) rfl rfl ?_
  obtain ⟨g8, h⟩ := grd_some h
  refine EX.iastore rfl rfl g8 ?_
  refine EX.iconst (v := 1) rfl rfl ?_
  refine EX.istore (req1 := [(6, .int (1)), (5, .int (1)), (4, .int (((1 : Int32) <<< (p2 &&& 31)))), (0, .ref 38), (1, .ref 12), (2, .int (p2)), (3, .ref 41)]) rfl rfl rfl ?_
  obtain ⟨x16, hx16, h⟩ := bnd_some h
  refine EX.pick [3, 2, 1, 0] ?_ rfl
  refine lp_sound (f := fun s => B_Unions_reckon_64 N (((1 : Int32) <<< (p2 &&& 31))) s.1 s.2.1 s.2.2.1 s.2.2.2) (PS := fun s => EX w0 ev 3 m_Unions_reckon 64 [(0, .ref 38), (4, .int (((1 : Int32) <<< (p2 &&& 31)))), (5, .int (s.1)), (6, .int (s.2.1))] [] (s.2.2.1) (s.2.2.2) (oV o)) (PX := fun x => EX w0 ev 3 m_Unions_reckon 125 [(0, .ref 38)] [] (x.1) (x.2) (oV o)) ?_ N _ x16 hx16 ?_
  · exact fun s z hz hk => bB_Unions_reckon_64 ev hz hk
  show EX w0 ev 3 m_Unions_reckon 125 [(0, .ref 38)] [] (x16.1) (x16.2) (oV o)
  refine EX.aload_n (x := 38) rfl (List.mem_of_getElem? (i := 0) rfl) ?_
  refine EX.iconst (v := 1) rfl rfl ?_
  refine EX.go (i := .putfield 46) (len := 3) (pc1 := 130) (st1 := []) (hi1 := wr (x16.1) 38 0 (1)) (hl1 := x16.2) rfl ?_ (fun _ _ _ => rfl)
  obtain rfl := Option.some.inj h
  exact EX.vret rfl rfl
def f_LW_forgetGlow (N : Nat) (hi : HI) (hl : HL) : Option (Unit × HI × HL) :=
  (f_Frames_forget N (wr (wr (hi) 12 0 (0)) 38 0 (0)) (hl)).bind fun z1 => some ((), z1.2.1, z1.2.2)
set_option maxRecDepth 10000 in
set_option maxHeartbeats 4000000 in
theorem b_LW_forgetGlow (ev : EV) {N : Nat} {hi : HI} {hl : HL} {o : Unit × HI × HL} (h : f_LW_forgetGlow N hi hl = some o) : EM w0 ev 2 m_LW_forgetGlow [.ref 0] hi hl (oV o) := by
  unfold f_LW_forgetGlow at h
  refine EM.of rfl ?_
  show EX w0 ev 1 m_LW_forgetGlow 0 [(0, .ref 0)] [] (hi) (hl) (oV o)
  refine EX.aload_n (x := 0) rfl (List.mem_of_getElem? (i := 0) rfl) ?_
  refine EX.go (i := .getfield 26) (len := 3) (pc1 := 4) (st1 := [.ref 12]) (hi1 := hi) (hl1 := hl) rfl ?_ (fun _ _ _ => rfl)
  refine EX.iconst (v := 0) rfl rfl ?_
  refine EX.go (i := .putfield 366) (len := 3) (pc1 := 8) (st1 := []) (hi1 := wr (hi) 12 0 (0)) (hl1 := hl) rfl ?_ (fun _ _ _ => rfl)
  refine EX.aload_n (x := 0) rfl (List.mem_of_getElem? (i := 0) rfl) ?_
  refine EX.go (i := .getfield 47) (len := 3) (pc1 := 12) (st1 := [.ref 38]) (hi1 := wr (hi) 12 0 (0)) (hl1 := hl) rfl ?_ (fun _ _ _ => rfl)
  refine EX.iconst (v := 0) rfl rfl ?_
  refine EX.go (i := .putfield 198) (len := 3) (pc1 := 16) (st1 := []) (hi1 := wr (wr (hi) 12 0 (0)) 38 0 (0)) (hl1 := hl) rfl ?_ (fun _ _ _ => rfl)
  refine EX.aload_n (x := 0) rfl (List.mem_of_getElem? (i := 0) rfl) ?_
  refine EX.go (i := .getfield 33) (len := 3) (pc1 := 20) (st1 := [.ref 18]) (hi1 := wr (wr (hi) 12 0 (0)) 38 0 (0)) (hl1 := hl) rfl ?_ (fun _ _ _ => rfl)
  obtain ⟨z1, hz1, h⟩ := bnd_some h
  refine EX.callV (b := 18) (as := []) (rest := []) (r := none) (hi1 := z1.2.1) (hl1 := z1.2.2) rfl rfl rfl rfl rfl rfl ((b_Frames_forget ev hz1).mono (by decide)) ?_
  show EX w0 ev 1 m_LW_forgetGlow 23 [(0, .ref 0)] [] (z1.2.1) (z1.2.2) (oV o)
  obtain rfl := Option.some.inj h
  exact EX.vret rfl rfl
def f_LW_wires (N : Nat) (p1 : Int32) (hi : HI) (hl : HL) : Option (Int32 × HI × HL) :=
  if (p1 : Int32) < (2 : Int32) then some ((-1), hi, hl) else if (p1 : Int32) ≤ (6 : Int32) then (f_Board_restart N (p1) (hi) (hl)).bind fun z3 => (f_LW_forgetGlow N (wr (z3.2.1) 47 0 (0)) (z3.2.2)).bind fun z4 => (f_Guesses_forget N (z4.2.1) (z4.2.2)).bind fun z5 => some (hi 1 0, z5.2.1, z5.2.2) else some ((-1), hi, hl)
set_option maxRecDepth 10000 in
set_option maxHeartbeats 4000000 in
theorem b_LW_wires (ev : EV) {N : Nat} {p1 : Int32} {hi : HI} {hl : HL} {o : Int32 × HI × HL} (h : f_LW_wires N p1 hi hl = some o) : EM w0 ev 3 m_LW_wires [.ref 0, .int (p1)] hi hl (oI o) := by
  unfold f_LW_wires at h
  refine EM.of rfl ?_
  show EX w0 ev 2 m_LW_wires 0 [(0, .ref 0), (1, .int (p1))] [] (hi) (hl) (oI o)
  refine EX.iload_n (x := p1) rfl (List.mem_of_getElem? (i := 1) rfl) ?_
  refine EX.iconst (v := 2) rfl rfl ?_
  rcases ite_some h with ⟨c1, h⟩ | ⟨c1, h⟩
  · refine EX.go (i := .if_icmp .lt 9) (len := 3) (pc1 := 11) (st1 := []) (hi1 := hi) (hl1 := hl) rfl ?_ (fun _ _ _ => if_pos c1)
    refine EX.iconst (v := (-1)) rfl rfl ?_
    obtain rfl := Option.some.inj h
    exact EX.iret rfl rfl
  · refine EX.go (i := .if_icmp .lt 9) (len := 3) (pc1 := 5) (st1 := []) (hi1 := hi) (hl1 := hl) rfl ?_ (fun _ _ _ => if_neg c1)
    refine EX.iload_n (x := p1) rfl (List.mem_of_getElem? (i := 1) rfl) ?_
    refine EX.bipush (v := 6) rfl rfl ?_
    rcases ite_some h with ⟨c2, h⟩ | ⟨c2, h⟩
    · refine EX.go (i := .if_icmp .le 5) (len := 3) (pc1 := 13) (st1 := []) (hi1 := hi) (hl1 := hl) rfl ?_ (fun _ _ _ => if_pos c2)
      refine EX.aload_n (x := 0) rfl (List.mem_of_getElem? (i := 0) rfl) ?_
      refine EX.go (i := .getfield 12) (len := 3) (pc1 := 17) (st1 := [.ref 1]) (hi1 := hi) (hl1 := hl) rfl ?_ (fun _ _ _ => rfl)
      refine EX.go (i := .getfield 87) (len := 3) (pc1 := 20) (st1 := [.int (hi 1 0)]) (hi1 := hi) (hl1 := hl) rfl ?_ (fun _ _ _ => rfl)
      refine EX.istore_n (req1 := [(2, .int (hi 1 0)), (0, .ref 0), (1, .int (p1))]) rfl rfl rfl ?_
      refine EX.aload_n (x := 0) rfl (List.mem_of_getElem? (i := 1) rfl) ?_
      refine EX.go (i := .getfield 12) (len := 3) (pc1 := 25) (st1 := [.ref 1]) (hi1 := hi) (hl1 := hl) rfl ?_ (fun _ _ _ => rfl)
      refine EX.iload_n (x := p1) rfl (List.mem_of_getElem? (i := 2) rfl) ?_
      obtain ⟨z3, hz3, h⟩ := bnd_some h
      refine EX.callV (b := 1) (as := [.int (p1)]) (rest := []) (r := none) (hi1 := z3.2.1) (hl1 := z3.2.2) rfl rfl rfl rfl rfl rfl ((b_Board_restart ev hz3).mono (by decide)) ?_
      show EX w0 ev 2 m_LW_wires 29 [(2, .int (hi 1 0)), (0, .ref 0), (1, .int (p1))] [] (z3.2.1) (z3.2.2) (oI o)
      refine EX.aload_n (x := 0) rfl (List.mem_of_getElem? (i := 1) rfl) ?_
      refine EX.go (i := .getfield 69) (len := 3) (pc1 := 33) (st1 := [.ref 47]) (hi1 := z3.2.1) (hl1 := z3.2.2) rfl ?_ (fun _ _ _ => rfl)
      refine EX.iconst (v := 0) rfl rfl ?_
      refine EX.go (i := .putfield 95) (len := 3) (pc1 := 37) (st1 := []) (hi1 := wr (z3.2.1) 47 0 (0)) (hl1 := z3.2.2) rfl ?_ (fun _ _ _ => rfl)
      refine EX.aload_n (x := 0) rfl (List.mem_of_getElem? (i := 1) rfl) ?_
      obtain ⟨z4, hz4, h⟩ := bnd_some h
      refine EX.callV (b := 0) (as := []) (rest := []) (r := none) (hi1 := z4.2.1) (hl1 := z4.2.2) rfl rfl rfl rfl rfl rfl ((b_LW_forgetGlow ev hz4).mono (by decide)) ?_
      show EX w0 ev 2 m_LW_wires 41 [(2, .int (hi 1 0)), (0, .ref 0), (1, .int (p1))] [] (z4.2.1) (z4.2.2) (oI o)
      refine EX.aload_n (x := 0) rfl (List.mem_of_getElem? (i := 1) rfl) ?_
      refine EX.go (i := .getfield 76) (len := 3) (pc1 := 45) (st1 := [.ref 51]) (hi1 := z4.2.1) (hl1 := z4.2.2) rfl ?_ (fun _ _ _ => rfl)
      obtain ⟨z5, hz5, h⟩ := bnd_some h
      refine EX.callV (b := 51) (as := []) (rest := []) (r := none) (hi1 := z5.2.1) (hl1 := z5.2.2) rfl rfl rfl rfl rfl rfl ((b_Guesses_forget ev hz5).mono (by decide)) ?_
      show EX w0 ev 2 m_LW_wires 48 [(2, .int (hi 1 0)), (0, .ref 0), (1, .int (p1))] [] (z5.2.1) (z5.2.2) (oI o)
      refine EX.iload_n (x := hi 1 0) rfl (List.mem_of_getElem? (i := 0) rfl) ?_
      obtain rfl := Option.some.inj h
      exact EX.iret rfl rfl
    · refine EX.go (i := .if_icmp .le 5) (len := 3) (pc1 := 11) (st1 := []) (hi1 := hi) (hl1 := hl) rfl ?_ (fun _ _ _ => if_neg c2)
      refine EX.iconst (v := (-1)) rfl rfl ?_
      obtain rfl := Option.some.inj h
      exact EX.iret rfl rfl
def f_LW_supply (N : Nat) (p1 : Int32) (hi : HI) (hl : HL) : Option (Int32 × HI × HL) :=
  if (p1 : Int32) < (1 : Int32) then some ((-1), hi, hl) else if (p1 : Int32) ≤ (30 : Int32) then (f_LW_forgetGlow N (wr (hi) 1 1 (p1)) (hl)).bind fun z3 => (f_Guesses_forget N (z3.2.1) (z3.2.2)).bind fun z4 => some (hi 1 1, z4.2.1, z4.2.2) else some ((-1), hi, hl)
set_option maxRecDepth 10000 in
set_option maxHeartbeats 4000000 in
theorem b_LW_supply (ev : EV) {N : Nat} {p1 : Int32} {hi : HI} {hl : HL} {o : Int32 × HI × HL} (h : f_LW_supply N p1 hi hl = some o) : EM w0 ev 3 m_LW_supply [.ref 0, .int (p1)] hi hl (oI o) := by
  unfold f_LW_supply at h
  refine EM.of rfl ?_
  show EX w0 ev 2 m_LW_supply 0 [(0, .ref 0), (1, .int (p1))] [] (hi) (hl) (oI o)
  refine EX.iload_n (x := p1) rfl (List.mem_of_getElem? (i := 1) rfl) ?_
  refine EX.iconst (v := 1) rfl rfl ?_
  rcases ite_some h with ⟨c1, h⟩ | ⟨c1, h⟩
  · refine EX.go (i := .if_icmp .lt 9) (len := 3) (pc1 := 11) (st1 := []) (hi1 := hi) (hl1 := hl) rfl ?_ (fun _ _ _ => if_pos c1)
    refine EX.iconst (v := (-1)) rfl rfl ?_
    obtain rfl := Option.some.inj h
    exact EX.iret rfl rfl
  · refine EX.go (i := .if_icmp .lt 9) (len := 3) (pc1 := 5) (st1 := []) (hi1 := hi) (hl1 := hl) rfl ?_ (fun _ _ _ => if_neg c1)
    refine EX.iload_n (x := p1) rfl (List.mem_of_getElem? (i := 1) rfl) ?_
    refine EX.bipush (v := 30) rfl rfl ?_
    rcases ite_some h with ⟨c2, h⟩ | ⟨c2, h⟩
    · refine EX.go (i := .if_icmp .le 5) (len := 3) (pc1 := 13) (st1 := []) (hi1 := hi) (hl1 := hl) rfl ?_ (fun _ _ _ => if_pos c2)
      refine EX.aload_n (x := 0) rfl (List.mem_of_getElem? (i := 0) rfl) ?_
      refine EX.go (i := .getfield 12) (len := 3) (pc1 := 17) (st1 := [.ref 1]) (hi1 := hi) (hl1 := hl) rfl ?_ (fun _ _ _ => rfl)
      refine EX.go (i := .getfield 104) (len := 3) (pc1 := 20) (st1 := [.int (hi 1 1)]) (hi1 := hi) (hl1 := hl) rfl ?_ (fun _ _ _ => rfl)
      refine EX.istore_n (req1 := [(2, .int (hi 1 1)), (0, .ref 0), (1, .int (p1))]) rfl rfl rfl ?_
      refine EX.aload_n (x := 0) rfl (List.mem_of_getElem? (i := 1) rfl) ?_
      refine EX.go (i := .getfield 12) (len := 3) (pc1 := 25) (st1 := [.ref 1]) (hi1 := hi) (hl1 := hl) rfl ?_ (fun _ _ _ => rfl)
      refine EX.iload_n (x := p1) rfl (List.mem_of_getElem? (i := 2) rfl) ?_
      refine EX.go (i := .putfield 104) (len := 3) (pc1 := 29) (st1 := []) (hi1 := wr (hi) 1 1 (p1)) (hl1 := hl) rfl ?_ (fun _ _ _ => rfl)
      refine EX.aload_n (x := 0) rfl (List.mem_of_getElem? (i := 1) rfl) ?_
      obtain ⟨z3, hz3, h⟩ := bnd_some h
      refine EX.callV (b := 0) (as := []) (rest := []) (r := none) (hi1 := z3.2.1) (hl1 := z3.2.2) rfl rfl rfl rfl rfl rfl ((b_LW_forgetGlow ev hz3).mono (by decide)) ?_
      show EX w0 ev 2 m_LW_supply 33 [(2, .int (hi 1 1)), (0, .ref 0), (1, .int (p1))] [] (z3.2.1) (z3.2.2) (oI o)
      refine EX.aload_n (x := 0) rfl (List.mem_of_getElem? (i := 1) rfl) ?_
      refine EX.go (i := .getfield 76) (len := 3) (pc1 := 37) (st1 := [.ref 51]) (hi1 := z3.2.1) (hl1 := z3.2.2) rfl ?_ (fun _ _ _ => rfl)
      obtain ⟨z4, hz4, h⟩ := bnd_some h
      refine EX.callV (b := 51) (as := []) (rest := []) (r := none) (hi1 := z4.2.1) (hl1 := z4.2.2) rfl rfl rfl rfl rfl rfl ((b_Guesses_forget ev hz4).mono (by decide)) ?_
      show EX w0 ev 2 m_LW_supply 40 [(2, .int (hi 1 1)), (0, .ref 0), (1, .int (p1))] [] (z4.2.1) (z4.2.2) (oI o)
      refine EX.iload_n (x := hi 1 1) rfl (List.mem_of_getElem? (i := 0) rfl) ?_
      obtain rfl := Option.some.inj h
      exact EX.iret rfl rfl
    · refine EX.go (i := .if_icmp .le 5) (len := 3) (pc1 := 11) (st1 := []) (hi1 := hi) (hl1 := hl) rfl ?_ (fun _ _ _ => if_neg c2)
      refine EX.iconst (v := (-1)) rfl rfl ?_
      obtain rfl := Option.some.inj h
      exact EX.iret rfl rfl
def f_LW_lamp (N : Nat) (p1 : Int32) (p2 : Int32) (p3 : Int32) (hi : HI) (hl : HL) : Option (Int32 × HI × HL) :=
  (f_Board_isPair N (p1) (p2) (hi) (hl)).bind fun z1 => if (z1.1 : Int32) = 0 then some ((-1), z1.2.1, z1.2.2) else if (p3 : Int32) < (1 : Int32) then some ((-1), z1.2.1, z1.2.2) else if (p3 : Int32) ≤ (9 : Int32) then (f_Board_find N (p1) (p2) (z1.2.1) (z1.2.2)).bind fun z5 => if (z5.1 : Int32) = ((-4) : Int32) then if (z5.2.1 1 2 : Int32) < (16 : Int32) then (f_LW_forgetGlow N (z5.2.1) (z5.2.2)).bind fun z8 => (f_Guesses_forget N (z8.2.1) (z8.2.2)).bind fun z9 => (f_Board_add N (p1) (p2) (p3) (z9.2.1) (z9.2.2)).bind fun z10 => some (z10.1, z10.2.1, z10.2.2) else some ((-3), z5.2.1, z5.2.2) else some ((-2), z5.2.1, z5.2.2) else some ((-1), z1.2.1, z1.2.2)
set_option maxRecDepth 10000 in
set_option maxHeartbeats 4000000 in
theorem b_LW_lamp (ev : EV) {N : Nat} {p1 : Int32} {p2 : Int32} {p3 : Int32} {hi : HI} {hl : HL} {o : Int32 × HI × HL} (h : f_LW_lamp N p1 p2 p3 hi hl = some o) : EM w0 ev 3 m_LW_lamp [.ref 0, .int (p1), .int (p2), .int (p3)] hi hl (oI o) := by
  unfold f_LW_lamp at h
  refine EM.of rfl ?_
  show EX w0 ev 2 m_LW_lamp 0 [(0, .ref 0), (1, .int (p1)), (2, .int (p2)), (3, .int (p3))] [] (hi) (hl) (oI o)
  refine EX.aload_n (x := 0) rfl (List.mem_of_getElem? (i := 0) rfl) ?_
  refine EX.go (i := .getfield 12) (len := 3) (pc1 := 4) (st1 := [.ref 1]) (hi1 := hi) (hl1 := hl) rfl ?_ (fun _ _ _ => rfl)
  refine EX.iload_n (x := p1) rfl (List.mem_of_getElem? (i := 1) rfl) ?_
  refine EX.iload_n (x := p2) rfl (List.mem_of_getElem? (i := 2) rfl) ?_
  obtain ⟨z1, hz1, h⟩ := bnd_some h
  refine EX.callV (b := 1) (as := [.int (p1), .int (p2)]) (rest := []) (r := some (.int (z1.1))) (hi1 := z1.2.1) (hl1 := z1.2.2) rfl rfl rfl rfl rfl rfl ((b_Board_isPair ev hz1).mono (by decide)) ?_
  show EX w0 ev 2 m_LW_lamp 9 [(0, .ref 0), (1, .int (p1)), (2, .int (p2)), (3, .int (p3))] [.int (z1.1)] (z1.2.1) (z1.2.2) (oI o)
  rcases ite_some h with ⟨c2, h⟩ | ⟨c2, h⟩
  · refine EX.go (i := .ifCond .eq 14) (len := 3) (pc1 := 23) (st1 := []) (hi1 := z1.2.1) (hl1 := z1.2.2) rfl ?_ (fun _ _ _ => if_pos c2)
    refine EX.iconst (v := (-1)) rfl rfl ?_
    obtain rfl := Option.some.inj h
    exact EX.iret rfl rfl
  · refine EX.go (i := .ifCond .eq 14) (len := 3) (pc1 := 12) (st1 := []) (hi1 := z1.2.1) (hl1 := z1.2.2) rfl ?_ (fun _ _ _ => if_neg c2)
    refine EX.iload_n (x := p3) rfl (List.mem_of_getElem? (i := 3) rfl) ?_
    refine EX.iconst (v := 1) rfl rfl ?_
    rcases ite_some h with ⟨c3, h⟩ | ⟨c3, h⟩
    · refine EX.go (i := .if_icmp .lt 9) (len := 3) (pc1 := 23) (st1 := []) (hi1 := z1.2.1) (hl1 := z1.2.2) rfl ?_ (fun _ _ _ => if_pos c3)
      refine EX.iconst (v := (-1)) rfl rfl ?_
      obtain rfl := Option.some.inj h
      exact EX.iret rfl rfl
    · refine EX.go (i := .if_icmp .lt 9) (len := 3) (pc1 := 17) (st1 := []) (hi1 := z1.2.1) (hl1 := z1.2.2) rfl ?_ (fun _ _ _ => if_neg c3)
      refine EX.iload_n (x := p3) rfl (List.mem_of_getElem? (i := 3) rfl) ?_
      refine EX.bipush (v := 9) rfl rfl ?_
      rcases ite_some h with ⟨c4, h⟩ | ⟨c4, h⟩
      · refine EX.go (i := .if_icmp .le 5) (len := 3) (pc1 := 25) (st1 := []) (hi1 := z1.2.1) (hl1 := z1.2.2) rfl ?_ (fun _ _ _ => if_pos c4)
        refine EX.aload_n (x := 0) rfl (List.mem_of_getElem? (i := 0) rfl) ?_
        refine EX.go (i := .getfield 12) (len := 3) (pc1 := 29) (st1 := [.ref 1]) (hi1 := z1.2.1) (hl1 := z1.2.2) rfl ?_ (fun _ _ _ => rfl)
        refine EX.iload_n (x := p1) rfl (List.mem_of_getElem? (i := 1) rfl) ?_
        refine EX.iload_n (x := p2) rfl (List.mem_of_getElem? (i := 2) rfl) ?_
        obtain ⟨z5, hz5, h⟩ := bnd_some h
        refine EX.callV (b := 1) (as := [.int (p1), .int (p2)]) (rest := []) (r := some (.int (z5.1))) (hi1 := z5.2.1) (hl1 := z5.2.2) rfl rfl rfl rfl rfl rfl ((b_Board_find ev hz5).mono (by decide)) ?_
        show EX w0 ev 2 m_LW_lamp 34 [(0, .ref 0), (1, .int (p1)), (2, .int (p2)), (3, .int (p3))] [.int (z5.1)] (z5.2.1) (z5.2.2) (oI o)
        refine EX.bipush (v := (-4)) rfl rfl ?_
        rcases ite_some h with ⟨c6, h⟩ | ⟨c6, h⟩
        · refine EX.go (i := .if_icmp .eq 6) (len := 3) (pc1 := 42) (st1 := []) (hi1 := z5.2.1) (hl1 := z5.2.2) rfl ?_ (fun _ _ _ => if_pos c6)
          refine EX.aload_n (x := 0) rfl (List.mem_of_getElem? (i := 0) rfl) ?_
          refine EX.go (i := .getfield 12) (len := 3) (pc1 := 46) (st1 := [.ref 1]) (hi1 := z5.2.1) (hl1 := z5.2.2) rfl ?_ (fun _ _ _ => rfl)
          refine EX.go (i := .getfield 115) (len := 3) (pc1 := 49) (st1 := [.int (z5.2.1 1 2)]) (hi1 := z5.2.1) (hl1 := z5.2.2) rfl ?_ (fun _ _ _ => rfl)
          refine EX.bipush (v := 16) rfl rfl ?_
          rcases ite_some h with ⟨c7, h⟩ | ⟨c7, h⟩
          · refine EX.go (i := .if_icmp .lt 6) (len := 3) (pc1 := 57) (st1 := []) (hi1 := z5.2.1) (hl1 := z5.2.2) rfl ?_ (fun _ _ _ => if_pos c7)
            refine EX.aload_n (x := 0) rfl (List.mem_of_getElem? (i := 0) rfl) ?_
            obtain ⟨z8, hz8, h⟩ := bnd_some h
            refine EX.callV (b := 0) (as := []) (rest := []) (r := none) (hi1 := z8.2.1) (hl1 := z8.2.2) rfl rfl rfl rfl rfl rfl ((b_LW_forgetGlow ev hz8).mono (by decide)) ?_
            show EX w0 ev 2 m_LW_lamp 61 [(0, .ref 0), (1, .int (p1)), (2, .int (p2)), (3, .int (p3))] [] (z8.2.1) (z8.2.2) (oI o)
            refine EX.aload_n (x := 0) rfl (List.mem_of_getElem? (i := 0) rfl) ?_
            refine EX.go (i := .getfield 76) (len := 3) (pc1 := 65) (st1 := [.ref 51]) (hi1 := z8.2.1) (hl1 := z8.2.2) rfl ?_ (fun _ _ _ => rfl)
            obtain ⟨z9, hz9, h⟩ := bnd_some h
            refine EX.callV (b := 51) (as := []) (rest := []) (r := none) (hi1 := z9.2.1) (hl1 := z9.2.2) rfl rfl rfl rfl rfl rfl ((b_Guesses_forget ev hz9).mono (by decide)) ?_
            show EX w0 ev 2 m_LW_lamp 68 [(0, .ref 0), (1, .int (p1)), (2, .int (p2)), (3, .int (p3))] [] (z9.2.1) (z9.2.2) (oI o)
            refine EX.aload_n (x := 0) rfl (List.mem_of_getElem? (i := 0) rfl) ?_
            refine EX.go (i := .getfield 12) (len := 3) (pc1 := 72) (st1 := [.ref 1]) (hi1 := z9.2.1) (hl1 := z9.2.2) rfl ?_ (fun _ _ _ => rfl)
            refine EX.iload_n (x := p1) rfl (List.mem_of_getElem? (i := 1) rfl) ?_
            refine EX.iload_n (x := p2) rfl (List.mem_of_getElem? (i := 2) rfl) ?_
            refine EX.iload_n (x := p3) rfl (List.mem_of_getElem? (i := 3) rfl) ?_
            obtain ⟨z10, hz10, h⟩ := bnd_some h
            refine EX.callV (b := 1) (as := [.int (p1), .int (p2), .int (p3)]) (rest := []) (r := some (.int (z10.1))) (hi1 := z10.2.1) (hl1 := z10.2.2) rfl rfl rfl rfl rfl rfl ((b_Board_add ev hz10).mono (by decide)) ?_
            show EX w0 ev 2 m_LW_lamp 78 [(0, .ref 0), (1, .int (p1)), (2, .int (p2)), (3, .int (p3))] [.int (z10.1)] (z10.2.1) (z10.2.2) (oI o)
            obtain rfl := Option.some.inj h
            exact EX.iret rfl rfl
          · refine EX.go (i := .if_icmp .lt 6) (len := 3) (pc1 := 54) (st1 := []) (hi1 := z5.2.1) (hl1 := z5.2.2) rfl ?_ (fun _ _ _ => if_neg c7)
            refine EX.bipush (v := (-3)) rfl rfl ?_
            obtain rfl := Option.some.inj h
            exact EX.iret rfl rfl
        · refine EX.go (i := .if_icmp .eq 6) (len := 3) (pc1 := 39) (st1 := []) (hi1 := z5.2.1) (hl1 := z5.2.2) rfl ?_ (fun _ _ _ => if_neg c6)
          refine EX.bipush (v := (-2)) rfl rfl ?_
          obtain rfl := Option.some.inj h
          exact EX.iret rfl rfl
      · refine EX.go (i := .if_icmp .le 5) (len := 3) (pc1 := 23) (st1 := []) (hi1 := z1.2.1) (hl1 := z1.2.2) rfl ?_ (fun _ _ _ => if_neg c4)
        refine EX.iconst (v := (-1)) rfl rfl ?_
        obtain rfl := Option.some.inj h
        exact EX.iret rfl rfl
def f_LW_lampOf (N : Nat) (p1 : Int32) (p2 : Int32) (hi : HI) (hl : HL) : Option (Int32 × HI × HL) :=
  (f_Board_isLamp N (p1) (hi) (hl)).bind fun z1 => if (z1.1 : Int32) = 0 then some ((-1), z1.2.1, z1.2.2) else if (p2 : Int32) = 0 then if (p1 : Int32) < 0 ∨ 16 ≤ Int32.toNatClampNeg (p1) then none else some (z1.2.1 2 (Int32.toNatClampNeg (p1)), z1.2.1, z1.2.2) else if (p2 : Int32) = 1 then if (p1 : Int32) < 0 ∨ 16 ≤ Int32.toNatClampNeg (p1) then none else some (z1.2.1 3 (Int32.toNatClampNeg (p1)), z1.2.1, z1.2.2) else if (p2 : Int32) = 2 then if (p1 : Int32) < 0 ∨ 16 ≤ Int32.toNatClampNeg (p1) then none else some (z1.2.1 4 (Int32.toNatClampNeg (p1)), z1.2.1, z1.2.2) else if (p2 : Int32) = 3 then if (p1 : Int32) < 0 ∨ 16 ≤ Int32.toNatClampNeg (p1) then none else some (z1.2.1 5 (Int32.toNatClampNeg (p1)), z1.2.1, z1.2.2) else if (p2 : Int32) = 4 then if (p1 : Int32) < 0 ∨ 16 ≤ Int32.toNatClampNeg (p1) then none else some (z1.2.1 6 (Int32.toNatClampNeg (p1)), z1.2.1, z1.2.2) else some ((-1), z1.2.1, z1.2.2)
set_option maxRecDepth 10000 in
set_option maxHeartbeats 4000000 in
theorem b_LW_lampOf (ev : EV) {N : Nat} {p1 : Int32} {p2 : Int32} {hi : HI} {hl : HL} {o : Int32 × HI × HL} (h : f_LW_lampOf N p1 p2 hi hl = some o) : EM w0 ev 2 m_LW_lampOf [.ref 0, .int (p1), .int (p2)] hi hl (oI o) := by
  unfold f_LW_lampOf at h
  refine EM.of rfl ?_
  show EX w0 ev 1 m_LW_lampOf 0 [(0, .ref 0), (1, .int (p1)), (2, .int (p2))] [] (hi) (hl) (oI o)
  refine EX.aload_n (x := 0) rfl (List.mem_of_getElem? (i := 0) rfl) ?_
  refine EX.go (i := .getfield 12) (len := 3) (pc1 := 4) (st1 := [.ref 1]) (hi1 := hi) (hl1 := hl) rfl ?_ (fun _ _ _ => rfl)
  refine EX.iload_n (x := p1) rfl (List.mem_of_getElem? (i := 1) rfl) ?_
  obtain ⟨z1, hz1, h⟩ := bnd_some h
  refine EX.callV (b := 1) (as := [.int (p1)]) (rest := []) (r := some (.int (z1.1))) (hi1 := z1.2.1) (hl1 := z1.2.2) rfl rfl rfl rfl rfl rfl ((b_Board_isLamp ev hz1).mono (by decide)) ?_
  show EX w0 ev 1 m_LW_lampOf 8 [(0, .ref 0), (1, .int (p1)), (2, .int (p2))] [.int (z1.1)] (z1.2.1) (z1.2.2) (oI o)
  rcases ite_some h with ⟨c2, h⟩ | ⟨c2, h⟩
  · refine EX.go (i := .ifCond .ne 5) (len := 3) (pc1 := 11) (st1 := []) (hi1 := z1.2.1) (hl1 := z1.2.2) rfl ?_ (fun _ _ _ => if_pos c2)
    refine EX.iconst (v := (-1)) rfl rfl ?_
    obtain rfl := Option.some.inj h
    exact EX.iret rfl rfl
  · refine EX.go (i := .ifCond .ne 5) (len := 3) (pc1 := 13) (st1 := []) (hi1 := z1.2.1) (hl1 := z1.2.2) rfl ?_ (fun _ _ _ => if_neg c2)
    refine EX.iload_n (x := p2) rfl (List.mem_of_getElem? (i := 2) rfl) ?_
    rcases ite_some h with ⟨c3, h⟩ | ⟨c3, h⟩
    · refine EX.tswI (x := p2) (k := 0) (pc1 := 48) rfl c3 (fun _ _ _ => rfl) ?_
      refine EX.aload_n (x := 0) rfl (List.mem_of_getElem? (i := 0) rfl) ?_
      refine EX.go (i := .getfield 12) (len := 3) (pc1 := 52) (st1 := [.ref 1]) (hi1 := z1.2.1) (hl1 := z1.2.2) rfl ?_ (fun _ _ _ => rfl)
      refine EX.go (i := .getfield 126) (len := 3) (pc1 := 55) (st1 := [.ref 2]) (hi1 := z1.2.1) (hl1 := z1.2.2) rfl ?_ (fun _ _ _ => rfl)
      refine EX.iload_n (x := p1) rfl (List.mem_of_getElem? (i := 1) rfl) ?_
      obtain ⟨g4, h⟩ := grd_some h
      refine EX.iaload rfl rfl g4 ?_
      obtain rfl := Option.some.inj h
      exact EX.iret rfl rfl
    · rcases ite_some h with ⟨c5, h⟩ | ⟨c5, h⟩
      · refine EX.tswI (x := p2) (k := 1) (pc1 := 58) rfl c5 (fun _ _ _ => rfl) ?_
        refine EX.aload_n (x := 0) rfl (List.mem_of_getElem? (i := 0) rfl) ?_
        refine EX.go (i := .getfield 12) (len := 3) (pc1 := 62) (st1 := [.ref 1]) (hi1 := z1.2.1) (hl1 := z1.2.2) rfl ?_ (fun _ _ _ => rfl)
        refine EX.go (i := .getfield 129) (len := 3) (pc1 := 65) (st1 := [.ref 3]) (hi1 := z1.2.1) (hl1 := z1.2.2) rfl ?_ (fun _ _ _ => rfl)
        refine EX.iload_n (x := p1) rfl (List.mem_of_getElem? (i := 1) rfl) ?_
        obtain ⟨g6, h⟩ := grd_some h
        refine EX.iaload rfl rfl g6 ?_
        obtain rfl := Option.some.inj h
        exact EX.iret rfl rfl
      · rcases ite_some h with ⟨c7, h⟩ | ⟨c7, h⟩
        · refine EX.tswI (x := p2) (k := 2) (pc1 := 68) rfl c7 (fun _ _ _ => rfl) ?_
          refine EX.aload_n (x := 0) rfl (List.mem_of_getElem? (i := 0) rfl) ?_
          refine EX.go (i := .getfield 12) (len := 3) (pc1 := 72) (st1 := [.ref 1]) (hi1 := z1.2.1) (hl1 := z1.2.2) rfl ?_ (fun _ _ _ => rfl)
          refine EX.go (i := .getfield 132) (len := 3) (pc1 := 75) (st1 := [.ref 4]) (hi1 := z1.2.1) (hl1 := z1.2.2) rfl ?_ (fun _ _ _ => rfl)
          refine EX.iload_n (x := p1) rfl (List.mem_of_getElem? (i := 1) rfl) ?_
          obtain ⟨g8, h⟩ := grd_some h
          refine EX.iaload rfl rfl g8 ?_
          obtain rfl := Option.some.inj h
          exact EX.iret rfl rfl
        · rcases ite_some h with ⟨c9, h⟩ | ⟨c9, h⟩
          · refine EX.tswI (x := p2) (k := 3) (pc1 := 78) rfl c9 (fun _ _ _ => rfl) ?_
            refine EX.aload_n (x := 0) rfl (List.mem_of_getElem? (i := 0) rfl) ?_
            refine EX.go (i := .getfield 12) (len := 3) (pc1 := 82) (st1 := [.ref 1]) (hi1 := z1.2.1) (hl1 := z1.2.2) rfl ?_ (fun _ _ _ => rfl)
            refine EX.go (i := .getfield 135) (len := 3) (pc1 := 85) (st1 := [.ref 5]) (hi1 := z1.2.1) (hl1 := z1.2.2) rfl ?_ (fun _ _ _ => rfl)
            refine EX.iload_n (x := p1) rfl (List.mem_of_getElem? (i := 1) rfl) ?_
            obtain ⟨g10, h⟩ := grd_some h
            refine EX.iaload rfl rfl g10 ?_
            obtain rfl := Option.some.inj h
            exact EX.iret rfl rfl
          · rcases ite_some h with ⟨c11, h⟩ | ⟨c11, h⟩
            · refine EX.tswI (x := p2) (k := 4) (pc1 := 88) rfl c11 (fun _ _ _ => rfl) ?_
              refine EX.aload_n (x := 0) rfl (List.mem_of_getElem? (i := 0) rfl) ?_
              refine EX.go (i := .getfield 12) (len := 3) (pc1 := 92) (st1 := [.ref 1]) (hi1 := z1.2.1) (hl1 := z1.2.2) rfl ?_ (fun _ _ _ => rfl)
              refine EX.go (i := .getfield 138) (len := 3) (pc1 := 95) (st1 := [.ref 6]) (hi1 := z1.2.1) (hl1 := z1.2.2) rfl ?_ (fun _ _ _ => rfl)
              refine EX.iload_n (x := p1) rfl (List.mem_of_getElem? (i := 1) rfl) ?_
              obtain ⟨g12, h⟩ := grd_some h
              refine EX.iaload rfl rfl g12 ?_
              obtain rfl := Option.some.inj h
              exact EX.iret rfl rfl
            · refine EX.tswO (x := p2) (pc1 := 98) rfl (by have e0 := lv_neT c3 (show (0 : Int32).toInt = 0 from rfl); have e1 := lv_neT c5 (show (1 : Int32).toInt = 1 from rfl); have e2 := lv_neT c7 (show (2 : Int32).toInt = 2 from rfl); have e3 := lv_neT c9 (show (3 : Int32).toInt = 3 from rfl); have e4 := lv_neT c11 (show (4 : Int32).toInt = 4 from rfl); omega) rfl rfl ?_
              refine EX.iconst (v := (-1)) rfl rfl ?_
              obtain rfl := Option.some.inj h
              exact EX.iret rfl rfl
def f_LW_hurt (N : Nat) (p1 : Int32) (p2 : Int32) (hi : HI) (hl : HL) : Option (Int32 × HI × HL) :=
  (f_Board_isLamp N (p1) (hi) (hl)).bind fun z1 => if (z1.1 : Int32) = 0 then some ((-1), z1.2.1, z1.2.2) else if (p2 : Int32) < 0 then some ((-1), z1.2.1, z1.2.2) else if (p2 : Int32) ≤ (2 : Int32) then if (p1 : Int32) < 0 ∨ 16 ≤ Int32.toNatClampNeg (p1) then none else if (p1 : Int32) < 0 ∨ 16 ≤ Int32.toNatClampNeg (p1) then none else (f_LW_forgetGlow N (wr (z1.2.1) 5 (Int32.toNatClampNeg (p1)) (p2)) (z1.2.2)).bind fun z7 => some (z1.2.1 5 (Int32.toNatClampNeg (p1)), z7.2.1, z7.2.2) else some ((-1), z1.2.1, z1.2.2)
set_option maxRecDepth 10000 in
set_option maxHeartbeats 4000000 in
theorem b_LW_hurt (ev : EV) {N : Nat} {p1 : Int32} {p2 : Int32} {hi : HI} {hl : HL} {o : Int32 × HI × HL} (h : f_LW_hurt N p1 p2 hi hl = some o) : EM w0 ev 3 m_LW_hurt [.ref 0, .int (p1), .int (p2)] hi hl (oI o) := by
  unfold f_LW_hurt at h
  refine EM.of rfl ?_
  show EX w0 ev 2 m_LW_hurt 0 [(0, .ref 0), (1, .int (p1)), (2, .int (p2))] [] (hi) (hl) (oI o)
  refine EX.aload_n (x := 0) rfl (List.mem_of_getElem? (i := 0) rfl) ?_
  refine EX.go (i := .getfield 12) (len := 3) (pc1 := 4) (st1 := [.ref 1]) (hi1 := hi) (hl1 := hl) rfl ?_ (fun _ _ _ => rfl)
  refine EX.iload_n (x := p1) rfl (List.mem_of_getElem? (i := 1) rfl) ?_
  obtain ⟨z1, hz1, h⟩ := bnd_some h
  refine EX.callV (b := 1) (as := [.int (p1)]) (rest := []) (r := some (.int (z1.1))) (hi1 := z1.2.1) (hl1 := z1.2.2) rfl rfl rfl rfl rfl rfl ((b_Board_isLamp ev hz1).mono (by decide)) ?_
  show EX w0 ev 2 m_LW_hurt 8 [(0, .ref 0), (1, .int (p1)), (2, .int (p2))] [.int (z1.1)] (z1.2.1) (z1.2.2) (oI o)
  rcases ite_some h with ⟨c2, h⟩ | ⟨c2, h⟩
  · refine EX.go (i := .ifCond .eq 12) (len := 3) (pc1 := 20) (st1 := []) (hi1 := z1.2.1) (hl1 := z1.2.2) rfl ?_ (fun _ _ _ => if_pos c2)
    refine EX.iconst (v := (-1)) rfl rfl ?_
    obtain rfl := Option.some.inj h
    exact EX.iret rfl rfl
  · refine EX.go (i := .ifCond .eq 12) (len := 3) (pc1 := 11) (st1 := []) (hi1 := z1.2.1) (hl1 := z1.2.2) rfl ?_ (fun _ _ _ => if_neg c2)
    refine EX.iload_n (x := p2) rfl (List.mem_of_getElem? (i := 2) rfl) ?_
    rcases ite_some h with ⟨c3, h⟩ | ⟨c3, h⟩
    · refine EX.go (i := .ifCond .lt 8) (len := 3) (pc1 := 20) (st1 := []) (hi1 := z1.2.1) (hl1 := z1.2.2) rfl ?_ (fun _ _ _ => if_pos c3)
      refine EX.iconst (v := (-1)) rfl rfl ?_
      obtain rfl := Option.some.inj h
      exact EX.iret rfl rfl
    · refine EX.go (i := .ifCond .lt 8) (len := 3) (pc1 := 15) (st1 := []) (hi1 := z1.2.1) (hl1 := z1.2.2) rfl ?_ (fun _ _ _ => if_neg c3)
      refine EX.iload_n (x := p2) rfl (List.mem_of_getElem? (i := 2) rfl) ?_
      refine EX.iconst (v := 2) rfl rfl ?_
      rcases ite_some h with ⟨c4, h⟩ | ⟨c4, h⟩
      · refine EX.go (i := .if_icmp .le 5) (len := 3) (pc1 := 22) (st1 := []) (hi1 := z1.2.1) (hl1 := z1.2.2) rfl ?_ (fun _ _ _ => if_pos c4)
        refine EX.aload_n (x := 0) rfl (List.mem_of_getElem? (i := 0) rfl) ?_
        refine EX.go (i := .getfield 12) (len := 3) (pc1 := 26) (st1 := [.ref 1]) (hi1 := z1.2.1) (hl1 := z1.2.2) rfl ?_ (fun _ _ _ => rfl)
        refine EX.go (i := .getfield 135) (len := 3) (pc1 := 29) (st1 := [.ref 5]) (hi1 := z1.2.1) (hl1 := z1.2.2) rfl ?_ (fun _ _ _ => rfl)
        refine EX.iload_n (x := p1) rfl (List.mem_of_getElem? (i := 1) rfl) ?_
        obtain ⟨g5, h⟩ := grd_some h
        refine EX.iaload rfl rfl g5 ?_
        refine EX.istore_n (req1 := [(3, .int (z1.2.1 5 (Int32.toNatClampNeg (p1)))), (0, .ref 0), (1, .int (p1)), (2, .int (p2))]) rfl rfl rfl ?_
        refine EX.aload_n (x := 0) rfl (List.mem_of_getElem? (i := 1) rfl) ?_
        refine EX.go (i := .getfield 12) (len := 3) (pc1 := 36) (st1 := [.ref 1]) (hi1 := z1.2.1) (hl1 := z1.2.2) rfl ?_ (fun _ _ _ => rfl)
        refine EX.go (i := .getfield 135) (len := 3) (pc1 := 39) (st1 := [.ref 5]) (hi1 := z1.2.1) (hl1 := z1.2.2) rfl ?_ (fun _ _ _ => rfl)
        refine EX.iload_n (x := p1) rfl (List.mem_of_getElem? (i := 2) rfl) ?_
        refine EX.iload_n (x := p2) rfl (List.mem_of_getElem? (i := 3) rfl) ?_
        obtain ⟨g6, h⟩ := grd_some h
        refine EX.iastore rfl rfl g6 ?_
        refine EX.aload_n (x := 0) rfl (List.mem_of_getElem? (i := 1) rfl) ?_
        obtain ⟨z7, hz7, h⟩ := bnd_some h
        refine EX.callV (b := 0) (as := []) (rest := []) (r := none) (hi1 := z7.2.1) (hl1 := z7.2.2) rfl rfl rfl rfl rfl rfl ((b_LW_forgetGlow ev hz7).mono (by decide)) ?_
        show EX w0 ev 2 m_LW_hurt 46 [(3, .int (z1.2.1 5 (Int32.toNatClampNeg (p1)))), (0, .ref 0), (1, .int (p1)), (2, .int (p2))] [] (z7.2.1) (z7.2.2) (oI o)
        refine EX.iload_n (x := z1.2.1 5 (Int32.toNatClampNeg (p1))) rfl (List.mem_of_getElem? (i := 0) rfl) ?_
        obtain rfl := Option.some.inj h
        exact EX.iret rfl rfl
      · refine EX.go (i := .if_icmp .le 5) (len := 3) (pc1 := 20) (st1 := []) (hi1 := z1.2.1) (hl1 := z1.2.2) rfl ?_ (fun _ _ _ => if_neg c4)
        refine EX.iconst (v := (-1)) rfl rfl ?_
        obtain rfl := Option.some.inj h
        exact EX.iret rfl rfl
def f_LW_between (N : Nat) (p1 : Int32) (p2 : Int32) (hi : HI) (hl : HL) : Option (Int32 × HI × HL) :=
  (f_Board_isPair N (p1) (p2) (hi) (hl)).bind fun z1 => if (z1.1 : Int32) = 0 then some ((-1), z1.2.1, z1.2.2) else (f_Board_find N (p1) (p2) (z1.2.1) (z1.2.2)).bind fun z3 => some (z3.1, z3.2.1, z3.2.2)
set_option maxRecDepth 10000 in
set_option maxHeartbeats 4000000 in
theorem b_LW_between (ev : EV) {N : Nat} {p1 : Int32} {p2 : Int32} {hi : HI} {hl : HL} {o : Int32 × HI × HL} (h : f_LW_between N p1 p2 hi hl = some o) : EM w0 ev 3 m_LW_between [.ref 0, .int (p1), .int (p2)] hi hl (oI o) := by
  unfold f_LW_between at h
  refine EM.of rfl ?_
  show EX w0 ev 2 m_LW_between 0 [(0, .ref 0), (1, .int (p1)), (2, .int (p2))] [] (hi) (hl) (oI o)
  refine EX.aload_n (x := 0) rfl (List.mem_of_getElem? (i := 0) rfl) ?_
  refine EX.go (i := .getfield 12) (len := 3) (pc1 := 4) (st1 := [.ref 1]) (hi1 := hi) (hl1 := hl) rfl ?_ (fun _ _ _ => rfl)
  refine EX.iload_n (x := p1) rfl (List.mem_of_getElem? (i := 1) rfl) ?_
  refine EX.iload_n (x := p2) rfl (List.mem_of_getElem? (i := 2) rfl) ?_
  obtain ⟨z1, hz1, h⟩ := bnd_some h
  refine EX.callV (b := 1) (as := [.int (p1), .int (p2)]) (rest := []) (r := some (.int (z1.1))) (hi1 := z1.2.1) (hl1 := z1.2.2) rfl rfl rfl rfl rfl rfl ((b_Board_isPair ev hz1).mono (by decide)) ?_
  show EX w0 ev 2 m_LW_between 9 [(0, .ref 0), (1, .int (p1)), (2, .int (p2))] [.int (z1.1)] (z1.2.1) (z1.2.2) (oI o)
  rcases ite_some h with ⟨c2, h⟩ | ⟨c2, h⟩
  · refine EX.go (i := .ifCond .ne 5) (len := 3) (pc1 := 12) (st1 := []) (hi1 := z1.2.1) (hl1 := z1.2.2) rfl ?_ (fun _ _ _ => if_pos c2)
    refine EX.iconst (v := (-1)) rfl rfl ?_
    obtain rfl := Option.some.inj h
    exact EX.iret rfl rfl
  · refine EX.go (i := .ifCond .ne 5) (len := 3) (pc1 := 14) (st1 := []) (hi1 := z1.2.1) (hl1 := z1.2.2) rfl ?_ (fun _ _ _ => if_neg c2)
    refine EX.aload_n (x := 0) rfl (List.mem_of_getElem? (i := 0) rfl) ?_
    refine EX.go (i := .getfield 12) (len := 3) (pc1 := 18) (st1 := [.ref 1]) (hi1 := z1.2.1) (hl1 := z1.2.2) rfl ?_ (fun _ _ _ => rfl)
    refine EX.iload_n (x := p1) rfl (List.mem_of_getElem? (i := 1) rfl) ?_
    refine EX.iload_n (x := p2) rfl (List.mem_of_getElem? (i := 2) rfl) ?_
    obtain ⟨z3, hz3, h⟩ := bnd_some h
    refine EX.callV (b := 1) (as := [.int (p1), .int (p2)]) (rest := []) (r := some (.int (z3.1))) (hi1 := z3.2.1) (hl1 := z3.2.2) rfl rfl rfl rfl rfl rfl ((b_Board_find ev hz3).mono (by decide)) ?_
    show EX w0 ev 2 m_LW_between 23 [(0, .ref 0), (1, .int (p1)), (2, .int (p2))] [.int (z3.1)] (z3.2.1) (z3.2.2) (oI o)
    obtain rfl := Option.some.inj h
    exact EX.iret rfl rfl
def f_LW_leastIn (N : Nat) (p1 : Int32) (hi : HI) (hl : HL) : Option (Int32 × HI × HL) :=
  if (hi 12 0 : Int32) = 0 then (f_Ways_load N (5) (hi) (hl)).bind fun z2 => (f_Ways_solve N (p1) (z2.2.1) (z2.2.2)).bind fun z3 => some (z3.2.1 7 0, z3.2.1, z3.2.2) else if (p1 : Int32) < 0 ∨ 729 ≤ Int32.toNatClampNeg (p1) then none else some (hi 14 (Int32.toNatClampNeg (p1)), hi, hl)
set_option maxRecDepth 10000 in
set_option maxHeartbeats 4000000 in
theorem b_LW_leastIn (ev : EV) {N : Nat} {p1 : Int32} {hi : HI} {hl : HL} {o : Int32 × HI × HL} (h : f_LW_leastIn N p1 hi hl = some o) : EM w0 ev 5 m_LW_leastIn [.ref 0, .int (p1)] hi hl (oI o) := by
  unfold f_LW_leastIn at h
  refine EM.of rfl ?_
  show EX w0 ev 4 m_LW_leastIn 0 [(0, .ref 0), (1, .int (p1))] [] (hi) (hl) (oI o)
  refine EX.aload_n (x := 0) rfl (List.mem_of_getElem? (i := 0) rfl) ?_
  refine EX.go (i := .getfield 26) (len := 3) (pc1 := 4) (st1 := [.ref 12]) (hi1 := hi) (hl1 := hl) rfl ?_ (fun _ _ _ => rfl)
  refine EX.go (i := .getfield 366) (len := 3) (pc1 := 7) (st1 := [.int (hi 12 0)]) (hi1 := hi) (hl1 := hl) rfl ?_ (fun _ _ _ => rfl)
  rcases ite_some h with ⟨c1, h⟩ | ⟨c1, h⟩
  · refine EX.go (i := .ifCond .eq 13) (len := 3) (pc1 := 20) (st1 := []) (hi1 := hi) (hl1 := hl) rfl ?_ (fun _ _ _ => if_pos c1)
    refine EX.aload_n (x := 0) rfl (List.mem_of_getElem? (i := 0) rfl) ?_
    refine EX.go (i := .getfield 19) (len := 3) (pc1 := 24) (st1 := [.ref 7]) (hi1 := hi) (hl1 := hl) rfl ?_ (fun _ _ _ => rfl)
    refine EX.aload_n (x := 0) rfl (List.mem_of_getElem? (i := 0) rfl) ?_
    refine EX.go (i := .getfield 12) (len := 3) (pc1 := 28) (st1 := [.ref 1, .ref 7]) (hi1 := hi) (hl1 := hl) rfl ?_ (fun _ _ _ => rfl)
    refine EX.aload_n (x := 0) rfl (List.mem_of_getElem? (i := 0) rfl) ?_
    refine EX.go (i := .getfield 12) (len := 3) (pc1 := 32) (st1 := [.ref 1, .ref 1, .ref 7]) (hi1 := hi) (hl1 := hl) rfl ?_ (fun _ _ _ => rfl)
    refine EX.go (i := .getfield 135) (len := 3) (pc1 := 35) (st1 := [.ref 5, .ref 1, .ref 7]) (hi1 := hi) (hl1 := hl) rfl ?_ (fun _ _ _ => rfl)
    obtain ⟨z2, hz2, h⟩ := bnd_some h
    refine EX.callV (b := 7) (as := [.ref 1, .ref 5]) (rest := []) (r := none) (hi1 := z2.2.1) (hl1 := z2.2.2) rfl rfl rfl rfl rfl rfl ((b_Ways_load ev hz2).mono (by decide)) ?_
    show EX w0 ev 4 m_LW_leastIn 38 [(0, .ref 0), (1, .int (p1))] [] (z2.2.1) (z2.2.2) (oI o)
    refine EX.aload_n (x := 0) rfl (List.mem_of_getElem? (i := 0) rfl) ?_
    refine EX.go (i := .getfield 19) (len := 3) (pc1 := 42) (st1 := [.ref 7]) (hi1 := z2.2.1) (hl1 := z2.2.2) rfl ?_ (fun _ _ _ => rfl)
    refine EX.iload_n (x := p1) rfl (List.mem_of_getElem? (i := 1) rfl) ?_
    obtain ⟨z3, hz3, h⟩ := bnd_some h
    refine EX.callV (b := 7) (as := [.int (p1)]) (rest := []) (r := none) (hi1 := z3.2.1) (hl1 := z3.2.2) rfl rfl rfl rfl rfl rfl ((b_Ways_solve ev hz3).mono (by decide)) ?_
    show EX w0 ev 4 m_LW_leastIn 46 [(0, .ref 0), (1, .int (p1))] [] (z3.2.1) (z3.2.2) (oI o)
    refine EX.aload_n (x := 0) rfl (List.mem_of_getElem? (i := 0) rfl) ?_
    refine EX.go (i := .getfield 19) (len := 3) (pc1 := 50) (st1 := [.ref 7]) (hi1 := z3.2.1) (hl1 := z3.2.2) rfl ?_ (fun _ _ _ => rfl)
    refine EX.go (i := .getfield 384) (len := 3) (pc1 := 53) (st1 := [.int (z3.2.1 7 0)]) (hi1 := z3.2.1) (hl1 := z3.2.2) rfl ?_ (fun _ _ _ => rfl)
    obtain rfl := Option.some.inj h
    exact EX.iret rfl rfl
  · refine EX.go (i := .ifCond .eq 13) (len := 3) (pc1 := 10) (st1 := []) (hi1 := hi) (hl1 := hl) rfl ?_ (fun _ _ _ => if_neg c1)
    refine EX.aload_n (x := 0) rfl (List.mem_of_getElem? (i := 0) rfl) ?_
    refine EX.go (i := .getfield 26) (len := 3) (pc1 := 14) (st1 := [.ref 12]) (hi1 := hi) (hl1 := hl) rfl ?_ (fun _ _ _ => rfl)
    refine EX.go (i := .getfield 380) (len := 3) (pc1 := 17) (st1 := [.ref 14]) (hi1 := hi) (hl1 := hl) rfl ?_ (fun _ _ _ => rfl)
    refine EX.iload_n (x := p1) rfl (List.mem_of_getElem? (i := 1) rfl) ?_
    obtain ⟨g4, h⟩ := grd_some h
    refine EX.baload rfl rfl g4 ?_
    obtain rfl := Option.some.inj h
    exact EX.iret rfl rfl
def f_LW_lampsIn (N : Nat) (p1 : Int32) (hi : HI) (hl : HL) : Option (Int32 × HI × HL) :=
  if (hi 12 0 : Int32) = 0 then (f_Ways_load N (5) (hi) (hl)).bind fun z2 => (f_Ways_solve N (p1) (z2.2.1) (z2.2.2)).bind fun z3 => some (z3.2.1 7 1, z3.2.1, z3.2.2) else if (p1 : Int32) < 0 ∨ 729 ≤ Int32.toNatClampNeg (p1) then none else some (hi 13 (Int32.toNatClampNeg (p1)), hi, hl)
set_option maxRecDepth 10000 in
set_option maxHeartbeats 4000000 in
theorem b_LW_lampsIn (ev : EV) {N : Nat} {p1 : Int32} {hi : HI} {hl : HL} {o : Int32 × HI × HL} (h : f_LW_lampsIn N p1 hi hl = some o) : EM w0 ev 5 m_LW_lampsIn [.ref 0, .int (p1)] hi hl (oI o) := by
  unfold f_LW_lampsIn at h
  refine EM.of rfl ?_
  show EX w0 ev 4 m_LW_lampsIn 0 [(0, .ref 0), (1, .int (p1))] [] (hi) (hl) (oI o)
  refine EX.aload_n (x := 0) rfl (List.mem_of_getElem? (i := 0) rfl) ?_
  refine EX.go (i := .getfield 26) (len := 3) (pc1 := 4) (st1 := [.ref 12]) (hi1 := hi) (hl1 := hl) rfl ?_ (fun _ _ _ => rfl)
  refine EX.go (i := .getfield 366) (len := 3) (pc1 := 7) (st1 := [.int (hi 12 0)]) (hi1 := hi) (hl1 := hl) rfl ?_ (fun _ _ _ => rfl)
  rcases ite_some h with ⟨c1, h⟩ | ⟨c1, h⟩
  · refine EX.go (i := .ifCond .eq 13) (len := 3) (pc1 := 20) (st1 := []) (hi1 := hi) (hl1 := hl) rfl ?_ (fun _ _ _ => if_pos c1)
    refine EX.aload_n (x := 0) rfl (List.mem_of_getElem? (i := 0) rfl) ?_
    refine EX.go (i := .getfield 19) (len := 3) (pc1 := 24) (st1 := [.ref 7]) (hi1 := hi) (hl1 := hl) rfl ?_ (fun _ _ _ => rfl)
    refine EX.aload_n (x := 0) rfl (List.mem_of_getElem? (i := 0) rfl) ?_
    refine EX.go (i := .getfield 12) (len := 3) (pc1 := 28) (st1 := [.ref 1, .ref 7]) (hi1 := hi) (hl1 := hl) rfl ?_ (fun _ _ _ => rfl)
    refine EX.aload_n (x := 0) rfl (List.mem_of_getElem? (i := 0) rfl) ?_
    refine EX.go (i := .getfield 12) (len := 3) (pc1 := 32) (st1 := [.ref 1, .ref 1, .ref 7]) (hi1 := hi) (hl1 := hl) rfl ?_ (fun _ _ _ => rfl)
    refine EX.go (i := .getfield 135) (len := 3) (pc1 := 35) (st1 := [.ref 5, .ref 1, .ref 7]) (hi1 := hi) (hl1 := hl) rfl ?_ (fun _ _ _ => rfl)
    obtain ⟨z2, hz2, h⟩ := bnd_some h
    refine EX.callV (b := 7) (as := [.ref 1, .ref 5]) (rest := []) (r := none) (hi1 := z2.2.1) (hl1 := z2.2.2) rfl rfl rfl rfl rfl rfl ((b_Ways_load ev hz2).mono (by decide)) ?_
    show EX w0 ev 4 m_LW_lampsIn 38 [(0, .ref 0), (1, .int (p1))] [] (z2.2.1) (z2.2.2) (oI o)
    refine EX.aload_n (x := 0) rfl (List.mem_of_getElem? (i := 0) rfl) ?_
    refine EX.go (i := .getfield 19) (len := 3) (pc1 := 42) (st1 := [.ref 7]) (hi1 := z2.2.1) (hl1 := z2.2.2) rfl ?_ (fun _ _ _ => rfl)
    refine EX.iload_n (x := p1) rfl (List.mem_of_getElem? (i := 1) rfl) ?_
    obtain ⟨z3, hz3, h⟩ := bnd_some h
    refine EX.callV (b := 7) (as := [.int (p1)]) (rest := []) (r := none) (hi1 := z3.2.1) (hl1 := z3.2.2) rfl rfl rfl rfl rfl rfl ((b_Ways_solve ev hz3).mono (by decide)) ?_
    show EX w0 ev 4 m_LW_lampsIn 46 [(0, .ref 0), (1, .int (p1))] [] (z3.2.1) (z3.2.2) (oI o)
    refine EX.aload_n (x := 0) rfl (List.mem_of_getElem? (i := 0) rfl) ?_
    refine EX.go (i := .getfield 19) (len := 3) (pc1 := 50) (st1 := [.ref 7]) (hi1 := z3.2.1) (hl1 := z3.2.2) rfl ?_ (fun _ _ _ => rfl)
    refine EX.go (i := .getfield 323) (len := 3) (pc1 := 53) (st1 := [.int (z3.2.1 7 1)]) (hi1 := z3.2.1) (hl1 := z3.2.2) rfl ?_ (fun _ _ _ => rfl)
    obtain rfl := Option.some.inj h
    exact EX.iret rfl rfl
  · refine EX.go (i := .ifCond .eq 13) (len := 3) (pc1 := 10) (st1 := []) (hi1 := hi) (hl1 := hl) rfl ?_ (fun _ _ _ => if_neg c1)
    refine EX.aload_n (x := 0) rfl (List.mem_of_getElem? (i := 0) rfl) ?_
    refine EX.go (i := .getfield 26) (len := 3) (pc1 := 14) (st1 := [.ref 12]) (hi1 := hi) (hl1 := hl) rfl ?_ (fun _ _ _ => rfl)
    refine EX.go (i := .getfield 374) (len := 3) (pc1 := 17) (st1 := [.ref 13]) (hi1 := hi) (hl1 := hl) rfl ?_ (fun _ _ _ => rfl)
    refine EX.iload_n (x := p1) rfl (List.mem_of_getElem? (i := 1) rfl) ?_
    obtain ⟨g4, h⟩ := grd_some h
    refine EX.iaload rfl rfl g4 ?_
    obtain rfl := Option.some.inj h
    exact EX.iret rfl rfl
def f_LW_glow (N : Nat) (p1 : Int32) (p2 : Int32) (hi : HI) (hl : HL) : Option (Int32 × HI × HL) :=
  (f_Board_isTurn N (p1) (hi) (hl)).bind fun z1 => if (z1.1 : Int32) = 0 then some ((-1), z1.2.1, z1.2.2) else if (p2 : Int32) < 0 then some ((-1), z1.2.1, z1.2.2) else if (p2 : Int32) ≤ (2 : Int32) then if (p2 : Int32) = (1 : Int32) then (f_LW_leastIn N (p1) (z1.2.1) (z1.2.2)).bind fun z6 => some (z6.1, z6.2.1, z6.2.2) else (f_LW_lampsIn N (p1) (z1.2.1) (z1.2.2)).bind fun z7 => if (p2 : Int32) = 0 then some (z7.1, z7.2.1, z7.2.2) else (f_Integer_bitCount N (z7.1) (z7.2.1) (z7.2.2)).bind fun z9 => some (z9.1, z9.2.1, z9.2.2) else some ((-1), z1.2.1, z1.2.2)
set_option maxRecDepth 10000 in
set_option maxHeartbeats 4000000 in
theorem b_LW_glow (ev : EV) {N : Nat} {p1 : Int32} {p2 : Int32} {hi : HI} {hl : HL} {o : Int32 × HI × HL} (h : f_LW_glow N p1 p2 hi hl = some o) : EM w0 ev 6 m_LW_glow [.ref 0, .int (p1), .int (p2)] hi hl (oI o) := by
  unfold f_LW_glow at h
  refine EM.of rfl ?_
  show EX w0 ev 5 m_LW_glow 0 [(0, .ref 0), (1, .int (p1)), (2, .int (p2))] [] (hi) (hl) (oI o)
  refine EX.aload_n (x := 0) rfl (List.mem_of_getElem? (i := 0) rfl) ?_
  refine EX.go (i := .getfield 12) (len := 3) (pc1 := 4) (st1 := [.ref 1]) (hi1 := hi) (hl1 := hl) rfl ?_ (fun _ _ _ => rfl)
  refine EX.iload_n (x := p1) rfl (List.mem_of_getElem? (i := 1) rfl) ?_
  obtain ⟨z1, hz1, h⟩ := bnd_some h
  refine EX.callV (b := 1) (as := [.int (p1)]) (rest := []) (r := some (.int (z1.1))) (hi1 := z1.2.1) (hl1 := z1.2.2) rfl rfl rfl rfl rfl rfl ((b_Board_isTurn ev hz1).mono (by decide)) ?_
  show EX w0 ev 5 m_LW_glow 8 [(0, .ref 0), (1, .int (p1)), (2, .int (p2))] [.int (z1.1)] (z1.2.1) (z1.2.2) (oI o)
  rcases ite_some h with ⟨c2, h⟩ | ⟨c2, h⟩
  · refine EX.go (i := .ifCond .eq 12) (len := 3) (pc1 := 20) (st1 := []) (hi1 := z1.2.1) (hl1 := z1.2.2) rfl ?_ (fun _ _ _ => if_pos c2)
    refine EX.iconst (v := (-1)) rfl rfl ?_
    obtain rfl := Option.some.inj h
    exact EX.iret rfl rfl
  · refine EX.go (i := .ifCond .eq 12) (len := 3) (pc1 := 11) (st1 := []) (hi1 := z1.2.1) (hl1 := z1.2.2) rfl ?_ (fun _ _ _ => if_neg c2)
    refine EX.iload_n (x := p2) rfl (List.mem_of_getElem? (i := 2) rfl) ?_
    rcases ite_some h with ⟨c3, h⟩ | ⟨c3, h⟩
    · refine EX.go (i := .ifCond .lt 8) (len := 3) (pc1 := 20) (st1 := []) (hi1 := z1.2.1) (hl1 := z1.2.2) rfl ?_ (fun _ _ _ => if_pos c3)
      refine EX.iconst (v := (-1)) rfl rfl ?_
      obtain rfl := Option.some.inj h
      exact EX.iret rfl rfl
    · refine EX.go (i := .ifCond .lt 8) (len := 3) (pc1 := 15) (st1 := []) (hi1 := z1.2.1) (hl1 := z1.2.2) rfl ?_ (fun _ _ _ => if_neg c3)
      refine EX.iload_n (x := p2) rfl (List.mem_of_getElem? (i := 2) rfl) ?_
      refine EX.iconst (v := 2) rfl rfl ?_
      rcases ite_some h with ⟨c4, h⟩ | ⟨c4, h⟩
      · refine EX.go (i := .if_icmp .le 5) (len := 3) (pc1 := 22) (st1 := []) (hi1 := z1.2.1) (hl1 := z1.2.2) rfl ?_ (fun _ _ _ => if_pos c4)
        refine EX.iload_n (x := p2) rfl (List.mem_of_getElem? (i := 2) rfl) ?_
        refine EX.iconst (v := 1) rfl rfl ?_
        rcases ite_some h with ⟨c5, h⟩ | ⟨c5, h⟩
        · refine EX.go (i := .if_icmp .ne 9) (len := 3) (pc1 := 27) (st1 := []) (hi1 := z1.2.1) (hl1 := z1.2.2) rfl ?_ (fun _ _ _ => if_pos c5)
          refine EX.aload_n (x := 0) rfl (List.mem_of_getElem? (i := 0) rfl) ?_
          refine EX.iload_n (x := p1) rfl (List.mem_of_getElem? (i := 1) rfl) ?_
          obtain ⟨z6, hz6, h⟩ := bnd_some h
          refine EX.callV (b := 0) (as := [.int (p1)]) (rest := []) (r := some (.int (z6.1))) (hi1 := z6.2.1) (hl1 := z6.2.2) rfl rfl rfl rfl rfl rfl ((b_LW_leastIn ev hz6).mono (by decide)) ?_
          show EX w0 ev 5 m_LW_glow 32 [(0, .ref 0), (1, .int (p1)), (2, .int (p2))] [.int (z6.1)] (z6.2.1) (z6.2.2) (oI o)
          obtain rfl := Option.some.inj h
          exact EX.iret rfl rfl
        · refine EX.go (i := .if_icmp .ne 9) (len := 3) (pc1 := 33) (st1 := []) (hi1 := z1.2.1) (hl1 := z1.2.2) rfl ?_ (fun _ _ _ => if_neg c5)
          refine EX.aload_n (x := 0) rfl (List.mem_of_getElem? (i := 0) rfl) ?_
          refine EX.iload_n (x := p1) rfl (List.mem_of_getElem? (i := 1) rfl) ?_
          obtain ⟨z7, hz7, h⟩ := bnd_some h
          refine EX.callV (b := 0) (as := [.int (p1)]) (rest := []) (r := some (.int (z7.1))) (hi1 := z7.2.1) (hl1 := z7.2.2) rfl rfl rfl rfl rfl rfl ((b_LW_lampsIn ev hz7).mono (by decide)) ?_
          show EX w0 ev 5 m_LW_glow 38 [(0, .ref 0), (1, .int (p1)), (2, .int (p2))] [.int (z7.1)] (z7.2.1) (z7.2.2) (oI o)
          refine EX.istore_n (req1 := [(3, .int (z7.1)), (0, .ref 0), (1, .int (p1)), (2, .int (p2))]) rfl rfl rfl ?_
          refine EX.iload_n (x := p2) rfl (List.mem_of_getElem? (i := 3) rfl) ?_
          rcases ite_some h with ⟨c8, h⟩ | ⟨c8, h⟩
          · refine EX.go (i := .ifCond .ne 7) (len := 3) (pc1 := 43) (st1 := []) (hi1 := z7.2.1) (hl1 := z7.2.2) rfl ?_ (fun _ _ _ => if_pos c8)
            refine EX.iload_n (x := z7.1) rfl (List.mem_of_getElem? (i := 0) rfl) ?_
            refine EX.go (i := .goto 7) (len := 3) (pc1 := 51) (st1 := [.int (z7.1)]) (hi1 := z7.2.1) (hl1 := z7.2.2) rfl ?_ (fun _ _ _ => rfl)
            obtain rfl := Option.some.inj h
            exact EX.iret rfl rfl
          · refine EX.go (i := .ifCond .ne 7) (len := 3) (pc1 := 47) (st1 := []) (hi1 := z7.2.1) (hl1 := z7.2.2) rfl ?_ (fun _ _ _ => if_neg c8)
            refine EX.iload_n (x := z7.1) rfl (List.mem_of_getElem? (i := 0) rfl) ?_
            obtain ⟨z9, hz9, h⟩ := bnd_some h
            refine EX.callS (as := [.int (z7.1)]) (rest := []) (r := some (.int (z9.1))) (hi1 := z9.2.1) (hl1 := z9.2.2) rfl rfl rfl rfl rfl rfl ((b_Integer_bitCount ev hz9).mono (by decide)) ?_
            show EX w0 ev 5 m_LW_glow 51 [(3, .int (z7.1)), (0, .ref 0), (1, .int (p1)), (2, .int (p2))] [.int (z9.1)] (z9.2.1) (z9.2.2) (oI o)
            obtain rfl := Option.some.inj h
            exact EX.iret rfl rfl
      · refine EX.go (i := .if_icmp .le 5) (len := 3) (pc1 := 20) (st1 := []) (hi1 := z1.2.1) (hl1 := z1.2.2) rfl ?_ (fun _ _ _ => if_neg c4)
        refine EX.iconst (v := (-1)) rfl rfl ?_
        obtain rfl := Option.some.inj h
        exact EX.iret rfl rfl
def f_LW_fillTable (N : Nat) (hi : HI) (hl : HL) : Option (Unit × HI × HL) :=
  if (hi 12 0 : Int32) = 0 then (f_TurnTable_fill N (hi) (hl)).bind fun z2 => some ((), z2.2.1, z2.2.2) else some ((), hi, hl)
set_option maxRecDepth 10000 in
set_option maxHeartbeats 4000000 in
theorem b_LW_fillTable (ev : EV) {N : Nat} {hi : HI} {hl : HL} {o : Unit × HI × HL} (h : f_LW_fillTable N hi hl = some o) : EM w0 ev 5 m_LW_fillTable [.ref 0] hi hl (oV o) := by
  unfold f_LW_fillTable at h
  refine EM.of rfl ?_
  show EX w0 ev 4 m_LW_fillTable 0 [(0, .ref 0)] [] (hi) (hl) (oV o)
  refine EX.aload_n (x := 0) rfl (List.mem_of_getElem? (i := 0) rfl) ?_
  refine EX.go (i := .getfield 26) (len := 3) (pc1 := 4) (st1 := [.ref 12]) (hi1 := hi) (hl1 := hl) rfl ?_ (fun _ _ _ => rfl)
  refine EX.go (i := .getfield 366) (len := 3) (pc1 := 7) (st1 := [.int (hi 12 0)]) (hi1 := hi) (hl1 := hl) rfl ?_ (fun _ _ _ => rfl)
  rcases ite_some h with ⟨c1, h⟩ | ⟨c1, h⟩
  · refine EX.go (i := .ifCond .ne 22) (len := 3) (pc1 := 10) (st1 := []) (hi1 := hi) (hl1 := hl) rfl ?_ (fun _ _ _ => if_pos c1)
    refine EX.aload_n (x := 0) rfl (List.mem_of_getElem? (i := 0) rfl) ?_
    refine EX.go (i := .getfield 26) (len := 3) (pc1 := 14) (st1 := [.ref 12]) (hi1 := hi) (hl1 := hl) rfl ?_ (fun _ _ _ => rfl)
    refine EX.aload_n (x := 0) rfl (List.mem_of_getElem? (i := 0) rfl) ?_
    refine EX.go (i := .getfield 12) (len := 3) (pc1 := 18) (st1 := [.ref 1, .ref 12]) (hi1 := hi) (hl1 := hl) rfl ?_ (fun _ _ _ => rfl)
    refine EX.aload_n (x := 0) rfl (List.mem_of_getElem? (i := 0) rfl) ?_
    refine EX.go (i := .getfield 19) (len := 3) (pc1 := 22) (st1 := [.ref 7, .ref 1, .ref 12]) (hi1 := hi) (hl1 := hl) rfl ?_ (fun _ _ _ => rfl)
    refine EX.aload_n (x := 0) rfl (List.mem_of_getElem? (i := 0) rfl) ?_
    refine EX.go (i := .getfield 51) (len := 3) (pc1 := 26) (st1 := [.ref 41, .ref 7, .ref 1, .ref 12]) (hi1 := hi) (hl1 := hl) rfl ?_ (fun _ _ _ => rfl)
    obtain ⟨z2, hz2, h⟩ := bnd_some h
    refine EX.callV (b := 12) (as := [.ref 1, .ref 7, .ref 41]) (rest := []) (r := none) (hi1 := z2.2.1) (hl1 := z2.2.2) rfl rfl rfl rfl rfl rfl ((b_TurnTable_fill ev hz2).mono (by decide)) ?_
    show EX w0 ev 4 m_LW_fillTable 29 [(0, .ref 0)] [] (z2.2.1) (z2.2.2) (oV o)
    obtain rfl := Option.some.inj h
    exact EX.vret rfl rfl
  · refine EX.go (i := .ifCond .ne 22) (len := 3) (pc1 := 29) (st1 := []) (hi1 := hi) (hl1 := hl) rfl ?_ (fun _ _ _ => if_neg c1)
    obtain rfl := Option.some.inj h
    exact EX.vret rfl rfl
def f_LW_turns (N : Nat) (p1 : Int32) (hi : HI) (hl : HL) : Option (Int32 × HI × HL) :=
  if (p1 : Int32) < 0 then some ((-1), hi, hl) else if (p1 : Int32) ≤ (3 : Int32) then (f_LW_fillTable N (hi) (hl)).bind fun z3 => if (p1 : Int32) = 0 then some (z3.2.1 12 3, z3.2.1, z3.2.2) else if (p1 : Int32) = 1 then some (z3.2.1 12 4, z3.2.1, z3.2.2) else if (p1 : Int32) = 2 then some (z3.2.1 12 5, z3.2.1, z3.2.2) else some (z3.2.1 12 6, z3.2.1, z3.2.2) else some ((-1), hi, hl)
set_option maxRecDepth 10000 in
set_option maxHeartbeats 4000000 in
theorem b_LW_turns (ev : EV) {N : Nat} {p1 : Int32} {hi : HI} {hl : HL} {o : Int32 × HI × HL} (h : f_LW_turns N p1 hi hl = some o) : EM w0 ev 6 m_LW_turns [.ref 0, .int (p1)] hi hl (oI o) := by
  unfold f_LW_turns at h
  refine EM.of rfl ?_
  show EX w0 ev 5 m_LW_turns 0 [(0, .ref 0), (1, .int (p1))] [] (hi) (hl) (oI o)
  refine EX.iload_n (x := p1) rfl (List.mem_of_getElem? (i := 1) rfl) ?_
  rcases ite_some h with ⟨c1, h⟩ | ⟨c1, h⟩
  · refine EX.go (i := .ifCond .lt 8) (len := 3) (pc1 := 9) (st1 := []) (hi1 := hi) (hl1 := hl) rfl ?_ (fun _ _ _ => if_pos c1)
    refine EX.iconst (v := (-1)) rfl rfl ?_
    obtain rfl := Option.some.inj h
    exact EX.iret rfl rfl
  · refine EX.go (i := .ifCond .lt 8) (len := 3) (pc1 := 4) (st1 := []) (hi1 := hi) (hl1 := hl) rfl ?_ (fun _ _ _ => if_neg c1)
    refine EX.iload_n (x := p1) rfl (List.mem_of_getElem? (i := 1) rfl) ?_
    refine EX.iconst (v := 3) rfl rfl ?_
    rcases ite_some h with ⟨c2, h⟩ | ⟨c2, h⟩
    · refine EX.go (i := .if_icmp .le 5) (len := 3) (pc1 := 11) (st1 := []) (hi1 := hi) (hl1 := hl) rfl ?_ (fun _ _ _ => if_pos c2)
      refine EX.aload_n (x := 0) rfl (List.mem_of_getElem? (i := 0) rfl) ?_
      obtain ⟨z3, hz3, h⟩ := bnd_some h
      refine EX.callV (b := 0) (as := []) (rest := []) (r := none) (hi1 := z3.2.1) (hl1 := z3.2.2) rfl rfl rfl rfl rfl rfl ((b_LW_fillTable ev hz3).mono (by decide)) ?_
      show EX w0 ev 5 m_LW_turns 15 [(0, .ref 0), (1, .int (p1))] [] (z3.2.1) (z3.2.2) (oI o)
      refine EX.iload_n (x := p1) rfl (List.mem_of_getElem? (i := 1) rfl) ?_
      rcases ite_some h with ⟨c4, h⟩ | ⟨c4, h⟩
      · refine EX.tswI (x := p1) (k := 0) (pc1 := 44) rfl c4 (fun _ _ _ => rfl) ?_
        refine EX.aload_n (x := 0) rfl (List.mem_of_getElem? (i := 0) rfl) ?_
        refine EX.go (i := .getfield 26) (len := 3) (pc1 := 48) (st1 := [.ref 12]) (hi1 := z3.2.1) (hl1 := z3.2.2) rfl ?_ (fun _ _ _ => rfl)
        refine EX.go (i := .getfield 159) (len := 3) (pc1 := 51) (st1 := [.int (z3.2.1 12 3)]) (hi1 := z3.2.1) (hl1 := z3.2.2) rfl ?_ (fun _ _ _ => rfl)
        obtain rfl := Option.some.inj h
        exact EX.iret rfl rfl
      · rcases ite_some h with ⟨c5, h⟩ | ⟨c5, h⟩
        · refine EX.tswI (x := p1) (k := 1) (pc1 := 52) rfl c5 (fun _ _ _ => rfl) ?_
          refine EX.aload_n (x := 0) rfl (List.mem_of_getElem? (i := 0) rfl) ?_
          refine EX.go (i := .getfield 26) (len := 3) (pc1 := 56) (st1 := [.ref 12]) (hi1 := z3.2.1) (hl1 := z3.2.2) rfl ?_ (fun _ _ _ => rfl)
          refine EX.go (i := .getfield 162) (len := 3) (pc1 := 59) (st1 := [.int (z3.2.1 12 4)]) (hi1 := z3.2.1) (hl1 := z3.2.2) rfl ?_ (fun _ _ _ => rfl)
          obtain rfl := Option.some.inj h
          exact EX.iret rfl rfl
        · rcases ite_some h with ⟨c6, h⟩ | ⟨c6, h⟩
          · refine EX.tswI (x := p1) (k := 2) (pc1 := 60) rfl c6 (fun _ _ _ => rfl) ?_
            refine EX.aload_n (x := 0) rfl (List.mem_of_getElem? (i := 0) rfl) ?_
            refine EX.go (i := .getfield 26) (len := 3) (pc1 := 64) (st1 := [.ref 12]) (hi1 := z3.2.1) (hl1 := z3.2.2) rfl ?_ (fun _ _ _ => rfl)
            refine EX.go (i := .getfield 165) (len := 3) (pc1 := 67) (st1 := [.int (z3.2.1 12 5)]) (hi1 := z3.2.1) (hl1 := z3.2.2) rfl ?_ (fun _ _ _ => rfl)
            obtain rfl := Option.some.inj h
            exact EX.iret rfl rfl
          · refine EX.tswO (x := p1) (pc1 := 68) rfl (by have e0 := lv_neT c4 (show (0 : Int32).toInt = 0 from rfl); have e1 := lv_neT c5 (show (1 : Int32).toInt = 1 from rfl); have e2 := lv_neT c6 (show (2 : Int32).toInt = 2 from rfl); omega) rfl rfl ?_
            refine EX.aload_n (x := 0) rfl (List.mem_of_getElem? (i := 0) rfl) ?_
            refine EX.go (i := .getfield 26) (len := 3) (pc1 := 72) (st1 := [.ref 12]) (hi1 := z3.2.1) (hl1 := z3.2.2) rfl ?_ (fun _ _ _ => rfl)
            refine EX.go (i := .getfield 168) (len := 3) (pc1 := 75) (st1 := [.int (z3.2.1 12 6)]) (hi1 := z3.2.1) (hl1 := z3.2.2) rfl ?_ (fun _ _ _ => rfl)
            obtain rfl := Option.some.inj h
            exact EX.iret rfl rfl
    · refine EX.go (i := .if_icmp .le 5) (len := 3) (pc1 := 9) (st1 := []) (hi1 := hi) (hl1 := hl) rfl ?_ (fun _ _ _ => if_neg c2)
      refine EX.iconst (v := (-1)) rfl rfl ?_
      obtain rfl := Option.some.inj h
      exact EX.iret rfl rfl
def f_LW_alone (N : Nat) (p1 : Int32) (hi : HI) (hl : HL) : Option (Int32 × HI × HL) :=
  (f_Board_isLamp N (p1) (hi) (hl)).bind fun z1 => if (z1.1 : Int32) = 0 then some ((-1), z1.2.1, z1.2.2) else (f_LW_fillTable N (z1.2.1) (z1.2.2)).bind fun z3 => (f_TurnTable_leastTurnOf N (((1 : Int32) <<< (p1 &&& 31))) (z3.2.1) (z3.2.2)).bind fun z4 => some (z4.1, z4.2.1, z4.2.2)
set_option maxRecDepth 10000 in
set_option maxHeartbeats 4000000 in
theorem b_LW_alone (ev : EV) {N : Nat} {p1 : Int32} {hi : HI} {hl : HL} {o : Int32 × HI × HL} (h : f_LW_alone N p1 hi hl = some o) : EM w0 ev 6 m_LW_alone [.ref 0, .int (p1)] hi hl (oI o) := by
  unfold f_LW_alone at h
  refine EM.of rfl ?_
  show EX w0 ev 5 m_LW_alone 0 [(0, .ref 0), (1, .int (p1))] [] (hi) (hl) (oI o)
  refine EX.aload_n (x := 0) rfl (List.mem_of_getElem? (i := 0) rfl) ?_
  refine EX.go (i := .getfield 12) (len := 3) (pc1 := 4) (st1 := [.ref 1]) (hi1 := hi) (hl1 := hl) rfl ?_ (fun _ _ _ => rfl)
  refine EX.iload_n (x := p1) rfl (List.mem_of_getElem? (i := 1) rfl) ?_
  obtain ⟨z1, hz1, h⟩ := bnd_some h
  refine EX.callV (b := 1) (as := [.int (p1)]) (rest := []) (r := some (.int (z1.1))) (hi1 := z1.2.1) (hl1 := z1.2.2) rfl rfl rfl rfl rfl rfl ((b_Board_isLamp ev hz1).mono (by decide)) ?_
  show EX w0 ev 5 m_LW_alone 8 [(0, .ref 0), (1, .int (p1))] [.int (z1.1)] (z1.2.1) (z1.2.2) (oI o)
  rcases ite_some h with ⟨c2, h⟩ | ⟨c2, h⟩
  · refine EX.go (i := .ifCond .ne 5) (len := 3) (pc1 := 11) (st1 := []) (hi1 := z1.2.1) (hl1 := z1.2.2) rfl ?_ (fun _ _ _ => if_pos c2)
    refine EX.iconst (v := (-1)) rfl rfl ?_
    obtain rfl := Option.some.inj h
    exact EX.iret rfl rfl
  · refine EX.go (i := .ifCond .ne 5) (len := 3) (pc1 := 13) (st1 := []) (hi1 := z1.2.1) (hl1 := z1.2.2) rfl ?_ (fun _ _ _ => if_neg c2)
    refine EX.aload_n (x := 0) rfl (List.mem_of_getElem? (i := 0) rfl) ?_
    obtain ⟨z3, hz3, h⟩ := bnd_some h
    refine EX.callV (b := 0) (as := []) (rest := []) (r := none) (hi1 := z3.2.1) (hl1 := z3.2.2) rfl rfl rfl rfl rfl rfl ((b_LW_fillTable ev hz3).mono (by decide)) ?_
    show EX w0 ev 5 m_LW_alone 17 [(0, .ref 0), (1, .int (p1))] [] (z3.2.1) (z3.2.2) (oI o)
    refine EX.aload_n (x := 0) rfl (List.mem_of_getElem? (i := 0) rfl) ?_
    refine EX.go (i := .getfield 26) (len := 3) (pc1 := 21) (st1 := [.ref 12]) (hi1 := z3.2.1) (hl1 := z3.2.2) rfl ?_ (fun _ _ _ => rfl)
    refine EX.iconst (v := 1) rfl rfl ?_
    refine EX.iload_n (x := p1) rfl (List.mem_of_getElem? (i := 1) rfl) ?_
    refine EX.go (i := .ishl) (len := 1) (pc1 := 24) (st1 := [.int (((1 : Int32) <<< (p1 &&& 31))), .ref 12]) (hi1 := z3.2.1) (hl1 := z3.2.2) rfl ?_ (fun _ _ _ => rfl)
    obtain ⟨z4, hz4, h⟩ := bnd_some h
    refine EX.callV (b := 12) (as := [.int (((1 : Int32) <<< (p1 &&& 31)))]) (rest := []) (r := some (.int (z4.1))) (hi1 := z4.2.1) (hl1 := z4.2.2) rfl rfl rfl rfl rfl rfl ((b_TurnTable_leastTurnOf ev hz4).mono (by decide)) ?_
    show EX w0 ev 5 m_LW_alone 27 [(0, .ref 0), (1, .int (p1))] [.int (z4.1)] (z4.2.1) (z4.2.2) (oI o)
    obtain rfl := Option.some.inj h
    exact EX.iret rfl rfl
def f_LW_astray (N : Nat) (p1 : Int32) (hi : HI) (hl : HL) : Option (Int32 × HI × HL) :=
  (f_Board_isLamp N (p1) (hi) (hl)).bind fun z1 => if (z1.1 : Int32) = 0 then some ((-1), z1.2.1, z1.2.2) else (f_LW_fillTable N (z1.2.1) (z1.2.2)).bind fun z3 => if (p1 : Int32) < 0 ∨ 16 ≤ Int32.toNatClampNeg (p1) then none else if (z3.2.1 2 (Int32.toNatClampNeg (p1)) : Int32) < 0 ∨ 7 ≤ Int32.toNatClampNeg (z3.2.1 2 (Int32.toNatClampNeg (p1))) then none else if (p1 : Int32) < 0 ∨ 16 ≤ Int32.toNatClampNeg (p1) then none else if (z3.2.1 3 (Int32.toNatClampNeg (p1)) : Int32) < 0 ∨ 7 ≤ Int32.toNatClampNeg (z3.2.1 3 (Int32.toNatClampNeg (p1))) then none else (f_TurnTable_leastTurnAstray N (p1) ((powT.getD (z3.2.1 2 (Int32.toNatClampNeg (p1))).toNatClampNeg 0)) ((powT.getD (z3.2.1 3 (Int32.toNatClampNeg (p1))).toNatClampNeg 0)) (z3.2.1) (z3.2.2)).bind fun z8 => some (z8.1, z8.2.1, z8.2.2)
set_option maxRecDepth 10000 in
set_option maxHeartbeats 4000000 in
theorem b_LW_astray (ev : EV) {N : Nat} {p1 : Int32} {hi : HI} {hl : HL} {o : Int32 × HI × HL} (h : f_LW_astray N p1 hi hl = some o) : EM w0 ev 6 m_LW_astray [.ref 0, .int (p1)] hi hl (oI o) := by
  unfold f_LW_astray at h
  refine EM.of rfl ?_
  show EX w0 ev 5 m_LW_astray 0 [(0, .ref 0), (1, .int (p1))] [] (hi) (hl) (oI o)
  refine EX.aload_n (x := 0) rfl (List.mem_of_getElem? (i := 0) rfl) ?_
  refine EX.go (i := .getfield 12) (len := 3) (pc1 := 4) (st1 := [.ref 1]) (hi1 := hi) (hl1 := hl) rfl ?_ (fun _ _ _ => rfl)
  refine EX.iload_n (x := p1) rfl (List.mem_of_getElem? (i := 1) rfl) ?_
  obtain ⟨z1, hz1, h⟩ := bnd_some h
  refine EX.callV (b := 1) (as := [.int (p1)]) (rest := []) (r := some (.int (z1.1))) (hi1 := z1.2.1) (hl1 := z1.2.2) rfl rfl rfl rfl rfl rfl ((b_Board_isLamp ev hz1).mono (by decide)) ?_
  show EX w0 ev 5 m_LW_astray 8 [(0, .ref 0), (1, .int (p1))] [.int (z1.1)] (z1.2.1) (z1.2.2) (oI o)
  rcases ite_some h with ⟨c2, h⟩ | ⟨c2, h⟩
  · refine EX.go (i := .ifCond .ne 5) (len := 3) (pc1 := 11) (st1 := []) (hi1 := z1.2.1) (hl1 := z1.2.2) rfl ?_ (fun _ _ _ => if_pos c2)
    refine EX.iconst (v := (-1)) rfl rfl ?_
    obtain rfl := Option.some.inj h
    exact EX.iret rfl rfl
  · refine EX.go (i := .ifCond .ne 5) (len := 3) (pc1 := 13) (st1 := []) (hi1 := z1.2.1) (hl1 := z1.2.2) rfl ?_ (fun _ _ _ => if_neg c2)
    refine EX.aload_n (x := 0) rfl (List.mem_of_getElem? (i := 0) rfl) ?_
    obtain ⟨z3, hz3, h⟩ := bnd_some h
    refine EX.callV (b := 0) (as := []) (rest := []) (r := none) (hi1 := z3.2.1) (hl1 := z3.2.2) rfl rfl rfl rfl rfl rfl ((b_LW_fillTable ev hz3).mono (by decide)) ?_
    show EX w0 ev 5 m_LW_astray 17 [(0, .ref 0), (1, .int (p1))] [] (z3.2.1) (z3.2.2) (oI o)
    refine EX.aload_n (x := 0) rfl (List.mem_of_getElem? (i := 0) rfl) ?_
    refine EX.go (i := .getfield 26) (len := 3) (pc1 := 21) (st1 := [.ref 12]) (hi1 := z3.2.1) (hl1 := z3.2.2) rfl ?_ (fun _ _ _ => rfl)
    refine EX.iload_n (x := p1) rfl (List.mem_of_getElem? (i := 1) rfl) ?_
    refine EX.go (i := .getstatic 174) (len := 3) (pc1 := 25) (st1 := [.ref 1000000, .int (p1), .ref 12]) (hi1 := z3.2.1) (hl1 := z3.2.2) rfl ?_ (fun _ _ _ => rfl)
    refine EX.aload_n (x := 0) rfl (List.mem_of_getElem? (i := 0) rfl) ?_
    refine EX.go (i := .getfield 12) (len := 3) (pc1 := 29) (st1 := [.ref 1, .ref 1000000, .int (p1), .ref 12]) (hi1 := z3.2.1) (hl1 := z3.2.2) rfl ?_ (fun _ _ _ => rfl)
    refine EX.go (i := .getfield 126) (len := 3) (pc1 := 32) (st1 := [.ref 2, .ref 1000000, .int (p1), .ref 12]) (hi1 := z3.2.1) (hl1 := z3.2.2) rfl ?_ (fun _ _ _ => rfl)
    refine EX.iload_n (x := p1) rfl (List.mem_of_getElem? (i := 1) rfl) ?_
    obtain ⟨g4, h⟩ := grd_some h
    refine EX.iaload rfl rfl g4 ?_
    obtain ⟨g5, h⟩ := grd_some h
    refine EX.ialoadR (v := .int ((powT.getD (z3.2.1 2 (Int32.toNatClampNeg (p1))).toNatClampNeg 0))) rfl rfl rfl g5 rfl ?_
    refine EX.go (i := .getstatic 174) (len := 3) (pc1 := 38) (st1 := [.ref 1000000, .int ((powT.getD (z3.2.1 2 (Int32.toNatClampNeg (p1))).toNatClampNeg 0)), .int (p1), .ref 12]) (hi1 := z3.2.1) (hl1 := z3.2.2) rfl ?_ (fun _ _ _ => rfl)
    refine EX.aload_n (x := 0) rfl (List.mem_of_getElem? (i := 0) rfl) ?_
    refine EX.go (i := .getfield 12) (len := 3) (pc1 := 42) (st1 := [.ref 1, .ref 1000000, .int ((powT.getD (z3.2.1 2 (Int32.toNatClampNeg (p1))).toNatClampNeg 0)), .int (p1), .ref 12]) (hi1 := z3.2.1) (hl1 := z3.2.2) rfl ?_ (fun _ _ _ => rfl)
    refine EX.go (i := .getfield 129) (len := 3) (pc1 := 45) (st1 := [.ref 3, .ref 1000000, .int ((powT.getD (z3.2.1 2 (Int32.toNatClampNeg (p1))).toNatClampNeg 0)), .int (p1), .ref 12]) (hi1 := z3.2.1) (hl1 := z3.2.2) rfl ?_ (fun _ _ _ => rfl)
    refine EX.iload_n (x := p1) rfl (List.mem_of_getElem? (i := 1) rfl) ?_
    obtain ⟨g6, h⟩ := grd_some h
    refine EX.iaload rfl rfl g6 ?_
    obtain ⟨g7, h⟩ := grd_some h
    refine EX.ialoadR (v := .int ((powT.getD (z3.2.1 3 (Int32.toNatClampNeg (p1))).toNatClampNeg 0))) rfl rfl rfl g7 rfl ?_
    obtain ⟨z8, hz8, h⟩ := bnd_some h
    refine EX.callV (b := 12) (as := [.int (p1), .int ((powT.getD (z3.2.1 2 (Int32.toNatClampNeg (p1))).toNatClampNeg 0)), .int ((powT.getD (z3.2.1 3 (Int32.toNatClampNeg (p1))).toNatClampNeg 0))]) (rest := []) (r := some (.int (z8.1))) (hi1 := z8.2.1) (hl1 := z8.2.2) rfl rfl rfl rfl rfl rfl ((b_TurnTable_leastTurnAstray ev hz8).mono (by decide)) ?_
    show EX w0 ev 5 m_LW_astray 51 [(0, .ref 0), (1, .int (p1))] [.int (z8.1)] (z8.2.1) (z8.2.2) (oI o)
    obtain rfl := Option.some.inj h
    exact EX.iret rfl rfl
def f_LW_frameOf (N : Nat) (p1 : Int32) (hi : HI) (hl : HL) : Option (Nat × HI × HL) :=
  (f_Frames_find N (p1) (hi) (hl)).bind fun z1 => if gF (z1.1) then if (z1.2.1 (z1.1) 0 : Int32) = 0 then (f_LW_fillTable N (z1.2.1) (z1.2.2)).bind fun z3 => (f_FrameFinder_fill N (z1.1) (p1) (z3.2.1) (z3.2.2)).bind fun z4 => if Nat.blt (z1.1) 1000000 = true then some (z1.1, z4.2.1, z4.2.2) else none else if Nat.blt (z1.1) 1000000 = true then some (z1.1, z1.2.1, z1.2.2) else none else none
set_option maxRecDepth 10000 in
set_option maxHeartbeats 4000000 in
theorem b_LW_frameOf (ev : EV) {N : Nat} {p1 : Int32} {hi : HI} {hl : HL} {o : Nat × HI × HL} (h : f_LW_frameOf N p1 hi hl = some o) : EM w0 ev 27 m_LW_frameOf [.ref 0, .int (p1)] hi hl (oR o) := by
  unfold f_LW_frameOf at h
  refine EM.of rfl ?_
  show EX w0 ev 26 m_LW_frameOf 0 [(0, .ref 0), (1, .int (p1))] [] (hi) (hl) (oR o)
  refine EX.aload_n (x := 0) rfl (List.mem_of_getElem? (i := 0) rfl) ?_
  refine EX.go (i := .getfield 33) (len := 3) (pc1 := 4) (st1 := [.ref 18]) (hi1 := hi) (hl1 := hl) rfl ?_ (fun _ _ _ => rfl)
  refine EX.iload_n (x := p1) rfl (List.mem_of_getElem? (i := 1) rfl) ?_
  obtain ⟨z1, hz1, h⟩ := bnd_some h
  refine EX.callV (b := 18) (as := [.int (p1)]) (rest := []) (r := some (.ref (z1.1))) (hi1 := z1.2.1) (hl1 := z1.2.2) rfl rfl rfl rfl rfl rfl ((b_Frames_find ev hz1).mono (by decide)) ?_
  show EX w0 ev 26 m_LW_frameOf 8 [(0, .ref 0), (1, .int (p1))] [.ref (z1.1)] (z1.2.1) (z1.2.2) (oR o)
  refine EX.astore_n (req1 := [(2, .ref (z1.1)), (0, .ref 0), (1, .int (p1))]) rfl rfl rfl ?_
  refine EX.aload_n (x := z1.1) rfl (List.mem_of_getElem? (i := 0) rfl) ?_
  obtain ⟨k_z1_1, h⟩ := grp_some h
  refine EX.getfieldV (v := .int (z1.2.1 (z1.1) 0)) rfl rfl k_z1_1.1 rfl rfl ?_
  rcases ite_some h with ⟨c2, h⟩ | ⟨c2, h⟩
  · refine EX.go (i := .ifCond .ne 24) (len := 3) (pc1 := 16) (st1 := []) (hi1 := z1.2.1) (hl1 := z1.2.2) rfl ?_ (fun _ _ _ => if_pos c2)
    refine EX.aload_n (x := 0) rfl (List.mem_of_getElem? (i := 1) rfl) ?_
    obtain ⟨z3, hz3, h⟩ := bnd_some h
    refine EX.callV (b := 0) (as := []) (rest := []) (r := none) (hi1 := z3.2.1) (hl1 := z3.2.2) rfl rfl rfl rfl rfl rfl ((b_LW_fillTable ev hz3).mono (by decide)) ?_
    show EX w0 ev 26 m_LW_frameOf 20 [(2, .ref (z1.1)), (0, .ref 0), (1, .int (p1))] [] (z3.2.1) (z3.2.2) (oR o)
    refine EX.aload_n (x := 0) rfl (List.mem_of_getElem? (i := 1) rfl) ?_
    refine EX.go (i := .getfield 40) (len := 3) (pc1 := 24) (st1 := [.ref 36]) (hi1 := z3.2.1) (hl1 := z3.2.2) rfl ?_ (fun _ _ _ => rfl)
    refine EX.aload_n (x := z1.1) rfl (List.mem_of_getElem? (i := 0) rfl) ?_
    refine EX.iload_n (x := p1) rfl (List.mem_of_getElem? (i := 2) rfl) ?_
    refine EX.aload_n (x := 0) rfl (List.mem_of_getElem? (i := 1) rfl) ?_
    refine EX.go (i := .getfield 26) (len := 3) (pc1 := 30) (st1 := [.ref 12, .int (p1), .ref (z1.1), .ref 36]) (hi1 := z3.2.1) (hl1 := z3.2.2) rfl ?_ (fun _ _ _ => rfl)
    refine EX.aload_n (x := 0) rfl (List.mem_of_getElem? (i := 1) rfl) ?_
    refine EX.go (i := .getfield 51) (len := 3) (pc1 := 34) (st1 := [.ref 41, .ref 12, .int (p1), .ref (z1.1), .ref 36]) (hi1 := z3.2.1) (hl1 := z3.2.2) rfl ?_ (fun _ _ _ => rfl)
    obtain ⟨z4, hz4, h⟩ := bnd_some h
    refine EX.callV (b := 36) (as := [.ref (z1.1), .int (p1), .ref 12, .ref 41]) (rest := []) (r := none) (hi1 := z4.2.1) (hl1 := z4.2.2) rfl rfl rfl rfl rfl rfl ((b_FrameFinder_fill ev hz4).mono (by decide)) ?_
    show EX w0 ev 26 m_LW_frameOf 37 [(2, .ref (z1.1)), (0, .ref 0), (1, .int (p1))] [] (z4.2.1) (z4.2.2) (oR o)
    refine EX.aload_n (x := z1.1) rfl (List.mem_of_getElem? (i := 0) rfl) ?_
    obtain ⟨g5, h⟩ := grp_some h
    obtain rfl := Option.some.inj h
    exact EX.aret rfl rfl g5
  · refine EX.go (i := .ifCond .ne 24) (len := 3) (pc1 := 37) (st1 := []) (hi1 := z1.2.1) (hl1 := z1.2.2) rfl ?_ (fun _ _ _ => if_neg c2)
    refine EX.aload_n (x := z1.1) rfl (List.mem_of_getElem? (i := 0) rfl) ?_
    obtain ⟨g6, h⟩ := grp_some h
    obtain rfl := Option.some.inj h
    exact EX.aret rfl rfl g6
def f_LW_frame (N : Nat) (p1 : Int32) (hi : HI) (hl : HL) : Option (Int32 × HI × HL) :=
  (f_Board_isPicture N (p1) (hi) (hl)).bind fun z1 => if (z1.1 : Int32) = 0 then some ((-1), z1.2.1, z1.2.2) else (f_LW_frameOf N (p1) (z1.2.1) (z1.2.2)).bind fun z3 => if gF (z3.1) then some (z3.2.1 (z3.1) 2, z3.2.1, z3.2.2) else none
set_option maxRecDepth 10000 in
set_option maxHeartbeats 4000000 in
theorem b_LW_frame (ev : EV) {N : Nat} {p1 : Int32} {hi : HI} {hl : HL} {o : Int32 × HI × HL} (h : f_LW_frame N p1 hi hl = some o) : EM w0 ev 28 m_LW_frame [.ref 0, .int (p1)] hi hl (oI o) := by
  unfold f_LW_frame at h
  refine EM.of rfl ?_
  show EX w0 ev 27 m_LW_frame 0 [(0, .ref 0), (1, .int (p1))] [] (hi) (hl) (oI o)
  refine EX.aload_n (x := 0) rfl (List.mem_of_getElem? (i := 0) rfl) ?_
  refine EX.go (i := .getfield 12) (len := 3) (pc1 := 4) (st1 := [.ref 1]) (hi1 := hi) (hl1 := hl) rfl ?_ (fun _ _ _ => rfl)
  refine EX.iload_n (x := p1) rfl (List.mem_of_getElem? (i := 1) rfl) ?_
  obtain ⟨z1, hz1, h⟩ := bnd_some h
  refine EX.callV (b := 1) (as := [.int (p1)]) (rest := []) (r := some (.int (z1.1))) (hi1 := z1.2.1) (hl1 := z1.2.2) rfl rfl rfl rfl rfl rfl ((b_Board_isPicture ev hz1).mono (by decide)) ?_
  show EX w0 ev 27 m_LW_frame 8 [(0, .ref 0), (1, .int (p1))] [.int (z1.1)] (z1.2.1) (z1.2.2) (oI o)
  rcases ite_some h with ⟨c2, h⟩ | ⟨c2, h⟩
  · refine EX.go (i := .ifCond .ne 5) (len := 3) (pc1 := 11) (st1 := []) (hi1 := z1.2.1) (hl1 := z1.2.2) rfl ?_ (fun _ _ _ => if_pos c2)
    refine EX.iconst (v := (-1)) rfl rfl ?_
    obtain rfl := Option.some.inj h
    exact EX.iret rfl rfl
  · refine EX.go (i := .ifCond .ne 5) (len := 3) (pc1 := 13) (st1 := []) (hi1 := z1.2.1) (hl1 := z1.2.2) rfl ?_ (fun _ _ _ => if_neg c2)
    refine EX.aload_n (x := 0) rfl (List.mem_of_getElem? (i := 0) rfl) ?_
    refine EX.iload_n (x := p1) rfl (List.mem_of_getElem? (i := 1) rfl) ?_
    obtain ⟨z3, hz3, h⟩ := bnd_some h
    refine EX.callV (b := 0) (as := [.int (p1)]) (rest := []) (r := some (.ref (z3.1))) (hi1 := z3.2.1) (hl1 := z3.2.2) rfl rfl rfl rfl rfl rfl ((b_LW_frameOf ev hz3).mono (by decide)) ?_
    show EX w0 ev 27 m_LW_frame 18 [(0, .ref 0), (1, .int (p1))] [.ref (z3.1)] (z3.2.1) (z3.2.2) (oI o)
    obtain ⟨k_z3_1, h⟩ := grp_some h
    refine EX.getfieldV (v := .int (z3.2.1 (z3.1) 2)) rfl rfl k_z3_1.1 rfl rfl ?_
    obtain rfl := Option.some.inj h
    exact EX.iret rfl rfl
def f_LW_frameTurn (N : Nat) (p1 : Int32) (p2 : Int32) (hi : HI) (hl : HL) : Option (Int32 × HI × HL) :=
  (f_Board_isPicture N (p1) (hi) (hl)).bind fun z1 => if (z1.1 : Int32) = 0 then some ((-1), z1.2.1, z1.2.2) else if 0 ≤ (p2 : Int32) then (f_LW_frameOf N (p1) (z1.2.1) (z1.2.2)).bind fun z4 => if gF (z4.1) then if (z4.2.1 (z4.1) 2 : Int32) ≤ (p2 : Int32) then some ((-4), z4.2.1, z4.2.2) else if (p2 : Int32) < 0 ∨ 16 ≤ Int32.toNatClampNeg (p2) then none else some (z4.2.1 (z4.1 + 1) (Int32.toNatClampNeg (p2)), z4.2.1, z4.2.2) else none else some ((-1), z1.2.1, z1.2.2)
set_option maxRecDepth 10000 in
set_option maxHeartbeats 4000000 in
theorem b_LW_frameTurn (ev : EV) {N : Nat} {p1 : Int32} {p2 : Int32} {hi : HI} {hl : HL} {o : Int32 × HI × HL} (h : f_LW_frameTurn N p1 p2 hi hl = some o) : EM w0 ev 28 m_LW_frameTurn [.ref 0, .int (p1), .int (p2)] hi hl (oI o) := by
  unfold f_LW_frameTurn at h
  refine EM.of rfl ?_
  show EX w0 ev 27 m_LW_frameTurn 0 [(0, .ref 0), (1, .int (p1)), (2, .int (p2))] [] (hi) (hl) (oI o)
  refine EX.aload_n (x := 0) rfl (List.mem_of_getElem? (i := 0) rfl) ?_
  refine EX.go (i := .getfield 12) (len := 3) (pc1 := 4) (st1 := [.ref 1]) (hi1 := hi) (hl1 := hl) rfl ?_ (fun _ _ _ => rfl)
  refine EX.iload_n (x := p1) rfl (List.mem_of_getElem? (i := 1) rfl) ?_
  obtain ⟨z1, hz1, h⟩ := bnd_some h
  refine EX.callV (b := 1) (as := [.int (p1)]) (rest := []) (r := some (.int (z1.1))) (hi1 := z1.2.1) (hl1 := z1.2.2) rfl rfl rfl rfl rfl rfl ((b_Board_isPicture ev hz1).mono (by decide)) ?_
  show EX w0 ev 27 m_LW_frameTurn 8 [(0, .ref 0), (1, .int (p1)), (2, .int (p2))] [.int (z1.1)] (z1.2.1) (z1.2.2) (oI o)
  rcases ite_some h with ⟨c2, h⟩ | ⟨c2, h⟩
  · refine EX.go (i := .ifCond .eq 7) (len := 3) (pc1 := 15) (st1 := []) (hi1 := z1.2.1) (hl1 := z1.2.2) rfl ?_ (fun _ _ _ => if_pos c2)
    refine EX.iconst (v := (-1)) rfl rfl ?_
    obtain rfl := Option.some.inj h
    exact EX.iret rfl rfl
  · refine EX.go (i := .ifCond .eq 7) (len := 3) (pc1 := 11) (st1 := []) (hi1 := z1.2.1) (hl1 := z1.2.2) rfl ?_ (fun _ _ _ => if_neg c2)
    refine EX.iload_n (x := p2) rfl (List.mem_of_getElem? (i := 2) rfl) ?_
    rcases ite_some h with ⟨c3, h⟩ | ⟨c3, h⟩
    · refine EX.go (i := .ifCond .ge 5) (len := 3) (pc1 := 17) (st1 := []) (hi1 := z1.2.1) (hl1 := z1.2.2) rfl ?_ (fun _ _ _ => if_pos c3)
      refine EX.aload_n (x := 0) rfl (List.mem_of_getElem? (i := 0) rfl) ?_
      refine EX.iload_n (x := p1) rfl (List.mem_of_getElem? (i := 1) rfl) ?_
      obtain ⟨z4, hz4, h⟩ := bnd_some h
      refine EX.callV (b := 0) (as := [.int (p1)]) (rest := []) (r := some (.ref (z4.1))) (hi1 := z4.2.1) (hl1 := z4.2.2) rfl rfl rfl rfl rfl rfl ((b_LW_frameOf ev hz4).mono (by decide)) ?_
      show EX w0 ev 27 m_LW_frameTurn 22 [(0, .ref 0), (1, .int (p1)), (2, .int (p2))] [.ref (z4.1)] (z4.2.1) (z4.2.2) (oI o)
      refine EX.astore_n (req1 := [(3, .ref (z4.1)), (0, .ref 0), (1, .int (p1)), (2, .int (p2))]) rfl rfl rfl ?_
      refine EX.iload_n (x := p2) rfl (List.mem_of_getElem? (i := 3) rfl) ?_
      refine EX.aload_n (x := z4.1) rfl (List.mem_of_getElem? (i := 0) rfl) ?_
      obtain ⟨k_z4_1, h⟩ := grp_some h
      refine EX.getfieldV (v := .int (z4.2.1 (z4.1) 2)) rfl rfl k_z4_1.1 rfl rfl ?_
      rcases ite_some h with ⟨c5, h⟩ | ⟨c5, h⟩
      · refine EX.go (i := .if_icmp .ge 12) (len := 3) (pc1 := 40) (st1 := []) (hi1 := z4.2.1) (hl1 := z4.2.2) rfl ?_ (fun _ _ _ => if_pos c5)
        refine EX.bipush (v := (-4)) rfl rfl ?_
        obtain rfl := Option.some.inj h
        exact EX.iret rfl rfl
      · refine EX.go (i := .if_icmp .ge 12) (len := 3) (pc1 := 31) (st1 := []) (hi1 := z4.2.1) (hl1 := z4.2.2) rfl ?_ (fun _ _ _ => if_neg c5)
        refine EX.aload_n (x := z4.1) rfl (List.mem_of_getElem? (i := 0) rfl) ?_
        refine EX.getfieldV (v := .ref (z4.1 + 1)) rfl rfl k_z4_1.1 rfl rfl ?_
        refine EX.iload_n (x := p2) rfl (List.mem_of_getElem? (i := 3) rfl) ?_
        obtain ⟨g6, h⟩ := grd_some h
        refine EX.iaload rfl k_z4_1.2 g6 ?_
        refine EX.go (i := .goto 5) (len := 3) (pc1 := 42) (st1 := [.int (z4.2.1 (z4.1 + 1) (Int32.toNatClampNeg (p2)))]) (hi1 := z4.2.1) (hl1 := z4.2.2) rfl ?_ (fun _ _ _ => rfl)
        obtain rfl := Option.some.inj h
        exact EX.iret rfl rfl
    · refine EX.go (i := .ifCond .ge 5) (len := 3) (pc1 := 15) (st1 := []) (hi1 := z1.2.1) (hl1 := z1.2.2) rfl ?_ (fun _ _ _ => if_neg c3)
      refine EX.iconst (v := (-1)) rfl rfl ?_
      obtain rfl := Option.some.inj h
      exact EX.iret rfl rfl
def f_LW_sets (N : Nat) (hi : HI) (hl : HL) : Option (Int32 × HI × HL) :=
  (f_LW_fillTable N (hi) (hl)).bind fun z1 => some (((z1.2.1 12 7 : Int32) + (1)), z1.2.1, z1.2.2)
set_option maxRecDepth 10000 in
set_option maxHeartbeats 4000000 in
theorem b_LW_sets (ev : EV) {N : Nat} {hi : HI} {hl : HL} {o : Int32 × HI × HL} (h : f_LW_sets N hi hl = some o) : EM w0 ev 6 m_LW_sets [.ref 0] hi hl (oI o) := by
  unfold f_LW_sets at h
  refine EM.of rfl ?_
  show EX w0 ev 5 m_LW_sets 0 [(0, .ref 0)] [] (hi) (hl) (oI o)
  refine EX.aload_n (x := 0) rfl (List.mem_of_getElem? (i := 0) rfl) ?_
  obtain ⟨z1, hz1, h⟩ := bnd_some h
  refine EX.callV (b := 0) (as := []) (rest := []) (r := none) (hi1 := z1.2.1) (hl1 := z1.2.2) rfl rfl rfl rfl rfl rfl ((b_LW_fillTable ev hz1).mono (by decide)) ?_
  show EX w0 ev 5 m_LW_sets 4 [(0, .ref 0)] [] (z1.2.1) (z1.2.2) (oI o)
  refine EX.aload_n (x := 0) rfl (List.mem_of_getElem? (i := 0) rfl) ?_
  refine EX.go (i := .getfield 26) (len := 3) (pc1 := 8) (st1 := [.ref 12]) (hi1 := z1.2.1) (hl1 := z1.2.2) rfl ?_ (fun _ _ _ => rfl)
  refine EX.go (i := .getfield 195) (len := 3) (pc1 := 11) (st1 := [.int (z1.2.1 12 7)]) (hi1 := z1.2.1) (hl1 := z1.2.2) rfl ?_ (fun _ _ _ => rfl)
  refine EX.iconst (v := 1) rfl rfl ?_
  refine EX.go (i := .iadd) (len := 1) (pc1 := 13) (st1 := [.int (((z1.2.1 12 7 : Int32) + (1)))]) (hi1 := z1.2.1) (hl1 := z1.2.2) rfl ?_ (fun _ _ _ => rfl)
  obtain rfl := Option.some.inj h
  exact EX.iret rfl rfl
def J_LW_shown_48 (N : Nat) (v1 : Int32) (hi : HI) (hl : HL) : Option (Int32 × HI × HL) :=
  if (v1 : Int32) < 0 ∨ 17 ≤ Int32.toNatClampNeg (v1) then none else some (hi 39 (Int32.toNatClampNeg (v1)), hi, hl)
set_option maxRecDepth 10000 in
set_option maxHeartbeats 4000000 in
theorem bJ_LW_shown_48 (ev : EV) {N : Nat} {v1 : Int32} {hi : HI} {hl : HL} {o : Int32 × HI × HL} (h : J_LW_shown_48 N v1 hi hl = some o) : EX w0 ev 5 m_LW_shown 48 [(0, .ref 0), (1, .int (v1))] [] (hi) (hl) (oI o) := by
  unfold J_LW_shown_48 at h
  refine EX.aload_n (x := 0) rfl (List.mem_of_getElem? (i := 0) rfl) ?_
  refine EX.go (i := .getfield 47) (len := 3) (pc1 := 52) (st1 := [.ref 38]) (hi1 := hi) (hl1 := hl) rfl ?_ (fun _ _ _ => rfl)
  refine EX.go (i := .getfield 206) (len := 3) (pc1 := 55) (st1 := [.ref 39]) (hi1 := hi) (hl1 := hl) rfl ?_ (fun _ _ _ => rfl)
  refine EX.iload_n (x := v1) rfl (List.mem_of_getElem? (i := 1) rfl) ?_
  obtain ⟨g6, h⟩ := grd_some h
  refine EX.iaload rfl rfl g6 ?_
  obtain rfl := Option.some.inj h
  exact EX.iret rfl rfl
def f_LW_shown (N : Nat) (p1 : Int32) (hi : HI) (hl : HL) : Option (Int32 × HI × HL) :=
  if (p1 : Int32) < 0 then some ((-1), hi, hl) else if (p1 : Int32) ≤ (16 : Int32) then if (hi 38 0 : Int32) = 0 then (f_LW_fillTable N (hi) (hl)).bind fun z4 => (f_Unions_reckon N (z4.2.1 1 2) (z4.2.1) (z4.2.2)).bind fun z5 => J_LW_shown_48 N (p1) (z5.2.1) (z5.2.2) else J_LW_shown_48 N (p1) (hi) (hl) else some ((-1), hi, hl)
set_option maxRecDepth 10000 in
set_option maxHeartbeats 4000000 in
theorem b_LW_shown (ev : EV) {N : Nat} {p1 : Int32} {hi : HI} {hl : HL} {o : Int32 × HI × HL} (h : f_LW_shown N p1 hi hl = some o) : EM w0 ev 6 m_LW_shown [.ref 0, .int (p1)] hi hl (oI o) := by
  unfold f_LW_shown at h
  refine EM.of rfl ?_
  show EX w0 ev 5 m_LW_shown 0 [(0, .ref 0), (1, .int (p1))] [] (hi) (hl) (oI o)
  refine EX.iload_n (x := p1) rfl (List.mem_of_getElem? (i := 1) rfl) ?_
  rcases ite_some h with ⟨c1, h⟩ | ⟨c1, h⟩
  · refine EX.go (i := .ifCond .lt 9) (len := 3) (pc1 := 10) (st1 := []) (hi1 := hi) (hl1 := hl) rfl ?_ (fun _ _ _ => if_pos c1)
    refine EX.iconst (v := (-1)) rfl rfl ?_
    obtain rfl := Option.some.inj h
    exact EX.iret rfl rfl
  · refine EX.go (i := .ifCond .lt 9) (len := 3) (pc1 := 4) (st1 := []) (hi1 := hi) (hl1 := hl) rfl ?_ (fun _ _ _ => if_neg c1)
    refine EX.iload_n (x := p1) rfl (List.mem_of_getElem? (i := 1) rfl) ?_
    refine EX.bipush (v := 16) rfl rfl ?_
    rcases ite_some h with ⟨c2, h⟩ | ⟨c2, h⟩
    · refine EX.go (i := .if_icmp .le 5) (len := 3) (pc1 := 12) (st1 := []) (hi1 := hi) (hl1 := hl) rfl ?_ (fun _ _ _ => if_pos c2)
      refine EX.aload_n (x := 0) rfl (List.mem_of_getElem? (i := 0) rfl) ?_
      refine EX.go (i := .getfield 47) (len := 3) (pc1 := 16) (st1 := [.ref 38]) (hi1 := hi) (hl1 := hl) rfl ?_ (fun _ _ _ => rfl)
      refine EX.go (i := .getfield 198) (len := 3) (pc1 := 19) (st1 := [.int (hi 38 0)]) (hi1 := hi) (hl1 := hl) rfl ?_ (fun _ _ _ => rfl)
      rcases ite_some h with ⟨c3, h⟩ | ⟨c3, h⟩
      · refine EX.go (i := .ifCond .ne 29) (len := 3) (pc1 := 22) (st1 := []) (hi1 := hi) (hl1 := hl) rfl ?_ (fun _ _ _ => if_pos c3)
        refine EX.aload_n (x := 0) rfl (List.mem_of_getElem? (i := 0) rfl) ?_
        obtain ⟨z4, hz4, h⟩ := bnd_some h
        refine EX.callV (b := 0) (as := []) (rest := []) (r := none) (hi1 := z4.2.1) (hl1 := z4.2.2) rfl rfl rfl rfl rfl rfl ((b_LW_fillTable ev hz4).mono (by decide)) ?_
        show EX w0 ev 5 m_LW_shown 26 [(0, .ref 0), (1, .int (p1))] [] (z4.2.1) (z4.2.2) (oI o)
        refine EX.aload_n (x := 0) rfl (List.mem_of_getElem? (i := 0) rfl) ?_
        refine EX.go (i := .getfield 47) (len := 3) (pc1 := 30) (st1 := [.ref 38]) (hi1 := z4.2.1) (hl1 := z4.2.2) rfl ?_ (fun _ _ _ => rfl)
        refine EX.aload_n (x := 0) rfl (List.mem_of_getElem? (i := 0) rfl) ?_
        refine EX.go (i := .getfield 26) (len := 3) (pc1 := 34) (st1 := [.ref 12, .ref 38]) (hi1 := z4.2.1) (hl1 := z4.2.2) rfl ?_ (fun _ _ _ => rfl)
        refine EX.aload_n (x := 0) rfl (List.mem_of_getElem? (i := 0) rfl) ?_
        refine EX.go (i := .getfield 12) (len := 3) (pc1 := 38) (st1 := [.ref 1, .ref 12, .ref 38]) (hi1 := z4.2.1) (hl1 := z4.2.2) rfl ?_ (fun _ _ _ => rfl)
        refine EX.go (i := .getfield 115) (len := 3) (pc1 := 41) (st1 := [.int (z4.2.1 1 2), .ref 12, .ref 38]) (hi1 := z4.2.1) (hl1 := z4.2.2) rfl ?_ (fun _ _ _ => rfl)
        refine EX.aload_n (x := 0) rfl (List.mem_of_getElem? (i := 0) rfl) ?_
        refine EX.go (i := .getfield 51) (len := 3) (pc1 := 45) (st1 := [.ref 41, .int (z4.2.1 1 2), .ref 12, .ref 38]) (hi1 := z4.2.1) (hl1 := z4.2.2) rfl ?_ (fun _ _ _ => rfl)
        obtain ⟨z5, hz5, h⟩ := bnd_some h
        refine EX.callV (b := 38) (as := [.ref 12, .int (z4.2.1 1 2), .ref 41]) (rest := []) (r := none) (hi1 := z5.2.1) (hl1 := z5.2.2) rfl rfl rfl rfl rfl rfl ((b_Unions_reckon ev hz5).mono (by decide)) ?_
        show EX w0 ev 5 m_LW_shown 48 [(0, .ref 0), (1, .int (p1))] [] (z5.2.1) (z5.2.2) (oI o)
        refine EX.pick [0, 1] ?_ rfl
        exact bJ_LW_shown_48 ev h
      · refine EX.go (i := .ifCond .ne 29) (len := 3) (pc1 := 48) (st1 := []) (hi1 := hi) (hl1 := hl) rfl ?_ (fun _ _ _ => if_neg c3)
        refine EX.pick [0, 1] ?_ rfl
        exact bJ_LW_shown_48 ev h
    · refine EX.go (i := .if_icmp .le 5) (len := 3) (pc1 := 10) (st1 := []) (hi1 := hi) (hl1 := hl) rfl ?_ (fun _ _ _ => if_neg c2)
      refine EX.iconst (v := (-1)) rfl rfl ?_
      obtain rfl := Option.some.inj h
      exact EX.iret rfl rfl
def J_LW_isLevel_14 (N : Nat) (hi : HI) (hl : HL) : Option (Int32 × HI × HL) :=
  some (0, hi, hl)
set_option maxRecDepth 10000 in
set_option maxHeartbeats 4000000 in
theorem bJ_LW_isLevel_14 (ev : EV) {N : Nat} {hi : HI} {hl : HL} {o : Int32 × HI × HL} (h : J_LW_isLevel_14 N hi hl = some o) : EX w0 ev 0 m_LW_isLevel 14 [] [] (hi) (hl) (oI o) := by
  unfold J_LW_isLevel_14 at h
  refine EX.iconst (v := 0) rfl rfl ?_
  obtain rfl := Option.some.inj h
  exact EX.zret rfl rfl (Or.inl rfl)
def f_LW_isLevel (N : Nat) (p0 : Int32) (hi : HI) (hl : HL) : Option (Int32 × HI × HL) :=
  if (p0 : Int32) < 0 then J_LW_isLevel_14 N (hi) (hl) else if (15 : Int32) < (p0 : Int32) then J_LW_isLevel_14 N (hi) (hl) else some (1, hi, hl)
set_option maxRecDepth 10000 in
set_option maxHeartbeats 4000000 in
theorem b_LW_isLevel (ev : EV) {N : Nat} {p0 : Int32} {hi : HI} {hl : HL} {o : Int32 × HI × HL} (h : f_LW_isLevel N p0 hi hl = some o) : EM w0 ev 1 m_LW_isLevel [.int (p0)] hi hl (oI o) := by
  unfold f_LW_isLevel at h
  refine EM.of rfl ?_
  show EX w0 ev 0 m_LW_isLevel 0 [(0, .int (p0))] [] (hi) (hl) (oI o)
  refine EX.iload_n (x := p0) rfl (List.mem_of_getElem? (i := 0) rfl) ?_
  rcases ite_some h with ⟨c1, h⟩ | ⟨c1, h⟩
  · refine EX.go (i := .ifCond .lt 13) (len := 3) (pc1 := 14) (st1 := []) (hi1 := hi) (hl1 := hl) rfl ?_ (fun _ _ _ => if_pos c1)
    refine EX.pick [] ?_ rfl
    exact bJ_LW_isLevel_14 ev h
  · refine EX.go (i := .ifCond .lt 13) (len := 3) (pc1 := 4) (st1 := []) (hi1 := hi) (hl1 := hl) rfl ?_ (fun _ _ _ => if_neg c1)
    refine EX.iload_n (x := p0) rfl (List.mem_of_getElem? (i := 0) rfl) ?_
    refine EX.bipush (v := 15) rfl rfl ?_
    rcases ite_some h with ⟨c2, h⟩ | ⟨c2, h⟩
    · refine EX.go (i := .if_icmp .gt 7) (len := 3) (pc1 := 14) (st1 := []) (hi1 := hi) (hl1 := hl) rfl ?_ (fun _ _ _ => if_pos c2)
      refine EX.pick [] ?_ rfl
      exact bJ_LW_isLevel_14 ev h
    · refine EX.go (i := .if_icmp .gt 7) (len := 3) (pc1 := 10) (st1 := []) (hi1 := hi) (hl1 := hl) rfl ?_ (fun _ _ _ => if_neg c2)
      refine EX.iconst (v := 1) rfl rfl ?_
      refine EX.go (i := .goto 4) (len := 3) (pc1 := 15) (st1 := [.int (1)]) (hi1 := hi) (hl1 := hl) rfl ?_ (fun _ _ _ => rfl)
      obtain rfl := Option.some.inj h
      exact EX.zret rfl rfl (Or.inr rfl)
def f_LW_level (N : Nat) (p1 : Int32) (p2 : Int32) (hi : HI) (hl : HL) : Option (Int32 × HI × HL) :=
  (f_Board_isLamp N (p1) (hi) (hl)).bind fun z1 => if (z1.1 : Int32) = 0 then some ((-1), z1.2.1, z1.2.2) else (f_LW_isLevel N (p2) (z1.2.1) (z1.2.2)).bind fun z3 => if (z3.1 : Int32) = 0 then some ((-1), z3.2.1, z3.2.2) else if (p1 : Int32) < 0 ∨ 16 ≤ Int32.toNatClampNeg (p1) then none else if (p1 : Int32) < 0 ∨ 16 ≤ Int32.toNatClampNeg (p1) then none else some (z3.2.1 6 (Int32.toNatClampNeg (p1)), wr (z3.2.1) 6 (Int32.toNatClampNeg (p1)) (p2), z3.2.2)
set_option maxRecDepth 10000 in
set_option maxHeartbeats 4000000 in
theorem b_LW_level (ev : EV) {N : Nat} {p1 : Int32} {p2 : Int32} {hi : HI} {hl : HL} {o : Int32 × HI × HL} (h : f_LW_level N p1 p2 hi hl = some o) : EM w0 ev 2 m_LW_level [.ref 0, .int (p1), .int (p2)] hi hl (oI o) := by
  unfold f_LW_level at h
  refine EM.of rfl ?_
  show EX w0 ev 1 m_LW_level 0 [(0, .ref 0), (1, .int (p1)), (2, .int (p2))] [] (hi) (hl) (oI o)
  refine EX.aload_n (x := 0) rfl (List.mem_of_getElem? (i := 0) rfl) ?_
  refine EX.go (i := .getfield 12) (len := 3) (pc1 := 4) (st1 := [.ref 1]) (hi1 := hi) (hl1 := hl) rfl ?_ (fun _ _ _ => rfl)
  refine EX.iload_n (x := p1) rfl (List.mem_of_getElem? (i := 1) rfl) ?_
  obtain ⟨z1, hz1, h⟩ := bnd_some h
  refine EX.callV (b := 1) (as := [.int (p1)]) (rest := []) (r := some (.int (z1.1))) (hi1 := z1.2.1) (hl1 := z1.2.2) rfl rfl rfl rfl rfl rfl ((b_Board_isLamp ev hz1).mono (by decide)) ?_
  show EX w0 ev 1 m_LW_level 8 [(0, .ref 0), (1, .int (p1)), (2, .int (p2))] [.int (z1.1)] (z1.2.1) (z1.2.2) (oI o)
  rcases ite_some h with ⟨c2, h⟩ | ⟨c2, h⟩
  · refine EX.go (i := .ifCond .eq 10) (len := 3) (pc1 := 18) (st1 := []) (hi1 := z1.2.1) (hl1 := z1.2.2) rfl ?_ (fun _ _ _ => if_pos c2)
    refine EX.iconst (v := (-1)) rfl rfl ?_
    obtain rfl := Option.some.inj h
    exact EX.iret rfl rfl
  · refine EX.go (i := .ifCond .eq 10) (len := 3) (pc1 := 11) (st1 := []) (hi1 := z1.2.1) (hl1 := z1.2.2) rfl ?_ (fun _ _ _ => if_neg c2)
    refine EX.iload_n (x := p2) rfl (List.mem_of_getElem? (i := 2) rfl) ?_
    obtain ⟨z3, hz3, h⟩ := bnd_some h
    refine EX.callS (as := [.int (p2)]) (rest := []) (r := some (.int (z3.1))) (hi1 := z3.2.1) (hl1 := z3.2.2) rfl rfl rfl rfl rfl rfl ((b_LW_isLevel ev hz3).mono (by decide)) ?_
    show EX w0 ev 1 m_LW_level 15 [(0, .ref 0), (1, .int (p1)), (2, .int (p2))] [.int (z3.1)] (z3.2.1) (z3.2.2) (oI o)
    rcases ite_some h with ⟨c4, h⟩ | ⟨c4, h⟩
    · refine EX.go (i := .ifCond .ne 5) (len := 3) (pc1 := 18) (st1 := []) (hi1 := z3.2.1) (hl1 := z3.2.2) rfl ?_ (fun _ _ _ => if_pos c4)
      refine EX.iconst (v := (-1)) rfl rfl ?_
      obtain rfl := Option.some.inj h
      exact EX.iret rfl rfl
    · refine EX.go (i := .ifCond .ne 5) (len := 3) (pc1 := 20) (st1 := []) (hi1 := z3.2.1) (hl1 := z3.2.2) rfl ?_ (fun _ _ _ => if_neg c4)
      refine EX.aload_n (x := 0) rfl (List.mem_of_getElem? (i := 0) rfl) ?_
      refine EX.go (i := .getfield 12) (len := 3) (pc1 := 24) (st1 := [.ref 1]) (hi1 := z3.2.1) (hl1 := z3.2.2) rfl ?_ (fun _ _ _ => rfl)
      refine EX.go (i := .getfield 138) (len := 3) (pc1 := 27) (st1 := [.ref 6]) (hi1 := z3.2.1) (hl1 := z3.2.2) rfl ?_ (fun _ _ _ => rfl)
      refine EX.iload_n (x := p1) rfl (List.mem_of_getElem? (i := 1) rfl) ?_
      obtain ⟨g5, h⟩ := grd_some h
      refine EX.iaload rfl rfl g5 ?_
      refine EX.istore_n (req1 := [(3, .int (z3.2.1 6 (Int32.toNatClampNeg (p1)))), (0, .ref 0), (1, .int (p1)), (2, .int (p2))]) rfl rfl rfl ?_
      refine EX.aload_n (x := 0) rfl (List.mem_of_getElem? (i := 1) rfl) ?_
      refine EX.go (i := .getfield 12) (len := 3) (pc1 := 34) (st1 := [.ref 1]) (hi1 := z3.2.1) (hl1 := z3.2.2) rfl ?_ (fun _ _ _ => rfl)
      refine EX.go (i := .getfield 138) (len := 3) (pc1 := 37) (st1 := [.ref 6]) (hi1 := z3.2.1) (hl1 := z3.2.2) rfl ?_ (fun _ _ _ => rfl)
      refine EX.iload_n (x := p1) rfl (List.mem_of_getElem? (i := 2) rfl) ?_
      refine EX.iload_n (x := p2) rfl (List.mem_of_getElem? (i := 3) rfl) ?_
      obtain ⟨g6, h⟩ := grd_some h
      refine EX.iastore rfl rfl g6 ?_
      refine EX.iload_n (x := z3.2.1 6 (Int32.toNatClampNeg (p1))) rfl (List.mem_of_getElem? (i := 0) rfl) ?_
      obtain rfl := Option.some.inj h
      exact EX.iret rfl rfl
def J_LW_plan_92 (N : Nat) (v1 : Int32) (v3 : Int32) (s0 : Int32) (s1 : Int32) (hi : HI) (hl : HL) : Option ((Int32 × Int32 × HI × HL) ⊕ (Nat × Int32 × HI × HL)) :=
  some (.inl ((s1 + s0), v3 + 1, hi, hl))
set_option maxRecDepth 10000 in
set_option maxHeartbeats 4000000 in
theorem bJ_LW_plan_92 (ev : EV) {N : Nat} {v1 : Int32} {v3 : Int32} {s0 : Int32} {s1 : Int32} {hi : HI} {hl : HL} {z : (Int32 × Int32 × HI × HL) ⊕ (Nat × Int32 × HI × HL)} {OUT : Option Value × HI × HL} (h : J_LW_plan_92 N v1 v3 s0 s1 hi hl = some z) (hk : Sum.elim (fun s => EX w0 ev 27 m_LW_plan 46 [(0, .ref 0), (1, .int (v1)), (2, .int (s.1)), (3, .int (s.2.1))] [] (s.2.2.1) (s.2.2.2) OUT) (fun x => (x.1 = 0 → EX w0 ev 27 m_LW_plan 100 [(2, .int (x.2.1))] [] (x.2.2.1) (x.2.2.2) OUT) ∧ (x.1 = 1 → EX w0 ev 27 m_LW_plan 75 [] [] (x.2.2.1) (x.2.2.2) OUT)) z) : EX w0 ev 27 m_LW_plan 92 [(0, .ref 0), (1, .int (v1)), (3, .int (v3))] [.int (s0), .int (s1)] (hi) (hl) OUT := by
  unfold J_LW_plan_92 at h
  refine EX.go (i := .iadd) (len := 1) (pc1 := 93) (st1 := [.int ((s1 + s0))]) (hi1 := hi) (hl1 := hl) rfl ?_ (fun _ _ _ => rfl)
  refine EX.istore_n (req1 := [(2, .int ((s1 + s0))), (0, .ref 0), (1, .int (v1)), (3, .int (v3))]) rfl rfl rfl ?_
  refine EX.iinc (x := v3) (v := v3 + 1) (req1 := [(3, .int (v3 + 1)), (2, .int ((s1 + s0))), (0, .ref 0), (1, .int (v1))]) rfl rfl (List.mem_of_getElem? (i := 3) rfl) rfl rfl ?_
  refine EX.go (i := .goto (-51)) (len := 3) (pc1 := 46) (st1 := []) (hi1 := hi) (hl1 := hl) rfl ?_ (fun _ _ _ => rfl)
  obtain rfl := Option.some.inj h
  have hk : EX w0 ev 27 m_LW_plan 46 [(0, .ref 0), (1, .int (v1)), (2, .int ((s1 + s0))), (3, .int (v3 + 1))] [] (hi) (hl) OUT := hk
  exact EX.pick [2, 3, 1, 0] hk rfl
def B_LW_plan_46 (N : Nat) (v1 : Int32) (v2 : Int32) (v3 : Int32) (hi : HI) (hl : HL) : Option ((Int32 × Int32 × HI × HL) ⊕ (Nat × Int32 × HI × HL)) :=
  if (4 : Int32) ≤ (v3 : Int32) then some (.inr (0, v2, hi, hl)) else (f_Board_plane N (v3) (hi) (hl)).bind fun z4 => (f_LW_frameOf N (z4.1) (z4.2.1) (z4.2.2)).bind fun z5 => if gF (z5.1) then if (z5.2.1 (z5.1) 2 : Int32) = ((-4) : Int32) then some (.inr (1, v2, z5.2.1, z5.2.2)) else if (v1 : Int32) = 0 then J_LW_plan_92 N (v1) (v3) (((z5.2.1 (z5.1) 2 : Int32) <<< (v3 &&& 31))) (v2) (z5.2.1) (z5.2.2) else J_LW_plan_92 N (v1) (v3) (z5.2.1 (z5.1) 2) (v2) (z5.2.1) (z5.2.2) else none
set_option maxRecDepth 10000 in
set_option maxHeartbeats 4000000 in
theorem bB_LW_plan_46 (ev : EV) {N : Nat} {v1 : Int32} {v2 : Int32} {v3 : Int32} {hi : HI} {hl : HL} {z : (Int32 × Int32 × HI × HL) ⊕ (Nat × Int32 × HI × HL)} {OUT : Option Value × HI × HL} (h : B_LW_plan_46 N v1 v2 v3 hi hl = some z) (hk : Sum.elim (fun s => EX w0 ev 27 m_LW_plan 46 [(0, .ref 0), (1, .int (v1)), (2, .int (s.1)), (3, .int (s.2.1))] [] (s.2.2.1) (s.2.2.2) OUT) (fun x => (x.1 = 0 → EX w0 ev 27 m_LW_plan 100 [(2, .int (x.2.1))] [] (x.2.2.1) (x.2.2.2) OUT) ∧ (x.1 = 1 → EX w0 ev 27 m_LW_plan 75 [] [] (x.2.2.1) (x.2.2.2) OUT)) z) : EX w0 ev 27 m_LW_plan 46 [(0, .ref 0), (1, .int (v1)), (2, .int (v2)), (3, .int (v3))] [] (hi) (hl) OUT := by
  unfold B_LW_plan_46 at h
  refine EX.iload_n (x := v3) rfl (List.mem_of_getElem? (i := 3) rfl) ?_
  refine EX.iconst (v := 4) rfl rfl ?_
  rcases ite_some h with ⟨c3, h⟩ | ⟨c3, h⟩
  · refine EX.go (i := .if_icmp .ge 52) (len := 3) (pc1 := 100) (st1 := []) (hi1 := hi) (hl1 := hl) rfl ?_ (fun _ _ _ => if_pos c3)
    obtain rfl := Option.some.inj h
    have hk := hk.1 rfl
    have hk : EX w0 ev 27 m_LW_plan 100 [(2, .int (v2))] [] (hi) (hl) OUT := hk
    exact EX.pick [2] hk rfl
  · refine EX.go (i := .if_icmp .ge 52) (len := 3) (pc1 := 51) (st1 := []) (hi1 := hi) (hl1 := hl) rfl ?_ (fun _ _ _ => if_neg c3)
    refine EX.aload_n (x := 0) rfl (List.mem_of_getElem? (i := 0) rfl) ?_
    refine EX.aload_n (x := 0) rfl (List.mem_of_getElem? (i := 0) rfl) ?_
    refine EX.go (i := .getfield 12) (len := 3) (pc1 := 56) (st1 := [.ref 1, .ref 0]) (hi1 := hi) (hl1 := hl) rfl ?_ (fun _ _ _ => rfl)
    refine EX.iload_n (x := v3) rfl (List.mem_of_getElem? (i := 3) rfl) ?_
    obtain ⟨z4, hz4, h⟩ := bnd_some h
    refine EX.callV (b := 1) (as := [.int (v3)]) (rest := [.ref 0]) (r := some (.int (z4.1))) (hi1 := z4.2.1) (hl1 := z4.2.2) rfl rfl rfl rfl rfl rfl ((b_Board_plane ev hz4).mono (by decide)) ?_
    show EX w0 ev 27 m_LW_plan 60 [(0, .ref 0), (1, .int (v1)), (2, .int (v2)), (3, .int (v3))] [.int (z4.1), .ref 0] (z4.2.1) (z4.2.2) OUT
    obtain ⟨z5, hz5, h⟩ := bnd_some h
    refine EX.callV (b := 0) (as := [.int (z4.1)]) (rest := []) (r := some (.ref (z5.1))) (hi1 := z5.2.1) (hl1 := z5.2.2) rfl rfl rfl rfl rfl rfl ((b_LW_frameOf ev hz5).mono (by decide)) ?_
    show EX w0 ev 27 m_LW_plan 63 [(0, .ref 0), (1, .int (v1)), (2, .int (v2)), (3, .int (v3))] [.ref (z5.1)] (z5.2.1) (z5.2.2) OUT
    obtain ⟨k_z5_1, h⟩ := grp_some h
    refine EX.getfieldV (v := .int (z5.2.1 (z5.1) 2)) rfl rfl k_z5_1.1 rfl rfl ?_
    refine EX.istore (req1 := [(4, .int (z5.2.1 (z5.1) 2)), (0, .ref 0), (1, .int (v1)), (2, .int (v2)), (3, .int (v3))]) rfl rfl rfl ?_
    refine EX.iload (x := z5.2.1 (z5.1) 2) rfl (List.mem_of_getElem? (i := 0) rfl) ?_
    refine EX.bipush (v := (-4)) rfl rfl ?_
    rcases ite_some h with ⟨c6, h⟩ | ⟨c6, h⟩
    · refine EX.go (i := .if_icmp .ne 6) (len := 3) (pc1 := 75) (st1 := []) (hi1 := z5.2.1) (hl1 := z5.2.2) rfl ?_ (fun _ _ _ => if_pos c6)
      obtain rfl := Option.some.inj h
      have hk := hk.2 rfl
      have hk : EX w0 ev 27 m_LW_plan 75 [] [] (z5.2.1) (z5.2.2) OUT := hk
      exact EX.pick [] hk rfl
    · refine EX.go (i := .if_icmp .ne 6) (len := 3) (pc1 := 78) (st1 := []) (hi1 := z5.2.1) (hl1 := z5.2.2) rfl ?_ (fun _ _ _ => if_neg c6)
      refine EX.iload_n (x := v2) rfl (List.mem_of_getElem? (i := 3) rfl) ?_
      refine EX.iload_n (x := v1) rfl (List.mem_of_getElem? (i := 2) rfl) ?_
      rcases ite_some h with ⟨c7, h⟩ | ⟨c7, h⟩
      · refine EX.go (i := .ifCond .ne 10) (len := 3) (pc1 := 83) (st1 := [.int (v2)]) (hi1 := z5.2.1) (hl1 := z5.2.2) rfl ?_ (fun _ _ _ => if_pos c7)
        refine EX.iload (x := z5.2.1 (z5.1) 2) rfl (List.mem_of_getElem? (i := 0) rfl) ?_
        refine EX.iload_n (x := v3) rfl (List.mem_of_getElem? (i := 4) rfl) ?_
        refine EX.go (i := .ishl) (len := 1) (pc1 := 87) (st1 := [.int (((z5.2.1 (z5.1) 2 : Int32) <<< (v3 &&& 31))), .int (v2)]) (hi1 := z5.2.1) (hl1 := z5.2.2) rfl ?_ (fun _ _ _ => rfl)
        refine EX.go (i := .goto 5) (len := 3) (pc1 := 92) (st1 := [.int (((z5.2.1 (z5.1) 2 : Int32) <<< (v3 &&& 31))), .int (v2)]) (hi1 := z5.2.1) (hl1 := z5.2.2) rfl ?_ (fun _ _ _ => rfl)
        refine EX.pick [1, 2, 4] ?_ rfl
        exact bJ_LW_plan_92 ev h hk
      · refine EX.go (i := .ifCond .ne 10) (len := 3) (pc1 := 90) (st1 := [.int (v2)]) (hi1 := z5.2.1) (hl1 := z5.2.2) rfl ?_ (fun _ _ _ => if_neg c7)
        refine EX.iload (x := z5.2.1 (z5.1) 2) rfl (List.mem_of_getElem? (i := 0) rfl) ?_
        refine EX.pick [1, 2, 4] ?_ rfl
        exact bJ_LW_plan_92 ev h hk
def J_LW_plan_42 (N : Nat) (v1 : Int32) (hi : HI) (hl : HL) : Option (Int32 × HI × HL) :=
  (lpN (fun s => B_LW_plan_46 N (v1) s.1 s.2.1 s.2.2.1 s.2.2.2) N (0, 0, hi, hl)).bind fun x8 => if x8.1 = 0 then some (x8.2.1, x8.2.2.1, x8.2.2.2) else some ((-4), x8.2.2.1, x8.2.2.2)
set_option maxRecDepth 10000 in
set_option maxHeartbeats 4000000 in
theorem bJ_LW_plan_42 (ev : EV) {N : Nat} {v1 : Int32} {hi : HI} {hl : HL} {o : Int32 × HI × HL} (h : J_LW_plan_42 N v1 hi hl = some o) : EX w0 ev 27 m_LW_plan 42 [(0, .ref 0), (1, .int (v1))] [] (hi) (hl) (oI o) := by
  unfold J_LW_plan_42 at h
  refine EX.iconst (v := 0) rfl rfl ?_
  refine EX.istore_n (req1 := [(2, .int (0)), (0, .ref 0), (1, .int (v1))]) rfl rfl rfl ?_
  refine EX.iconst (v := 0) rfl rfl ?_
  refine EX.istore_n (req1 := [(3, .int (0)), (2, .int (0)), (0, .ref 0), (1, .int (v1))]) rfl rfl rfl ?_
  obtain ⟨x8, hx8, h⟩ := bnd_some h
  refine EX.pick [2, 3, 1, 0] ?_ rfl
  refine lp_sound (f := fun s => B_LW_plan_46 N (v1) s.1 s.2.1 s.2.2.1 s.2.2.2) (PS := fun s => EX w0 ev 27 m_LW_plan 46 [(0, .ref 0), (1, .int (v1)), (2, .int (s.1)), (3, .int (s.2.1))] [] (s.2.2.1) (s.2.2.2) (oI o)) (PX := fun x => (x.1 = 0 → EX w0 ev 27 m_LW_plan 100 [(2, .int (x.2.1))] [] (x.2.2.1) (x.2.2.2) (oI o)) ∧ (x.1 = 1 → EX w0 ev 27 m_LW_plan 75 [] [] (x.2.2.1) (x.2.2.2) (oI o))) ?_ N _ x8 hx8 ?_
  · exact fun s z hz hk => bB_LW_plan_46 ev hz hk
  rcases ite_some h with ⟨c9, h⟩ | ⟨c9, h⟩
  · refine ⟨fun _ => ?_, fun e9 => absurd (c9.symm.trans e9) (by decide)⟩
    show EX w0 ev 27 m_LW_plan 100 [(2, .int (x8.2.1))] [] (x8.2.2.1) (x8.2.2.2) (oI o)
    refine EX.iload_n (x := x8.2.1) rfl (List.mem_of_getElem? (i := 0) rfl) ?_
    obtain rfl := Option.some.inj h
    exact EX.iret rfl rfl
  · refine ⟨fun e9 => absurd e9 c9, fun _ => ?_⟩
    show EX w0 ev 27 m_LW_plan 75 [] [] (x8.2.2.1) (x8.2.2.2) (oI o)
    refine EX.bipush (v := (-4)) rfl rfl ?_
    obtain rfl := Option.some.inj h
    exact EX.iret rfl rfl
def J_LW_plan_31 (N : Nat) (v1 : Int32) (hi : HI) (hl : HL) : Option (Int32 × HI × HL) :=
  if (v1 : Int32) = 0 then J_LW_plan_42 N (v1) (hi) (hl) else if (v1 : Int32) = (1 : Int32) then J_LW_plan_42 N (v1) (hi) (hl) else some ((-1), hi, hl)
set_option maxRecDepth 10000 in
set_option maxHeartbeats 4000000 in
theorem bJ_LW_plan_31 (ev : EV) {N : Nat} {v1 : Int32} {hi : HI} {hl : HL} {o : Int32 × HI × HL} (h : J_LW_plan_31 N v1 hi hl = some o) : EX w0 ev 27 m_LW_plan 31 [(0, .ref 0), (1, .int (v1))] [] (hi) (hl) (oI o) := by
  unfold J_LW_plan_31 at h
  refine EX.iload_n (x := v1) rfl (List.mem_of_getElem? (i := 1) rfl) ?_
  rcases ite_some h with ⟨c2, h⟩ | ⟨c2, h⟩
  · refine EX.go (i := .ifCond .eq 10) (len := 3) (pc1 := 42) (st1 := []) (hi1 := hi) (hl1 := hl) rfl ?_ (fun _ _ _ => if_pos c2)
    refine EX.pick [0, 1] ?_ rfl
    exact bJ_LW_plan_42 ev h
  · refine EX.go (i := .ifCond .eq 10) (len := 3) (pc1 := 35) (st1 := []) (hi1 := hi) (hl1 := hl) rfl ?_ (fun _ _ _ => if_neg c2)
    refine EX.iload_n (x := v1) rfl (List.mem_of_getElem? (i := 1) rfl) ?_
    refine EX.iconst (v := 1) rfl rfl ?_
    rcases ite_some h with ⟨c10, h⟩ | ⟨c10, h⟩
    · refine EX.go (i := .if_icmp .eq 5) (len := 3) (pc1 := 42) (st1 := []) (hi1 := hi) (hl1 := hl) rfl ?_ (fun _ _ _ => if_pos c10)
      refine EX.pick [0, 1] ?_ rfl
      exact bJ_LW_plan_42 ev h
    · refine EX.go (i := .if_icmp .eq 5) (len := 3) (pc1 := 40) (st1 := []) (hi1 := hi) (hl1 := hl) rfl ?_ (fun _ _ _ => if_neg c10)
      refine EX.iconst (v := (-1)) rfl rfl ?_
      obtain rfl := Option.some.inj h
      exact EX.iret rfl rfl
def f_LW_plan (N : Nat) (p1 : Int32) (hi : HI) (hl : HL) : Option (Int32 × HI × HL) :=
  if (p1 : Int32) < (10 : Int32) then J_LW_plan_31 N (p1) (hi) (hl) else if (14 : Int32) ≤ (p1 : Int32) then J_LW_plan_31 N (p1) (hi) (hl) else (f_Board_plane N ((p1 - (10))) (hi) (hl)).bind fun z12 => (f_LW_frameOf N (z12.1) (z12.2.1) (z12.2.2)).bind fun z13 => if gF (z13.1) then some (z13.2.1 (z13.1) 2, z13.2.1, z13.2.2) else none
set_option maxRecDepth 10000 in
set_option maxHeartbeats 4000000 in
theorem b_LW_plan (ev : EV) {N : Nat} {p1 : Int32} {hi : HI} {hl : HL} {o : Int32 × HI × HL} (h : f_LW_plan N p1 hi hl = some o) : EM w0 ev 28 m_LW_plan [.ref 0, .int (p1)] hi hl (oI o) := by
  unfold f_LW_plan at h
  refine EM.of rfl ?_
  show EX w0 ev 27 m_LW_plan 0 [(0, .ref 0), (1, .int (p1))] [] (hi) (hl) (oI o)
  refine EX.iload_n (x := p1) rfl (List.mem_of_getElem? (i := 1) rfl) ?_
  refine EX.bipush (v := 10) rfl rfl ?_
  rcases ite_some h with ⟨c1, h⟩ | ⟨c1, h⟩
  · refine EX.go (i := .if_icmp .lt 28) (len := 3) (pc1 := 31) (st1 := []) (hi1 := hi) (hl1 := hl) rfl ?_ (fun _ _ _ => if_pos c1)
    refine EX.pick [0, 1] ?_ rfl
    exact bJ_LW_plan_31 ev h
  · refine EX.go (i := .if_icmp .lt 28) (len := 3) (pc1 := 6) (st1 := []) (hi1 := hi) (hl1 := hl) rfl ?_ (fun _ _ _ => if_neg c1)
    refine EX.iload_n (x := p1) rfl (List.mem_of_getElem? (i := 1) rfl) ?_
    refine EX.bipush (v := 14) rfl rfl ?_
    rcases ite_some h with ⟨c11, h⟩ | ⟨c11, h⟩
    · refine EX.go (i := .if_icmp .ge 22) (len := 3) (pc1 := 31) (st1 := []) (hi1 := hi) (hl1 := hl) rfl ?_ (fun _ _ _ => if_pos c11)
      refine EX.pick [0, 1] ?_ rfl
      exact bJ_LW_plan_31 ev h
    · refine EX.go (i := .if_icmp .ge 22) (len := 3) (pc1 := 12) (st1 := []) (hi1 := hi) (hl1 := hl) rfl ?_ (fun _ _ _ => if_neg c11)
      refine EX.aload_n (x := 0) rfl (List.mem_of_getElem? (i := 0) rfl) ?_
      refine EX.aload_n (x := 0) rfl (List.mem_of_getElem? (i := 0) rfl) ?_
      refine EX.go (i := .getfield 12) (len := 3) (pc1 := 17) (st1 := [.ref 1, .ref 0]) (hi1 := hi) (hl1 := hl) rfl ?_ (fun _ _ _ => rfl)
      refine EX.iload_n (x := p1) rfl (List.mem_of_getElem? (i := 1) rfl) ?_
      refine EX.bipush (v := 10) rfl rfl ?_
      refine EX.go (i := .isub) (len := 1) (pc1 := 21) (st1 := [.int ((p1 - (10))), .ref 1, .ref 0]) (hi1 := hi) (hl1 := hl) rfl ?_ (fun _ _ _ => rfl)
      obtain ⟨z12, hz12, h⟩ := bnd_some h
      refine EX.callV (b := 1) (as := [.int ((p1 - (10)))]) (rest := [.ref 0]) (r := some (.int (z12.1))) (hi1 := z12.2.1) (hl1 := z12.2.2) rfl rfl rfl rfl rfl rfl ((b_Board_plane ev hz12).mono (by decide)) ?_
      show EX w0 ev 27 m_LW_plan 24 [(0, .ref 0), (1, .int (p1))] [.int (z12.1), .ref 0] (z12.2.1) (z12.2.2) (oI o)
      obtain ⟨z13, hz13, h⟩ := bnd_some h
      refine EX.callV (b := 0) (as := [.int (z12.1)]) (rest := []) (r := some (.ref (z13.1))) (hi1 := z13.2.1) (hl1 := z13.2.2) rfl rfl rfl rfl rfl rfl ((b_LW_frameOf ev hz13).mono (by decide)) ?_
      show EX w0 ev 27 m_LW_plan 27 [(0, .ref 0), (1, .int (p1))] [.ref (z13.1)] (z13.2.1) (z13.2.2) (oI o)
      obtain ⟨k_z13_1, h⟩ := grp_some h
      refine EX.getfieldV (v := .int (z13.2.1 (z13.1) 2)) rfl rfl k_z13_1.1 rfl rfl ?_
      obtain rfl := Option.some.inj h
      exact EX.iret rfl rfl
def J_LW_isFractionPart_9 (N : Nat) (hi : HI) (hl : HL) : Option (Int32 × HI × HL) :=
  some (1, hi, hl)
set_option maxRecDepth 10000 in
set_option maxHeartbeats 4000000 in
theorem bJ_LW_isFractionPart_9 (ev : EV) {N : Nat} {hi : HI} {hl : HL} {o : Int32 × HI × HL} (h : J_LW_isFractionPart_9 N hi hl = some o) : EX w0 ev 0 m_LW_isFractionPart 9 [] [] (hi) (hl) (oI o) := by
  unfold J_LW_isFractionPart_9 at h
  refine EX.iconst (v := 1) rfl rfl ?_
  refine EX.go (i := .goto 4) (len := 3) (pc1 := 14) (st1 := [.int (1)]) (hi1 := hi) (hl1 := hl) rfl ?_ (fun _ _ _ => rfl)
  obtain rfl := Option.some.inj h
  exact EX.zret rfl rfl (Or.inr rfl)
def f_LW_isFractionPart (N : Nat) (p0 : Int32) (hi : HI) (hl : HL) : Option (Int32 × HI × HL) :=
  if (p0 : Int32) = 0 then J_LW_isFractionPart_9 N (hi) (hl) else if (p0 : Int32) = (1 : Int32) then J_LW_isFractionPart_9 N (hi) (hl) else some (0, hi, hl)
set_option maxRecDepth 10000 in
set_option maxHeartbeats 4000000 in
theorem b_LW_isFractionPart (ev : EV) {N : Nat} {p0 : Int32} {hi : HI} {hl : HL} {o : Int32 × HI × HL} (h : f_LW_isFractionPart N p0 hi hl = some o) : EM w0 ev 1 m_LW_isFractionPart [.int (p0)] hi hl (oI o) := by
  unfold f_LW_isFractionPart at h
  refine EM.of rfl ?_
  show EX w0 ev 0 m_LW_isFractionPart 0 [(0, .int (p0))] [] (hi) (hl) (oI o)
  refine EX.iload_n (x := p0) rfl (List.mem_of_getElem? (i := 0) rfl) ?_
  rcases ite_some h with ⟨c1, h⟩ | ⟨c1, h⟩
  · refine EX.go (i := .ifCond .eq 8) (len := 3) (pc1 := 9) (st1 := []) (hi1 := hi) (hl1 := hl) rfl ?_ (fun _ _ _ => if_pos c1)
    refine EX.pick [] ?_ rfl
    exact bJ_LW_isFractionPart_9 ev h
  · refine EX.go (i := .ifCond .eq 8) (len := 3) (pc1 := 4) (st1 := []) (hi1 := hi) (hl1 := hl) rfl ?_ (fun _ _ _ => if_neg c1)
    refine EX.iload_n (x := p0) rfl (List.mem_of_getElem? (i := 0) rfl) ?_
    refine EX.iconst (v := 1) rfl rfl ?_
    rcases ite_some h with ⟨c2, h⟩ | ⟨c2, h⟩
    · refine EX.go (i := .if_icmp .ne 7) (len := 3) (pc1 := 9) (st1 := []) (hi1 := hi) (hl1 := hl) rfl ?_ (fun _ _ _ => if_pos c2)
      refine EX.pick [] ?_ rfl
      exact bJ_LW_isFractionPart_9 ev h
    · refine EX.go (i := .if_icmp .ne 7) (len := 3) (pc1 := 13) (st1 := []) (hi1 := hi) (hl1 := hl) rfl ?_ (fun _ _ _ => if_neg c2)
      refine EX.iconst (v := 0) rfl rfl ?_
      obtain rfl := Option.some.inj h
      exact EX.zret rfl rfl (Or.inl rfl)
def B_LW_addLight_32 (N : Nat) (v3 : Int32) (v5 : Int32) (v6 : Int32) (hi : HI) (hl : HL) : Option ((Int32 × HI × HL) ⊕ (HI × HL)) :=
  if (hi 1 2 : Int32) ≤ (v6 : Int32) then some (.inr (hi, hl)) else if (v6 : Int32) < 0 ∨ 16 ≤ Int32.toNatClampNeg (v6) then none else if (v6 : Int32) < 0 ∨ 16 ≤ Int32.toNatClampNeg (v6) then none else some (.inl (v6 + 1, wr (hi) 42 (Int32.toNatClampNeg (v6)) (((hi 42 (Int32.toNatClampNeg (v6)) : Int32) + ((((((v3 >>> (v6 &&& 31)) : Int32) &&& (1)) : Int32) * v5)))), hl))
set_option maxRecDepth 10000 in
set_option maxHeartbeats 4000000 in
theorem bB_LW_addLight_32 (ev : EV) {N : Nat} {v3 : Int32} {v5 : Int32} {v6 : Int32} {hi : HI} {hl : HL} {z : (Int32 × HI × HL) ⊕ (HI × HL)} {OUT : Option Value × HI × HL} (h : B_LW_addLight_32 N v3 v5 v6 hi hl = some z) (hk : Sum.elim (fun s => EX w0 ev 5 m_LW_addLight 32 [(0, .ref 0), (3, .int (v3)), (5, .int (v5)), (6, .int (s.1))] [] (s.2.1) (s.2.2) OUT) (fun x => EX w0 ev 5 m_LW_addLight 69 [] [] (x.1) (x.2) OUT) z) : EX w0 ev 5 m_LW_addLight 32 [(0, .ref 0), (3, .int (v3)), (5, .int (v5)), (6, .int (v6))] [] (hi) (hl) OUT := by
  unfold B_LW_addLight_32 at h
  refine EX.iload (x := v6) rfl (List.mem_of_getElem? (i := 3) rfl) ?_
  refine EX.aload_n (x := 0) rfl (List.mem_of_getElem? (i := 0) rfl) ?_
  refine EX.go (i := .getfield 12) (len := 3) (pc1 := 38) (st1 := [.ref 1, .int (v6)]) (hi1 := hi) (hl1 := hl) rfl ?_ (fun _ _ _ => rfl)
  refine EX.go (i := .getfield 115) (len := 3) (pc1 := 41) (st1 := [.int (hi 1 2), .int (v6)]) (hi1 := hi) (hl1 := hl) rfl ?_ (fun _ _ _ => rfl)
  rcases ite_some h with ⟨c5, h⟩ | ⟨c5, h⟩
  · refine EX.go (i := .if_icmp .ge 28) (len := 3) (pc1 := 69) (st1 := []) (hi1 := hi) (hl1 := hl) rfl ?_ (fun _ _ _ => if_pos c5)
    obtain rfl := Option.some.inj h
    have hk : EX w0 ev 5 m_LW_addLight 69 [] [] (hi) (hl) OUT := hk
    exact EX.pick [] hk rfl
  · refine EX.go (i := .if_icmp .ge 28) (len := 3) (pc1 := 44) (st1 := []) (hi1 := hi) (hl1 := hl) rfl ?_ (fun _ _ _ => if_neg c5)
    refine EX.aload_n (x := 0) rfl (List.mem_of_getElem? (i := 0) rfl) ?_
    refine EX.go (i := .getfield 55) (len := 3) (pc1 := 48) (st1 := [.ref 42]) (hi1 := hi) (hl1 := hl) rfl ?_ (fun _ _ _ => rfl)
    refine EX.iload (x := v6) rfl (List.mem_of_getElem? (i := 3) rfl) ?_
    refine EX.go (i := .dup2) (len := 1) (pc1 := 51) (st1 := [.int (v6), .ref 42, .int (v6), .ref 42]) (hi1 := hi) (hl1 := hl) rfl ?_ (fun _ _ _ => rfl)
    obtain ⟨g6, h⟩ := grd_some h
    refine EX.iaload rfl rfl g6 ?_
    refine EX.iload_n (x := v3) rfl (List.mem_of_getElem? (i := 1) rfl) ?_
    refine EX.iload (x := v6) rfl (List.mem_of_getElem? (i := 3) rfl) ?_
    refine EX.go (i := .ishr) (len := 1) (pc1 := 56) (st1 := [.int ((v3 >>> (v6 &&& 31))), .int (hi 42 (Int32.toNatClampNeg (v6))), .int (v6), .ref 42]) (hi1 := hi) (hl1 := hl) rfl ?_ (fun _ _ _ => rfl)
    refine EX.iconst (v := 1) rfl rfl ?_
    refine EX.go (i := .iand) (len := 1) (pc1 := 58) (st1 := [.int ((((v3 >>> (v6 &&& 31)) : Int32) &&& (1))), .int (hi 42 (Int32.toNatClampNeg (v6))), .int (v6), .ref 42]) (hi1 := hi) (hl1 := hl) rfl ?_ (fun _ _ _ => rfl)
    refine EX.iload (x := v5) rfl (List.mem_of_getElem? (i := 2) rfl) ?_
    refine EX.go (i := .imul) (len := 1) (pc1 := 61) (st1 := [.int ((((((v3 >>> (v6 &&& 31)) : Int32) &&& (1)) : Int32) * v5)), .int (hi 42 (Int32.toNatClampNeg (v6))), .int (v6), .ref 42]) (hi1 := hi) (hl1 := hl) rfl ?_ (fun _ _ _ => rfl)
    refine EX.go (i := .iadd) (len := 1) (pc1 := 62) (st1 := [.int (((hi 42 (Int32.toNatClampNeg (v6)) : Int32) + ((((((v3 >>> (v6 &&& 31)) : Int32) &&& (1)) : Int32) * v5)))), .int (v6), .ref 42]) (hi1 := hi) (hl1 := hl) rfl ?_ (fun _ _ _ => rfl)
    obtain ⟨g7, h⟩ := grd_some h
    refine EX.iastore rfl rfl g7 ?_
    refine EX.iinc (x := v6) (v := v6 + 1) (req1 := [(6, .int (v6 + 1)), (0, .ref 0), (3, .int (v3)), (5, .int (v5))]) rfl rfl (List.mem_of_getElem? (i := 3) rfl) rfl rfl ?_
    refine EX.go (i := .goto (-34)) (len := 3) (pc1 := 32) (st1 := []) (hi1 := wr (hi) 42 (Int32.toNatClampNeg (v6)) (((hi 42 (Int32.toNatClampNeg (v6)) : Int32) + ((((((v3 >>> (v6 &&& 31)) : Int32) &&& (1)) : Int32) * v5))))) (hl1 := hl) rfl ?_ (fun _ _ _ => rfl)
    obtain rfl := Option.some.inj h
    have hk : EX w0 ev 5 m_LW_addLight 32 [(0, .ref 0), (3, .int (v3)), (5, .int (v5)), (6, .int (v6 + 1))] [] (wr (hi) 42 (Int32.toNatClampNeg (v6)) (((hi 42 (Int32.toNatClampNeg (v6)) : Int32) + ((((((v3 >>> (v6 &&& 31)) : Int32) &&& (1)) : Int32) * v5))))) (hl) OUT := hk
    exact EX.pick [1, 2, 3, 0] hk rfl
def f_LW_addLight (N : Nat) (p1 : Int32) (p2 : Int32) (hi : HI) (hl : HL) : Option (Unit × HI × HL) :=
  (f_LW_lampsIn N (p1) (hi) (hl)).bind fun z1 => (f_Integer_bitCount N (z1.1) (z1.2.1) (z1.2.2)).bind fun z2 => if (1 : Int32) ≤ (z2.1 : Int32) then if (z2.1 : Int32) = 0 then none else (lpN (fun s => B_LW_addLight_32 N (z1.1) (((((720720 : Int32) / (z2.1)) : Int32) * p2)) s.1 s.2.1 s.2.2) N (0, z2.2.1, z2.2.2)).bind fun x8 => some ((), x8.1, x8.2) else some ((), z2.2.1, z2.2.2)
set_option maxRecDepth 10000 in
set_option maxHeartbeats 4000000 in
theorem b_LW_addLight (ev : EV) {N : Nat} {p1 : Int32} {p2 : Int32} {hi : HI} {hl : HL} {o : Unit × HI × HL} (h : f_LW_addLight N p1 p2 hi hl = some o) : EM w0 ev 6 m_LW_addLight [.ref 0, .int (p1), .int (p2)] hi hl (oV o) := by
  unfold f_LW_addLight at h
  refine EM.of rfl ?_
  show EX w0 ev 5 m_LW_addLight 0 [(0, .ref 0), (1, .int (p1)), (2, .int (p2))] [] (hi) (hl) (oV o)
  refine EX.aload_n (x := 0) rfl (List.mem_of_getElem? (i := 0) rfl) ?_
  refine EX.iload_n (x := p1) rfl (List.mem_of_getElem? (i := 1) rfl) ?_
  obtain ⟨z1, hz1, h⟩ := bnd_some h
  refine EX.callV (b := 0) (as := [.int (p1)]) (rest := []) (r := some (.int (z1.1))) (hi1 := z1.2.1) (hl1 := z1.2.2) rfl rfl rfl rfl rfl rfl ((b_LW_lampsIn ev hz1).mono (by decide)) ?_
  show EX w0 ev 5 m_LW_addLight 5 [(0, .ref 0), (1, .int (p1)), (2, .int (p2))] [.int (z1.1)] (z1.2.1) (z1.2.2) (oV o)
  refine EX.istore_n (req1 := [(3, .int (z1.1)), (0, .ref 0), (1, .int (p1)), (2, .int (p2))]) rfl rfl rfl ?_
  refine EX.iload_n (x := z1.1) rfl (List.mem_of_getElem? (i := 0) rfl) ?_
  obtain ⟨z2, hz2, h⟩ := bnd_some h
  refine EX.callS (as := [.int (z1.1)]) (rest := []) (r := some (.int (z2.1))) (hi1 := z2.2.1) (hl1 := z2.2.2) rfl rfl rfl rfl rfl rfl ((b_Integer_bitCount ev hz2).mono (by decide)) ?_
  show EX w0 ev 5 m_LW_addLight 10 [(3, .int (z1.1)), (0, .ref 0), (1, .int (p1)), (2, .int (p2))] [.int (z2.1)] (z2.2.1) (z2.2.2) (oV o)
  refine EX.istore (req1 := [(4, .int (z2.1)), (3, .int (z1.1)), (0, .ref 0), (1, .int (p1)), (2, .int (p2))]) rfl rfl rfl ?_
  refine EX.iload (x := z2.1) rfl (List.mem_of_getElem? (i := 0) rfl) ?_
  refine EX.iconst (v := 1) rfl rfl ?_
  rcases ite_some h with ⟨c3, h⟩ | ⟨c3, h⟩
  · refine EX.go (i := .if_icmp .ge 4) (len := 3) (pc1 := 19) (st1 := []) (hi1 := z2.2.1) (hl1 := z2.2.2) rfl ?_ (fun _ _ _ => if_pos c3)
    refine EX.go (i := .ldc_w 362) (len := 3) (pc1 := 22) (st1 := [.int (720720)]) (hi1 := z2.2.1) (hl1 := z2.2.2) rfl ?_ (fun _ _ _ => rfl)
    refine EX.iload (x := z2.1) rfl (List.mem_of_getElem? (i := 0) rfl) ?_
    obtain ⟨g4, h⟩ := grd_some h
    refine EX.go (i := .idiv) (len := 1) (pc1 := 25) (st1 := [.int (((720720 : Int32) / (z2.1)))]) (hi1 := z2.2.1) (hl1 := z2.2.2) rfl ?_ (fun _ _ _ => if_neg g4)
    refine EX.iload_n (x := p2) rfl (List.mem_of_getElem? (i := 4) rfl) ?_
    refine EX.go (i := .imul) (len := 1) (pc1 := 27) (st1 := [.int (((((720720 : Int32) / (z2.1)) : Int32) * p2))]) (hi1 := z2.2.1) (hl1 := z2.2.2) rfl ?_ (fun _ _ _ => rfl)
    refine EX.istore (req1 := [(5, .int (((((720720 : Int32) / (z2.1)) : Int32) * p2))), (4, .int (z2.1)), (3, .int (z1.1)), (0, .ref 0), (1, .int (p1)), (2, .int (p2))]) rfl rfl rfl ?_
    refine EX.iconst (v := 0) rfl rfl ?_
    refine EX.istore (req1 := [(6, .int (0)), (5, .int (((((720720 : Int32) / (z2.1)) : Int32) * p2))), (4, .int (z2.1)), (3, .int (z1.1)), (0, .ref 0), (1, .int (p1)), (2, .int (p2))]) rfl rfl rfl ?_
    obtain ⟨x8, hx8, h⟩ := bnd_some h
    refine EX.pick [4, 3, 1, 0] ?_ rfl
    refine lp_sound (f := fun s => B_LW_addLight_32 N (z1.1) (((((720720 : Int32) / (z2.1)) : Int32) * p2)) s.1 s.2.1 s.2.2) (PS := fun s => EX w0 ev 5 m_LW_addLight 32 [(0, .ref 0), (3, .int (z1.1)), (5, .int (((((720720 : Int32) / (z2.1)) : Int32) * p2))), (6, .int (s.1))] [] (s.2.1) (s.2.2) (oV o)) (PX := fun x => EX w0 ev 5 m_LW_addLight 69 [] [] (x.1) (x.2) (oV o)) ?_ N _ x8 hx8 ?_
    · exact fun s z hz hk => bB_LW_addLight_32 ev hz hk
    show EX w0 ev 5 m_LW_addLight 69 [] [] (x8.1) (x8.2) (oV o)
    obtain rfl := Option.some.inj h
    exact EX.vret rfl rfl
  · refine EX.go (i := .if_icmp .ge 4) (len := 3) (pc1 := 18) (st1 := []) (hi1 := z2.2.1) (hl1 := z2.2.2) rfl ?_ (fun _ _ _ => if_neg c3)
    obtain rfl := Option.some.inj h
    exact EX.vret rfl rfl
def B_LW_gatherPlanLight_41 (N : Nat) (v1 : Int32) (v2 : Nat) (v3 : Int32) (hi : HI) (hl : HL) : Option ((Int32 × HI × HL) ⊕ (HI × HL)) :=
  if gF (v2) then if (hi (v2) 2 : Int32) ≤ (v3 : Int32) then some (.inr (hi, hl)) else if (v3 : Int32) < 0 ∨ 16 ≤ Int32.toNatClampNeg (v3) then none else (f_LW_addLight N (hi (v2 + 1) (Int32.toNatClampNeg (v3))) (((1 : Int32) <<< (v1 &&& 31))) (hi) (hl)).bind fun z8 => some (.inl (v3 + 1, z8.2.1, z8.2.2)) else none
set_option maxRecDepth 10000 in
set_option maxHeartbeats 4000000 in
theorem bB_LW_gatherPlanLight_41 (ev : EV) {N : Nat} {v1 : Int32} {v2 : Nat} {v3 : Int32} {hi : HI} {hl : HL} {z : (Int32 × HI × HL) ⊕ (HI × HL)} {OUT : Option Value × HI × HL} (h : B_LW_gatherPlanLight_41 N v1 v2 v3 hi hl = some z) (hk : Sum.elim (fun s => EX w0 ev 27 m_LW_gatherPlanLight 41 [(0, .ref 0), (1, .int (v1)), (2, .ref (v2)), (3, .int (s.1))] [] (s.2.1) (s.2.2) OUT) (fun x => EX w0 ev 27 m_LW_gatherPlanLight 68 [(0, .ref 0), (1, .int (v1))] [] (x.1) (x.2) OUT) z) : EX w0 ev 27 m_LW_gatherPlanLight 41 [(0, .ref 0), (1, .int (v1)), (2, .ref (v2)), (3, .int (v3))] [] (hi) (hl) OUT := by
  unfold B_LW_gatherPlanLight_41 at h
  refine EX.iload_n (x := v3) rfl (List.mem_of_getElem? (i := 3) rfl) ?_
  refine EX.aload_n (x := v2) rfl (List.mem_of_getElem? (i := 2) rfl) ?_
  obtain ⟨k_v2, h⟩ := grp_some h
  refine EX.getfieldV (v := .int (hi (v2) 2)) rfl rfl k_v2.1 rfl rfl ?_
  rcases ite_some h with ⟨c6, h⟩ | ⟨c6, h⟩
  · refine EX.go (i := .if_icmp .ge 22) (len := 3) (pc1 := 68) (st1 := []) (hi1 := hi) (hl1 := hl) rfl ?_ (fun _ _ _ => if_pos c6)
    obtain rfl := Option.some.inj h
    have hk : EX w0 ev 27 m_LW_gatherPlanLight 68 [(0, .ref 0), (1, .int (v1))] [] (hi) (hl) OUT := hk
    exact EX.pick [0, 1] hk rfl
  · refine EX.go (i := .if_icmp .ge 22) (len := 3) (pc1 := 49) (st1 := []) (hi1 := hi) (hl1 := hl) rfl ?_ (fun _ _ _ => if_neg c6)
    refine EX.aload_n (x := 0) rfl (List.mem_of_getElem? (i := 0) rfl) ?_
    refine EX.aload_n (x := v2) rfl (List.mem_of_getElem? (i := 2) rfl) ?_
    refine EX.getfieldV (v := .ref (v2 + 1)) rfl rfl k_v2.1 rfl rfl ?_
    refine EX.iload_n (x := v3) rfl (List.mem_of_getElem? (i := 3) rfl) ?_
    obtain ⟨g7, h⟩ := grd_some h
    refine EX.iaload rfl k_v2.2 g7 ?_
    refine EX.iconst (v := 1) rfl rfl ?_
    refine EX.iload_n (x := v1) rfl (List.mem_of_getElem? (i := 1) rfl) ?_
    refine EX.go (i := .ishl) (len := 1) (pc1 := 59) (st1 := [.int (((1 : Int32) <<< (v1 &&& 31))), .int (hi (v2 + 1) (Int32.toNatClampNeg (v3))), .ref 0]) (hi1 := hi) (hl1 := hl) rfl ?_ (fun _ _ _ => rfl)
    obtain ⟨z8, hz8, h⟩ := bnd_some h
    refine EX.callV (b := 0) (as := [.int (hi (v2 + 1) (Int32.toNatClampNeg (v3))), .int (((1 : Int32) <<< (v1 &&& 31)))]) (rest := []) (r := none) (hi1 := z8.2.1) (hl1 := z8.2.2) rfl rfl rfl rfl rfl rfl ((b_LW_addLight ev hz8).mono (by decide)) ?_
    show EX w0 ev 27 m_LW_gatherPlanLight 62 [(0, .ref 0), (1, .int (v1)), (2, .ref (v2)), (3, .int (v3))] [] (z8.2.1) (z8.2.2) OUT
    refine EX.iinc (x := v3) (v := v3 + 1) (req1 := [(3, .int (v3 + 1)), (0, .ref 0), (1, .int (v1)), (2, .ref (v2))]) rfl rfl (List.mem_of_getElem? (i := 3) rfl) rfl rfl ?_
    refine EX.go (i := .goto (-24)) (len := 3) (pc1 := 41) (st1 := []) (hi1 := z8.2.1) (hl1 := z8.2.2) rfl ?_ (fun _ _ _ => rfl)
    obtain rfl := Option.some.inj h
    have hk : EX w0 ev 27 m_LW_gatherPlanLight 41 [(0, .ref 0), (1, .int (v1)), (2, .ref (v2)), (3, .int (v3 + 1))] [] (z8.2.1) (z8.2.2) OUT := hk
    exact EX.pick [1, 2, 3, 0] hk rfl
def B_LW_gatherPlanLight_10 (N : Nat) (v1 : Int32) (hi : HI) (hl : HL) : Option ((Int32 × HI × HL) ⊕ (Nat × HI × HL)) :=
  if (4 : Int32) ≤ (v1 : Int32) then some (.inr (0, hi, hl)) else (f_Board_plane N (v1) (hi) (hl)).bind fun z3 => (f_LW_frameOf N (z3.1) (z3.2.1) (z3.2.2)).bind fun z4 => if gF (z4.1) then if (z4.2.1 (z4.1) 2 : Int32) = ((-4) : Int32) then some (.inr (1, z4.2.1, z4.2.2)) else (lpN (fun s => B_LW_gatherPlanLight_41 N (v1) (z4.1) s.1 s.2.1 s.2.2) N (0, z4.2.1, z4.2.2)).bind fun x9 => some (.inl (v1 + 1, x9.1, x9.2)) else none
set_option maxRecDepth 10000 in
set_option maxHeartbeats 4000000 in
theorem bB_LW_gatherPlanLight_10 (ev : EV) {N : Nat} {v1 : Int32} {hi : HI} {hl : HL} {z : (Int32 × HI × HL) ⊕ (Nat × HI × HL)} {OUT : Option Value × HI × HL} (h : B_LW_gatherPlanLight_10 N v1 hi hl = some z) (hk : Sum.elim (fun s => EX w0 ev 27 m_LW_gatherPlanLight 10 [(0, .ref 0), (1, .int (s.1))] [] (s.2.1) (s.2.2) OUT) (fun x => (x.1 = 0 → EX w0 ev 27 m_LW_gatherPlanLight 74 [] [] (x.2.1) (x.2.2) OUT) ∧ (x.1 = 1 → EX w0 ev 27 m_LW_gatherPlanLight 37 [] [] (x.2.1) (x.2.2) OUT)) z) : EX w0 ev 27 m_LW_gatherPlanLight 10 [(0, .ref 0), (1, .int (v1))] [] (hi) (hl) OUT := by
  unfold B_LW_gatherPlanLight_10 at h
  refine EX.iload_n (x := v1) rfl (List.mem_of_getElem? (i := 1) rfl) ?_
  refine EX.iconst (v := 4) rfl rfl ?_
  rcases ite_some h with ⟨c2, h⟩ | ⟨c2, h⟩
  · refine EX.go (i := .if_icmp .ge 62) (len := 3) (pc1 := 74) (st1 := []) (hi1 := hi) (hl1 := hl) rfl ?_ (fun _ _ _ => if_pos c2)
    obtain rfl := Option.some.inj h
    have hk := hk.1 rfl
    have hk : EX w0 ev 27 m_LW_gatherPlanLight 74 [] [] (hi) (hl) OUT := hk
    exact EX.pick [] hk rfl
  · refine EX.go (i := .if_icmp .ge 62) (len := 3) (pc1 := 15) (st1 := []) (hi1 := hi) (hl1 := hl) rfl ?_ (fun _ _ _ => if_neg c2)
    refine EX.aload_n (x := 0) rfl (List.mem_of_getElem? (i := 0) rfl) ?_
    refine EX.aload_n (x := 0) rfl (List.mem_of_getElem? (i := 0) rfl) ?_
    refine EX.go (i := .getfield 12) (len := 3) (pc1 := 20) (st1 := [.ref 1, .ref 0]) (hi1 := hi) (hl1 := hl) rfl ?_ (fun _ _ _ => rfl)
    refine EX.iload_n (x := v1) rfl (List.mem_of_getElem? (i := 1) rfl) ?_
    obtain ⟨z3, hz3, h⟩ := bnd_some h
    refine EX.callV (b := 1) (as := [.int (v1)]) (rest := [.ref 0]) (r := some (.int (z3.1))) (hi1 := z3.2.1) (hl1 := z3.2.2) rfl rfl rfl rfl rfl rfl ((b_Board_plane ev hz3).mono (by decide)) ?_
    show EX w0 ev 27 m_LW_gatherPlanLight 24 [(0, .ref 0), (1, .int (v1))] [.int (z3.1), .ref 0] (z3.2.1) (z3.2.2) OUT
    obtain ⟨z4, hz4, h⟩ := bnd_some h
    refine EX.callV (b := 0) (as := [.int (z3.1)]) (rest := []) (r := some (.ref (z4.1))) (hi1 := z4.2.1) (hl1 := z4.2.2) rfl rfl rfl rfl rfl rfl ((b_LW_frameOf ev hz4).mono (by decide)) ?_
    show EX w0 ev 27 m_LW_gatherPlanLight 27 [(0, .ref 0), (1, .int (v1))] [.ref (z4.1)] (z4.2.1) (z4.2.2) OUT
    refine EX.astore_n (req1 := [(2, .ref (z4.1)), (0, .ref 0), (1, .int (v1))]) rfl rfl rfl ?_
    refine EX.aload_n (x := z4.1) rfl (List.mem_of_getElem? (i := 0) rfl) ?_
    obtain ⟨k_z4_1, h⟩ := grp_some h
    refine EX.getfieldV (v := .int (z4.2.1 (z4.1) 2)) rfl rfl k_z4_1.1 rfl rfl ?_
    refine EX.bipush (v := (-4)) rfl rfl ?_
    rcases ite_some h with ⟨c5, h⟩ | ⟨c5, h⟩
    · refine EX.go (i := .if_icmp .ne 5) (len := 3) (pc1 := 37) (st1 := []) (hi1 := z4.2.1) (hl1 := z4.2.2) rfl ?_ (fun _ _ _ => if_pos c5)
      obtain rfl := Option.some.inj h
      have hk := hk.2 rfl
      have hk : EX w0 ev 27 m_LW_gatherPlanLight 37 [] [] (z4.2.1) (z4.2.2) OUT := hk
      exact EX.pick [] hk rfl
    · refine EX.go (i := .if_icmp .ne 5) (len := 3) (pc1 := 39) (st1 := []) (hi1 := z4.2.1) (hl1 := z4.2.2) rfl ?_ (fun _ _ _ => if_neg c5)
      refine EX.iconst (v := 0) rfl rfl ?_
      refine EX.istore_n (req1 := [(3, .int (0)), (2, .ref (z4.1)), (0, .ref 0), (1, .int (v1))]) rfl rfl rfl ?_
      obtain ⟨x9, hx9, h⟩ := bnd_some h
      refine EX.pick [2, 3, 1, 0] ?_ rfl
      refine lp_sound (f := fun s => B_LW_gatherPlanLight_41 N (v1) (z4.1) s.1 s.2.1 s.2.2) (PS := fun s => EX w0 ev 27 m_LW_gatherPlanLight 41 [(0, .ref 0), (1, .int (v1)), (2, .ref (z4.1)), (3, .int (s.1))] [] (s.2.1) (s.2.2) OUT) (PX := fun x => EX w0 ev 27 m_LW_gatherPlanLight 68 [(0, .ref 0), (1, .int (v1))] [] (x.1) (x.2) OUT) ?_ N _ x9 hx9 ?_
      · exact fun s z hz hk => bB_LW_gatherPlanLight_41 ev hz hk
      show EX w0 ev 27 m_LW_gatherPlanLight 68 [(0, .ref 0), (1, .int (v1))] [] (x9.1) (x9.2) OUT
      refine EX.iinc (x := v1) (v := v1 + 1) (req1 := [(1, .int (v1 + 1)), (0, .ref 0)]) rfl rfl (List.mem_of_getElem? (i := 1) rfl) rfl rfl ?_
      refine EX.go (i := .goto (-61)) (len := 3) (pc1 := 10) (st1 := []) (hi1 := x9.1) (hl1 := x9.2) rfl ?_ (fun _ _ _ => rfl)
      obtain rfl := Option.some.inj h
      have hk : EX w0 ev 27 m_LW_gatherPlanLight 10 [(0, .ref 0), (1, .int (v1 + 1))] [] (x9.1) (x9.2) OUT := hk
      exact EX.pick [1, 0] hk rfl
def f_LW_gatherPlanLight (N : Nat) (hi : HI) (hl : HL) : Option (Int32 × HI × HL) :=
  (f_Arrays_fill_I N (42) (0) (hi) (hl)).bind fun z1 => (lpN (fun s => B_LW_gatherPlanLight_10 N s.1 s.2.1 s.2.2) N (0, z1.2.1, z1.2.2)).bind fun x10 => if x10.1 = 0 then some (1, x10.2.1, x10.2.2) else some (0, x10.2.1, x10.2.2)
set_option maxRecDepth 10000 in
set_option maxHeartbeats 4000000 in
theorem b_LW_gatherPlanLight (ev : EV) {N : Nat} {hi : HI} {hl : HL} {o : Int32 × HI × HL} (h : f_LW_gatherPlanLight N hi hl = some o) : EM w0 ev 28 m_LW_gatherPlanLight [.ref 0] hi hl (oI o) := by
  unfold f_LW_gatherPlanLight at h
  refine EM.of rfl ?_
  show EX w0 ev 27 m_LW_gatherPlanLight 0 [(0, .ref 0)] [] (hi) (hl) (oI o)
  refine EX.aload_n (x := 0) rfl (List.mem_of_getElem? (i := 0) rfl) ?_
  refine EX.go (i := .getfield 55) (len := 3) (pc1 := 4) (st1 := [.ref 42]) (hi1 := hi) (hl1 := hl) rfl ?_ (fun _ _ _ => rfl)
  refine EX.iconst (v := 0) rfl rfl ?_
  obtain ⟨z1, hz1, h⟩ := bnd_some h
  refine EX.callS (as := [.ref 42, .int (0)]) (rest := []) (r := none) (hi1 := z1.2.1) (hl1 := z1.2.2) rfl rfl rfl rfl rfl rfl ((b_Arrays_fill_I ev hz1).mono (by decide)) ?_
  show EX w0 ev 27 m_LW_gatherPlanLight 8 [(0, .ref 0)] [] (z1.2.1) (z1.2.2) (oI o)
  refine EX.iconst (v := 0) rfl rfl ?_
  refine EX.istore_n (req1 := [(1, .int (0)), (0, .ref 0)]) rfl rfl rfl ?_
  obtain ⟨x10, hx10, h⟩ := bnd_some h
  refine EX.pick [1, 0] ?_ rfl
  refine lp_sound (f := fun s => B_LW_gatherPlanLight_10 N s.1 s.2.1 s.2.2) (PS := fun s => EX w0 ev 27 m_LW_gatherPlanLight 10 [(0, .ref 0), (1, .int (s.1))] [] (s.2.1) (s.2.2) (oI o)) (PX := fun x => (x.1 = 0 → EX w0 ev 27 m_LW_gatherPlanLight 74 [] [] (x.2.1) (x.2.2) (oI o)) ∧ (x.1 = 1 → EX w0 ev 27 m_LW_gatherPlanLight 37 [] [] (x.2.1) (x.2.2) (oI o))) ?_ N _ x10 hx10 ?_
  · exact fun s z hz hk => bB_LW_gatherPlanLight_10 ev hz hk
  rcases ite_some h with ⟨c11, h⟩ | ⟨c11, h⟩
  · refine ⟨fun _ => ?_, fun e9 => absurd (c11.symm.trans e9) (by decide)⟩
    show EX w0 ev 27 m_LW_gatherPlanLight 74 [] [] (x10.2.1) (x10.2.2) (oI o)
    refine EX.iconst (v := 1) rfl rfl ?_
    obtain rfl := Option.some.inj h
    exact EX.zret rfl rfl (Or.inr rfl)
  · refine ⟨fun e9 => absurd e9 c11, fun _ => ?_⟩
    show EX w0 ev 27 m_LW_gatherPlanLight 37 [] [] (x10.2.1) (x10.2.2) (oI o)
    refine EX.iconst (v := 0) rfl rfl ?_
    obtain rfl := Option.some.inj h
    exact EX.zret rfl rfl (Or.inl rfl)
