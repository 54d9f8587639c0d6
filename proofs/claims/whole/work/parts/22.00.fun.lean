/-! methods as functions -/
def f_Board_restart (N : Nat) (p1 : Int32) (hi : HI) (hl : HL) : Option (Unit × HI × HL) :=
  some ((), wr (wr (hi) 1 0 (p1)) 1 2 (0), hl)
set_option maxRecDepth 10000 in
set_option maxHeartbeats 4000000 in
theorem b_Board_restart (ev : EV) {N : Nat} {p1 : Int32} {hi : HI} {hl : HL} {o : Unit × HI × HL} (h : f_Board_restart N p1 hi hl = some o) : EM w0 ev 1 m_Board_restart [.ref 1, .int (p1)] hi hl (oV o) := by
  unfold f_Board_restart at h
  refine EM.of rfl ?_
  show EX w0 ev 0 m_Board_restart 0 [(0, .ref 1), (1, .int (p1))] [] (hi) (hl) (oV o)
  refine EX.aload_n (x := 1) rfl (List.mem_of_getElem? (i := 0) rfl) ?_
  refine EX.iload_n (x := p1) rfl (List.mem_of_getElem? (i := 1) rfl) ?_
  refine EX.go (i := .putfield 9) (len := 3) (pc1 := 5) (st1 := []) (hi1 := wr (hi) 1 0 (p1)) (hl1 := hl) rfl ?_ (fun _ _ _ => rfl)
  refine EX.aload_n (x := 1) rfl (List.mem_of_getElem? (i := 0) rfl) ?_
  refine EX.iconst (v := 0) rfl rfl ?_
  refine EX.go (i := .putfield 34) (len := 3) (pc1 := 10) (st1 := []) (hi1 := wr (wr (hi) 1 0 (p1)) 1 2 (0)) (hl1 := hl) rfl ?_ (fun _ _ _ => rfl)
  obtain rfl := Option.some.inj h
  exact EX.vret rfl rfl
def f_Board_add (N : Nat) (p1 : Int32) (p2 : Int32) (p3 : Int32) (hi : HI) (hl : HL) : Option (Int32 × HI × HL) :=
  if (hi 1 2 : Int32) < 0 ∨ 16 ≤ Int32.toNatClampNeg (hi 1 2) then none else if (hi 1 2 : Int32) < 0 ∨ 16 ≤ Int32.toNatClampNeg (hi 1 2) then none else if (hi 1 2 : Int32) < 0 ∨ 16 ≤ Int32.toNatClampNeg (hi 1 2) then none else if (hi 1 2 : Int32) < 0 ∨ 16 ≤ Int32.toNatClampNeg (hi 1 2) then none else if (hi 1 2 : Int32) < 0 ∨ 16 ≤ Int32.toNatClampNeg (hi 1 2) then none else some (hi 1 2, wr (wr (wr (wr (wr (wr (hi) 2 (Int32.toNatClampNeg (hi 1 2)) (p1)) 3 (Int32.toNatClampNeg (hi 1 2)) (p2)) 4 (Int32.toNatClampNeg (hi 1 2)) (p3)) 5 (Int32.toNatClampNeg (hi 1 2)) (0)) 6 (Int32.toNatClampNeg (hi 1 2)) (0)) 1 2 ((((wr (wr (wr (wr (wr (hi) 2 (Int32.toNatClampNeg (hi 1 2)) (p1)) 3 (Int32.toNatClampNeg (hi 1 2)) (p2)) 4 (Int32.toNatClampNeg (hi 1 2)) (p3)) 5 (Int32.toNatClampNeg (hi 1 2)) (0)) 6 (Int32.toNatClampNeg (hi 1 2)) (0)) 1 2 : Int32) + (1))), hl)
set_option maxRecDepth 10000 in
set_option maxHeartbeats 4000000 in
theorem b_Board_add (ev : EV) {N : Nat} {p1 : Int32} {p2 : Int32} {p3 : Int32} {hi : HI} {hl : HL} {o : Int32 × HI × HL} (h : f_Board_add N p1 p2 p3 hi hl = some o) : EM w0 ev 1 m_Board_add [.ref 1, .int (p1), .int (p2), .int (p3)] hi hl (oI o) := by
  unfold f_Board_add at h
  refine EM.of rfl ?_
  show EX w0 ev 0 m_Board_add 0 [(0, .ref 1), (1, .int (p1)), (2, .int (p2)), (3, .int (p3))] [] (hi) (hl) (oI o)
  refine EX.aload_n (x := 1) rfl (List.mem_of_getElem? (i := 0) rfl) ?_
  refine EX.go (i := .getfield 34) (len := 3) (pc1 := 4) (st1 := [.int (hi 1 2)]) (hi1 := hi) (hl1 := hl) rfl ?_ (fun _ _ _ => rfl)
  refine EX.istore (req1 := [(4, .int (hi 1 2)), (0, .ref 1), (1, .int (p1)), (2, .int (p2)), (3, .int (p3))]) rfl rfl rfl ?_
  refine EX.aload_n (x := 1) rfl (List.mem_of_getElem? (i := 1) rfl) ?_
  refine EX.go (i := .getfield 18) (len := 3) (pc1 := 10) (st1 := [.ref 2]) (hi1 := hi) (hl1 := hl) rfl ?_ (fun _ _ _ => rfl)
  refine EX.iload (x := hi 1 2) rfl (List.mem_of_getElem? (i := 0) rfl) ?_
  refine EX.iload_n (x := p1) rfl (List.mem_of_getElem? (i := 2) rfl) ?_
  obtain ⟨g1, h⟩ := grd_some h
  refine EX.iastore rfl rfl g1 ?_
  refine EX.aload_n (x := 1) rfl (List.mem_of_getElem? (i := 1) rfl) ?_
  refine EX.go (i := .getfield 22) (len := 3) (pc1 := 18) (st1 := [.ref 3]) (hi1 := wr (hi) 2 (Int32.toNatClampNeg (hi 1 2)) (p1)) (hl1 := hl) rfl ?_ (fun _ _ _ => rfl)
  refine EX.iload (x := hi 1 2) rfl (List.mem_of_getElem? (i := 0) rfl) ?_
  refine EX.iload_n (x := p2) rfl (List.mem_of_getElem? (i := 3) rfl) ?_
  obtain ⟨g2, h⟩ := grd_some h
  refine EX.iastore rfl rfl g2 ?_
  refine EX.aload_n (x := 1) rfl (List.mem_of_getElem? (i := 1) rfl) ?_
  refine EX.go (i := .getfield 25) (len := 3) (pc1 := 26) (st1 := [.ref 4]) (hi1 := wr (wr (hi) 2 (Int32.toNatClampNeg (hi 1 2)) (p1)) 3 (Int32.toNatClampNeg (hi 1 2)) (p2)) (hl1 := hl) rfl ?_ (fun _ _ _ => rfl)
  refine EX.iload (x := hi 1 2) rfl (List.mem_of_getElem? (i := 0) rfl) ?_
  refine EX.iload_n (x := p3) rfl (List.mem_of_getElem? (i := 4) rfl) ?_
  obtain ⟨g3, h⟩ := grd_some h
  refine EX.iastore rfl rfl g3 ?_
  refine EX.aload_n (x := 1) rfl (List.mem_of_getElem? (i := 1) rfl) ?_
  refine EX.go (i := .getfield 28) (len := 3) (pc1 := 34) (st1 := [.ref 5]) (hi1 := wr (wr (wr (hi) 2 (Int32.toNatClampNeg (hi 1 2)) (p1)) 3 (Int32.toNatClampNeg (hi 1 2)) (p2)) 4 (Int32.toNatClampNeg (hi 1 2)) (p3)) (hl1 := hl) rfl ?_ (fun _ _ _ => rfl)
  refine EX.iload (x := hi 1 2) rfl (List.mem_of_getElem? (i := 0) rfl) ?_
  refine EX.iconst (v := 0) rfl rfl ?_
  obtain ⟨g4, h⟩ := grd_some h
  refine EX.iastore rfl rfl g4 ?_
  refine EX.aload_n (x := 1) rfl (List.mem_of_getElem? (i := 1) rfl) ?_
  refine EX.go (i := .getfield 31) (len := 3) (pc1 := 42) (st1 := [.ref 6]) (hi1 := wr (wr (wr (wr (hi) 2 (Int32.toNatClampNeg (hi 1 2)) (p1)) 3 (Int32.toNatClampNeg (hi 1 2)) (p2)) 4 (Int32.toNatClampNeg (hi 1 2)) (p3)) 5 (Int32.toNatClampNeg (hi 1 2)) (0)) (hl1 := hl) rfl ?_ (fun _ _ _ => rfl)
  refine EX.iload (x := hi 1 2) rfl (List.mem_of_getElem? (i := 0) rfl) ?_
  refine EX.iconst (v := 0) rfl rfl ?_
  obtain ⟨g5, h⟩ := grd_some h
  refine EX.iastore rfl rfl g5 ?_
  refine EX.aload_n (x := 1) rfl (List.mem_of_getElem? (i := 1) rfl) ?_
  refine EX.go (i := .dup) (len := 1) (pc1 := 48) (st1 := [.ref 1, .ref 1]) (hi1 := wr (wr (wr (wr (wr (hi) 2 (Int32.toNatClampNeg (hi 1 2)) (p1)) 3 (Int32.toNatClampNeg (hi 1 2)) (p2)) 4 (Int32.toNatClampNeg (hi 1 2)) (p3)) 5 (Int32.toNatClampNeg (hi 1 2)) (0)) 6 (Int32.toNatClampNeg (hi 1 2)) (0)) (hl1 := hl) rfl ?_ (fun _ _ _ => rfl)
  refine EX.go (i := .getfield 34) (len := 3) (pc1 := 51) (st1 := [.int ((wr (wr (wr (wr (wr (hi) 2 (Int32.toNatClampNeg (hi 1 2)) (p1)) 3 (Int32.toNatClampNeg (hi 1 2)) (p2)) 4 (Int32.toNatClampNeg (hi 1 2)) (p3)) 5 (Int32.toNatClampNeg (hi 1 2)) (0)) 6 (Int32.toNatClampNeg (hi 1 2)) (0)) 1 2), .ref 1]) (hi1 := wr (wr (wr (wr (wr (hi) 2 (Int32.toNatClampNeg (hi 1 2)) (p1)) 3 (Int32.toNatClampNeg (hi 1 2)) (p2)) 4 (Int32.toNatClampNeg (hi 1 2)) (p3)) 5 (Int32.toNatClampNeg (hi 1 2)) (0)) 6 (Int32.toNatClampNeg (hi 1 2)) (0)) (hl1 := hl) rfl ?_ (fun _ _ _ => rfl)
  refine EX.iconst (v := 1) rfl rfl ?_
  refine EX.go (i := .iadd) (len := 1) (pc1 := 53) (st1 := [.int ((((wr (wr (wr (wr (wr (hi) 2 (Int32.toNatClampNeg (hi 1 2)) (p1)) 3 (Int32.toNatClampNeg (hi 1 2)) (p2)) 4 (Int32.toNatClampNeg (hi 1 2)) (p3)) 5 (Int32.toNatClampNeg (hi 1 2)) (0)) 6 (Int32.toNatClampNeg (hi 1 2)) (0)) 1 2 : Int32) + (1))), .ref 1]) (hi1 := wr (wr (wr (wr (wr (hi) 2 (Int32.toNatClampNeg (hi 1 2)) (p1)) 3 (Int32.toNatClampNeg (hi 1 2)) (p2)) 4 (Int32.toNatClampNeg (hi 1 2)) (p3)) 5 (Int32.toNatClampNeg (hi 1 2)) (0)) 6 (Int32.toNatClampNeg (hi 1 2)) (0)) (hl1 := hl) rfl ?_ (fun _ _ _ => rfl)
  refine EX.go (i := .putfield 34) (len := 3) (pc1 := 56) (st1 := []) (hi1 := wr (wr (wr (wr (wr (wr (hi) 2 (Int32.toNatClampNeg (hi 1 2)) (p1)) 3 (Int32.toNatClampNeg (hi 1 2)) (p2)) 4 (Int32.toNatClampNeg (hi 1 2)) (p3)) 5 (Int32.toNatClampNeg (hi 1 2)) (0)) 6 (Int32.toNatClampNeg (hi 1 2)) (0)) 1 2 ((((wr (wr (wr (wr (wr (hi) 2 (Int32.toNatClampNeg (hi 1 2)) (p1)) 3 (Int32.toNatClampNeg (hi 1 2)) (p2)) 4 (Int32.toNatClampNeg (hi 1 2)) (p3)) 5 (Int32.toNatClampNeg (hi 1 2)) (0)) 6 (Int32.toNatClampNeg (hi 1 2)) (0)) 1 2 : Int32) + (1)))) (hl1 := hl) rfl ?_ (fun _ _ _ => rfl)
  refine EX.iload (x := hi 1 2) rfl (List.mem_of_getElem? (i := 0) rfl) ?_
  obtain rfl := Option.some.inj h
  exact EX.iret rfl rfl
def J_Board_find_32 (N : Nat) (v1 : Int32) (v2 : Int32) (v3 : Int32) (hi : HI) (hl : HL) : Option ((Int32 × HI × HL) ⊕ (Nat × Int32 × HI × HL)) :=
  some (.inl (v3 + 1, hi, hl))
set_option maxRecDepth 10000 in
set_option maxHeartbeats 4000000 in
theorem bJ_Board_find_32 (ev : EV) {N : Nat} {v1 : Int32} {v2 : Int32} {v3 : Int32} {hi : HI} {hl : HL} {z : (Int32 × HI × HL) ⊕ (Nat × Int32 × HI × HL)} {OUT : Option Value × HI × HL} (h : J_Board_find_32 N v1 v2 v3 hi hl = some z) (hk : Sum.elim (fun s => EX w0 ev 0 m_Board_find 2 [(0, .ref 1), (1, .int (v1)), (2, .int (v2)), (3, .int (s.1))] [] (s.2.1) (s.2.2) OUT) (fun x => (x.1 = 0 → EX w0 ev 0 m_Board_find 38 [] [] (x.2.2.1) (x.2.2.2) OUT) ∧ (x.1 = 1 → EX w0 ev 0 m_Board_find 30 [(3, .int (x.2.1))] [] (x.2.2.1) (x.2.2.2) OUT)) z) : EX w0 ev 0 m_Board_find 32 [(0, .ref 1), (1, .int (v1)), (2, .int (v2)), (3, .int (v3))] [] (hi) (hl) OUT := by
  unfold J_Board_find_32 at h
  refine EX.iinc (x := v3) (v := v3 + 1) (req1 := [(3, .int (v3 + 1)), (0, .ref 1), (1, .int (v1)), (2, .int (v2))]) rfl rfl (List.mem_of_getElem? (i := 3) rfl) rfl rfl ?_
  refine EX.go (i := .goto (-33)) (len := 3) (pc1 := 2) (st1 := []) (hi1 := hi) (hl1 := hl) rfl ?_ (fun _ _ _ => rfl)
  obtain rfl := Option.some.inj h
  have hk : EX w0 ev 0 m_Board_find 2 [(0, .ref 1), (1, .int (v1)), (2, .int (v2)), (3, .int (v3 + 1))] [] (hi) (hl) OUT := hk
  exact EX.pick [1, 2, 3, 0] hk rfl
def B_Board_find_2 (N : Nat) (v1 : Int32) (v2 : Int32) (v3 : Int32) (hi : HI) (hl : HL) : Option ((Int32 × HI × HL) ⊕ (Nat × Int32 × HI × HL)) :=
  if (hi 1 2 : Int32) ≤ (v3 : Int32) then some (.inr (0, v3, hi, hl)) else if (v3 : Int32) < 0 ∨ 16 ≤ Int32.toNatClampNeg (v3) then none else if (hi 2 (Int32.toNatClampNeg (v3)) : Int32) = (v1 : Int32) then if (v3 : Int32) < 0 ∨ 16 ≤ Int32.toNatClampNeg (v3) then none else if (hi 3 (Int32.toNatClampNeg (v3)) : Int32) = (v2 : Int32) then some (.inr (1, v3, hi, hl)) else J_Board_find_32 N (v1) (v2) (v3) (hi) (hl) else J_Board_find_32 N (v1) (v2) (v3) (hi) (hl)
set_option maxRecDepth 10000 in
set_option maxHeartbeats 4000000 in
theorem bB_Board_find_2 (ev : EV) {N : Nat} {v1 : Int32} {v2 : Int32} {v3 : Int32} {hi : HI} {hl : HL} {z : (Int32 × HI × HL) ⊕ (Nat × Int32 × HI × HL)} {OUT : Option Value × HI × HL} (h : B_Board_find_2 N v1 v2 v3 hi hl = some z) (hk : Sum.elim (fun s => EX w0 ev 0 m_Board_find 2 [(0, .ref 1), (1, .int (v1)), (2, .int (v2)), (3, .int (s.1))] [] (s.2.1) (s.2.2) OUT) (fun x => (x.1 = 0 → EX w0 ev 0 m_Board_find 38 [] [] (x.2.2.1) (x.2.2.2) OUT) ∧ (x.1 = 1 → EX w0 ev 0 m_Board_find 30 [(3, .int (x.2.1))] [] (x.2.2.1) (x.2.2.2) OUT)) z) : EX w0 ev 0 m_Board_find 2 [(0, .ref 1), (1, .int (v1)), (2, .int (v2)), (3, .int (v3))] [] (hi) (hl) OUT := by
  unfold B_Board_find_2 at h
  refine EX.iload_n (x := v3) rfl (List.mem_of_getElem? (i := 3) rfl) ?_
  refine EX.aload_n (x := 1) rfl (List.mem_of_getElem? (i := 0) rfl) ?_
  refine EX.go (i := .getfield 34) (len := 3) (pc1 := 7) (st1 := [.int (hi 1 2), .int (v3)]) (hi1 := hi) (hl1 := hl) rfl ?_ (fun _ _ _ => rfl)
  rcases ite_some h with ⟨c1, h⟩ | ⟨c1, h⟩
  · refine EX.go (i := .if_icmp .ge 31) (len := 3) (pc1 := 38) (st1 := []) (hi1 := hi) (hl1 := hl) rfl ?_ (fun _ _ _ => if_pos c1)
    obtain rfl := Option.some.inj h
    have hk := hk.1 rfl
    have hk : EX w0 ev 0 m_Board_find 38 [] [] (hi) (hl) OUT := hk
    exact EX.pick [] hk rfl
  · refine EX.go (i := .if_icmp .ge 31) (len := 3) (pc1 := 10) (st1 := []) (hi1 := hi) (hl1 := hl) rfl ?_ (fun _ _ _ => if_neg c1)
    refine EX.aload_n (x := 1) rfl (List.mem_of_getElem? (i := 0) rfl) ?_
    refine EX.go (i := .getfield 18) (len := 3) (pc1 := 14) (st1 := [.ref 2]) (hi1 := hi) (hl1 := hl) rfl ?_ (fun _ _ _ => rfl)
    refine EX.iload_n (x := v3) rfl (List.mem_of_getElem? (i := 3) rfl) ?_
    obtain ⟨g2, h⟩ := grd_some h
    refine EX.iaload rfl rfl g2 ?_
    refine EX.iload_n (x := v1) rfl (List.mem_of_getElem? (i := 1) rfl) ?_
    rcases ite_some h with ⟨c3, h⟩ | ⟨c3, h⟩
    · refine EX.go (i := .if_icmp .ne 15) (len := 3) (pc1 := 20) (st1 := []) (hi1 := hi) (hl1 := hl) rfl ?_ (fun _ _ _ => if_pos c3)
      refine EX.aload_n (x := 1) rfl (List.mem_of_getElem? (i := 0) rfl) ?_
      refine EX.go (i := .getfield 22) (len := 3) (pc1 := 24) (st1 := [.ref 3]) (hi1 := hi) (hl1 := hl) rfl ?_ (fun _ _ _ => rfl)
      refine EX.iload_n (x := v3) rfl (List.mem_of_getElem? (i := 3) rfl) ?_
      obtain ⟨g4, h⟩ := grd_some h
      refine EX.iaload rfl rfl g4 ?_
      refine EX.iload_n (x := v2) rfl (List.mem_of_getElem? (i := 2) rfl) ?_
      rcases ite_some h with ⟨c5, h⟩ | ⟨c5, h⟩
      · refine EX.go (i := .if_icmp .ne 5) (len := 3) (pc1 := 30) (st1 := []) (hi1 := hi) (hl1 := hl) rfl ?_ (fun _ _ _ => if_pos c5)
        obtain rfl := Option.some.inj h
        have hk := hk.2 rfl
        have hk : EX w0 ev 0 m_Board_find 30 [(3, .int (v3))] [] (hi) (hl) OUT := hk
        exact EX.pick [3] hk rfl
      · refine EX.go (i := .if_icmp .ne 5) (len := 3) (pc1 := 32) (st1 := []) (hi1 := hi) (hl1 := hl) rfl ?_ (fun _ _ _ => if_neg c5)
        refine EX.pick [0, 1, 2, 3] ?_ rfl
        exact bJ_Board_find_32 ev h hk
    · refine EX.go (i := .if_icmp .ne 15) (len := 3) (pc1 := 32) (st1 := []) (hi1 := hi) (hl1 := hl) rfl ?_ (fun _ _ _ => if_neg c3)
      refine EX.pick [0, 1, 2, 3] ?_ rfl
      exact bJ_Board_find_32 ev h hk
def f_Board_find (N : Nat) (p1 : Int32) (p2 : Int32) (hi : HI) (hl : HL) : Option (Int32 × HI × HL) :=
  (lpN (fun s => B_Board_find_2 N (p1) (p2) s.1 s.2.1 s.2.2) N (0, hi, hl)).bind fun x6 => if x6.1 = 0 then some ((-4), x6.2.2.1, x6.2.2.2) else some (x6.2.1, x6.2.2.1, x6.2.2.2)
set_option maxRecDepth 10000 in
set_option maxHeartbeats 4000000 in
theorem b_Board_find (ev : EV) {N : Nat} {p1 : Int32} {p2 : Int32} {hi : HI} {hl : HL} {o : Int32 × HI × HL} (h : f_Board_find N p1 p2 hi hl = some o) : EM w0 ev 1 m_Board_find [.ref 1, .int (p1), .int (p2)] hi hl (oI o) := by
  unfold f_Board_find at h
  refine EM.of rfl ?_
  show EX w0 ev 0 m_Board_find 0 [(0, .ref 1), (1, .int (p1)), (2, .int (p2))] [] (hi) (hl) (oI o)
  refine EX.iconst (v := 0) rfl rfl ?_
  refine EX.istore_n (req1 := [(3, .int (0)), (0, .ref 1), (1, .int (p1)), (2, .int (p2))]) rfl rfl rfl ?_
  obtain ⟨x6, hx6, h⟩ := bnd_some h
  refine EX.pick [1, 2, 3, 0] ?_ rfl
  refine lp_sound (f := fun s => B_Board_find_2 N (p1) (p2) s.1 s.2.1 s.2.2) (PS := fun s => EX w0 ev 0 m_Board_find 2 [(0, .ref 1), (1, .int (p1)), (2, .int (p2)), (3, .int (s.1))] [] (s.2.1) (s.2.2) (oI o)) (PX := fun x => (x.1 = 0 → EX w0 ev 0 m_Board_find 38 [] [] (x.2.2.1) (x.2.2.2) (oI o)) ∧ (x.1 = 1 → EX w0 ev 0 m_Board_find 30 [(3, .int (x.2.1))] [] (x.2.2.1) (x.2.2.2) (oI o))) ?_ N _ x6 hx6 ?_
  · exact fun s z hz hk => bB_Board_find_2 ev hz hk
  rcases ite_some h with ⟨c7, h⟩ | ⟨c7, h⟩
  · refine ⟨fun _ => ?_, fun e9 => absurd (c7.symm.trans e9) (by decide)⟩
    show EX w0 ev 0 m_Board_find 38 [] [] (x6.2.2.1) (x6.2.2.2) (oI o)
    refine EX.bipush (v := (-4)) rfl rfl ?_
    obtain rfl := Option.some.inj h
    exact EX.iret rfl rfl
  · refine ⟨fun e9 => absurd e9 c7, fun _ => ?_⟩
    show EX w0 ev 0 m_Board_find 30 [(3, .int (x6.2.1))] [] (x6.2.2.1) (x6.2.2.2) (oI o)
    refine EX.iload_n (x := x6.2.1) rfl (List.mem_of_getElem? (i := 0) rfl) ?_
    obtain rfl := Option.some.inj h
    exact EX.iret rfl rfl
def J_Board_isWire_16 (N : Nat) (hi : HI) (hl : HL) : Option (Int32 × HI × HL) :=
  some (0, hi, hl)
set_option maxRecDepth 10000 in
set_option maxHeartbeats 4000000 in
theorem bJ_Board_isWire_16 (ev : EV) {N : Nat} {hi : HI} {hl : HL} {o : Int32 × HI × HL} (h : J_Board_isWire_16 N hi hl = some o) : EX w0 ev 0 m_Board_isWire 16 [] [] (hi) (hl) (oI o) := by
  unfold J_Board_isWire_16 at h
  refine EX.iconst (v := 0) rfl rfl ?_
  obtain rfl := Option.some.inj h
  exact EX.zret rfl rfl (Or.inl rfl)
def f_Board_isWire (N : Nat) (p1 : Int32) (hi : HI) (hl : HL) : Option (Int32 × HI × HL) :=
  if (p1 : Int32) < 0 then J_Board_isWire_16 N (hi) (hl) else if (hi 1 0 : Int32) ≤ (p1 : Int32) then J_Board_isWire_16 N (hi) (hl) else some (1, hi, hl)
set_option maxRecDepth 10000 in
set_option maxHeartbeats 4000000 in
theorem b_Board_isWire (ev : EV) {N : Nat} {p1 : Int32} {hi : HI} {hl : HL} {o : Int32 × HI × HL} (h : f_Board_isWire N p1 hi hl = some o) : EM w0 ev 1 m_Board_isWire [.ref 1, .int (p1)] hi hl (oI o) := by
  unfold f_Board_isWire at h
  refine EM.of rfl ?_
  show EX w0 ev 0 m_Board_isWire 0 [(0, .ref 1), (1, .int (p1))] [] (hi) (hl) (oI o)
  refine EX.iload_n (x := p1) rfl (List.mem_of_getElem? (i := 1) rfl) ?_
  rcases ite_some h with ⟨c1, h⟩ | ⟨c1, h⟩
  · refine EX.go (i := .ifCond .lt 15) (len := 3) (pc1 := 16) (st1 := []) (hi1 := hi) (hl1 := hl) rfl ?_ (fun _ _ _ => if_pos c1)
    refine EX.pick [] ?_ rfl
    exact bJ_Board_isWire_16 ev h
  · refine EX.go (i := .ifCond .lt 15) (len := 3) (pc1 := 4) (st1 := []) (hi1 := hi) (hl1 := hl) rfl ?_ (fun _ _ _ => if_neg c1)
    refine EX.iload_n (x := p1) rfl (List.mem_of_getElem? (i := 1) rfl) ?_
    refine EX.aload_n (x := 1) rfl (List.mem_of_getElem? (i := 0) rfl) ?_
    refine EX.go (i := .getfield 9) (len := 3) (pc1 := 9) (st1 := [.int (hi 1 0), .int (p1)]) (hi1 := hi) (hl1 := hl) rfl ?_ (fun _ _ _ => rfl)
    rcases ite_some h with ⟨c2, h⟩ | ⟨c2, h⟩
    · refine EX.go (i := .if_icmp .ge 7) (len := 3) (pc1 := 16) (st1 := []) (hi1 := hi) (hl1 := hl) rfl ?_ (fun _ _ _ => if_pos c2)
      refine EX.pick [] ?_ rfl
      exact bJ_Board_isWire_16 ev h
    · refine EX.go (i := .if_icmp .ge 7) (len := 3) (pc1 := 12) (st1 := []) (hi1 := hi) (hl1 := hl) rfl ?_ (fun _ _ _ => if_neg c2)
      refine EX.iconst (v := 1) rfl rfl ?_
      refine EX.go (i := .goto 4) (len := 3) (pc1 := 17) (st1 := [.int (1)]) (hi1 := hi) (hl1 := hl) rfl ?_ (fun _ _ _ => rfl)
      obtain rfl := Option.some.inj h
      exact EX.zret rfl rfl (Or.inr rfl)
def J_Board_isPair_25 (N : Nat) (hi : HI) (hl : HL) : Option (Int32 × HI × HL) :=
  some (0, hi, hl)
set_option maxRecDepth 10000 in
set_option maxHeartbeats 4000000 in
theorem bJ_Board_isPair_25 (ev : EV) {N : Nat} {hi : HI} {hl : HL} {o : Int32 × HI × HL} (h : J_Board_isPair_25 N hi hl = some o) : EX w0 ev 1 m_Board_isPair 25 [] [] (hi) (hl) (oI o) := by
  unfold J_Board_isPair_25 at h
  refine EX.iconst (v := 0) rfl rfl ?_
  obtain rfl := Option.some.inj h
  exact EX.zret rfl rfl (Or.inl rfl)
def f_Board_isPair (N : Nat) (p1 : Int32) (p2 : Int32) (hi : HI) (hl : HL) : Option (Int32 × HI × HL) :=
  (f_Board_isWire N (p1) (hi) (hl)).bind fun z1 => if (z1.1 : Int32) = 0 then J_Board_isPair_25 N (z1.2.1) (z1.2.2) else (f_Board_isWire N (p2) (z1.2.1) (z1.2.2)).bind fun z3 => if (z3.1 : Int32) = 0 then J_Board_isPair_25 N (z3.2.1) (z3.2.2) else if (p1 : Int32) = (p2 : Int32) then J_Board_isPair_25 N (z3.2.1) (z3.2.2) else some (1, z3.2.1, z3.2.2)
set_option maxRecDepth 10000 in
set_option maxHeartbeats 4000000 in
theorem b_Board_isPair (ev : EV) {N : Nat} {p1 : Int32} {p2 : Int32} {hi : HI} {hl : HL} {o : Int32 × HI × HL} (h : f_Board_isPair N p1 p2 hi hl = some o) : EM w0 ev 2 m_Board_isPair [.ref 1, .int (p1), .int (p2)] hi hl (oI o) := by
  unfold f_Board_isPair at h
  refine EM.of rfl ?_
  show EX w0 ev 1 m_Board_isPair 0 [(0, .ref 1), (1, .int (p1)), (2, .int (p2))] [] (hi) (hl) (oI o)
  refine EX.aload_n (x := 1) rfl (List.mem_of_getElem? (i := 0) rfl) ?_
  refine EX.iload_n (x := p1) rfl (List.mem_of_getElem? (i := 1) rfl) ?_
  obtain ⟨z1, hz1, h⟩ := bnd_some h
  refine EX.callV (b := 1) (as := [.int (p1)]) (rest := []) (r := some (.int (z1.1))) (hi1 := z1.2.1) (hl1 := z1.2.2) rfl rfl rfl rfl rfl rfl ((b_Board_isWire ev hz1).mono (by decide)) ?_
  show EX w0 ev 1 m_Board_isPair 5 [(0, .ref 1), (1, .int (p1)), (2, .int (p2))] [.int (z1.1)] (z1.2.1) (z1.2.2) (oI o)
  rcases ite_some h with ⟨c2, h⟩ | ⟨c2, h⟩
  · refine EX.go (i := .ifCond .eq 20) (len := 3) (pc1 := 25) (st1 := []) (hi1 := z1.2.1) (hl1 := z1.2.2) rfl ?_ (fun _ _ _ => if_pos c2)
    refine EX.pick [] ?_ rfl
    exact bJ_Board_isPair_25 ev h
  · refine EX.go (i := .ifCond .eq 20) (len := 3) (pc1 := 8) (st1 := []) (hi1 := z1.2.1) (hl1 := z1.2.2) rfl ?_ (fun _ _ _ => if_neg c2)
    refine EX.aload_n (x := 1) rfl (List.mem_of_getElem? (i := 0) rfl) ?_
    refine EX.iload_n (x := p2) rfl (List.mem_of_getElem? (i := 2) rfl) ?_
    obtain ⟨z3, hz3, h⟩ := bnd_some h
    refine EX.callV (b := 1) (as := [.int (p2)]) (rest := []) (r := some (.int (z3.1))) (hi1 := z3.2.1) (hl1 := z3.2.2) rfl rfl rfl rfl rfl rfl ((b_Board_isWire ev hz3).mono (by decide)) ?_
    show EX w0 ev 1 m_Board_isPair 13 [(0, .ref 1), (1, .int (p1)), (2, .int (p2))] [.int (z3.1)] (z3.2.1) (z3.2.2) (oI o)
    rcases ite_some h with ⟨c4, h⟩ | ⟨c4, h⟩
    · refine EX.go (i := .ifCond .eq 12) (len := 3) (pc1 := 25) (st1 := []) (hi1 := z3.2.1) (hl1 := z3.2.2) rfl ?_ (fun _ _ _ => if_pos c4)
      refine EX.pick [] ?_ rfl
      exact bJ_Board_isPair_25 ev h
    · refine EX.go (i := .ifCond .eq 12) (len := 3) (pc1 := 16) (st1 := []) (hi1 := z3.2.1) (hl1 := z3.2.2) rfl ?_ (fun _ _ _ => if_neg c4)
      refine EX.iload_n (x := p1) rfl (List.mem_of_getElem? (i := 1) rfl) ?_
      refine EX.iload_n (x := p2) rfl (List.mem_of_getElem? (i := 2) rfl) ?_
      rcases ite_some h with ⟨c5, h⟩ | ⟨c5, h⟩
      · refine EX.go (i := .if_icmp .eq 7) (len := 3) (pc1 := 25) (st1 := []) (hi1 := z3.2.1) (hl1 := z3.2.2) rfl ?_ (fun _ _ _ => if_pos c5)
        refine EX.pick [] ?_ rfl
        exact bJ_Board_isPair_25 ev h
      · refine EX.go (i := .if_icmp .eq 7) (len := 3) (pc1 := 21) (st1 := []) (hi1 := z3.2.1) (hl1 := z3.2.2) rfl ?_ (fun _ _ _ => if_neg c5)
        refine EX.iconst (v := 1) rfl rfl ?_
        refine EX.go (i := .goto 4) (len := 3) (pc1 := 26) (st1 := [.int (1)]) (hi1 := z3.2.1) (hl1 := z3.2.2) rfl ?_ (fun _ _ _ => rfl)
        obtain rfl := Option.some.inj h
        exact EX.zret rfl rfl (Or.inr rfl)
def J_Board_isLamp_16 (N : Nat) (hi : HI) (hl : HL) : Option (Int32 × HI × HL) :=
  some (0, hi, hl)
set_option maxRecDepth 10000 in
set_option maxHeartbeats 4000000 in
theorem bJ_Board_isLamp_16 (ev : EV) {N : Nat} {hi : HI} {hl : HL} {o : Int32 × HI × HL} (h : J_Board_isLamp_16 N hi hl = some o) : EX w0 ev 0 m_Board_isLamp 16 [] [] (hi) (hl) (oI o) := by
  unfold J_Board_isLamp_16 at h
  refine EX.iconst (v := 0) rfl rfl ?_
  obtain rfl := Option.some.inj h
  exact EX.zret rfl rfl (Or.inl rfl)
def f_Board_isLamp (N : Nat) (p1 : Int32) (hi : HI) (hl : HL) : Option (Int32 × HI × HL) :=
  if (p1 : Int32) < 0 then J_Board_isLamp_16 N (hi) (hl) else if (hi 1 2 : Int32) ≤ (p1 : Int32) then J_Board_isLamp_16 N (hi) (hl) else some (1, hi, hl)
set_option maxRecDepth 10000 in
set_option maxHeartbeats 4000000 in
theorem b_Board_isLamp (ev : EV) {N : Nat} {p1 : Int32} {hi : HI} {hl : HL} {o : Int32 × HI × HL} (h : f_Board_isLamp N p1 hi hl = some o) : EM w0 ev 1 m_Board_isLamp [.ref 1, .int (p1)] hi hl (oI o) := by
  unfold f_Board_isLamp at h
  refine EM.of rfl ?_
  show EX w0 ev 0 m_Board_isLamp 0 [(0, .ref 1), (1, .int (p1))] [] (hi) (hl) (oI o)
  refine EX.iload_n (x := p1) rfl (List.mem_of_getElem? (i := 1) rfl) ?_
  rcases ite_some h with ⟨c1, h⟩ | ⟨c1, h⟩
  · refine EX.go (i := .ifCond .lt 15) (len := 3) (pc1 := 16) (st1 := []) (hi1 := hi) (hl1 := hl) rfl ?_ (fun _ _ _ => if_pos c1)
    refine EX.pick [] ?_ rfl
    exact bJ_Board_isLamp_16 ev h
  · refine EX.go (i := .ifCond .lt 15) (len := 3) (pc1 := 4) (st1 := []) (hi1 := hi) (hl1 := hl) rfl ?_ (fun _ _ _ => if_neg c1)
    refine EX.iload_n (x := p1) rfl (List.mem_of_getElem? (i := 1) rfl) ?_
    refine EX.aload_n (x := 1) rfl (List.mem_of_getElem? (i := 0) rfl) ?_
    refine EX.go (i := .getfield 34) (len := 3) (pc1 := 9) (st1 := [.int (hi 1 2), .int (p1)]) (hi1 := hi) (hl1 := hl) rfl ?_ (fun _ _ _ => rfl)
    rcases ite_some h with ⟨c2, h⟩ | ⟨c2, h⟩
    · refine EX.go (i := .if_icmp .ge 7) (len := 3) (pc1 := 16) (st1 := []) (hi1 := hi) (hl1 := hl) rfl ?_ (fun _ _ _ => if_pos c2)
      refine EX.pick [] ?_ rfl
      exact bJ_Board_isLamp_16 ev h
    · refine EX.go (i := .if_icmp .ge 7) (len := 3) (pc1 := 12) (st1 := []) (hi1 := hi) (hl1 := hl) rfl ?_ (fun _ _ _ => if_neg c2)
      refine EX.iconst (v := 1) rfl rfl ?_
      refine EX.go (i := .goto 4) (len := 3) (pc1 := 17) (st1 := [.int (1)]) (hi1 := hi) (hl1 := hl) rfl ?_ (fun _ _ _ => rfl)
      obtain rfl := Option.some.inj h
      exact EX.zret rfl rfl (Or.inr rfl)
def J_Board_isTurn_20 (N : Nat) (hi : HI) (hl : HL) : Option (Int32 × HI × HL) :=
  some (0, hi, hl)
set_option maxRecDepth 10000 in
set_option maxHeartbeats 4000000 in
theorem bJ_Board_isTurn_20 (ev : EV) {N : Nat} {hi : HI} {hl : HL} {o : Int32 × HI × HL} (h : J_Board_isTurn_20 N hi hl = some o) : EX w0 ev 0 m_Board_isTurn 20 [] [] (hi) (hl) (oI o) := by
  unfold J_Board_isTurn_20 at h
  refine EX.iconst (v := 0) rfl rfl ?_
  obtain rfl := Option.some.inj h
  exact EX.zret rfl rfl (Or.inl rfl)
def f_Board_isTurn (N : Nat) (p1 : Int32) (hi : HI) (hl : HL) : Option (Int32 × HI × HL) :=
  if (p1 : Int32) < 0 then J_Board_isTurn_20 N (hi) (hl) else if (hi 1 0 : Int32) < 0 ∨ 7 ≤ Int32.toNatClampNeg (hi 1 0) then none else if ((powT.getD (hi 1 0).toNatClampNeg 0) : Int32) ≤ (p1 : Int32) then J_Board_isTurn_20 N (hi) (hl) else some (1, hi, hl)
set_option maxRecDepth 10000 in
set_option maxHeartbeats 4000000 in
theorem b_Board_isTurn (ev : EV) {N : Nat} {p1 : Int32} {hi : HI} {hl : HL} {o : Int32 × HI × HL} (h : f_Board_isTurn N p1 hi hl = some o) : EM w0 ev 1 m_Board_isTurn [.ref 1, .int (p1)] hi hl (oI o) := by
  unfold f_Board_isTurn at h
  refine EM.of rfl ?_
  show EX w0 ev 0 m_Board_isTurn 0 [(0, .ref 1), (1, .int (p1))] [] (hi) (hl) (oI o)
  refine EX.iload_n (x := p1) rfl (List.mem_of_getElem? (i := 1) rfl) ?_
  rcases ite_some h with ⟨c1, h⟩ | ⟨c1, h⟩
  · refine EX.go (i := .ifCond .lt 19) (len := 3) (pc1 := 20) (st1 := []) (hi1 := hi) (hl1 := hl) rfl ?_ (fun _ _ _ => if_pos c1)
    refine EX.pick [] ?_ rfl
    exact bJ_Board_isTurn_20 ev h
  · refine EX.go (i := .ifCond .lt 19) (len := 3) (pc1 := 4) (st1 := []) (hi1 := hi) (hl1 := hl) rfl ?_ (fun _ _ _ => if_neg c1)
    refine EX.iload_n (x := p1) rfl (List.mem_of_getElem? (i := 1) rfl) ?_
    refine EX.go (i := .getstatic 41) (len := 3) (pc1 := 8) (st1 := [.ref 1000000, .int (p1)]) (hi1 := hi) (hl1 := hl) rfl ?_ (fun _ _ _ => rfl)
    refine EX.aload_n (x := 1) rfl (List.mem_of_getElem? (i := 0) rfl) ?_
    refine EX.go (i := .getfield 9) (len := 3) (pc1 := 12) (st1 := [.int (hi 1 0), .ref 1000000, .int (p1)]) (hi1 := hi) (hl1 := hl) rfl ?_ (fun _ _ _ => rfl)
    obtain ⟨g2, h⟩ := grd_some h
    refine EX.ialoadR (v := .int ((powT.getD (hi 1 0).toNatClampNeg 0))) rfl rfl rfl g2 rfl ?_
    rcases ite_some h with ⟨c3, h⟩ | ⟨c3, h⟩
    · refine EX.go (i := .if_icmp .ge 7) (len := 3) (pc1 := 20) (st1 := []) (hi1 := hi) (hl1 := hl) rfl ?_ (fun _ _ _ => if_pos c3)
      refine EX.pick [] ?_ rfl
      exact bJ_Board_isTurn_20 ev h
    · refine EX.go (i := .if_icmp .ge 7) (len := 3) (pc1 := 16) (st1 := []) (hi1 := hi) (hl1 := hl) rfl ?_ (fun _ _ _ => if_neg c3)
      refine EX.iconst (v := 1) rfl rfl ?_
      refine EX.go (i := .goto 4) (len := 3) (pc1 := 21) (st1 := [.int (1)]) (hi1 := hi) (hl1 := hl) rfl ?_ (fun _ _ _ => rfl)
      obtain rfl := Option.some.inj h
      exact EX.zret rfl rfl (Or.inr rfl)
def f_Board_allLamps (N : Nat) (hi : HI) (hl : HL) : Option (Int32 × HI × HL) :=
  some (((((1 : Int32) <<< ((hi 1 2) &&& 31)) : Int32) - (1)), hi, hl)
set_option maxRecDepth 10000 in
set_option maxHeartbeats 4000000 in
theorem b_Board_allLamps (ev : EV) {N : Nat} {hi : HI} {hl : HL} {o : Int32 × HI × HL} (h : f_Board_allLamps N hi hl = some o) : EM w0 ev 1 m_Board_allLamps [.ref 1] hi hl (oI o) := by
  unfold f_Board_allLamps at h
  refine EM.of rfl ?_
  show EX w0 ev 0 m_Board_allLamps 0 [(0, .ref 1)] [] (hi) (hl) (oI o)
  refine EX.iconst (v := 1) rfl rfl ?_
  refine EX.aload_n (x := 1) rfl (List.mem_of_getElem? (i := 0) rfl) ?_
  refine EX.go (i := .getfield 34) (len := 3) (pc1 := 5) (st1 := [.int (hi 1 2), .int (1)]) (hi1 := hi) (hl1 := hl) rfl ?_ (fun _ _ _ => rfl)
  refine EX.go (i := .ishl) (len := 1) (pc1 := 6) (st1 := [.int (((1 : Int32) <<< ((hi 1 2) &&& 31)))]) (hi1 := hi) (hl1 := hl) rfl ?_ (fun _ _ _ => rfl)
  refine EX.iconst (v := 1) rfl rfl ?_
  refine EX.go (i := .isub) (len := 1) (pc1 := 8) (st1 := [.int (((((1 : Int32) <<< ((hi 1 2) &&& 31)) : Int32) - (1)))]) (hi1 := hi) (hl1 := hl) rfl ?_ (fun _ _ _ => rfl)
  obtain rfl := Option.some.inj h
  exact EX.iret rfl rfl
def J_Board_isPicture_16 (N : Nat) (hi : HI) (hl : HL) : Option (Int32 × HI × HL) :=
  some (0, hi, hl)
set_option maxRecDepth 10000 in
set_option maxHeartbeats 4000000 in
theorem bJ_Board_isPicture_16 (ev : EV) {N : Nat} {hi : HI} {hl : HL} {o : Int32 × HI × HL} (h : J_Board_isPicture_16 N hi hl = some o) : EX w0 ev 1 m_Board_isPicture 16 [] [] (hi) (hl) (oI o) := by
  unfold J_Board_isPicture_16 at h
  refine EX.iconst (v := 0) rfl rfl ?_
  obtain rfl := Option.some.inj h
  exact EX.zret rfl rfl (Or.inl rfl)
def f_Board_isPicture (N : Nat) (p1 : Int32) (hi : HI) (hl : HL) : Option (Int32 × HI × HL) :=
  if (p1 : Int32) < 0 then J_Board_isPicture_16 N (hi) (hl) else (f_Board_allLamps N (hi) (hl)).bind fun z2 => if (z2.1 : Int32) < (p1 : Int32) then J_Board_isPicture_16 N (z2.2.1) (z2.2.2) else some (1, z2.2.1, z2.2.2)
set_option maxRecDepth 10000 in
set_option maxHeartbeats 4000000 in
theorem b_Board_isPicture (ev : EV) {N : Nat} {p1 : Int32} {hi : HI} {hl : HL} {o : Int32 × HI × HL} (h : f_Board_isPicture N p1 hi hl = some o) : EM w0 ev 2 m_Board_isPicture [.ref 1, .int (p1)] hi hl (oI o) := by
  unfold f_Board_isPicture at h
  refine EM.of rfl ?_
  show EX w0 ev 1 m_Board_isPicture 0 [(0, .ref 1), (1, .int (p1))] [] (hi) (hl) (oI o)
  refine EX.iload_n (x := p1) rfl (List.mem_of_getElem? (i := 1) rfl) ?_
  rcases ite_some h with ⟨c1, h⟩ | ⟨c1, h⟩
  · refine EX.go (i := .ifCond .lt 15) (len := 3) (pc1 := 16) (st1 := []) (hi1 := hi) (hl1 := hl) rfl ?_ (fun _ _ _ => if_pos c1)
    refine EX.pick [] ?_ rfl
    exact bJ_Board_isPicture_16 ev h
  · refine EX.go (i := .ifCond .lt 15) (len := 3) (pc1 := 4) (st1 := []) (hi1 := hi) (hl1 := hl) rfl ?_ (fun _ _ _ => if_neg c1)
    refine EX.iload_n (x := p1) rfl (List.mem_of_getElem? (i := 1) rfl) ?_
    refine EX.aload_n (x := 1) rfl (List.mem_of_getElem? (i := 0) rfl) ?_
    obtain ⟨z2, hz2, h⟩ := bnd_some h
    refine EX.callV (b := 1) (as := []) (rest := [.int (p1)]) (r := some (.int (z2.1))) (hi1 := z2.2.1) (hl1 := z2.2.2) rfl rfl rfl rfl rfl rfl ((b_Board_allLamps ev hz2).mono (by decide)) ?_
    show EX w0 ev 1 m_Board_isPicture 9 [(0, .ref 1), (1, .int (p1))] [.int (z2.1), .int (p1)] (z2.2.1) (z2.2.2) (oI o)
    rcases ite_some h with ⟨c3, h⟩ | ⟨c3, h⟩
    · refine EX.go (i := .if_icmp .gt 7) (len := 3) (pc1 := 16) (st1 := []) (hi1 := z2.2.1) (hl1 := z2.2.2) rfl ?_ (fun _ _ _ => if_pos c3)
      refine EX.pick [] ?_ rfl
      exact bJ_Board_isPicture_16 ev h
    · refine EX.go (i := .if_icmp .gt 7) (len := 3) (pc1 := 12) (st1 := []) (hi1 := z2.2.1) (hl1 := z2.2.2) rfl ?_ (fun _ _ _ => if_neg c3)
      refine EX.iconst (v := 1) rfl rfl ?_
      refine EX.go (i := .goto 4) (len := 3) (pc1 := 17) (st1 := [.int (1)]) (hi1 := z2.2.1) (hl1 := z2.2.2) rfl ?_ (fun _ _ _ => rfl)
      obtain rfl := Option.some.inj h
      exact EX.zret rfl rfl (Or.inr rfl)
def J_Board_isFaultOrNone_20 (N : Nat) (hi : HI) (hl : HL) : Option (Int32 × HI × HL) :=
  some (1, hi, hl)
set_option maxRecDepth 10000 in
set_option maxHeartbeats 4000000 in
theorem bJ_Board_isFaultOrNone_20 (ev : EV) {N : Nat} {hi : HI} {hl : HL} {o : Int32 × HI × HL} (h : J_Board_isFaultOrNone_20 N hi hl = some o) : EX w0 ev 0 m_Board_isFaultOrNone 20 [] [] (hi) (hl) (oI o) := by
  unfold J_Board_isFaultOrNone_20 at h
  refine EX.iconst (v := 1) rfl rfl ?_
  refine EX.go (i := .goto 4) (len := 3) (pc1 := 25) (st1 := [.int (1)]) (hi1 := hi) (hl1 := hl) rfl ?_ (fun _ _ _ => rfl)
  obtain rfl := Option.some.inj h
  exact EX.zret rfl rfl (Or.inr rfl)
def J_Board_isFaultOrNone_24 (N : Nat) (hi : HI) (hl : HL) : Option (Int32 × HI × HL) :=
  some (0, hi, hl)
set_option maxRecDepth 10000 in
set_option maxHeartbeats 4000000 in
theorem bJ_Board_isFaultOrNone_24 (ev : EV) {N : Nat} {hi : HI} {hl : HL} {o : Int32 × HI × HL} (h : J_Board_isFaultOrNone_24 N hi hl = some o) : EX w0 ev 0 m_Board_isFaultOrNone 24 [] [] (hi) (hl) (oI o) := by
  unfold J_Board_isFaultOrNone_24 at h
  refine EX.iconst (v := 0) rfl rfl ?_
  obtain rfl := Option.some.inj h
  exact EX.zret rfl rfl (Or.inl rfl)
def f_Board_isFaultOrNone (N : Nat) (p1 : Int32) (hi : HI) (hl : HL) : Option (Int32 × HI × HL) :=
  if (p1 : Int32) = ((-4) : Int32) then J_Board_isFaultOrNone_20 N (hi) (hl) else if (p1 : Int32) < 0 then J_Board_isFaultOrNone_24 N (hi) (hl) else if (((2 : Int32) * (hi 1 2)) : Int32) ≤ (p1 : Int32) then J_Board_isFaultOrNone_24 N (hi) (hl) else J_Board_isFaultOrNone_20 N (hi) (hl)
set_option maxRecDepth 10000 in
set_option maxHeartbeats 4000000 in
theorem b_Board_isFaultOrNone (ev : EV) {N : Nat} {p1 : Int32} {hi : HI} {hl : HL} {o : Int32 × HI × HL} (h : f_Board_isFaultOrNone N p1 hi hl = some o) : EM w0 ev 1 m_Board_isFaultOrNone [.ref 1, .int (p1)] hi hl (oI o) := by
  unfold f_Board_isFaultOrNone at h
  refine EM.of rfl ?_
  show EX w0 ev 0 m_Board_isFaultOrNone 0 [(0, .ref 1), (1, .int (p1))] [] (hi) (hl) (oI o)
  refine EX.iload_n (x := p1) rfl (List.mem_of_getElem? (i := 1) rfl) ?_
  refine EX.bipush (v := (-4)) rfl rfl ?_
  rcases ite_some h with ⟨c1, h⟩ | ⟨c1, h⟩
  · refine EX.go (i := .if_icmp .eq 17) (len := 3) (pc1 := 20) (st1 := []) (hi1 := hi) (hl1 := hl) rfl ?_ (fun _ _ _ => if_pos c1)
    refine EX.pick [] ?_ rfl
    exact bJ_Board_isFaultOrNone_20 ev h
  · refine EX.go (i := .if_icmp .eq 17) (len := 3) (pc1 := 6) (st1 := []) (hi1 := hi) (hl1 := hl) rfl ?_ (fun _ _ _ => if_neg c1)
    refine EX.iload_n (x := p1) rfl (List.mem_of_getElem? (i := 1) rfl) ?_
    rcases ite_some h with ⟨c2, h⟩ | ⟨c2, h⟩
    · refine EX.go (i := .ifCond .lt 17) (len := 3) (pc1 := 24) (st1 := []) (hi1 := hi) (hl1 := hl) rfl ?_ (fun _ _ _ => if_pos c2)
      refine EX.pick [] ?_ rfl
      exact bJ_Board_isFaultOrNone_24 ev h
    · refine EX.go (i := .ifCond .lt 17) (len := 3) (pc1 := 10) (st1 := []) (hi1 := hi) (hl1 := hl) rfl ?_ (fun _ _ _ => if_neg c2)
      refine EX.iload_n (x := p1) rfl (List.mem_of_getElem? (i := 1) rfl) ?_
      refine EX.iconst (v := 2) rfl rfl ?_
      refine EX.aload_n (x := 1) rfl (List.mem_of_getElem? (i := 0) rfl) ?_
      refine EX.go (i := .getfield 34) (len := 3) (pc1 := 16) (st1 := [.int (hi 1 2), .int (2), .int (p1)]) (hi1 := hi) (hl1 := hl) rfl ?_ (fun _ _ _ => rfl)
      refine EX.go (i := .imul) (len := 1) (pc1 := 17) (st1 := [.int (((2 : Int32) * (hi 1 2))), .int (p1)]) (hi1 := hi) (hl1 := hl) rfl ?_ (fun _ _ _ => rfl)
      rcases ite_some h with ⟨c3, h⟩ | ⟨c3, h⟩
      · refine EX.go (i := .if_icmp .ge 7) (len := 3) (pc1 := 24) (st1 := []) (hi1 := hi) (hl1 := hl) rfl ?_ (fun _ _ _ => if_pos c3)
        refine EX.pick [] ?_ rfl
        exact bJ_Board_isFaultOrNone_24 ev h
      · refine EX.go (i := .if_icmp .ge 7) (len := 3) (pc1 := 20) (st1 := []) (hi1 := hi) (hl1 := hl) rfl ?_ (fun _ _ _ => if_neg c3)
        refine EX.pick [] ?_ rfl
        exact bJ_Board_isFaultOrNone_20 ev h
def B_Board_plane_4 (N : Nat) (v1 : Int32) (v2 : Int32) (v3 : Int32) (hi : HI) (hl : HL) : Option ((Int32 × Int32 × HI × HL) ⊕ (Int32 × HI × HL)) :=
  if (hi 1 2 : Int32) ≤ (v3 : Int32) then some (.inr (v2, hi, hl)) else if (v3 : Int32) < 0 ∨ 16 ≤ Int32.toNatClampNeg (v3) then none else some (.inl ((v2 ||| (((((((hi 6 (Int32.toNatClampNeg (v3)) : Int32) >>> (v1 &&& 31)) : Int32) &&& (1)) : Int32) <<< (v3 &&& 31)))), v3 + 1, hi, hl))
set_option maxRecDepth 10000 in
set_option maxHeartbeats 4000000 in
theorem bB_Board_plane_4 (ev : EV) {N : Nat} {v1 : Int32} {v2 : Int32} {v3 : Int32} {hi : HI} {hl : HL} {z : (Int32 × Int32 × HI × HL) ⊕ (Int32 × HI × HL)} {OUT : Option Value × HI × HL} (h : B_Board_plane_4 N v1 v2 v3 hi hl = some z) (hk : Sum.elim (fun s => EX w0 ev 0 m_Board_plane 4 [(0, .ref 1), (1, .int (v1)), (2, .int (s.1)), (3, .int (s.2.1))] [] (s.2.2.1) (s.2.2.2) OUT) (fun x => EX w0 ev 0 m_Board_plane 33 [(2, .int (x.1))] [] (x.2.1) (x.2.2) OUT) z) : EX w0 ev 0 m_Board_plane 4 [(0, .ref 1), (1, .int (v1)), (2, .int (v2)), (3, .int (v3))] [] (hi) (hl) OUT := by
  unfold B_Board_plane_4 at h
  refine EX.iload_n (x := v3) rfl (List.mem_of_getElem? (i := 3) rfl) ?_
  refine EX.aload_n (x := 1) rfl (List.mem_of_getElem? (i := 0) rfl) ?_
  refine EX.go (i := .getfield 34) (len := 3) (pc1 := 9) (st1 := [.int (hi 1 2), .int (v3)]) (hi1 := hi) (hl1 := hl) rfl ?_ (fun _ _ _ => rfl)
  rcases ite_some h with ⟨c1, h⟩ | ⟨c1, h⟩
  · refine EX.go (i := .if_icmp .ge 24) (len := 3) (pc1 := 33) (st1 := []) (hi1 := hi) (hl1 := hl) rfl ?_ (fun _ _ _ => if_pos c1)
    obtain rfl := Option.some.inj h
    have hk : EX w0 ev 0 m_Board_plane 33 [(2, .int (v2))] [] (hi) (hl) OUT := hk
    exact EX.pick [2] hk rfl
  · refine EX.go (i := .if_icmp .ge 24) (len := 3) (pc1 := 12) (st1 := []) (hi1 := hi) (hl1 := hl) rfl ?_ (fun _ _ _ => if_neg c1)
    refine EX.iload_n (x := v2) rfl (List.mem_of_getElem? (i := 2) rfl) ?_
    refine EX.aload_n (x := 1) rfl (List.mem_of_getElem? (i := 0) rfl) ?_
    refine EX.go (i := .getfield 31) (len := 3) (pc1 := 17) (st1 := [.ref 6, .int (v2)]) (hi1 := hi) (hl1 := hl) rfl ?_ (fun _ _ _ => rfl)
    refine EX.iload_n (x := v3) rfl (List.mem_of_getElem? (i := 3) rfl) ?_
    obtain ⟨g2, h⟩ := grd_some h
    refine EX.iaload rfl rfl g2 ?_
    refine EX.iload_n (x := v1) rfl (List.mem_of_getElem? (i := 1) rfl) ?_
    refine EX.go (i := .ishr) (len := 1) (pc1 := 21) (st1 := [.int (((hi 6 (Int32.toNatClampNeg (v3)) : Int32) >>> (v1 &&& 31))), .int (v2)]) (hi1 := hi) (hl1 := hl) rfl ?_ (fun _ _ _ => rfl)
    refine EX.iconst (v := 1) rfl rfl ?_
    refine EX.go (i := .iand) (len := 1) (pc1 := 23) (st1 := [.int (((((hi 6 (Int32.toNatClampNeg (v3)) : Int32) >>> (v1 &&& 31)) : Int32) &&& (1))), .int (v2)]) (hi1 := hi) (hl1 := hl) rfl ?_ (fun _ _ _ => rfl)
    refine EX.iload_n (x := v3) rfl (List.mem_of_getElem? (i := 3) rfl) ?_
    refine EX.go (i := .ishl) (len := 1) (pc1 := 25) (st1 := [.int (((((((hi 6 (Int32.toNatClampNeg (v3)) : Int32) >>> (v1 &&& 31)) : Int32) &&& (1)) : Int32) <<< (v3 &&& 31))), .int (v2)]) (hi1 := hi) (hl1 := hl) rfl ?_ (fun _ _ _ => rfl)
    refine EX.go (i := .ior) (len := 1) (pc1 := 26) (st1 := [.int ((v2 ||| (((((((hi 6 (Int32.toNatClampNeg (v3)) : Int32) >>> (v1 &&& 31)) : Int32) &&& (1)) : Int32) <<< (v3 &&& 31)))))]) (hi1 := hi) (hl1 := hl) rfl ?_ (fun _ _ _ => rfl)
    refine EX.istore_n (req1 := [(2, .int ((v2 ||| (((((((hi 6 (Int32.toNatClampNeg (v3)) : Int32) >>> (v1 &&& 31)) : Int32) &&& (1)) : Int32) <<< (v3 &&& 31)))))), (0, .ref 1), (1, .int (v1)), (3, .int (v3))]) rfl rfl rfl ?_
    refine EX.iinc (x := v3) (v := v3 + 1) (req1 := [(3, .int (v3 + 1)), (2, .int ((v2 ||| (((((((hi 6 (Int32.toNatClampNeg (v3)) : Int32) >>> (v1 &&& 31)) : Int32) &&& (1)) : Int32) <<< (v3 &&& 31)))))), (0, .ref 1), (1, .int (v1))]) rfl rfl (List.mem_of_getElem? (i := 3) rfl) rfl rfl ?_
    refine EX.go (i := .goto (-26)) (len := 3) (pc1 := 4) (st1 := []) (hi1 := hi) (hl1 := hl) rfl ?_ (fun _ _ _ => rfl)
    obtain rfl := Option.some.inj h
    have hk : EX w0 ev 0 m_Board_plane 4 [(0, .ref 1), (1, .int (v1)), (2, .int ((v2 ||| (((((((hi 6 (Int32.toNatClampNeg (v3)) : Int32) >>> (v1 &&& 31)) : Int32) &&& (1)) : Int32) <<< (v3 &&& 31)))))), (3, .int (v3 + 1))] [] (hi) (hl) OUT := hk
    exact EX.pick [2, 3, 1, 0] hk rfl
def f_Board_plane (N : Nat) (p1 : Int32) (hi : HI) (hl : HL) : Option (Int32 × HI × HL) :=
  (lpN (fun s => B_Board_plane_4 N (p1) s.1 s.2.1 s.2.2.1 s.2.2.2) N (0, 0, hi, hl)).bind fun x3 => some (x3.1, x3.2.1, x3.2.2)
set_option maxRecDepth 10000 in
set_option maxHeartbeats 4000000 in
theorem b_Board_plane (ev : EV) {N : Nat} {p1 : Int32} {hi : HI} {hl : HL} {o : Int32 × HI × HL} (h : f_Board_plane N p1 hi hl = some o) : EM w0 ev 1 m_Board_plane [.ref 1, .int (p1)] hi hl (oI o) := by
  unfold f_Board_plane at h
  refine EM.of rfl ?_
  show EX w0 ev 0 m_Board_plane 0 [(0, .ref 1), (1, .int (p1))] [] (hi) (hl) (oI o)
  refine EX.iconst (v := 0) rfl rfl ?_
  refine EX.istore_n (req1 := [(2, .int (0)), (0, .ref 1), (1, .int (p1))]) rfl rfl rfl ?_
  refine EX.iconst (v := 0) rfl rfl ?_
  refine EX.istore_n (req1 := [(3, .int (0)), (2, .int (0)), (0, .ref 1), (1, .int (p1))]) rfl rfl rfl ?_
  obtain ⟨x3, hx3, h⟩ := bnd_some h
  refine EX.pick [2, 3, 1, 0] ?_ rfl
  refine lp_sound (f := fun s => B_Board_plane_4 N (p1) s.1 s.2.1 s.2.2.1 s.2.2.2) (PS := fun s => EX w0 ev 0 m_Board_plane 4 [(0, .ref 1), (1, .int (p1)), (2, .int (s.1)), (3, .int (s.2.1))] [] (s.2.2.1) (s.2.2.2) (oI o)) (PX := fun x => EX w0 ev 0 m_Board_plane 33 [(2, .int (x.1))] [] (x.2.1) (x.2.2) (oI o)) ?_ N _ x3 hx3 ?_
  · exact fun s z hz hk => bB_Board_plane_4 ev hz hk
  show EX w0 ev 0 m_Board_plane 33 [(2, .int (x3.1))] [] (x3.2.1) (x3.2.2) (oI o)
  refine EX.iload_n (x := x3.1) rfl (List.mem_of_getElem? (i := 0) rfl) ?_
  obtain rfl := Option.some.inj h
  exact EX.iret rfl rfl
def J_Board_takeLevels_49 (N : Nat) (v1 : Nat) (v2 : Int32) (v3 : Int32) (v4 : Int32) (hi : HI) (hl : HL) : Option ((Int32 × Int32 × HI × HL) ⊕ (Int32 × HI × HL)) :=
  some (.inl (v3, v4 + 1, hi, hl))
set_option maxRecDepth 10000 in
set_option maxHeartbeats 4000000 in
theorem bJ_Board_takeLevels_49 (ev : EV) {N : Nat} {v1 : Nat} {v2 : Int32} {v3 : Int32} {v4 : Int32} {hi : HI} {hl : HL} {z : (Int32 × Int32 × HI × HL) ⊕ (Int32 × HI × HL)} {OUT : Option Value × HI × HL} (h : J_Board_takeLevels_49 N v1 v2 v3 v4 hi hl = some z) (hk : Sum.elim (fun s => EX w0 ev 0 m_Board_takeLevels 5 [(0, .ref 1), (1, .ref (v1)), (2, .int (v2)), (3, .int (s.1)), (4, .int (s.2.1))] [] (s.2.2.1) (s.2.2.2) OUT) (fun x => EX w0 ev 0 m_Board_takeLevels 55 [(3, .int (x.1))] [] (x.2.1) (x.2.2) OUT) z) : EX w0 ev 0 m_Board_takeLevels 49 [(0, .ref 1), (1, .ref (v1)), (2, .int (v2)), (3, .int (v3)), (4, .int (v4))] [] (hi) (hl) OUT := by
  unfold J_Board_takeLevels_49 at h
  refine EX.iinc (x := v4) (v := v4 + 1) (req1 := [(4, .int (v4 + 1)), (0, .ref 1), (1, .ref (v1)), (2, .int (v2)), (3, .int (v3))]) rfl rfl (List.mem_of_getElem? (i := 4) rfl) rfl rfl ?_
  refine EX.go (i := .goto (-47)) (len := 3) (pc1 := 5) (st1 := []) (hi1 := hi) (hl1 := hl) rfl ?_ (fun _ _ _ => rfl)
  obtain rfl := Option.some.inj h
  have hk : EX w0 ev 0 m_Board_takeLevels 5 [(0, .ref 1), (1, .ref (v1)), (2, .int (v2)), (3, .int (v3)), (4, .int (v4 + 1))] [] (hi) (hl) OUT := hk
  exact EX.pick [1, 2, 3, 4, 0] hk rfl
def B_Board_takeLevels_5 (N : Nat) (v1 : Nat) (v2 : Int32) (v3 : Int32) (v4 : Int32) (hi : HI) (hl : HL) : Option ((Int32 × Int32 × HI × HL) ⊕ (Int32 × HI × HL)) :=
  if (hi 1 2 : Int32) ≤ (v4 : Int32) then some (.inr (v3, hi, hl)) else if gS (v1) then if ((v2 + v4) : Int32) < 0 ∨ 40 ≤ Int32.toNatClampNeg ((v2 + v4)) then none else if (v4 : Int32) < 0 ∨ 16 ≤ Int32.toNatClampNeg (v4) then none else if (hi 6 (Int32.toNatClampNeg (v4)) : Int32) = (hi (v1 + 1) (Int32.toNatClampNeg ((v2 + v4))) : Int32) then J_Board_takeLevels_49 N (v1) (v2) (v3) (v4) (hi) (hl) else if (v4 : Int32) < 0 ∨ 16 ≤ Int32.toNatClampNeg (v4) then none else J_Board_takeLevels_49 N (v1) (v2) (v3 + 1) (v4) (wr (hi) 6 (Int32.toNatClampNeg (v4)) (hi (v1 + 1) (Int32.toNatClampNeg ((v2 + v4))))) (hl) else none
set_option maxRecDepth 10000 in
set_option maxHeartbeats 4000000 in
theorem bB_Board_takeLevels_5 (ev : EV) {N : Nat} {v1 : Nat} {v2 : Int32} {v3 : Int32} {v4 : Int32} {hi : HI} {hl : HL} {z : (Int32 × Int32 × HI × HL) ⊕ (Int32 × HI × HL)} {OUT : Option Value × HI × HL} (h : B_Board_takeLevels_5 N v1 v2 v3 v4 hi hl = some z) (hk : Sum.elim (fun s => EX w0 ev 0 m_Board_takeLevels 5 [(0, .ref 1), (1, .ref (v1)), (2, .int (v2)), (3, .int (s.1)), (4, .int (s.2.1))] [] (s.2.2.1) (s.2.2.2) OUT) (fun x => EX w0 ev 0 m_Board_takeLevels 55 [(3, .int (x.1))] [] (x.2.1) (x.2.2) OUT) z) : EX w0 ev 0 m_Board_takeLevels 5 [(0, .ref 1), (1, .ref (v1)), (2, .int (v2)), (3, .int (v3)), (4, .int (v4))] [] (hi) (hl) OUT := by
  unfold B_Board_takeLevels_5 at h
  refine EX.iload (x := v4) rfl (List.mem_of_getElem? (i := 4) rfl) ?_
  refine EX.aload_n (x := 1) rfl (List.mem_of_getElem? (i := 0) rfl) ?_
  refine EX.go (i := .getfield 34) (len := 3) (pc1 := 11) (st1 := [.int (hi 1 2), .int (v4)]) (hi1 := hi) (hl1 := hl) rfl ?_ (fun _ _ _ => rfl)
  rcases ite_some h with ⟨c1, h⟩ | ⟨c1, h⟩
  · refine EX.go (i := .if_icmp .ge 44) (len := 3) (pc1 := 55) (st1 := []) (hi1 := hi) (hl1 := hl) rfl ?_ (fun _ _ _ => if_pos c1)
    obtain rfl := Option.some.inj h
    have hk : EX w0 ev 0 m_Board_takeLevels 55 [(3, .int (v3))] [] (hi) (hl) OUT := hk
    exact EX.pick [3] hk rfl
  · refine EX.go (i := .if_icmp .ge 44) (len := 3) (pc1 := 14) (st1 := []) (hi1 := hi) (hl1 := hl) rfl ?_ (fun _ _ _ => if_neg c1)
    refine EX.aload_n (x := v1) rfl (List.mem_of_getElem? (i := 1) rfl) ?_
    obtain ⟨k_v1, h⟩ := grp_some h
    refine EX.getfieldV (v := .ref (v1 + 1)) rfl rfl k_v1.1 rfl rfl ?_
    refine EX.iload_n (x := v2) rfl (List.mem_of_getElem? (i := 2) rfl) ?_
    refine EX.iload (x := v4) rfl (List.mem_of_getElem? (i := 4) rfl) ?_
    refine EX.go (i := .iadd) (len := 1) (pc1 := 22) (st1 := [.int ((v2 + v4)), .ref (v1 + 1)]) (hi1 := hi) (hl1 := hl) rfl ?_ (fun _ _ _ => rfl)
    obtain ⟨g2, h⟩ := grd_some h
    refine EX.iaload rfl k_v1.2 g2 ?_
    refine EX.istore (req1 := [(5, .int (hi (v1 + 1) (Int32.toNatClampNeg ((v2 + v4))))), (0, .ref 1), (1, .ref (v1)), (2, .int (v2)), (3, .int (v3)), (4, .int (v4))]) rfl rfl rfl ?_
    refine EX.aload_n (x := 1) rfl (List.mem_of_getElem? (i := 1) rfl) ?_
    refine EX.go (i := .getfield 31) (len := 3) (pc1 := 29) (st1 := [.ref 6]) (hi1 := hi) (hl1 := hl) rfl ?_ (fun _ _ _ => rfl)
    refine EX.iload (x := v4) rfl (List.mem_of_getElem? (i := 5) rfl) ?_
    obtain ⟨g3, h⟩ := grd_some h
    refine EX.iaload rfl rfl g3 ?_
    refine EX.iload (x := hi (v1 + 1) (Int32.toNatClampNeg ((v2 + v4)))) rfl (List.mem_of_getElem? (i := 0) rfl) ?_
    rcases ite_some h with ⟨c4, h⟩ | ⟨c4, h⟩
    · refine EX.go (i := .if_icmp .eq 15) (len := 3) (pc1 := 49) (st1 := []) (hi1 := hi) (hl1 := hl) rfl ?_ (fun _ _ _ => if_pos c4)
      refine EX.pick [1, 2, 3, 4, 5] ?_ rfl
      exact bJ_Board_takeLevels_49 ev h hk
    · refine EX.go (i := .if_icmp .eq 15) (len := 3) (pc1 := 37) (st1 := []) (hi1 := hi) (hl1 := hl) rfl ?_ (fun _ _ _ => if_neg c4)
      refine EX.aload_n (x := 1) rfl (List.mem_of_getElem? (i := 1) rfl) ?_
      refine EX.go (i := .getfield 31) (len := 3) (pc1 := 41) (st1 := [.ref 6]) (hi1 := hi) (hl1 := hl) rfl ?_ (fun _ _ _ => rfl)
      refine EX.iload (x := v4) rfl (List.mem_of_getElem? (i := 5) rfl) ?_
      refine EX.iload (x := hi (v1 + 1) (Int32.toNatClampNeg ((v2 + v4)))) rfl (List.mem_of_getElem? (i := 0) rfl) ?_
      obtain ⟨g5, h⟩ := grd_some h
      refine EX.iastore rfl rfl g5 ?_
      refine EX.iinc (x := v3) (v := v3 + 1) (req1 := [(3, .int (v3 + 1)), (5, .int (hi (v1 + 1) (Int32.toNatClampNeg ((v2 + v4))))), (0, .ref 1), (1, .ref (v1)), (2, .int (v2)), (4, .int (v4))]) rfl rfl (List.mem_of_getElem? (i := 4) rfl) rfl rfl ?_
      refine EX.pick [2, 3, 4, 0, 5] ?_ rfl
      exact bJ_Board_takeLevels_49 ev h hk
def f_Board_takeLevels (N : Nat) (p1 : Nat) (p2 : Int32) (hi : HI) (hl : HL) : Option (Int32 × HI × HL) :=
  (lpN (fun s => B_Board_takeLevels_5 N (p1) (p2) s.1 s.2.1 s.2.2.1 s.2.2.2) N (0, 0, hi, hl)).bind fun x6 => some (x6.1, x6.2.1, x6.2.2)
set_option maxRecDepth 10000 in
set_option maxHeartbeats 4000000 in
theorem b_Board_takeLevels (ev : EV) {N : Nat} {p1 : Nat} {p2 : Int32} {hi : HI} {hl : HL} {o : Int32 × HI × HL} (h : f_Board_takeLevels N p1 p2 hi hl = some o) : EM w0 ev 1 m_Board_takeLevels [.ref 1, .ref (p1), .int (p2)] hi hl (oI o) := by
  unfold f_Board_takeLevels at h
  refine EM.of rfl ?_
  show EX w0 ev 0 m_Board_takeLevels 0 [(0, .ref 1), (1, .ref (p1)), (2, .int (p2))] [] (hi) (hl) (oI o)
  refine EX.iconst (v := 0) rfl rfl ?_
  refine EX.istore_n (req1 := [(3, .int (0)), (0, .ref 1), (1, .ref (p1)), (2, .int (p2))]) rfl rfl rfl ?_
  refine EX.iconst (v := 0) rfl rfl ?_
  refine EX.istore (req1 := [(4, .int (0)), (3, .int (0)), (0, .ref 1), (1, .ref (p1)), (2, .int (p2))]) rfl rfl rfl ?_
  obtain ⟨x6, hx6, h⟩ := bnd_some h
  refine EX.pick [2, 3, 4, 1, 0] ?_ rfl
  refine lp_sound (f := fun s => B_Board_takeLevels_5 N (p1) (p2) s.1 s.2.1 s.2.2.1 s.2.2.2) (PS := fun s => EX w0 ev 0 m_Board_takeLevels 5 [(0, .ref 1), (1, .ref (p1)), (2, .int (p2)), (3, .int (s.1)), (4, .int (s.2.1))] [] (s.2.2.1) (s.2.2.2) (oI o)) (PX := fun x => EX w0 ev 0 m_Board_takeLevels 55 [(3, .int (x.1))] [] (x.2.1) (x.2.2) (oI o)) ?_ N _ x6 hx6 ?_
  · exact fun s z hz hk => bB_Board_takeLevels_5 ev hz hk
  show EX w0 ev 0 m_Board_takeLevels 55 [(3, .int (x6.1))] [] (x6.2.1) (x6.2.2) (oI o)
  refine EX.iload_n (x := x6.1) rfl (List.mem_of_getElem? (i := 0) rfl) ?_
  obtain rfl := Option.some.inj h
  exact EX.iret rfl rfl
def J_Board_lampsThatAre_25 (N : Nat) (v1 : Int32) (v2 : Int32) (v3 : Int32) (hi : HI) (hl : HL) : Option ((Int32 × Int32 × HI × HL) ⊕ (Int32 × HI × HL)) :=
  some (.inl (v2, v3 + 1, hi, hl))
set_option maxRecDepth 10000 in
set_option maxHeartbeats 4000000 in
theorem bJ_Board_lampsThatAre_25 (ev : EV) {N : Nat} {v1 : Int32} {v2 : Int32} {v3 : Int32} {hi : HI} {hl : HL} {z : (Int32 × Int32 × HI × HL) ⊕ (Int32 × HI × HL)} {OUT : Option Value × HI × HL} (h : J_Board_lampsThatAre_25 N v1 v2 v3 hi hl = some z) (hk : Sum.elim (fun s => EX w0 ev 0 m_Board_lampsThatAre 4 [(0, .ref 1), (1, .int (v1)), (2, .int (s.1)), (3, .int (s.2.1))] [] (s.2.2.1) (s.2.2.2) OUT) (fun x => EX w0 ev 0 m_Board_lampsThatAre 31 [(2, .int (x.1))] [] (x.2.1) (x.2.2) OUT) z) : EX w0 ev 0 m_Board_lampsThatAre 25 [(0, .ref 1), (1, .int (v1)), (2, .int (v2)), (3, .int (v3))] [] (hi) (hl) OUT := by
  unfold J_Board_lampsThatAre_25 at h
  refine EX.iinc (x := v3) (v := v3 + 1) (req1 := [(3, .int (v3 + 1)), (0, .ref 1), (1, .int (v1)), (2, .int (v2))]) rfl rfl (List.mem_of_getElem? (i := 3) rfl) rfl rfl ?_
  refine EX.go (i := .goto (-24)) (len := 3) (pc1 := 4) (st1 := []) (hi1 := hi) (hl1 := hl) rfl ?_ (fun _ _ _ => rfl)
  obtain rfl := Option.some.inj h
  have hk : EX w0 ev 0 m_Board_lampsThatAre 4 [(0, .ref 1), (1, .int (v1)), (2, .int (v2)), (3, .int (v3 + 1))] [] (hi) (hl) OUT := hk
  exact EX.pick [1, 2, 3, 0] hk rfl
def B_Board_lampsThatAre_4 (N : Nat) (v1 : Int32) (v2 : Int32) (v3 : Int32) (hi : HI) (hl : HL) : Option ((Int32 × Int32 × HI × HL) ⊕ (Int32 × HI × HL)) :=
  if (hi 1 2 : Int32) ≤ (v3 : Int32) then some (.inr (v2, hi, hl)) else if (v3 : Int32) < 0 ∨ 16 ≤ Int32.toNatClampNeg (v3) then none else if (hi 5 (Int32.toNatClampNeg (v3)) : Int32) = (v1 : Int32) then J_Board_lampsThatAre_25 N (v1) (v2 + 1) (v3) (hi) (hl) else J_Board_lampsThatAre_25 N (v1) (v2) (v3) (hi) (hl)
set_option maxRecDepth 10000 in
set_option maxHeartbeats 4000000 in
theorem bB_Board_lampsThatAre_4 (ev : EV) {N : Nat} {v1 : Int32} {v2 : Int32} {v3 : Int32} {hi : HI} {hl : HL} {z : (Int32 × Int32 × HI × HL) ⊕ (Int32 × HI × HL)} {OUT : Option Value × HI × HL} (h : B_Board_lampsThatAre_4 N v1 v2 v3 hi hl = some z) (hk : Sum.elim (fun s => EX w0 ev 0 m_Board_lampsThatAre 4 [(0, .ref 1), (1, .int (v1)), (2, .int (s.1)), (3, .int (s.2.1))] [] (s.2.2.1) (s.2.2.2) OUT) (fun x => EX w0 ev 0 m_Board_lampsThatAre 31 [(2, .int (x.1))] [] (x.2.1) (x.2.2) OUT) z) : EX w0 ev 0 m_Board_lampsThatAre 4 [(0, .ref 1), (1, .int (v1)), (2, .int (v2)), (3, .int (v3))] [] (hi) (hl) OUT := by
  unfold B_Board_lampsThatAre_4 at h
  refine EX.iload_n (x := v3) rfl (List.mem_of_getElem? (i := 3) rfl) ?_
  refine EX.aload_n (x := 1) rfl (List.mem_of_getElem? (i := 0) rfl) ?_
  refine EX.go (i := .getfield 34) (len := 3) (pc1 := 9) (st1 := [.int (hi 1 2), .int (v3)]) (hi1 := hi) (hl1 := hl) rfl ?_ (fun _ _ _ => rfl)
  rcases ite_some h with ⟨c1, h⟩ | ⟨c1, h⟩
  · refine EX.go (i := .if_icmp .ge 22) (len := 3) (pc1 := 31) (st1 := []) (hi1 := hi) (hl1 := hl) rfl ?_ (fun _ _ _ => if_pos c1)
    obtain rfl := Option.some.inj h
    have hk : EX w0 ev 0 m_Board_lampsThatAre 31 [(2, .int (v2))] [] (hi) (hl) OUT := hk
    exact EX.pick [2] hk rfl
  · refine EX.go (i := .if_icmp .ge 22) (len := 3) (pc1 := 12) (st1 := []) (hi1 := hi) (hl1 := hl) rfl ?_ (fun _ _ _ => if_neg c1)
    refine EX.aload_n (x := 1) rfl (List.mem_of_getElem? (i := 0) rfl) ?_
    refine EX.go (i := .getfield 28) (len := 3) (pc1 := 16) (st1 := [.ref 5]) (hi1 := hi) (hl1 := hl) rfl ?_ (fun _ _ _ => rfl)
    refine EX.iload_n (x := v3) rfl (List.mem_of_getElem? (i := 3) rfl) ?_
    obtain ⟨g2, h⟩ := grd_some h
    refine EX.iaload rfl rfl g2 ?_
    refine EX.iload_n (x := v1) rfl (List.mem_of_getElem? (i := 1) rfl) ?_
    rcases ite_some h with ⟨c3, h⟩ | ⟨c3, h⟩
    · refine EX.go (i := .if_icmp .ne 6) (len := 3) (pc1 := 22) (st1 := []) (hi1 := hi) (hl1 := hl) rfl ?_ (fun _ _ _ => if_pos c3)
      refine EX.iinc (x := v2) (v := v2 + 1) (req1 := [(2, .int (v2 + 1)), (0, .ref 1), (1, .int (v1)), (3, .int (v3))]) rfl rfl (List.mem_of_getElem? (i := 2) rfl) rfl rfl ?_
      refine EX.pick [1, 2, 0, 3] ?_ rfl
      exact bJ_Board_lampsThatAre_25 ev h hk
    · refine EX.go (i := .if_icmp .ne 6) (len := 3) (pc1 := 25) (st1 := []) (hi1 := hi) (hl1 := hl) rfl ?_ (fun _ _ _ => if_neg c3)
      refine EX.pick [0, 1, 2, 3] ?_ rfl
      exact bJ_Board_lampsThatAre_25 ev h hk
def f_Board_lampsThatAre (N : Nat) (p1 : Int32) (hi : HI) (hl : HL) : Option (Int32 × HI × HL) :=
  (lpN (fun s => B_Board_lampsThatAre_4 N (p1) s.1 s.2.1 s.2.2.1 s.2.2.2) N (0, 0, hi, hl)).bind fun x4 => some (x4.1, x4.2.1, x4.2.2)
set_option maxRecDepth 10000 in
set_option maxHeartbeats 4000000 in
theorem b_Board_lampsThatAre (ev : EV) {N : Nat} {p1 : Int32} {hi : HI} {hl : HL} {o : Int32 × HI × HL} (h : f_Board_lampsThatAre N p1 hi hl = some o) : EM w0 ev 1 m_Board_lampsThatAre [.ref 1, .int (p1)] hi hl (oI o) := by
  unfold f_Board_lampsThatAre at h
  refine EM.of rfl ?_
  show EX w0 ev 0 m_Board_lampsThatAre 0 [(0, .ref 1), (1, .int (p1))] [] (hi) (hl) (oI o)
  refine EX.iconst (v := 0) rfl rfl ?_
  refine EX.istore_n (req1 := [(2, .int (0)), (0, .ref 1), (1, .int (p1))]) rfl rfl rfl ?_
  refine EX.iconst (v := 0) rfl rfl ?_
  refine EX.istore_n (req1 := [(3, .int (0)), (2, .int (0)), (0, .ref 1), (1, .int (p1))]) rfl rfl rfl ?_
  obtain ⟨x4, hx4, h⟩ := bnd_some h
  refine EX.pick [2, 3, 1, 0] ?_ rfl
  refine lp_sound (f := fun s => B_Board_lampsThatAre_4 N (p1) s.1 s.2.1 s.2.2.1 s.2.2.2) (PS := fun s => EX w0 ev 0 m_Board_lampsThatAre 4 [(0, .ref 1), (1, .int (p1)), (2, .int (s.1)), (3, .int (s.2.1))] [] (s.2.2.1) (s.2.2.2) (oI o)) (PX := fun x => EX w0 ev 0 m_Board_lampsThatAre 31 [(2, .int (x.1))] [] (x.2.1) (x.2.2) (oI o)) ?_ N _ x4 hx4 ?_
  · exact fun s z hz hk => bB_Board_lampsThatAre_4 ev hz hk
  show EX w0 ev 0 m_Board_lampsThatAre 31 [(2, .int (x4.1))] [] (x4.2.1) (x4.2.2) (oI o)
  refine EX.iload_n (x := x4.1) rfl (List.mem_of_getElem? (i := 0) rfl) ?_
  obtain rfl := Option.some.inj h
  exact EX.iret rfl rfl
def B_Board_levelSum_4 (N : Nat) (v1 : Int32) (v2 : Int32) (hi : HI) (hl : HL) : Option ((Int32 × Int32 × HI × HL) ⊕ (Int32 × HI × HL)) :=
  if (hi 1 2 : Int32) ≤ (v2 : Int32) then some (.inr (v1, hi, hl)) else if (v2 : Int32) < 0 ∨ 16 ≤ Int32.toNatClampNeg (v2) then none else some (.inl ((v1 + (hi 6 (Int32.toNatClampNeg (v2)))), v2 + 1, hi, hl))
set_option maxRecDepth 10000 in
set_option maxHeartbeats 4000000 in
theorem bB_Board_levelSum_4 (ev : EV) {N : Nat} {v1 : Int32} {v2 : Int32} {hi : HI} {hl : HL} {z : (Int32 × Int32 × HI × HL) ⊕ (Int32 × HI × HL)} {OUT : Option Value × HI × HL} (h : B_Board_levelSum_4 N v1 v2 hi hl = some z) (hk : Sum.elim (fun s => EX w0 ev 0 m_Board_levelSum 4 [(0, .ref 1), (1, .int (s.1)), (2, .int (s.2.1))] [] (s.2.2.1) (s.2.2.2) OUT) (fun x => EX w0 ev 0 m_Board_levelSum 27 [(1, .int (x.1))] [] (x.2.1) (x.2.2) OUT) z) : EX w0 ev 0 m_Board_levelSum 4 [(0, .ref 1), (1, .int (v1)), (2, .int (v2))] [] (hi) (hl) OUT := by
  unfold B_Board_levelSum_4 at h
  refine EX.iload_n (x := v2) rfl (List.mem_of_getElem? (i := 2) rfl) ?_
  refine EX.aload_n (x := 1) rfl (List.mem_of_getElem? (i := 0) rfl) ?_
  refine EX.go (i := .getfield 34) (len := 3) (pc1 := 9) (st1 := [.int (hi 1 2), .int (v2)]) (hi1 := hi) (hl1 := hl) rfl ?_ (fun _ _ _ => rfl)
  rcases ite_some h with ⟨c1, h⟩ | ⟨c1, h⟩
  · refine EX.go (i := .if_icmp .ge 18) (len := 3) (pc1 := 27) (st1 := []) (hi1 := hi) (hl1 := hl) rfl ?_ (fun _ _ _ => if_pos c1)
    obtain rfl := Option.some.inj h
    have hk : EX w0 ev 0 m_Board_levelSum 27 [(1, .int (v1))] [] (hi) (hl) OUT := hk
    exact EX.pick [1] hk rfl
  · refine EX.go (i := .if_icmp .ge 18) (len := 3) (pc1 := 12) (st1 := []) (hi1 := hi) (hl1 := hl) rfl ?_ (fun _ _ _ => if_neg c1)
    refine EX.iload_n (x := v1) rfl (List.mem_of_getElem? (i := 1) rfl) ?_
    refine EX.aload_n (x := 1) rfl (List.mem_of_getElem? (i := 0) rfl) ?_
    refine EX.go (i := .getfield 31) (len := 3) (pc1 := 17) (st1 := [.ref 6, .int (v1)]) (hi1 := hi) (hl1 := hl) rfl ?_ (fun _ _ _ => rfl)
    refine EX.iload_n (x := v2) rfl (List.mem_of_getElem? (i := 2) rfl) ?_
    obtain ⟨g2, h⟩ := grd_some h
    refine EX.iaload rfl rfl g2 ?_
    refine EX.go (i := .iadd) (len := 1) (pc1 := 20) (st1 := [.int ((v1 + (hi 6 (Int32.toNatClampNeg (v2)))))]) (hi1 := hi) (hl1 := hl) rfl ?_ (fun _ _ _ => rfl)
    refine EX.istore_n (req1 := [(1, .int ((v1 + (hi 6 (Int32.toNatClampNeg (v2)))))), (0, .ref 1), (2, .int (v2))]) rfl rfl rfl ?_
    refine EX.iinc (x := v2) (v := v2 + 1) (req1 := [(2, .int (v2 + 1)), (1, .int ((v1 + (hi 6 (Int32.toNatClampNeg (v2)))))), (0, .ref 1)]) rfl rfl (List.mem_of_getElem? (i := 2) rfl) rfl rfl ?_
    refine EX.go (i := .goto (-20)) (len := 3) (pc1 := 4) (st1 := []) (hi1 := hi) (hl1 := hl) rfl ?_ (fun _ _ _ => rfl)
    obtain rfl := Option.some.inj h
    have hk : EX w0 ev 0 m_Board_levelSum 4 [(0, .ref 1), (1, .int ((v1 + (hi 6 (Int32.toNatClampNeg (v2)))))), (2, .int (v2 + 1))] [] (hi) (hl) OUT := hk
    exact EX.pick [2, 1, 0] hk rfl
def f_Board_levelSum (N : Nat) (hi : HI) (hl : HL) : Option (Int32 × HI × HL) :=
  (lpN (fun s => B_Board_levelSum_4 N s.1 s.2.1 s.2.2.1 s.2.2.2) N (0, 0, hi, hl)).bind fun x3 => some (x3.1, x3.2.1, x3.2.2)
set_option maxRecDepth 10000 in
set_option maxHeartbeats 4000000 in
theorem b_Board_levelSum (ev : EV) {N : Nat} {hi : HI} {hl : HL} {o : Int32 × HI × HL} (h : f_Board_levelSum N hi hl = some o) : EM w0 ev 1 m_Board_levelSum [.ref 1] hi hl (oI o) := by
  unfold f_Board_levelSum at h
  refine EM.of rfl ?_
  show EX w0 ev 0 m_Board_levelSum 0 [(0, .ref 1)] [] (hi) (hl) (oI o)
  refine EX.iconst (v := 0) rfl rfl ?_
  refine EX.istore_n (req1 := [(1, .int (0)), (0, .ref 1)]) rfl rfl rfl ?_
  refine EX.iconst (v := 0) rfl rfl ?_
  refine EX.istore_n (req1 := [(2, .int (0)), (1, .int (0)), (0, .ref 1)]) rfl rfl rfl ?_
  obtain ⟨x3, hx3, h⟩ := bnd_some h
  refine EX.pick [2, 1, 0] ?_ rfl
  refine lp_sound (f := fun s => B_Board_levelSum_4 N s.1 s.2.1 s.2.2.1 s.2.2.2) (PS := fun s => EX w0 ev 0 m_Board_levelSum 4 [(0, .ref 1), (1, .int (s.1)), (2, .int (s.2.1))] [] (s.2.2.1) (s.2.2.2) (oI o)) (PX := fun x => EX w0 ev 0 m_Board_levelSum 27 [(1, .int (x.1))] [] (x.2.1) (x.2.2) (oI o)) ?_ N _ x3 hx3 ?_
  · exact fun s z hz hk => bB_Board_levelSum_4 ev hz hk
  show EX w0 ev 0 m_Board_levelSum 27 [(1, .int (x3.1))] [] (x3.2.1) (x3.2.2) (oI o)
  refine EX.iload_n (x := x3.1) rfl (List.mem_of_getElem? (i := 0) rfl) ?_
  obtain rfl := Option.some.inj h
  exact EX.iret rfl rfl
def f_Integer_bitCount (N : Nat) (p0 : Int32) (hi : HI) (hl : HL) : Option (Int32 × HI × HL) :=
  some ((((((((((((((((p0 - (((((Int32.toUInt32 p0 >>> (Int32.toUInt32 (1) &&& Int32.toUInt32 31)).toInt32) : Int32) &&& (1431655765)))) : Int32) &&& (858993459)) : Int32) + (((((Int32.toUInt32 ((p0 - (((((Int32.toUInt32 p0 >>> (Int32.toUInt32 (1) &&& Int32.toUInt32 31)).toInt32) : Int32) &&& (1431655765)))) : Int32) >>> (Int32.toUInt32 (2) &&& Int32.toUInt32 31)).toInt32) : Int32) &&& (858993459)))) : Int32) + (((Int32.toUInt32 ((((((p0 - (((((Int32.toUInt32 p0 >>> (Int32.toUInt32 (1) &&& Int32.toUInt32 31)).toInt32) : Int32) &&& (1431655765)))) : Int32) &&& (858993459)) : Int32) + (((((Int32.toUInt32 ((p0 - (((((Int32.toUInt32 p0 >>> (Int32.toUInt32 (1) &&& Int32.toUInt32 31)).toInt32) : Int32) &&& (1431655765)))) : Int32) >>> (Int32.toUInt32 (2) &&& Int32.toUInt32 31)).toInt32) : Int32) &&& (858993459)))) : Int32) >>> (Int32.toUInt32 (4) &&& Int32.toUInt32 31)).toInt32))) : Int32) &&& (252645135)) : Int32) + (((Int32.toUInt32 ((((((((((p0 - (((((Int32.toUInt32 p0 >>> (Int32.toUInt32 (1) &&& Int32.toUInt32 31)).toInt32) : Int32) &&& (1431655765)))) : Int32) &&& (858993459)) : Int32) + (((((Int32.toUInt32 ((p0 - (((((Int32.toUInt32 p0 >>> (Int32.toUInt32 (1) &&& Int32.toUInt32 31)).toInt32) : Int32) &&& (1431655765)))) : Int32) >>> (Int32.toUInt32 (2) &&& Int32.toUInt32 31)).toInt32) : Int32) &&& (858993459)))) : Int32) + (((Int32.toUInt32 ((((((p0 - (((((Int32.toUInt32 p0 >>> (Int32.toUInt32 (1) &&& Int32.toUInt32 31)).toInt32) : Int32) &&& (1431655765)))) : Int32) &&& (858993459)) : Int32) + (((((Int32.toUInt32 ((p0 - (((((Int32.toUInt32 p0 >>> (Int32.toUInt32 (1) &&& Int32.toUInt32 31)).toInt32) : Int32) &&& (1431655765)))) : Int32) >>> (Int32.toUInt32 (2) &&& Int32.toUInt32 31)).toInt32) : Int32) &&& (858993459)))) : Int32) >>> (Int32.toUInt32 (4) &&& Int32.toUInt32 31)).toInt32))) : Int32) &&& (252645135)) : Int32) >>> (Int32.toUInt32 (8) &&& Int32.toUInt32 31)).toInt32))) : Int32) + (((Int32.toUInt32 ((((((((((((p0 - (((((Int32.toUInt32 p0 >>> (Int32.toUInt32 (1) &&& Int32.toUInt32 31)).toInt32) : Int32) &&& (1431655765)))) : Int32) &&& (858993459)) : Int32) + (((((Int32.toUInt32 ((p0 - (((((Int32.toUInt32 p0 >>> (Int32.toUInt32 (1) &&& Int32.toUInt32 31)).toInt32) : Int32) &&& (1431655765)))) : Int32) >>> (Int32.toUInt32 (2) &&& Int32.toUInt32 31)).toInt32) : Int32) &&& (858993459)))) : Int32) + (((Int32.toUInt32 ((((((p0 - (((((Int32.toUInt32 p0 >>> (Int32.toUInt32 (1) &&& Int32.toUInt32 31)).toInt32) : Int32) &&& (1431655765)))) : Int32) &&& (858993459)) : Int32) + (((((Int32.toUInt32 ((p0 - (((((Int32.toUInt32 p0 >>> (Int32.toUInt32 (1) &&& Int32.toUInt32 31)).toInt32) : Int32) &&& (1431655765)))) : Int32) >>> (Int32.toUInt32 (2) &&& Int32.toUInt32 31)).toInt32) : Int32) &&& (858993459)))) : Int32) >>> (Int32.toUInt32 (4) &&& Int32.toUInt32 31)).toInt32))) : Int32) &&& (252645135)) : Int32) + (((Int32.toUInt32 ((((((((((p0 - (((((Int32.toUInt32 p0 >>> (Int32.toUInt32 (1) &&& Int32.toUInt32 31)).toInt32) : Int32) &&& (1431655765)))) : Int32) &&& (858993459)) : Int32) + (((((Int32.toUInt32 ((p0 - (((((Int32.toUInt32 p0 >>> (Int32.toUInt32 (1) &&& Int32.toUInt32 31)).toInt32) : Int32) &&& (1431655765)))) : Int32) >>> (Int32.toUInt32 (2) &&& Int32.toUInt32 31)).toInt32) : Int32) &&& (858993459)))) : Int32) + (((Int32.toUInt32 ((((((p0 - (((((Int32.toUInt32 p0 >>> (Int32.toUInt32 (1) &&& Int32.toUInt32 31)).toInt32) : Int32) &&& (1431655765)))) : Int32) &&& (858993459)) : Int32) + (((((Int32.toUInt32 ((p0 - (((((Int32.toUInt32 p0 >>> (Int32.toUInt32 (1) &&& Int32.toUInt32 31)).toInt32) : Int32) &&& (1431655765)))) : Int32) >>> (Int32.toUInt32 (2) &&& Int32.toUInt32 31)).toInt32) : Int32) &&& (858993459)))) : Int32) >>> (Int32.toUInt32 (4) &&& Int32.toUInt32 31)).toInt32))) : Int32) &&& (252645135)) : Int32) >>> (Int32.toUInt32 (8) &&& Int32.toUInt32 31)).toInt32))) : Int32) >>> (Int32.toUInt32 (16) &&& Int32.toUInt32 31)).toInt32))) : Int32) &&& (63)), hi, hl)
set_option maxRecDepth 10000 in
set_option maxHeartbeats 4000000 in
theorem b_Integer_bitCount (ev : EV) {N : Nat} {p0 : Int32} {hi : HI} {hl : HL} {o : Int32 × HI × HL} (h : f_Integer_bitCount N p0 hi hl = some o) : EM w0 ev 1 m_Integer_bitCount [.int (p0)] hi hl (oI o) := by
  unfold f_Integer_bitCount at h
  refine EM.of rfl ?_
  show EX w0 ev 0 m_Integer_bitCount 0 [(0, .int (p0))] [] (hi) (hl) (oI o)
  refine EX.iload_n (x := p0) rfl (List.mem_of_getElem? (i := 0) rfl) ?_
  refine EX.iload_n (x := p0) rfl (List.mem_of_getElem? (i := 0) rfl) ?_
  refine EX.iconst (v := 1) rfl rfl ?_
  refine EX.go (i := .iushr) (len := 1) (pc1 := 4) (st1 := [.int (((Int32.toUInt32 p0 >>> (Int32.toUInt32 (1) &&& Int32.toUInt32 31)).toInt32)), .int (p0)]) (hi1 := hi) (hl1 := hl) rfl ?_ (fun _ _ _ => rfl)
  refine EX.go (i := .ldc_w 265) (len := 3) (pc1 := 7) (st1 := [.int (1431655765), .int (((Int32.toUInt32 p0 >>> (Int32.toUInt32 (1) &&& Int32.toUInt32 31)).toInt32)), .int (p0)]) (hi1 := hi) (hl1 := hl) rfl ?_ (fun _ _ _ => rfl)
  refine EX.go (i := .iand) (len := 1) (pc1 := 8) (st1 := [.int (((((Int32.toUInt32 p0 >>> (Int32.toUInt32 (1) &&& Int32.toUInt32 31)).toInt32) : Int32) &&& (1431655765))), .int (p0)]) (hi1 := hi) (hl1 := hl) rfl ?_ (fun _ _ _ => rfl)
  refine EX.go (i := .isub) (len := 1) (pc1 := 9) (st1 := [.int ((p0 - (((((Int32.toUInt32 p0 >>> (Int32.toUInt32 (1) &&& Int32.toUInt32 31)).toInt32) : Int32) &&& (1431655765)))))]) (hi1 := hi) (hl1 := hl) rfl ?_ (fun _ _ _ => rfl)
  refine EX.istore_n (req1 := [(0, .int ((p0 - (((((Int32.toUInt32 p0 >>> (Int32.toUInt32 (1) &&& Int32.toUInt32 31)).toInt32) : Int32) &&& (1431655765))))))]) rfl rfl rfl ?_
  refine EX.iload_n (x := (p0 - (((((Int32.toUInt32 p0 >>> (Int32.toUInt32 (1) &&& Int32.toUInt32 31)).toInt32) : Int32) &&& (1431655765))))) rfl (List.mem_of_getElem? (i := 0) rfl) ?_
  refine EX.go (i := .ldc_w 266) (len := 3) (pc1 := 14) (st1 := [.int (858993459), .int ((p0 - (((((Int32.toUInt32 p0 >>> (Int32.toUInt32 (1) &&& Int32.toUInt32 31)).toInt32) : Int32) &&& (1431655765)))))]) (hi1 := hi) (hl1 := hl) rfl ?_ (fun _ _ _ => rfl)
  refine EX.go (i := .iand) (len := 1) (pc1 := 15) (st1 := [.int ((((p0 - (((((Int32.toUInt32 p0 >>> (Int32.toUInt32 (1) &&& Int32.toUInt32 31)).toInt32) : Int32) &&& (1431655765)))) : Int32) &&& (858993459)))]) (hi1 := hi) (hl1 := hl) rfl ?_ (fun _ _ _ => rfl)
  refine EX.iload_n (x := (p0 - (((((Int32.toUInt32 p0 >>> (Int32.toUInt32 (1) &&& Int32.toUInt32 31)).toInt32) : Int32) &&& (1431655765))))) rfl (List.mem_of_getElem? (i := 0) rfl) ?_
  refine EX.iconst (v := 2) rfl rfl ?_
  refine EX.go (i := .iushr) (len := 1) (pc1 := 18) (st1 := [.int (((Int32.toUInt32 ((p0 - (((((Int32.toUInt32 p0 >>> (Int32.toUInt32 (1) &&& Int32.toUInt32 31)).toInt32) : Int32) &&& (1431655765)))) : Int32) >>> (Int32.toUInt32 (2) &&& Int32.toUInt32 31)).toInt32)), .int ((((p0 - (((((Int32.toUInt32 p0 >>> (Int32.toUInt32 (1) &&& Int32.toUInt32 31)).toInt32) : Int32) &&& (1431655765)))) : Int32) &&& (858993459)))]) (hi1 := hi) (hl1 := hl) rfl ?_ (fun _ _ _ => rfl)
  refine EX.go (i := .ldc_w 266) (len := 3) (pc1 := 21) (st1 := [.int (858993459), .int (((Int32.toUInt32 ((p0 - (((((Int32.toUInt32 p0 >>> (Int32.toUInt32 (1) &&& Int32.toUInt32 31)).toInt32) : Int32) &&& (1431655765)))) : Int32) >>> (Int32.toUInt32 (2) &&& Int32.toUInt32 31)).toInt32)), .int ((((p0 - (((((Int32.toUInt32 p0 >>> (Int32.toUInt32 (1) &&& Int32.toUInt32 31)).toInt32) : Int32) &&& (1431655765)))) : Int32) &&& (858993459)))]) (hi1 := hi) (hl1 := hl) rfl ?_ (fun _ _ _ => rfl)
  refine EX.go (i := .iand) (len := 1) (pc1 := 22) (st1 := [.int (((((Int32.toUInt32 ((p0 - (((((Int32.toUInt32 p0 >>> (Int32.toUInt32 (1) &&& Int32.toUInt32 31)).toInt32) : Int32) &&& (1431655765)))) : Int32) >>> (Int32.toUInt32 (2) &&& Int32.toUInt32 31)).toInt32) : Int32) &&& (858993459))), .int ((((p0 - (((((Int32.toUInt32 p0 >>> (Int32.toUInt32 (1) &&& Int32.toUInt32 31)).toInt32) : Int32) &&& (1431655765)))) : Int32) &&& (858993459)))]) (hi1 := hi) (hl1 := hl) rfl ?_ (fun _ _ _ => rfl)
  refine EX.go (i := .iadd) (len := 1) (pc1 := 23) (st1 := [.int ((((((p0 - (((((Int32.toUInt32 p0 >>> (Int32.toUInt32 (1) &&& Int32.toUInt32 31)).toInt32) : Int32) &&& (1431655765)))) : Int32) &&& (858993459)) : Int32) + (((((Int32.toUInt32 ((p0 - (((((Int32.toUInt32 p0 >>> (Int32.toUInt32 (1) &&& Int32.toUInt32 31)).toInt32) : Int32) &&& (1431655765)))) : Int32) >>> (Int32.toUInt32 (2) &&& Int32.toUInt32 31)).toInt32) : Int32) &&& (858993459)))))]) (hi1 := hi) (hl1 := hl) rfl ?_ (fun _ _ _ => rfl)
  refine EX.istore_n (req1 := [(0, .int ((((((p0 - (((((Int32.toUInt32 p0 >>> (Int32.toUInt32 (1) &&& Int32.toUInt32 31)).toInt32) : Int32) &&& (1431655765)))) : Int32) &&& (858993459)) : Int32) + (((((Int32.toUInt32 ((p0 - (((((Int32.toUInt32 p0 >>> (Int32.toUInt32 (1) &&& Int32.toUInt32 31)).toInt32) : Int32) &&& (1431655765)))) : Int32) >>> (Int32.toUInt32 (2) &&& Int32.toUInt32 31)).toInt32) : Int32) &&& (858993459))))))]) rfl rfl rfl ?_
  refine EX.iload_n (x := (((((p0 - (((((Int32.toUInt32 p0 >>> (Int32.toUInt32 (1) &&& Int32.toUInt32 31)).toInt32) : Int32) &&& (1431655765)))) : Int32) &&& (858993459)) : Int32) + (((((Int32.toUInt32 ((p0 - (((((Int32.toUInt32 p0 >>> (Int32.toUInt32 (1) &&& Int32.toUInt32 31)).toInt32) : Int32) &&& (1431655765)))) : Int32) >>> (Int32.toUInt32 (2) &&& Int32.toUInt32 31)).toInt32) : Int32) &&& (858993459))))) rfl (List.mem_of_getElem? (i := 0) rfl) ?_
  refine EX.iload_n (x := (((((p0 - (((((Int32.toUInt32 p0 >>> (Int32.toUInt32 (1) &&& Int32.toUInt32 31)).toInt32) : Int32) &&& (1431655765)))) : Int32) &&& (858993459)) : Int32) + (((((Int32.toUInt32 ((p0 - (((((Int32.toUInt32 p0 >>> (Int32.toUInt32 (1) &&& Int32.toUInt32 31)).toInt32) : Int32) &&& (1431655765)))) : Int32) >>> (Int32.toUInt32 (2) &&& Int32.toUInt32 31)).toInt32) : Int32) &&& (858993459))))) rfl (List.mem_of_getElem? (i := 0) rfl) ?_
  refine EX.iconst (v := 4) rfl rfl ?_
  refine EX.go (i := .iushr) (len := 1) (pc1 := 28) (st1 := [.int (((Int32.toUInt32 ((((((p0 - (((((Int32.toUInt32 p0 >>> (Int32.toUInt32 (1) &&& Int32.toUInt32 31)).toInt32) : Int32) &&& (1431655765)))) : Int32) &&& (858993459)) : Int32) + (((((Int32.toUInt32 ((p0 - (((((Int32.toUInt32 p0 >>> (Int32.toUInt32 (1) &&& Int32.toUInt32 31)).toInt32) : Int32) &&& (1431655765)))) : Int32) >>> (Int32.toUInt32 (2) &&& Int32.toUInt32 31)).toInt32) : Int32) &&& (858993459)))) : Int32) >>> (Int32.toUInt32 (4) &&& Int32.toUInt32 31)).toInt32)), .int ((((((p0 - (((((Int32.toUInt32 p0 >>> (Int32.toUInt32 (1) &&& Int32.toUInt32 31)).toInt32) : Int32) &&& (1431655765)))) : Int32) &&& (858993459)) : Int32) + (((((Int32.toUInt32 ((p0 - (((((Int32.toUInt32 p0 >>> (Int32.toUInt32 (1) &&& Int32.toUInt32 31)).toInt32) : Int32) &&& (1431655765)))) : Int32) >>> (Int32.toUInt32 (2) &&& Int32.toUInt32 31)).toInt32) : Int32) &&& (858993459)))))]) (hi1 := hi) (hl1 := hl) rfl ?_ (fun _ _ _ => rfl)
  refine EX.go (i := .iadd) (len := 1) (pc1 := 29) (st1 := [.int ((((((((p0 - (((((Int32.toUInt32 p0 >>> (Int32.toUInt32 (1) &&& Int32.toUInt32 31)).toInt32) : Int32) &&& (1431655765)))) : Int32) &&& (858993459)) : Int32) + (((((Int32.toUInt32 ((p0 - (((((Int32.toUInt32 p0 >>> (Int32.toUInt32 (1) &&& Int32.toUInt32 31)).toInt32) : Int32) &&& (1431655765)))) : Int32) >>> (Int32.toUInt32 (2) &&& Int32.toUInt32 31)).toInt32) : Int32) &&& (858993459)))) : Int32) + (((Int32.toUInt32 ((((((p0 - (((((Int32.toUInt32 p0 >>> (Int32.toUInt32 (1) &&& Int32.toUInt32 31)).toInt32) : Int32) &&& (1431655765)))) : Int32) &&& (858993459)) : Int32) + (((((Int32.toUInt32 ((p0 - (((((Int32.toUInt32 p0 >>> (Int32.toUInt32 (1) &&& Int32.toUInt32 31)).toInt32) : Int32) &&& (1431655765)))) : Int32) >>> (Int32.toUInt32 (2) &&& Int32.toUInt32 31)).toInt32) : Int32) &&& (858993459)))) : Int32) >>> (Int32.toUInt32 (4) &&& Int32.toUInt32 31)).toInt32))))]) (hi1 := hi) (hl1 := hl) rfl ?_ (fun _ _ _ => rfl)
  refine EX.go (i := .ldc_w 267) (len := 3) (pc1 := 32) (st1 := [.int (252645135), .int ((((((((p0 - (((((Int32.toUInt32 p0 >>> (Int32.toUInt32 (1) &&& Int32.toUInt32 31)).toInt32) : Int32) &&& (1431655765)))) : Int32) &&& (858993459)) : Int32) + (((((Int32.toUInt32 ((p0 - (((((Int32.toUInt32 p0 >>> (Int32.toUInt32 (1) &&& Int32.toUInt32 31)).toInt32) : Int32) &&& (1431655765)))) : Int32) >>> (Int32.toUInt32 (2) &&& Int32.toUInt32 31)).toInt32) : Int32) &&& (858993459)))) : Int32) + (((Int32.toUInt32 ((((((p0 - (((((Int32.toUInt32 p0 >>> (Int32.toUInt32 (1) &&& Int32.toUInt32 31)).toInt32) : Int32) &&& (1431655765)))) : Int32) &&& (858993459)) : Int32) + (((((Int32.toUInt32 ((p0 - (((((Int32.toUInt32 p0 >>> (Int32.toUInt32 (1) &&& Int32.toUInt32 31)).toInt32) : Int32) &&& (1431655765)))) : Int32) >>> (Int32.toUInt32 (2) &&& Int32.toUInt32 31)).toInt32) : Int32) &&& (858993459)))) : Int32) >>> (Int32.toUInt32 (4) &&& Int32.toUInt32 31)).toInt32))))]) (hi1 := hi) (hl1 := hl) rfl ?_ (fun _ _ _ => rfl)
  refine EX.go (i := .iand) (len := 1) (pc1 := 33) (st1 := [.int ((((((((((p0 - (((((Int32.toUInt32 p0 >>> (Int32.toUInt32 (1) &&& Int32.toUInt32 31)).toInt32) : Int32) &&& (1431655765)))) : Int32) &&& (858993459)) : Int32) + (((((Int32.toUInt32 ((p0 - (((((Int32.toUInt32 p0 >>> (Int32.toUInt32 (1) &&& Int32.toUInt32 31)).toInt32) : Int32) &&& (1431655765)))) : Int32) >>> (Int32.toUInt32 (2) &&& Int32.toUInt32 31)).toInt32) : Int32) &&& (858993459)))) : Int32) + (((Int32.toUInt32 ((((((p0 - (((((Int32.toUInt32 p0 >>> (Int32.toUInt32 (1) &&& Int32.toUInt32 31)).toInt32) : Int32) &&& (1431655765)))) : Int32) &&& (858993459)) : Int32) + (((((Int32.toUInt32 ((p0 - (((((Int32.toUInt32 p0 >>> (Int32.toUInt32 (1) &&& Int32.toUInt32 31)).toInt32) : Int32) &&& (1431655765)))) : Int32) >>> (Int32.toUInt32 (2) &&& Int32.toUInt32 31)).toInt32) : Int32) &&& (858993459)))) : Int32) >>> (Int32.toUInt32 (4) &&& Int32.toUInt32 31)).toInt32))) : Int32) &&& (252645135)))]) (hi1 := hi) (hl1 := hl) rfl ?_ (fun _ _ _ => rfl)
  refine EX.istore_n (req1 := [(0, .int ((((((((((p0 - (((((Int32.toUInt32 p0 >>> (Int32.toUInt32 (1) &&& Int32.toUInt32 31)).toInt32) : Int32) &&& (1431655765)))) : Int32) &&& (858993459)) : Int32) + (((((Int32.toUInt32 ((p0 - (((((Int32.toUInt32 p0 >>> (Int32.toUInt32 (1) &&& Int32.toUInt32 31)).toInt32) : Int32) &&& (1431655765)))) : Int32) >>> (Int32.toUInt32 (2) &&& Int32.toUInt32 31)).toInt32) : Int32) &&& (858993459)))) : Int32) + (((Int32.toUInt32 ((((((p0 - (((((Int32.toUInt32 p0 >>> (Int32.toUInt32 (1) &&& Int32.toUInt32 31)).toInt32) : Int32) &&& (1431655765)))) : Int32) &&& (858993459)) : Int32) + (((((Int32.toUInt32 ((p0 - (((((Int32.toUInt32 p0 >>> (Int32.toUInt32 (1) &&& Int32.toUInt32 31)).toInt32) : Int32) &&& (1431655765)))) : Int32) >>> (Int32.toUInt32 (2) &&& Int32.toUInt32 31)).toInt32) : Int32) &&& (858993459)))) : Int32) >>> (Int32.toUInt32 (4) &&& Int32.toUInt32 31)).toInt32))) : Int32) &&& (252645135))))]) rfl rfl rfl ?_
  refine EX.iload_n (x := (((((((((p0 - (((((Int32.toUInt32 p0 >>> (Int32.toUInt32 (1) &&& Int32.toUInt32 31)).toInt32) : Int32) &&& (1431655765)))) : Int32) &&& (858993459)) : Int32) + (((((Int32.toUInt32 ((p0 - (((((Int32.toUInt32 p0 >>> (Int32.toUInt32 (1) &&& Int32.toUInt32 31)).toInt32) : Int32) &&& (1431655765)))) : Int32) >>> (Int32.toUInt32 (2) &&& Int32.toUInt32 31)).toInt32) : Int32) &&& (858993459)))) : Int32) + (((Int32.toUInt32 ((((((p0 - (((((Int32.toUInt32 p0 >>> (Int32.toUInt32 (1) &&& Int32.toUInt32 31)).toInt32) : Int32) &&& (1431655765)))) : Int32) &&& (858993459)) : Int32) + (((((Int32.toUInt32 ((p0 - (((((Int32.toUInt32 p0 >>> (Int32.toUInt32 (1) &&& Int32.toUInt32 31)).toInt32) : Int32) &&& (1431655765)))) : Int32) >>> (Int32.toUInt32 (2) &&& Int32.toUInt32 31)).toInt32) : Int32) &&& (858993459)))) : Int32) >>> (Int32.toUInt32 (4) &&& Int32.toUInt32 31)).toInt32))) : Int32) &&& (252645135))) rfl (List.mem_of_getElem? (i := 0) rfl) ?_
  refine EX.iload_n (x := (((((((((p0 - (((((Int32.toUInt32 p0 >>> (Int32.toUInt32 (1) &&& Int32.toUInt32 31)).toInt32) : Int32) &&& (1431655765)))) : Int32) &&& (858993459)) : Int32) + (((((Int32.toUInt32 ((p0 - (((((Int32.toUInt32 p0 >>> (Int32.toUInt32 (1) &&& Int32.toUInt32 31)).toInt32) : Int32) &&& (1431655765)))) : Int32) >>> (Int32.toUInt32 (2) &&& Int32.toUInt32 31)).toInt32) : Int32) &&& (858993459)))) : Int32) + (((Int32.toUInt32 ((((((p0 - (((((Int32.toUInt32 p0 >>> (Int32.toUInt32 (1) &&& Int32.toUInt32 31)).toInt32) : Int32) &&& (1431655765)))) : Int32) &&& (858993459)) : Int32) + (((((Int32.toUInt32 ((p0 - (((((Int32.toUInt32 p0 >>> (Int32.toUInt32 (1) &&& Int32.toUInt32 31)).toInt32) : Int32) &&& (1431655765)))) : Int32) >>> (Int32.toUInt32 (2) &&& Int32.toUInt32 31)).toInt32) : Int32) &&& (858993459)))) : Int32) >>> (Int32.toUInt32 (4) &&& Int32.toUInt32 31)).toInt32))) : Int32) &&& (252645135))) rfl (List.mem_of_getElem? (i := 0) rfl) ?_
  refine EX.bipush (v := 8) rfl rfl ?_
  refine EX.go (i := .iushr) (len := 1) (pc1 := 39) (st1 := [.int (((Int32.toUInt32 ((((((((((p0 - (((((Int32.toUInt32 p0 >>> (Int32.toUInt32 (1) &&& Int32.toUInt32 31)).toInt32) : Int32) &&& (1431655765)))) : Int32) &&& (858993459)) : Int32) + (((((Int32.toUInt32 ((p0 - (((((Int32.toUInt32 p0 >>> (Int32.toUInt32 (1) &&& Int32.toUInt32 31)).toInt32) : Int32) &&& (1431655765)))) : Int32) >>> (Int32.toUInt32 (2) &&& Int32.toUInt32 31)).toInt32) : Int32) &&& (858993459)))) : Int32) + (((Int32.toUInt32 ((((((p0 - (((((Int32.toUInt32 p0 >>> (Int32.toUInt32 (1) &&& Int32.toUInt32 31)).toInt32) : Int32) &&& (1431655765)))) : Int32) &&& (858993459)) : Int32) + (((((Int32.toUInt32 ((p0 - (((((Int32.toUInt32 p0 >>> (Int32.toUInt32 (1) &&& Int32.toUInt32 31)).toInt32) : Int32) &&& (1431655765)))) : Int32) >>> (Int32.toUInt32 (2) &&& Int32.toUInt32 31)).toInt32) : Int32) &&& (858993459)))) : Int32) >>> (Int32.toUInt32 (4) &&& Int32.toUInt32 31)).toInt32))) : Int32) &&& (252645135)) : Int32) >>> (Int32.toUInt32 (8) &&& Int32.toUInt32 31)).toInt32)), .int ((((((((((p0 - (((((Int32.toUInt32 p0 >>> (Int32.toUInt32 (1) &&& Int32.toUInt32 31)).toInt32) : Int32) &&& (1431655765)))) : Int32) &&& (858993459)) : Int32) + (((((Int32.toUInt32 ((p0 - (((((Int32.toUInt32 p0 >>> (Int32.toUInt32 (1) &&& Int32.toUInt32 31)).toInt32) : Int32) &&& (1431655765)))) : Int32) >>> (Int32.toUInt32 (2) &&& Int32.toUInt32 31)).toInt32) : Int32) &&& (858993459)))) : Int32) + (((Int32.toUInt32 ((((((p0 - (((((Int32.toUInt32 p0 >>> (Int32.toUInt32 (1) &&& Int32.toUInt32 31)).toInt32) : Int32) &&& (1431655765)))) : Int32) &&& (858993459)) : Int32) + (((((Int32.toUInt32 ((p0 - (((((Int32.toUInt32 p0 >>> (Int32.toUInt32 (1) &&& Int32.toUInt32 31)).toInt32) : Int32) &&& (1431655765)))) : Int32) >>> (Int32.toUInt32 (2) &&& Int32.toUInt32 31)).toInt32) : Int32) &&& (858993459)))) : Int32) >>> (Int32.toUInt32 (4) &&& Int32.toUInt32 31)).toInt32))) : Int32) &&& (252645135)))]) (hi1 := hi) (hl1 := hl) rfl ?_ (fun _ _ _ => rfl)
  refine EX.go (i := .iadd) (len := 1) (pc1 := 40) (st1 := [.int ((((((((((((p0 - (((((Int32.toUInt32 p0 >>> (Int32.toUInt32 (1) &&& Int32.toUInt32 31)).toInt32) : Int32) &&& (1431655765)))) : Int32) &&& (858993459)) : Int32) + (((((Int32.toUInt32 ((p0 - (((((Int32.toUInt32 p0 >>> (Int32.toUInt32 (1) &&& Int32.toUInt32 31)).toInt32) : Int32) &&& (1431655765)))) : Int32) >>> (Int32.toUInt32 (2) &&& Int32.toUInt32 31)).toInt32) : Int32) &&& (858993459)))) : Int32) + (((Int32.toUInt32 ((((((p0 - (((((Int32.toUInt32 p0 >>> (Int32.toUInt32 (1) &&& Int32.toUInt32 31)).toInt32) : Int32) &&& (1431655765)))) : Int32) &&& (858993459)) : Int32) + (((((Int32.toUInt32 ((p0 - (((((Int32.toUInt32 p0 >>> (Int32.toUInt32 (1) &&& Int32.toUInt32 31)).toInt32) : Int32) &&& (1431655765)))) : Int32) >>> (Int32.toUInt32 (2) &&& Int32.toUInt32 31)).toInt32) : Int32) &&& (858993459)))) : Int32) >>> (Int32.toUInt32 (4) &&& Int32.toUInt32 31)).toInt32))) : Int32) &&& (252645135)) : Int32) + (((Int32.toUInt32 ((((((((((p0 - (((((Int32.toUInt32 p0 >>> (Int32.toUInt32 (1) &&& Int32.toUInt32 31)).toInt32) : Int32) &&& (1431655765)))) : Int32) &&& (858993459)) : Int32) + (((((Int32.toUInt32 ((p0 - (((((Int32.toUInt32 p0 >>> (Int32.toUInt32 (1) &&& Int32.toUInt32 31)).toInt32) : Int32) &&& (1431655765)))) : Int32) >>> (Int32.toUInt32 (2) &&& Int32.toUInt32 31)).toInt32) : Int32) &&& (858993459)))) : Int32) + (((Int32.toUInt32 ((((((p0 - (((((Int32.toUInt32 p0 >>> (Int32.toUInt32 (1) &&& Int32.toUInt32 31)).toInt32) : Int32) &&& (1431655765)))) : Int32) &&& (858993459)) : Int32) + (((((Int32.toUInt32 ((p0 - (((((Int32.toUInt32 p0 >>> (Int32.toUInt32 (1) &&& Int32.toUInt32 31)).toInt32) : Int32) &&& (1431655765)))) : Int32) >>> (Int32.toUInt32 (2) &&& Int32.toUInt32 31)).toInt32) : Int32) &&& (858993459)))) : Int32) >>> (Int32.toUInt32 (4) &&& Int32.toUInt32 31)).toInt32))) : Int32) &&& (252645135)) : Int32) >>> (Int32.toUInt32 (8) &&& Int32.toUInt32 31)).toInt32))))]) (hi1 := hi) (hl1 := hl) rfl ?_ (fun _ _ _ => rfl)
  refine EX.istore_n (req1 := [(0, .int ((((((((((((p0 - (((((Int32.toUInt32 p0 >>> (Int32.toUInt32 (1) &&& Int32.toUInt32 31)).toInt32) : Int32) &&& (1431655765)))) : Int32) &&& (858993459)) : Int32) + (((((Int32.toUInt32 ((p0 - (((((Int32.toUInt32 p0 >>> (Int32.toUInt32 (1) &&& Int32.toUInt32 31)).toInt32) : Int32) &&& (1431655765)))) : Int32) >>> (Int32.toUInt32 (2) &&& Int32.toUInt32 31)).toInt32) : Int32) &&& (858993459)))) : Int32) + (((Int32.toUInt32 ((((((p0 - (((((Int32.toUInt32 p0 >>> (Int32.toUInt32 (1) &&& Int32.toUInt32 31)).toInt32) : Int32) &&& (1431655765)))) : Int32) &&& (858993459)) : Int32) + (((((Int32.toUInt32 ((p0 - (((((Int32.toUInt32 p0 >>> (Int32.toUInt32 (1) &&& Int32.toUInt32 31)).toInt32) : Int32) &&& (1431655765)))) : Int32) >>> (Int32.toUInt32 (2) &&& Int32.toUInt32 31)).toInt32) : Int32) &&& (858993459)))) : Int32) >>> (Int32.toUInt32 (4) &&& Int32.toUInt32 31)).toInt32))) : Int32) &&& (252645135)) : Int32) + (((Int32.toUInt32 ((((((((((p0 - (((((Int32.toUInt32 p0 >>> (Int32.toUInt32 (1) &&& Int32.toUInt32 31)).toInt32) : Int32) &&& (1431655765)))) : Int32) &&& (858993459)) : Int32) + (((((Int32.toUInt32 ((p0 - (((((Int32.toUInt32 p0 >>> (Int32.toUInt32 (1) &&& Int32.toUInt32 31)).toInt32) : Int32) &&& (1431655765)))) : Int32) >>> (Int32.toUInt32 (2) &&& Int32.toUInt32 31)).toInt32) : Int32) &&& (858993459)))) : Int32) + (((Int32.toUInt32 ((((((p0 - (((((Int32.toUInt32 p0 >>> (Int32.toUInt32 (1) &&& Int32.toUInt32 31)).toInt32) : Int32) &&& (1431655765)))) : Int32) &&& (858993459)) : Int32) + (((((Int32.toUInt32 ((p0 - (((((Int32.toUInt32 p0 >>> (Int32.toUInt32 (1) &&& Int32.toUInt32 31)).toInt32) : Int32) &&& (1431655765)))) : Int32) >>> (Int32.toUInt32 (2) &&& Int32.toUInt32 31)).toInt32) : Int32) &&& (858993459)))) : Int32) >>> (Int32.toUInt32 (4) &&& Int32.toUInt32 31)).toInt32))) : Int32) &&& (252645135)) : Int32) >>> (Int32.toUInt32 (8) &&& Int32.toUInt32 31)).toInt32)))))]) rfl rfl rfl ?_
  refine EX.iload_n (x := (((((((((((p0 - (((((Int32.toUInt32 p0 >>> (Int32.toUInt32 (1) &&& Int32.toUInt32 31)).toInt32) : Int32) &&& (1431655765)))) : Int32) &&& (858993459)) : Int32) + (((((Int32.toUInt32 ((p0 - (((((Int32.toUInt32 p0 >>> (Int32.toUInt32 (1) &&& Int32.toUInt32 31)).toInt32) : Int32) &&& (1431655765)))) : Int32) >>> (Int32.toUInt32 (2) &&& Int32.toUInt32 31)).toInt32) : Int32) &&& (858993459)))) : Int32) + (((Int32.toUInt32 ((((((p0 - (((((Int32.toUInt32 p0 >>> (Int32.toUInt32 (1) &&& Int32.toUInt32 31)).toInt32) : Int32) &&& (1431655765)))) : Int32) &&& (858993459)) : Int32) + (((((Int32.toUInt32 ((p0 - (((((Int32.toUInt32 p0 >>> (Int32.toUInt32 (1) &&& Int32.toUInt32 31)).toInt32) : Int32) &&& (1431655765)))) : Int32) >>> (Int32.toUInt32 (2) &&& Int32.toUInt32 31)).toInt32) : Int32) &&& (858993459)))) : Int32) >>> (Int32.toUInt32 (4) &&& Int32.toUInt32 31)).toInt32))) : Int32) &&& (252645135)) : Int32) + (((Int32.toUInt32 ((((((((((p0 - (((((Int32.toUInt32 p0 >>> (Int32.toUInt32 (1) &&& Int32.toUInt32 31)).toInt32) : Int32) &&& (1431655765)))) : Int32) &&& (858993459)) : Int32) + (((((Int32.toUInt32 ((p0 - (((((Int32.toUInt32 p0 >>> (Int32.toUInt32 (1) &&& Int32.toUInt32 31)).toInt32) : Int32) &&& (1431655765)))) : Int32) >>> (Int32.toUInt32 (2) &&& Int32.toUInt32 31)).toInt32) : Int32) &&& (858993459)))) : Int32) + (((Int32.toUInt32 ((((((p0 - (((((Int32.toUInt32 p0 >>> (Int32.toUInt32 (1) &&& Int32.toUInt32 31)).toInt32) : Int32) &&& (1431655765)))) : Int32) &&& (858993459)) : Int32) + (((((Int32.toUInt32 ((p0 - (((((Int32.toUInt32 p0 >>> (Int32.toUInt32 (1) &&& Int32.toUInt32 31)).toInt32) : Int32) &&& (1431655765)))) : Int32) >>> (Int32.toUInt32 (2) &&& Int32.toUInt32 31)).toInt32) : Int32) &&& (858993459)))) : Int32) >>> (Int32.toUInt32 (4) &&& Int32.toUInt32 31)).toInt32))) : Int32) &&& (252645135)) : Int32) >>> (Int32.toUInt32 (8) &&& Int32.toUInt32 31)).toInt32)))) rfl (List.mem_of_getElem? (i := 0) rfl) ?_
  refine EX.iload_n (x := (((((((((((p0 - (((((Int32.toUInt32 p0 >>> (Int32.toUInt32 (1) &&& Int32.toUInt32 31)).toInt32) : Int32) &&& (1431655765)))) : Int32) &&& (858993459)) : Int32) + (((((Int32.toUInt32 ((p0 - (((((Int32.toUInt32 p0 >>> (Int32.toUInt32 (1) &&& Int32.toUInt32 31)).toInt32) : Int32) &&& (1431655765)))) : Int32) >>> (Int32.toUInt32 (2) &&& Int32.toUInt32 31)).toInt32) : Int32) &&& (858993459)))) : Int32) + (((Int32.toUInt32 ((((((p0 - (((((Int32.toUInt32 p0 >>> (Int32.toUInt32 (1) &&& Int32.toUInt32 31)).toInt32) : Int32) &&& (1431655765)))) : Int32) &&& (858993459)) : Int32) + (((((Int32.toUInt32 ((p0 - (((((Int32.toUInt32 p0 >>> (Int32.toUInt32 (1) &&& Int32.toUInt32 31)).toInt32) : Int32) &&& (1431655765)))) : Int32) >>> (Int32.toUInt32 (2) &&& Int32.toUInt32 31)).toInt32) : Int32) &&& (858993459)))) : Int32) >>> (Int32.toUInt32 (4) &&& Int32.toUInt32 31)).toInt32))) : Int32) &&& (252645135)) : Int32) + (((Int32.toUInt32 ((((((((((p0 - (((((Int32.toUInt32 p0 >>> (Int32.toUInt32 (1) &&& Int32.toUInt32 31)).toInt32) : Int32) &&& (1431655765)))) : Int32) &&& (858993459)) : Int32) + (((((Int32.toUInt32 ((p0 - (((((Int32.toUInt32 p0 >>> (Int32.toUInt32 (1) &&& Int32.toUInt32 31)).toInt32) : Int32) &&& (1431655765)))) : Int32) >>> (Int32.toUInt32 (2) &&& Int32.toUInt32 31)).toInt32) : Int32) &&& (858993459)))) : Int32) + (((Int32.toUInt32 ((((((p0 - (((((Int32.toUInt32 p0 >>> (Int32.toUInt32 (1) &&& Int32.toUInt32 31)).toInt32) : Int32) &&& (1431655765)))) : Int32) &&& (858993459)) : Int32) + (((((Int32.toUInt32 ((p0 - (((((Int32.toUInt32 p0 >>> (Int32.toUInt32 (1) &&& Int32.toUInt32 31)).toInt32) : Int32) &&& (1431655765)))) : Int32) >>> (Int32.toUInt32 (2) &&& Int32.toUInt32 31)).toInt32) : Int32) &&& (858993459)))) : Int32) >>> (Int32.toUInt32 (4) &&& Int32.toUInt32 31)).toInt32))) : Int32) &&& (252645135)) : Int32) >>> (Int32.toUInt32 (8) &&& Int32.toUInt32 31)).toInt32)))) rfl (List.mem_of_getElem? (i := 0) rfl) ?_
  refine EX.bipush (v := 16) rfl rfl ?_
  refine EX.go (i := .iushr) (len := 1) (pc1 := 46) (st1 := [.int (((Int32.toUInt32 ((((((((((((p0 - (((((Int32.toUInt32 p0 >>> (Int32.toUInt32 (1) &&& Int32.toUInt32 31)).toInt32) : Int32) &&& (1431655765)))) : Int32) &&& (858993459)) : Int32) + (((((Int32.toUInt32 ((p0 - (((((Int32.toUInt32 p0 >>> (Int32.toUInt32 (1) &&& Int32.toUInt32 31)).toInt32) : Int32) &&& (1431655765)))) : Int32) >>> (Int32.toUInt32 (2) &&& Int32.toUInt32 31)).toInt32) : Int32) &&& (858993459)))) : Int32) + (((Int32.toUInt32 ((((((p0 - (((((Int32.toUInt32 p0 >>> (Int32.toUInt32 (1) &&& Int32.toUInt32 31)).toInt32) : Int32) &&& (1431655765)))) : Int32) &&& (858993459)) : Int32) + (((((Int32.toUInt32 ((p0 - (((((Int32.toUInt32 p0 >>> (Int32.toUInt32 (1) &&& Int32.toUInt32 31)).toInt32) : Int32) &&& (1431655765)))) : Int32) >>> (Int32.toUInt32 (2) &&& Int32.toUInt32 31)).toInt32) : Int32) &&& (858993459)))) : Int32) >>> (Int32.toUInt32 (4) &&& Int32.toUInt32 31)).toInt32))) : Int32) &&& (252645135)) : Int32) + (((Int32.toUInt32 ((((((((((p0 - (((((Int32.toUInt32 p0 >>> (Int32.toUInt32 (1) &&& Int32.toUInt32 31)).toInt32) : Int32) &&& (1431655765)))) : Int32) &&& (858993459)) : Int32) + (((((Int32.toUInt32 ((p0 - (((((Int32.toUInt32 p0 >>> (Int32.toUInt32 (1) &&& Int32.toUInt32 31)).toInt32) : Int32) &&& (1431655765)))) : Int32) >>> (Int32.toUInt32 (2) &&& Int32.toUInt32 31)).toInt32) : Int32) &&& (858993459)))) : Int32) + (((Int32.toUInt32 ((((((p0 - (((((Int32.toUInt32 p0 >>> (Int32.toUInt32 (1) &&& Int32.toUInt32 31)).toInt32) : Int32) &&& (1431655765)))) : Int32) &&& (858993459)) : Int32) + (((((Int32.toUInt32 ((p0 - (((((Int32.toUInt32 p0 >>> (Int32.toUInt32 (1) &&& Int32.toUInt32 31)).toInt32) : Int32) &&& (1431655765)))) : Int32) >>> (Int32.toUInt32 (2) &&& Int32.toUInt32 31)).toInt32) : Int32) &&& (858993459)))) : Int32) >>> (Int32.toUInt32 (4) &&& Int32.toUInt32 31)).toInt32))) : Int32) &&& (252645135)) : Int32) >>> (Int32.toUInt32 (8) &&& Int32.toUInt32 31)).toInt32))) : Int32) >>> (Int32.toUInt32 (16) &&& Int32.toUInt32 31)).toInt32)), .int ((((((((((((p0 - (((((Int32.toUInt32 p0 >>> (Int32.toUInt32 (1) &&& Int32.toUInt32 31)).toInt32) : Int32) &&& (1431655765)))) : Int32) &&& (858993459)) : Int32) + (((((Int32.toUInt32 ((p0 - (((((Int32.toUInt32 p0 >>> (Int32.toUInt32 (1) &&& Int32.toUInt32 31)).toInt32) : Int32) &&& (1431655765)))) : Int32) >>> (Int32.toUInt32 (2) &&& Int32.toUInt32 31)).toInt32) : Int32) &&& (858993459)))) : Int32) + (((Int32.toUInt32 ((((((p0 - (((((Int32.toUInt32 p0 >>> (Int32.toUInt32 (1) &&& Int32.toUInt32 31)).toInt32) : Int32) &&& (1431655765)))) : Int32) &&& (858993459)) : Int32) + (((((Int32.toUInt32 ((p0 - (((((Int32.toUInt32 p0 >>> (Int32.toUInt32 (1) &&& Int32.toUInt32 31)).toInt32) : Int32) &&& (1431655765)))) : Int32) >>> (Int32.toUInt32 (2) &&& Int32.toUInt32 31)).toInt32) : Int32) &&& (858993459)))) : Int32) >>> (Int32.toUInt32 (4) &&& Int32.toUInt32 31)).toInt32))) : Int32) &&& (252645135)) : Int32) + (((Int32.toUInt32 ((((((((((p0 - (((((Int32.toUInt32 p0 >>> (Int32.toUInt32 (1) &&& Int32.toUInt32 31)).toInt32) : Int32) &&& (1431655765)))) : Int32) &&& (858993459)) : Int32) + (((((Int32.toUInt32 ((p0 - (((((Int32.toUInt32 p0 >>> (Int32.toUInt32 (1) &&& Int32.toUInt32 31)).toInt32) : Int32) &&& (1431655765)))) : Int32) >>> (Int32.toUInt32 (2) &&& Int32.toUInt32 31)).toInt32) : Int32) &&& (858993459)))) : Int32) + (((Int32.toUInt32 ((((((p0 - (((((Int32.toUInt32 p0 >>> (Int32.toUInt32 (1) &&& Int32.toUInt32 31)).toInt32) : Int32) &&& (1431655765)))) : Int32) &&& (858993459)) : Int32) + (((((Int32.toUInt32 ((p0 - (((((Int32.toUInt32 p0 >>> (Int32.toUInt32 (1) &&& Int32.toUInt32 31)).toInt32) : Int32) &&& (1431655765)))) : Int32) >>> (Int32.toUInt32 (2) &&& Int32.toUInt32 31)).toInt32) : Int32) &&& (858993459)))) : Int32) >>> (Int32.toUInt32 (4) &&& Int32.toUInt32 31)).toInt32))) : Int32) &&& (252645135)) : Int32) >>> (Int32.toUInt32 (8) &&& Int32.toUInt32 31)).toInt32))))]) (hi1 := hi) (hl1 := hl) rfl ?_ (fun _ _ _ => rfl)
  refine EX.go (i := .iadd) (len := 1) (pc1 := 47) (st1 := [.int ((((((((((((((p0 - (((((Int32.toUInt32 p0 >>> (Int32.toUInt32 (1) &&& Int32.toUInt32 31)).toInt32) : Int32) &&& (1431655765)))) : Int32) &&& (858993459)) : Int32) + (((((Int32.toUInt32 ((p0 - (((((Int32.toUInt32 p0 >>> (Int32.toUInt32 (1) &&& Int32.toUInt32 31)).toInt32) : Int32) &&& (1431655765)))) : Int32) >>> (Int32.toUInt32 (2) &&& Int32.toUInt32 31)).toInt32) : Int32) &&& (858993459)))) : Int32) + (((Int32.toUInt32 ((((((p0 - (((((Int32.toUInt32 p0 >>> (Int32.toUInt32 (1) &&& Int32.toUInt32 31)).toInt32) : Int32) &&& (1431655765)))) : Int32) &&& (858993459)) : Int32) + (((((Int32.toUInt32 ((p0 - (((((Int32.toUInt32 p0 >>> (Int32.toUInt32 (1) &&& Int32.toUInt32 31)).toInt32) : Int32) &&& (1431655765)))) : Int32) >>> (Int32.toUInt32 (2) &&& Int32.toUInt32 31)).toInt32) : Int32) &&& (858993459)))) : Int32) >>> (Int32.toUInt32 (4) &&& Int32.toUInt32 31)).toInt32))) : Int32) &&& (252645135)) : Int32) + (((Int32.toUInt32 ((((((((((p0 - (((((Int32.toUInt32 p0 >>> (Int32.toUInt32 (1) &&& Int32.toUInt32 31)).toInt32) : Int32) &&& (1431655765)))) : Int32) &&& (858993459)) : Int32) + (((((Int32.toUInt32 ((p0 - (((((Int32.toUInt32 p0 >>> (Int32.toUInt32 (1) &&& Int32.toUInt32 31)).toInt32) : Int32) &&& (1431655765)))) : Int32) >>> (Int32.toUInt32 (2) &&& Int32.toUInt32 31)).toInt32) : Int32) &&& (858993459)))) : Int32) + (((Int32.toUInt32 ((((((p0 - (((((Int32.toUInt32 p0 >>> (Int32.toUInt32 (1) &&& Int32.toUInt32 31)).toInt32) : Int32) &&& (1431655765)))) : Int32) &&& (858993459)) : Int32) + (((((Int32.toUInt32 ((p0 - (((((Int32.toUInt32 p0 >>> (Int32.toUInt32 (1) &&& Int32.toUInt32 31)).toInt32) : Int32) &&& (1431655765)))) : Int32) >>> (Int32.toUInt32 (2) &&& Int32.toUInt32 31)).toInt32) : Int32) &&& (858993459)))) : Int32) >>> (Int32.toUInt32 (4) &&& Int32.toUInt32 31)).toInt32))) : Int32) &&& (252645135)) : Int32) >>> (Int32.toUInt32 (8) &&& Int32.toUInt32 31)).toInt32))) : Int32) + (((Int32.toUInt32 ((((((((((((p0 - (((((Int32.toUInt32 p0 >>> (Int32.toUInt32 (1) &&& Int32.toUInt32 31)).toInt32) : Int32) &&& (1431655765)))) : Int32) &&& (858993459)) : Int32) + (((((Int32.toUInt32 ((p0 - (((((Int32.toUInt32 p0 >>> (Int32.toUInt32 (1) &&& Int32.toUInt32 31)).toInt32) : Int32) &&& (1431655765)))) : Int32) >>> (Int32.toUInt32 (2) &&& Int32.toUInt32 31)).toInt32) : Int32) &&& (858993459)))) : Int32) + (((Int32.toUInt32 ((((((p0 - (((((Int32.toUInt32 p0 >>> (Int32.toUInt32 (1) &&& Int32.toUInt32 31)).toInt32) : Int32) &&& (1431655765)))) : Int32) &&& (858993459)) : Int32) + (((((Int32.toUInt32 ((p0 - (((((Int32.toUInt32 p0 >>> (Int32.toUInt32 (1) &&& Int32.toUInt32 31)).toInt32) : Int32) &&& (1431655765)))) : Int32) >>> (Int32.toUInt32 (2) &&& Int32.toUInt32 31)).toInt32) : Int32) &&& (858993459)))) : Int32) >>> (Int32.toUInt32 (4) &&& Int32.toUInt32 31)).toInt32))) : Int32) &&& (252645135)) : Int32) + (((Int32.toUInt32 ((((((((((p0 - (((((Int32.toUInt32 p0 >>> (Int32.toUInt32 (1) &&& Int32.toUInt32 31)).toInt32) : Int32) &&& (1431655765)))) : Int32) &&& (858993459)) : Int32) + (((((Int32.toUInt32 ((p0 - (((((Int32.toUInt32 p0 >>> (Int32.toUInt32 (1) &&& Int32.toUInt32 31)).toInt32) : Int32) &&& (1431655765)))) : Int32) >>> (Int32.toUInt32 (2) &&& Int32.toUInt32 31)).toInt32) : Int32) &&& (858993459)))) : Int32) + (((Int32.toUInt32 ((((((p0 - (((((Int32.toUInt32 p0 >>> (Int32.toUInt32 (1) &&& Int32.toUInt32 31)).toInt32) : Int32) &&& (1431655765)))) : Int32) &&& (858993459)) : Int32) + (((((Int32.toUInt32 ((p0 - (((((Int32.toUInt32 p0 >>> (Int32.toUInt32 (1) &&& Int32.toUInt32 31)).toInt32) : Int32) &&& (1431655765)))) : Int32) >>> (Int32.toUInt32 (2) &&& Int32.toUInt32 31)).toInt32) : Int32) &&& (858993459)))) : Int32) >>> (Int32.toUInt32 (4) &&& Int32.toUInt32 31)).toInt32))) : Int32) &&& (252645135)) : Int32) >>> (Int32.toUInt32 (8) &&& Int32.toUInt32 31)).toInt32))) : Int32) >>> (Int32.toUInt32 (16) &&& Int32.toUInt32 31)).toInt32))))]) (hi1 := hi) (hl1 := hl) rfl ?_ (fun _ _ _ => rfl)
  refine EX.istore_n (req1 := [(0, .int ((((((((((((((p0 - (((((Int32.toUInt32 p0 >>> (Int32.toUInt32 (1) &&& Int32.toUInt32 31)).toInt32) : Int32) &&& (1431655765)))) : Int32) &&& (858993459)) : Int32) + (((((Int32.toUInt32 ((p0 - (((((Int32.toUInt32 p0 >>> (Int32.toUInt32 (1) &&& Int32.toUInt32 31)).toInt32) : Int32) &&& (1431655765)))) : Int32) >>> (Int32.toUInt32 (2) &&& Int32.toUInt32 31)).toInt32) : Int32) &&& (858993459)))) : Int32) + (((Int32.toUInt32 ((((((p0 - (((((Int32.toUInt32 p0 >>> (Int32.toUInt32 (1) &&& Int32.toUInt32 31)).toInt32) : Int32) &&& (1431655765)))) : Int32) &&& (858993459)) : Int32) + (((((Int32.toUInt32 ((p0 - (((((Int32.toUInt32 p0 >>> (Int32.toUInt32 (1) &&& Int32.toUInt32 31)).toInt32) : Int32) &&& (1431655765)))) : Int32) >>> (Int32.toUInt32 (2) &&& Int32.toUInt32 31)).toInt32) : Int32) &&& (858993459)))) : Int32) >>> (Int32.toUInt32 (4) &&& Int32.toUInt32 31)).toInt32))) : Int32) &&& (252645135)) : Int32) + (((Int32.toUInt32 ((((((((((p0 - (((((Int32.toUInt32 p0 >>> (Int32.toUInt32 (1) &&& Int32.toUInt32 31)).toInt32) : Int32) &&& (1431655765)))) : Int32) &&& (858993459)) : Int32) + (((((Int32.toUInt32 ((p0 - (((((Int32.toUInt32 p0 >>> (Int32.toUInt32 (1) &&& Int32.toUInt32 31)).toInt32) : Int32) &&& (1431655765)))) : Int32) >>> (Int32.toUInt32 (2) &&& Int32.toUInt32 31)).toInt32) : Int32) &&& (858993459)))) : Int32) + (((Int32.toUInt32 ((((((p0 - (((((Int32.toUInt32 p0 >>> (Int32.toUInt32 (1) &&& Int32.toUInt32 31)).toInt32) : Int32) &&& (1431655765)))) : Int32) &&& (858993459)) : Int32) + (((((Int32.toUInt32 ((p0 - (((((Int32.toUInt32 p0 >>> (Int32.toUInt32 (1) &&& Int32.toUInt32 31)).toInt32) : Int32) &&& (1431655765)))) : Int32) >>> (Int32.toUInt32 (2) &&& Int32.toUInt32 31)).toInt32) : Int32) &&& (858993459)))) : Int32) >>> (Int32.toUInt32 (4) &&& Int32.toUInt32 31)).toInt32))) : Int32) &&& (252645135)) : Int32) >>> (Int32.toUInt32 (8) &&& Int32.toUInt32 31)).toInt32))) : Int32) + (((Int32.toUInt32 ((((((((((((p0 - (((((Int32.toUInt32 p0 >>> (Int32.toUInt32 (1) &&& Int32.toUInt32 31)).toInt32) : Int32) &&& (1431655765)))) : Int32) &&& (858993459)) : Int32) + (((((Int32.toUInt32 ((p0 - (((((Int32.toUInt32 p0 >>> (Int32.toUInt32 (1) &&& Int32.toUInt32 31)).toInt32) : Int32) &&& (1431655765)))) : Int32) >>> (Int32.toUInt32 (2) &&& Int32.toUInt32 31)).toInt32) : Int32) &&& (858993459)))) : Int32) + (((Int32.toUInt32 ((((((p0 - (((((Int32.toUInt32 p0 >>> (Int32.toUInt32 (1) &&& Int32.toUInt32 31)).toInt32) : Int32) &&& (1431655765)))) : Int32) &&& (858993459)) : Int32) + (((((Int32.toUInt32 ((p0 - (((((Int32.toUInt32 p0 >>> (Int32.toUInt32 (1) &&& Int32.toUInt32 31)).toInt32) : Int32) &&& (1431655765)))) : Int32) >>> (Int32.toUInt32 (2) &&& Int32.toUInt32 31)).toInt32) : Int32) &&& (858993459)))) : Int32) >>> (Int32.toUInt32 (4) &&& Int32.toUInt32 31)).toInt32))) : Int32) &&& (252645135)) : Int32) + (((Int32.toUInt32 ((((((((((p0 - (((((Int32.toUInt32 p0 >>> (Int32.toUInt32 (1) &&& Int32.toUInt32 31)).toInt32) : Int32) &&& (1431655765)))) : Int32) &&& (858993459)) : Int32) + (((((Int32.toUInt32 ((p0 - (((((Int32.toUInt32 p0 >>> (Int32.toUInt32 (1) &&& Int32.toUInt32 31)).toInt32) : Int32) &&& (1431655765)))) : Int32) >>> (Int32.toUInt32 (2) &&& Int32.toUInt32 31)).toInt32) : Int32) &&& (858993459)))) : Int32) + (((Int32.toUInt32 ((((((p0 - (((((Int32.toUInt32 p0 >>> (Int32.toUInt32 (1) &&& Int32.toUInt32 31)).toInt32) : Int32) &&& (1431655765)))) : Int32) &&& (858993459)) : Int32) + (((((Int32.toUInt32 ((p0 - (((((Int32.toUInt32 p0 >>> (Int32.toUInt32 (1) &&& Int32.toUInt32 31)).toInt32) : Int32) &&& (1431655765)))) : Int32) >>> (Int32.toUInt32 (2) &&& Int32.toUInt32 31)).toInt32) : Int32) &&& (858993459)))) : Int32) >>> (Int32.toUInt32 (4) &&& Int32.toUInt32 31)).toInt32))) : Int32) &&& (252645135)) : Int32) >>> (Int32.toUInt32 (8) &&& Int32.toUInt32 31)).toInt32))) : Int32) >>> (Int32.toUInt32 (16) &&& Int32.toUInt32 31)).toInt32)))))]) rfl rfl rfl ?_
  refine EX.iload_n (x := (((((((((((((p0 - (((((Int32.toUInt32 p0 >>> (Int32.toUInt32 (1) &&& Int32.toUInt32 31)).toInt32) : Int32) &&& (1431655765)))) : Int32) &&& (858993459)) : Int32) + (((((Int32.toUInt32 ((p0 - (((((Int32.toUInt32 p0 >>> (Int32.toUInt32 (1) &&& Int32.toUInt32 31)).toInt32) : Int32) &&& (1431655765)))) : Int32) >>> (Int32.toUInt32 (2) &&& Int32.toUInt32 31)).toInt32) : Int32) &&& (858993459)))) : Int32) + (((Int32.toUInt32 ((((((p0 - (((((Int32.toUInt32 p0 >>> (Int32.toUInt32 (1) &&& Int32.toUInt32 31)).toInt32) : Int32) &&& (1431655765)))) : Int32) &&& (858993459)) : Int32) + (((((Int32.toUInt32 ((p0 - (((((Int32.toUInt32 p0 >>> (Int32.toUInt32 (1) &&& Int32.toUInt32 31)).toInt32) : Int32) &&& (1431655765)))) : Int32) >>> (Int32.toUInt32 (2) &&& Int32.toUInt32 31)).toInt32) : Int32) &&& (858993459)))) : Int32) >>> (Int32.toUInt32 (4) &&& Int32.toUInt32 31)).toInt32))) : Int32) &&& (252645135)) : Int32) + (((Int32.toUInt32 ((((((((((p0 - (((((Int32.toUInt32 p0 >>> (Int32.toUInt32 (1) &&& Int32.toUInt32 31)).toInt32) : Int32) &&& (1431655765)))) : Int32) &&& (858993459)) : Int32) + (((((Int32.toUInt32 ((p0 - (((((Int32.toUInt32 p0 >>> (Int32.toUInt32 (1) &&& Int32.toUInt32 31)).toInt32) : Int32) &&& (1431655765)))) : Int32) >>> (Int32.toUInt32 (2) &&& Int32.toUInt32 31)).toInt32) : Int32) &&& (858993459)))) : Int32) + (((Int32.toUInt32 ((((((p0 - (((((Int32.toUInt32 p0 >>> (Int32.toUInt32 (1) &&& Int32.toUInt32 31)).toInt32) : Int32) &&& (1431655765)))) : Int32) &&& (858993459)) : Int32) + (((((Int32.toUInt32 ((p0 - (((((Int32.toUInt32 p0 >>> (Int32.toUInt32 (1) &&& Int32.toUInt32 31)).toInt32) : Int32) &&& (1431655765)))) : Int32) >>> (Int32.toUInt32 (2) &&& Int32.toUInt32 31)).toInt32) : Int32) &&& (858993459)))) : Int32) >>> (Int32.toUInt32 (4) &&& Int32.toUInt32 31)).toInt32))) : Int32) &&& (252645135)) : Int32) >>> (Int32.toUInt32 (8) &&& Int32.toUInt32 31)).toInt32))) : Int32) + (((Int32.toUInt32 ((((((((((((p0 - (((((Int32.toUInt32 p0 >>> (Int32.toUInt32 (1) &&& Int32.toUInt32 31)).toInt32) : Int32) &&& (1431655765)))) : Int32) &&& (858993459)) : Int32) + (((((Int32.toUInt32 ((p0 - (((((Int32.toUInt32 p0 >>> (Int32.toUInt32 (1) &&& Int32.toUInt32 31)).toInt32) : Int32) &&& (1431655765)))) : Int32) >>> (Int32.toUInt32 (2) &&& Int32.toUInt32 31)).toInt32) : Int32) &&& (858993459)))) : Int32) + (((Int32.toUInt32 ((((((p0 - (((((Int32.toUInt32 p0 >>> (Int32.toUInt32 (1) &&& Int32.toUInt32 31)).toInt32) : Int32) &&& (1431655765)))) : Int32) &&& (858993459)) : Int32) + (((((Int32.toUInt32 ((p0 - (((((Int32.toUInt32 p0 >>> (Int32.toUInt32 (1) &&& Int32.toUInt32 31)).toInt32) : Int32) &&& (1431655765)))) : Int32) >>> (Int32.toUInt32 (2) &&& Int32.toUInt32 31)).toInt32) : Int32) &&& (858993459)))) : Int32) >>> (Int32.toUInt32 (4) &&& Int32.toUInt32 31)).toInt32))) : Int32) &&& (252645135)) : Int32) + (((Int32.toUInt32 ((((((((((p0 - (((((Int32.toUInt32 p0 >>> (Int32.toUInt32 (1) &&& Int32.toUInt32 31)).toInt32) : Int32) &&& (1431655765)))) : Int32) &&& (858993459)) : Int32) + (((((Int32.toUInt32 ((p0 - (((((Int32.toUInt32 p0 >>> (Int32.toUInt32 (1) &&& Int32.toUInt32 31)).toInt32) : Int32) &&& (1431655765)))) : Int32) >>> (Int32.toUInt32 (2) &&& Int32.toUInt32 31)).toInt32) : Int32) &&& (858993459)))) : Int32) + (((Int32.toUInt32 ((((((p0 - (((((Int32.toUInt32 p0 >>> (Int32.toUInt32 (1) &&& Int32.toUInt32 31)).toInt32) : Int32) &&& (1431655765)))) : Int32) &&& (858993459)) : Int32) + (((((Int32.toUInt32 ((p0 - (((((Int32.toUInt32 p0 >>> (Int32.toUInt32 (1) &&& Int32.toUInt32 31)).toInt32) : Int32) &&& (1431655765)))) : Int32) >>> (Int32.toUInt32 (2) &&& Int32.toUInt32 31)).toInt32) : Int32) &&& (858993459)))) : Int32) >>> (Int32.toUInt32 (4) &&& Int32.toUInt32 31)).toInt32))) : Int32) &&& (252645135)) : Int32) >>> (Int32.toUInt32 (8) &&& Int32.toUInt32 31)).toInt32))) : Int32) >>> (Int32.toUInt32 (16) &&& Int32.toUInt32 31)).toInt32)))) rfl (List.mem_of_getElem? (i := 0) rfl) ?_
  refine EX.bipush (v := 63) rfl rfl ?_
  refine EX.go (i := .iand) (len := 1) (pc1 := 52) (st1 := [.int ((((((((((((((((p0 - (((((Int32.toUInt32 p0 >>> (Int32.toUInt32 (1) &&& Int32.toUInt32 31)).toInt32) : Int32) &&& (1431655765)))) : Int32) &&& (858993459)) : Int32) + (((((Int32.toUInt32 ((p0 - (((((Int32.toUInt32 p0 >>> (Int32.toUInt32 (1) &&& Int32.toUInt32 31)).toInt32) : Int32) &&& (1431655765)))) : Int32) >>> (Int32.toUInt32 (2) &&& Int32.toUInt32 31)).toInt32) : Int32) &&& (858993459)))) : Int32) + (((Int32.toUInt32 ((((((p0 - (((((Int32.toUInt32 p0 >>> (Int32.toUInt32 (1) &&& Int32.toUInt32 31)).toInt32) : Int32) &&& (1431655765)))) : Int32) &&& (858993459)) : Int32) + (((((Int32.toUInt32 ((p0 - (((((Int32.toUInt32 p0 >>> (Int32.toUInt32 (1) &&& Int32.toUInt32 31)).toInt32) : Int32) &&& (1431655765)))) : Int32) >>> (Int32.toUInt32 (2) &&& Int32.toUInt32 31)).toInt32) : Int32) &&& (858993459)))) : Int32) >>> (Int32.toUInt32 (4) &&& Int32.toUInt32 31)).toInt32))) : Int32) &&& (252645135)) : Int32) + (((Int32.toUInt32 ((((((((((p0 - (((((Int32.toUInt32 p0 >>> (Int32.toUInt32 (1) &&& Int32.toUInt32 31)).toInt32) : Int32) &&& (1431655765)))) : Int32) &&& (858993459)) : Int32) + (((((Int32.toUInt32 ((p0 - (((((Int32.toUInt32 p0 >>> (Int32.toUInt32 (1) &&& Int32.toUInt32 31)).toInt32) : Int32) &&& (1431655765)))) : Int32) >>> (Int32.toUInt32 (2) &&& Int32.toUInt32 31)).toInt32) : Int32) &&& (858993459)))) : Int32) + (((Int32.toUInt32 ((((((p0 - (((((Int32.toUInt32 p0 >>> (Int32.toUInt32 (1) &&& Int32.toUInt32 31)).toInt32) : Int32) &&& (1431655765)))) : Int32) &&& (858993459)) : Int32) + (((((Int32.toUInt32 ((p0 - (((((Int32.toUInt32 p0 >>> (Int32.toUInt32 (1) &&& Int32.toUInt32 31)).toInt32) : Int32) &&& (1431655765)))) : Int32) >>> (Int32.toUInt32 (2) &&& Int32.toUInt32 31)).toInt32) : Int32) &&& (858993459)))) : Int32) >>> (Int32.toUInt32 (4) &&& Int32.toUInt32 31)).toInt32))) : Int32) &&& (252645135)) : Int32) >>> (Int32.toUInt32 (8) &&& Int32.toUInt32 31)).toInt32))) : Int32) + (((Int32.toUInt32 ((((((((((((p0 - (((((Int32.toUInt32 p0 >>> (Int32.toUInt32 (1) &&& Int32.toUInt32 31)).toInt32) : Int32) &&& (1431655765)))) : Int32) &&& (858993459)) : Int32) + (((((Int32.toUInt32 ((p0 - (((((Int32.toUInt32 p0 >>> (Int32.toUInt32 (1) &&& Int32.toUInt32 31)).toInt32) : Int32) &&& (1431655765)))) : Int32) >>> (Int32.toUInt32 (2) &&& Int32.toUInt32 31)).toInt32) : Int32) &&& (858993459)))) : Int32) + (((Int32.toUInt32 ((((((p0 - (((((Int32.toUInt32 p0 >>> (Int32.toUInt32 (1) &&& Int32.toUInt32 31)).toInt32) : Int32) &&& (1431655765)))) : Int32) &&& (858993459)) : Int32) + (((((Int32.toUInt32 ((p0 - (((((Int32.toUInt32 p0 >>> (Int32.toUInt32 (1) &&& Int32.toUInt32 31)).toInt32) : Int32) &&& (1431655765)))) : Int32) >>> (Int32.toUInt32 (2) &&& Int32.toUInt32 31)).toInt32) : Int32) &&& (858993459)))) : Int32) >>> (Int32.toUInt32 (4) &&& Int32.toUInt32 31)).toInt32))) : Int32) &&& (252645135)) : Int32) + (((Int32.toUInt32 ((((((((((p0 - (((((Int32.toUInt32 p0 >>> (Int32.toUInt32 (1) &&& Int32.toUInt32 31)).toInt32) : Int32) &&& (1431655765)))) : Int32) &&& (858993459)) : Int32) + (((((Int32.toUInt32 ((p0 - (((((Int32.toUInt32 p0 >>> (Int32.toUInt32 (1) &&& Int32.toUInt32 31)).toInt32) : Int32) &&& (1431655765)))) : Int32) >>> (Int32.toUInt32 (2) &&& Int32.toUInt32 31)).toInt32) : Int32) &&& (858993459)))) : Int32) + (((Int32.toUInt32 ((((((p0 - (((((Int32.toUInt32 p0 >>> (Int32.toUInt32 (1) &&& Int32.toUInt32 31)).toInt32) : Int32) &&& (1431655765)))) : Int32) &&& (858993459)) : Int32) + (((((Int32.toUInt32 ((p0 - (((((Int32.toUInt32 p0 >>> (Int32.toUInt32 (1) &&& Int32.toUInt32 31)).toInt32) : Int32) &&& (1431655765)))) : Int32) >>> (Int32.toUInt32 (2) &&& Int32.toUInt32 31)).toInt32) : Int32) &&& (858993459)))) : Int32) >>> (Int32.toUInt32 (4) &&& Int32.toUInt32 31)).toInt32))) : Int32) &&& (252645135)) : Int32) >>> (Int32.toUInt32 (8) &&& Int32.toUInt32 31)).toInt32))) : Int32) >>> (Int32.toUInt32 (16) &&& Int32.toUInt32 31)).toInt32))) : Int32) &&& (63)))]) (hi1 := hi) (hl1 := hl) rfl ?_ (fun _ _ _ => rfl)
  obtain rfl := Option.some.inj h
  exact EX.iret rfl rfl
def J_FrameFinder_keepIfWide_54 (N : Nat) (v1 : Int32) (v2 : Int32) (v3 : Int32) (hi : HI) (hl : HL) : Option ((Int32 × Int32 × HI × HL) ⊕ (Nat × Int32 × HI × HL)) :=
  some (.inl (v2, v3 + 1, hi, hl))
set_option maxRecDepth 10000 in
set_option maxHeartbeats 4000000 in
theorem bJ_FrameFinder_keepIfWide_54 (ev : EV) {N : Nat} {v1 : Int32} {v2 : Int32} {v3 : Int32} {hi : HI} {hl : HL} {z : (Int32 × Int32 × HI × HL) ⊕ (Nat × Int32 × HI × HL)} {OUT : Option Value × HI × HL} (h : J_FrameFinder_keepIfWide_54 N v1 v2 v3 hi hl = some z) (hk : Sum.elim (fun s => EX w0 ev 0 m_FrameFinder_keepIfWide 4 [(0, .ref 36), (1, .int (v1)), (2, .int (s.1)), (3, .int (s.2.1))] [] (s.2.2.1) (s.2.2.2) OUT) (fun x => (x.1 = 0 → EX w0 ev 0 m_FrameFinder_keepIfWide 60 [(0, .ref 36), (1, .int (v1)), (2, .int (x.2.1))] [] (x.2.2.1) (x.2.2.2) OUT) ∧ (x.1 = 1 → EX w0 ev 0 m_FrameFinder_keepIfWide 25 [] [] (x.2.2.1) (x.2.2.2) OUT)) z) : EX w0 ev 0 m_FrameFinder_keepIfWide 54 [(0, .ref 36), (1, .int (v1)), (2, .int (v2)), (3, .int (v3))] [] (hi) (hl) OUT := by
  unfold J_FrameFinder_keepIfWide_54 at h
  refine EX.iinc (x := v3) (v := v3 + 1) (req1 := [(3, .int (v3 + 1)), (0, .ref 36), (1, .int (v1)), (2, .int (v2))]) rfl rfl (List.mem_of_getElem? (i := 3) rfl) rfl rfl ?_
  refine EX.go (i := .goto (-53)) (len := 3) (pc1 := 4) (st1 := []) (hi1 := hi) (hl1 := hl) rfl ?_ (fun _ _ _ => rfl)
  obtain rfl := Option.some.inj h
  have hk : EX w0 ev 0 m_FrameFinder_keepIfWide 4 [(0, .ref 36), (1, .int (v1)), (2, .int (v2)), (3, .int (v3 + 1))] [] (hi) (hl) OUT := hk
  exact EX.pick [1, 2, 3, 0] hk rfl
def B_FrameFinder_keepIfWide_4 (N : Nat) (v1 : Int32) (v2 : Int32) (v3 : Int32) (hi : HI) (hl : HL) : Option ((Int32 × Int32 × HI × HL) ⊕ (Nat × Int32 × HI × HL)) :=
  if (hi 36 2 : Int32) ≤ (v3 : Int32) then some (.inr (0, v2, hi, hl)) else if (v3 : Int32) < 0 ∨ 729 ≤ Int32.toNatClampNeg (v3) then none else if ((v1 &&& (((hi 37 (Int32.toNatClampNeg (v3)) : Int32) ^^^ ((-1))))) : Int32) = 0 then some (.inr (1, v2, hi, hl)) else if (v3 : Int32) < 0 ∨ 729 ≤ Int32.toNatClampNeg (v3) then none else if (((hi 37 (Int32.toNatClampNeg (v3)) : Int32) &&& ((v1 ^^^ ((-1))))) : Int32) = 0 then J_FrameFinder_keepIfWide_54 N (v1) (v2) (v3) (hi) (hl) else if (v3 : Int32) < 0 ∨ 729 ≤ Int32.toNatClampNeg (v3) then none else if (v2 : Int32) < 0 ∨ 729 ≤ Int32.toNatClampNeg (v2) then none else J_FrameFinder_keepIfWide_54 N (v1) (v2 + 1) (v3) (wr (hi) 37 (Int32.toNatClampNeg (v2)) (hi 37 (Int32.toNatClampNeg (v3)))) (hl)
set_option maxRecDepth 10000 in
set_option maxHeartbeats 4000000 in
theorem bB_FrameFinder_keepIfWide_4 (ev : EV) {N : Nat} {v1 : Int32} {v2 : Int32} {v3 : Int32} {hi : HI} {hl : HL} {z : (Int32 × Int32 × HI × HL) ⊕ (Nat × Int32 × HI × HL)} {OUT : Option Value × HI × HL} (h : B_FrameFinder_keepIfWide_4 N v1 v2 v3 hi hl = some z) (hk : Sum.elim (fun s => EX w0 ev 0 m_FrameFinder_keepIfWide 4 [(0, .ref 36), (1, .int (v1)), (2, .int (s.1)), (3, .int (s.2.1))] [] (s.2.2.1) (s.2.2.2) OUT) (fun x => (x.1 = 0 → EX w0 ev 0 m_FrameFinder_keepIfWide 60 [(0, .ref 36), (1, .int (v1)), (2, .int (x.2.1))] [] (x.2.2.1) (x.2.2.2) OUT) ∧ (x.1 = 1 → EX w0 ev 0 m_FrameFinder_keepIfWide 25 [] [] (x.2.2.1) (x.2.2.2) OUT)) z) : EX w0 ev 0 m_FrameFinder_keepIfWide 4 [(0, .ref 36), (1, .int (v1)), (2, .int (v2)), (3, .int (v3))] [] (hi) (hl) OUT := by
  unfold B_FrameFinder_keepIfWide_4 at h
  refine EX.iload_n (x := v3) rfl (List.mem_of_getElem? (i := 3) rfl) ?_
  refine EX.aload_n (x := 36) rfl (List.mem_of_getElem? (i := 0) rfl) ?_
  refine EX.go (i := .getfield 51) (len := 3) (pc1 := 9) (st1 := [.int (hi 36 2), .int (v3)]) (hi1 := hi) (hl1 := hl) rfl ?_ (fun _ _ _ => rfl)
  rcases ite_some h with ⟨c1, h⟩ | ⟨c1, h⟩
  · refine EX.go (i := .if_icmp .ge 51) (len := 3) (pc1 := 60) (st1 := []) (hi1 := hi) (hl1 := hl) rfl ?_ (fun _ _ _ => if_pos c1)
    obtain rfl := Option.some.inj h
    have hk := hk.1 rfl
    have hk : EX w0 ev 0 m_FrameFinder_keepIfWide 60 [(0, .ref 36), (1, .int (v1)), (2, .int (v2))] [] (hi) (hl) OUT := hk
    exact EX.pick [0, 1, 2] hk rfl
  · refine EX.go (i := .if_icmp .ge 51) (len := 3) (pc1 := 12) (st1 := []) (hi1 := hi) (hl1 := hl) rfl ?_ (fun _ _ _ => if_neg c1)
    refine EX.iload_n (x := v1) rfl (List.mem_of_getElem? (i := 1) rfl) ?_
    refine EX.aload_n (x := 36) rfl (List.mem_of_getElem? (i := 0) rfl) ?_
    refine EX.go (i := .getfield 9) (len := 3) (pc1 := 17) (st1 := [.ref 37, .int (v1)]) (hi1 := hi) (hl1 := hl) rfl ?_ (fun _ _ _ => rfl)
    refine EX.iload_n (x := v3) rfl (List.mem_of_getElem? (i := 3) rfl) ?_
    obtain ⟨g2, h⟩ := grd_some h
    refine EX.iaload rfl rfl g2 ?_
    refine EX.iconst (v := (-1)) rfl rfl ?_
    refine EX.go (i := .ixor) (len := 1) (pc1 := 21) (st1 := [.int (((hi 37 (Int32.toNatClampNeg (v3)) : Int32) ^^^ ((-1)))), .int (v1)]) (hi1 := hi) (hl1 := hl) rfl ?_ (fun _ _ _ => rfl)
    refine EX.go (i := .iand) (len := 1) (pc1 := 22) (st1 := [.int ((v1 &&& (((hi 37 (Int32.toNatClampNeg (v3)) : Int32) ^^^ ((-1))))))]) (hi1 := hi) (hl1 := hl) rfl ?_ (fun _ _ _ => rfl)
    rcases ite_some h with ⟨c3, h⟩ | ⟨c3, h⟩
    · refine EX.go (i := .ifCond .ne 4) (len := 3) (pc1 := 25) (st1 := []) (hi1 := hi) (hl1 := hl) rfl ?_ (fun _ _ _ => if_pos c3)
      obtain rfl := Option.some.inj h
      have hk := hk.2 rfl
      have hk : EX w0 ev 0 m_FrameFinder_keepIfWide 25 [] [] (hi) (hl) OUT := hk
      exact EX.pick [] hk rfl
    · refine EX.go (i := .ifCond .ne 4) (len := 3) (pc1 := 26) (st1 := []) (hi1 := hi) (hl1 := hl) rfl ?_ (fun _ _ _ => if_neg c3)
      refine EX.aload_n (x := 36) rfl (List.mem_of_getElem? (i := 0) rfl) ?_
      refine EX.go (i := .getfield 9) (len := 3) (pc1 := 30) (st1 := [.ref 37]) (hi1 := hi) (hl1 := hl) rfl ?_ (fun _ _ _ => rfl)
      refine EX.iload_n (x := v3) rfl (List.mem_of_getElem? (i := 3) rfl) ?_
      obtain ⟨g4, h⟩ := grd_some h
      refine EX.iaload rfl rfl g4 ?_
      refine EX.iload_n (x := v1) rfl (List.mem_of_getElem? (i := 1) rfl) ?_
      refine EX.iconst (v := (-1)) rfl rfl ?_
      refine EX.go (i := .ixor) (len := 1) (pc1 := 35) (st1 := [.int ((v1 ^^^ ((-1)))), .int (hi 37 (Int32.toNatClampNeg (v3)))]) (hi1 := hi) (hl1 := hl) rfl ?_ (fun _ _ _ => rfl)
      refine EX.go (i := .iand) (len := 1) (pc1 := 36) (st1 := [.int (((hi 37 (Int32.toNatClampNeg (v3)) : Int32) &&& ((v1 ^^^ ((-1))))))]) (hi1 := hi) (hl1 := hl) rfl ?_ (fun _ _ _ => rfl)
      rcases ite_some h with ⟨c5, h⟩ | ⟨c5, h⟩
      · refine EX.go (i := .ifCond .eq 18) (len := 3) (pc1 := 54) (st1 := []) (hi1 := hi) (hl1 := hl) rfl ?_ (fun _ _ _ => if_pos c5)
        refine EX.pick [0, 1, 2, 3] ?_ rfl
        exact bJ_FrameFinder_keepIfWide_54 ev h hk
      · refine EX.go (i := .ifCond .eq 18) (len := 3) (pc1 := 39) (st1 := []) (hi1 := hi) (hl1 := hl) rfl ?_ (fun _ _ _ => if_neg c5)
        refine EX.aload_n (x := 36) rfl (List.mem_of_getElem? (i := 0) rfl) ?_
        refine EX.go (i := .getfield 9) (len := 3) (pc1 := 43) (st1 := [.ref 37]) (hi1 := hi) (hl1 := hl) rfl ?_ (fun _ _ _ => rfl)
        refine EX.iload_n (x := v2) rfl (List.mem_of_getElem? (i := 2) rfl) ?_
        refine EX.aload_n (x := 36) rfl (List.mem_of_getElem? (i := 0) rfl) ?_
        refine EX.go (i := .getfield 9) (len := 3) (pc1 := 48) (st1 := [.ref 37, .int (v2), .ref 37]) (hi1 := hi) (hl1 := hl) rfl ?_ (fun _ _ _ => rfl)
        refine EX.iload_n (x := v3) rfl (List.mem_of_getElem? (i := 3) rfl) ?_
        obtain ⟨g6, h⟩ := grd_some h
        refine EX.iaload rfl rfl g6 ?_
        obtain ⟨g7, h⟩ := grd_some h
        refine EX.iastore rfl rfl g7 ?_
        refine EX.iinc (x := v2) (v := v2 + 1) (req1 := [(2, .int (v2 + 1)), (0, .ref 36), (1, .int (v1)), (3, .int (v3))]) rfl rfl (List.mem_of_getElem? (i := 2) rfl) rfl rfl ?_
        refine EX.pick [1, 2, 0, 3] ?_ rfl
        exact bJ_FrameFinder_keepIfWide_54 ev h hk
def f_FrameFinder_keepIfWide (N : Nat) (p1 : Int32) (hi : HI) (hl : HL) : Option (Unit × HI × HL) :=
  (lpN (fun s => B_FrameFinder_keepIfWide_4 N (p1) s.1 s.2.1 s.2.2.1 s.2.2.2) N (0, 0, hi, hl)).bind fun x8 => if x8.1 = 0 then if (x8.2.1 : Int32) < 0 ∨ 729 ≤ Int32.toNatClampNeg (x8.2.1) then none else some ((), wr (wr (x8.2.2.1) 37 (Int32.toNatClampNeg (x8.2.1)) (p1)) 36 2 (((x8.2.1 : Int32) + (1))), x8.2.2.2) else some ((), x8.2.2.1, x8.2.2.2)
set_option maxRecDepth 10000 in
set_option maxHeartbeats 4000000 in
theorem b_FrameFinder_keepIfWide (ev : EV) {N : Nat} {p1 : Int32} {hi : HI} {hl : HL} {o : Unit × HI × HL} (h : f_FrameFinder_keepIfWide N p1 hi hl = some o) : EM w0 ev 1 m_FrameFinder_keepIfWide [.ref 36, .int (p1)] hi hl (oV o) := by
  unfold f_FrameFinder_keepIfWide at h
  refine EM.of rfl ?_
  show EX w0 ev 0 m_FrameFinder_keepIfWide 0 [(0, .ref 36), (1, .int (p1))] [] (hi) (hl) (oV o)
  refine EX.iconst (v := 0) rfl rfl ?_
  refine EX.istore_n (req1 := [(2, .int (0)), (0, .ref 36), (1, .int (p1))]) rfl rfl rfl ?_
  refine EX.iconst (v := 0) rfl rfl ?_
  refine EX.istore_n (req1 := [(3, .int (0)), (2, .int (0)), (0, .ref 36), (1, .int (p1))]) rfl rfl rfl ?_
  obtain ⟨x8, hx8, h⟩ := bnd_some h
  refine EX.pick [2, 3, 1, 0] ?_ rfl
  refine lp_sound (f := fun s => B_FrameFinder_keepIfWide_4 N (p1) s.1 s.2.1 s.2.2.1 s.2.2.2) (PS := fun s => EX w0 ev 0 m_FrameFinder_keepIfWide 4 [(0, .ref 36), (1, .int (p1)), (2, .int (s.1)), (3, .int (s.2.1))] [] (s.2.2.1) (s.2.2.2) (oV o)) (PX := fun x => (x.1 = 0 → EX w0 ev 0 m_FrameFinder_keepIfWide 60 [(0, .ref 36), (1, .int (p1)), (2, .int (x.2.1))] [] (x.2.2.1) (x.2.2.2) (oV o)) ∧ (x.1 = 1 → EX w0 ev 0 m_FrameFinder_keepIfWide 25 [] [] (x.2.2.1) (x.2.2.2) (oV o))) ?_ N _ x8 hx8 ?_
  · exact fun s z hz hk => bB_FrameFinder_keepIfWide_4 ev hz hk
  rcases ite_some h with ⟨c9, h⟩ | ⟨c9, h⟩
  · refine ⟨fun _ => ?_, fun e9 => absurd (c9.symm.trans e9) (by decide)⟩
    show EX w0 ev 0 m_FrameFinder_keepIfWide 60 [(0, .ref 36), (1, .int (p1)), (2, .int (x8.2.1))] [] (x8.2.2.1) (x8.2.2.2) (oV o)
    refine EX.aload_n (x := 36) rfl (List.mem_of_getElem? (i := 0) rfl) ?_
    refine EX.go (i := .getfield 9) (len := 3) (pc1 := 64) (st1 := [.ref 37]) (hi1 := x8.2.2.1) (hl1 := x8.2.2.2) rfl ?_ (fun _ _ _ => rfl)
    refine EX.iload_n (x := x8.2.1) rfl (List.mem_of_getElem? (i := 2) rfl) ?_
    refine EX.iload_n (x := p1) rfl (List.mem_of_getElem? (i := 1) rfl) ?_
    obtain ⟨g10, h⟩ := grd_some h
    refine EX.iastore rfl rfl g10 ?_
    refine EX.aload_n (x := 36) rfl (List.mem_of_getElem? (i := 0) rfl) ?_
    refine EX.iload_n (x := x8.2.1) rfl (List.mem_of_getElem? (i := 2) rfl) ?_
    refine EX.iconst (v := 1) rfl rfl ?_
    refine EX.go (i := .iadd) (len := 1) (pc1 := 71) (st1 := [.int (((x8.2.1 : Int32) + (1))), .ref 36]) (hi1 := wr (x8.2.2.1) 37 (Int32.toNatClampNeg (x8.2.1)) (p1)) (hl1 := x8.2.2.2) rfl ?_ (fun _ _ _ => rfl)
    refine EX.go (i := .putfield 51) (len := 3) (pc1 := 74) (st1 := []) (hi1 := wr (wr (x8.2.2.1) 37 (Int32.toNatClampNeg (x8.2.1)) (p1)) 36 2 (((x8.2.1 : Int32) + (1)))) (hl1 := x8.2.2.2) rfl ?_ (fun _ _ _ => rfl)
    obtain rfl := Option.some.inj h
    exact EX.vret rfl rfl
  · refine ⟨fun e9 => absurd e9 c9, fun _ => ?_⟩
    show EX w0 ev 0 m_FrameFinder_keepIfWide 25 [] [] (x8.2.2.1) (x8.2.2.2) (oV o)
    obtain rfl := Option.some.inj h
    exact EX.vret rfl rfl
def J_FrameFinder_gather_69 (N : Nat) (v2 : Int32) (v3 : Int32) (hi : HI) (hl : HL) : Option ((Int32 × Int32 × HI × HL) ⊕ (Int32 × HI × HL)) :=
  some (.inl (v2, v3 + 1, hi, hl))
set_option maxRecDepth 10000 in
set_option maxHeartbeats 4000000 in
theorem bJ_FrameFinder_gather_69 (ev : EV) {N : Nat} {v2 : Int32} {v3 : Int32} {hi : HI} {hl : HL} {z : (Int32 × Int32 × HI × HL) ⊕ (Int32 × HI × HL)} {OUT : Option Value × HI × HL} (h : J_FrameFinder_gather_69 N v2 v3 hi hl = some z) (hk : Sum.elim (fun s => EX w0 ev 1 m_FrameFinder_gather 14 [(0, .ref 36), (1, .ref 12), (2, .int (s.1)), (3, .int (s.2.1))] [] (s.2.2.1) (s.2.2.2) OUT) (fun x => EX w0 ev 1 m_FrameFinder_gather 75 [(2, .int (x.1))] [] (x.2.1) (x.2.2) OUT) z) : EX w0 ev 1 m_FrameFinder_gather 69 [(0, .ref 36), (1, .ref 12), (2, .int (v2)), (3, .int (v3))] [] (hi) (hl) OUT := by
  unfold J_FrameFinder_gather_69 at h
  refine EX.iinc (x := v3) (v := v3 + 1) (req1 := [(3, .int (v3 + 1)), (0, .ref 36), (1, .ref 12), (2, .int (v2))]) rfl rfl (List.mem_of_getElem? (i := 3) rfl) rfl rfl ?_
  refine EX.go (i := .goto (-58)) (len := 3) (pc1 := 14) (st1 := []) (hi1 := hi) (hl1 := hl) rfl ?_ (fun _ _ _ => rfl)
  obtain rfl := Option.some.inj h
  have hk : EX w0 ev 1 m_FrameFinder_gather 14 [(0, .ref 36), (1, .ref 12), (2, .int (v2)), (3, .int (v3 + 1))] [] (hi) (hl) OUT := hk
  exact EX.pick [1, 2, 3, 0] hk rfl
def B_FrameFinder_gather_14 (N : Nat) (v2 : Int32) (v3 : Int32) (hi : HI) (hl : HL) : Option ((Int32 × Int32 × HI × HL) ⊕ (Int32 × HI × HL)) :=
  if (hi 12 7 : Int32) ≤ (v3 : Int32) then some (.inr (v2, hi, hl)) else if (v3 : Int32) < 0 ∨ 729 ≤ Int32.toNatClampNeg (v3) then none else if (((hi 15 (Int32.toNatClampNeg (v3)) : Int32) &&& (((hi 36 0 : Int32) ^^^ ((-1))))) : Int32) = 0 then (f_Integer_bitCount N (hi 15 (Int32.toNatClampNeg (v3))) (hi) (hl)).bind fun z4 => (f_FrameFinder_keepIfWide N (hi 15 (Int32.toNatClampNeg (v3))) (wr (z4.2.1) 36 4 ((if (hi 36 4 : Int32) < (z4.1) then (z4.1) else (hi 36 4)))) (z4.2.2)).bind fun z5 => J_FrameFinder_gather_69 N ((v2 ||| (hi 15 (Int32.toNatClampNeg (v3))))) (v3) (z5.2.1) (z5.2.2) else J_FrameFinder_gather_69 N (v2) (v3) (hi) (hl)
set_option maxRecDepth 10000 in
set_option maxHeartbeats 4000000 in
theorem bB_FrameFinder_gather_14 (ev : EV) {N : Nat} {v2 : Int32} {v3 : Int32} {hi : HI} {hl : HL} {z : (Int32 × Int32 × HI × HL) ⊕ (Int32 × HI × HL)} {OUT : Option Value × HI × HL} (h : B_FrameFinder_gather_14 N v2 v3 hi hl = some z) (hk : Sum.elim (fun s => EX w0 ev 1 m_FrameFinder_gather 14 [(0, .ref 36), (1, .ref 12), (2, .int (s.1)), (3, .int (s.2.1))] [] (s.2.2.1) (s.2.2.2) OUT) (fun x => EX w0 ev 1 m_FrameFinder_gather 75 [(2, .int (x.1))] [] (x.2.1) (x.2.2) OUT) z) : EX w0 ev 1 m_FrameFinder_gather 14 [(0, .ref 36), (1, .ref 12), (2, .int (v2)), (3, .int (v3))] [] (hi) (hl) OUT := by
  unfold B_FrameFinder_gather_14 at h
  refine EX.iload_n (x := v3) rfl (List.mem_of_getElem? (i := 3) rfl) ?_
  refine EX.aload_n (x := 12) rfl (List.mem_of_getElem? (i := 1) rfl) ?_
  refine EX.go (i := .getfield 57) (len := 3) (pc1 := 19) (st1 := [.int (hi 12 7), .int (v3)]) (hi1 := hi) (hl1 := hl) rfl ?_ (fun _ _ _ => rfl)
  rcases ite_some h with ⟨c1, h⟩ | ⟨c1, h⟩
  · refine EX.go (i := .if_icmp .ge 56) (len := 3) (pc1 := 75) (st1 := []) (hi1 := hi) (hl1 := hl) rfl ?_ (fun _ _ _ => if_pos c1)
    obtain rfl := Option.some.inj h
    have hk : EX w0 ev 1 m_FrameFinder_gather 75 [(2, .int (v2))] [] (hi) (hl) OUT := hk
    exact EX.pick [2] hk rfl
  · refine EX.go (i := .if_icmp .ge 56) (len := 3) (pc1 := 22) (st1 := []) (hi1 := hi) (hl1 := hl) rfl ?_ (fun _ _ _ => if_neg c1)
    refine EX.aload_n (x := 12) rfl (List.mem_of_getElem? (i := 1) rfl) ?_
    refine EX.go (i := .getfield 62) (len := 3) (pc1 := 26) (st1 := [.ref 15]) (hi1 := hi) (hl1 := hl) rfl ?_ (fun _ _ _ => rfl)
    refine EX.iload_n (x := v3) rfl (List.mem_of_getElem? (i := 3) rfl) ?_
    obtain ⟨g2, h⟩ := grd_some h
    refine EX.iaload rfl rfl g2 ?_
    refine EX.istore (req1 := [(4, .int (hi 15 (Int32.toNatClampNeg (v3)))), (0, .ref 36), (1, .ref 12), (2, .int (v2)), (3, .int (v3))]) rfl rfl rfl ?_
    refine EX.iload (x := hi 15 (Int32.toNatClampNeg (v3))) rfl (List.mem_of_getElem? (i := 0) rfl) ?_
    refine EX.aload_n (x := 36) rfl (List.mem_of_getElem? (i := 1) rfl) ?_
    refine EX.go (i := .getfield 15) (len := 3) (pc1 := 36) (st1 := [.int (hi 36 0), .int (hi 15 (Int32.toNatClampNeg (v3)))]) (hi1 := hi) (hl1 := hl) rfl ?_ (fun _ _ _ => rfl)
    refine EX.iconst (v := (-1)) rfl rfl ?_
    refine EX.go (i := .ixor) (len := 1) (pc1 := 38) (st1 := [.int (((hi 36 0 : Int32) ^^^ ((-1)))), .int (hi 15 (Int32.toNatClampNeg (v3)))]) (hi1 := hi) (hl1 := hl) rfl ?_ (fun _ _ _ => rfl)
    refine EX.go (i := .iand) (len := 1) (pc1 := 39) (st1 := [.int (((hi 15 (Int32.toNatClampNeg (v3)) : Int32) &&& (((hi 36 0 : Int32) ^^^ ((-1))))))]) (hi1 := hi) (hl1 := hl) rfl ?_ (fun _ _ _ => rfl)
    rcases ite_some h with ⟨c3, h⟩ | ⟨c3, h⟩
    · refine EX.go (i := .ifCond .ne 30) (len := 3) (pc1 := 42) (st1 := []) (hi1 := hi) (hl1 := hl) rfl ?_ (fun _ _ _ => if_pos c3)
      refine EX.iload_n (x := v2) rfl (List.mem_of_getElem? (i := 3) rfl) ?_
      refine EX.iload (x := hi 15 (Int32.toNatClampNeg (v3))) rfl (List.mem_of_getElem? (i := 0) rfl) ?_
      refine EX.go (i := .ior) (len := 1) (pc1 := 46) (st1 := [.int ((v2 ||| (hi 15 (Int32.toNatClampNeg (v3)))))]) (hi1 := hi) (hl1 := hl) rfl ?_ (fun _ _ _ => rfl)
      refine EX.istore_n (req1 := [(2, .int ((v2 ||| (hi 15 (Int32.toNatClampNeg (v3)))))), (4, .int (hi 15 (Int32.toNatClampNeg (v3)))), (0, .ref 36), (1, .ref 12), (3, .int (v3))]) rfl rfl rfl ?_
      refine EX.aload_n (x := 36) rfl (List.mem_of_getElem? (i := 2) rfl) ?_
      refine EX.aload_n (x := 36) rfl (List.mem_of_getElem? (i := 2) rfl) ?_
      refine EX.go (i := .getfield 54) (len := 3) (pc1 := 52) (st1 := [.int (hi 36 4), .ref 36]) (hi1 := hi) (hl1 := hl) rfl ?_ (fun _ _ _ => rfl)
      refine EX.iload (x := hi 15 (Int32.toNatClampNeg (v3))) rfl (List.mem_of_getElem? (i := 1) rfl) ?_
      obtain ⟨z4, hz4, h⟩ := bnd_some h
      refine EX.callS (as := [.int (hi 15 (Int32.toNatClampNeg (v3)))]) (rest := [.int (hi 36 4), .ref 36]) (r := some (.int (z4.1))) (hi1 := z4.2.1) (hl1 := z4.2.2) rfl rfl rfl rfl rfl rfl ((b_Integer_bitCount ev hz4).mono (by decide)) ?_
      show EX w0 ev 1 m_FrameFinder_gather 57 [(2, .int ((v2 ||| (hi 15 (Int32.toNatClampNeg (v3)))))), (4, .int (hi 15 (Int32.toNatClampNeg (v3)))), (0, .ref 36), (1, .ref 12), (3, .int (v3))] [.int (z4.1), .int (hi 36 4), .ref 36] (z4.2.1) (z4.2.2) OUT
      refine EX.mx (x := hi 36 4) (y := z4.1) (v := (if (hi 36 4 : Int32) < (z4.1) then (z4.1) else (hi 36 4))) rfl rfl rfl rfl rfl ?_
      refine EX.go (i := .putfield 54) (len := 3) (pc1 := 63) (st1 := []) (hi1 := wr (z4.2.1) 36 4 ((if (hi 36 4 : Int32) < (z4.1) then (z4.1) else (hi 36 4)))) (hl1 := z4.2.2) rfl ?_ (fun _ _ _ => rfl)
      refine EX.aload_n (x := 36) rfl (List.mem_of_getElem? (i := 2) rfl) ?_
      refine EX.iload (x := hi 15 (Int32.toNatClampNeg (v3))) rfl (List.mem_of_getElem? (i := 1) rfl) ?_
      obtain ⟨z5, hz5, h⟩ := bnd_some h
      refine EX.callV (b := 36) (as := [.int (hi 15 (Int32.toNatClampNeg (v3)))]) (rest := []) (r := none) (hi1 := z5.2.1) (hl1 := z5.2.2) rfl rfl rfl rfl rfl rfl ((b_FrameFinder_keepIfWide ev hz5).mono (by decide)) ?_
      show EX w0 ev 1 m_FrameFinder_gather 69 [(2, .int ((v2 ||| (hi 15 (Int32.toNatClampNeg (v3)))))), (4, .int (hi 15 (Int32.toNatClampNeg (v3)))), (0, .ref 36), (1, .ref 12), (3, .int (v3))] [] (z5.2.1) (z5.2.2) OUT
      refine EX.pick [2, 3, 0, 4] ?_ rfl
      exact bJ_FrameFinder_gather_69 ev h hk
    · refine EX.go (i := .ifCond .ne 30) (len := 3) (pc1 := 69) (st1 := []) (hi1 := hi) (hl1 := hl) rfl ?_ (fun _ _ _ => if_neg c3)
      refine EX.pick [1, 2, 3, 4] ?_ rfl
      exact bJ_FrameFinder_gather_69 ev h hk
def f_FrameFinder_gather (N : Nat) (hi : HI) (hl : HL) : Option (Int32 × HI × HL) :=
  (lpN (fun s => B_FrameFinder_gather_14 N s.1 s.2.1 s.2.2.1 s.2.2.2) N (0, 0, wr (wr (hi) 36 2 (0)) 36 4 (0), hl)).bind fun x6 => some (x6.1, x6.2.1, x6.2.2)
set_option maxRecDepth 10000 in
set_option maxHeartbeats 4000000 in
theorem b_FrameFinder_gather (ev : EV) {N : Nat} {hi : HI} {hl : HL} {o : Int32 × HI × HL} (h : f_FrameFinder_gather N hi hl = some o) : EM w0 ev 2 m_FrameFinder_gather [.ref 36, .ref 12] hi hl (oI o) := by
  unfold f_FrameFinder_gather at h
  refine EM.of rfl ?_
  show EX w0 ev 1 m_FrameFinder_gather 0 [(0, .ref 36), (1, .ref 12)] [] (hi) (hl) (oI o)
  refine EX.iconst (v := 0) rfl rfl ?_
  refine EX.istore_n (req1 := [(2, .int (0)), (0, .ref 36), (1, .ref 12)]) rfl rfl rfl ?_
  refine EX.aload_n (x := 36) rfl (List.mem_of_getElem? (i := 1) rfl) ?_
  refine EX.iconst (v := 0) rfl rfl ?_
  refine EX.go (i := .putfield 51) (len := 3) (pc1 := 7) (st1 := []) (hi1 := wr (hi) 36 2 (0)) (hl1 := hl) rfl ?_ (fun _ _ _ => rfl)
  refine EX.aload_n (x := 36) rfl (List.mem_of_getElem? (i := 1) rfl) ?_
  refine EX.iconst (v := 0) rfl rfl ?_
  refine EX.go (i := .putfield 54) (len := 3) (pc1 := 12) (st1 := []) (hi1 := wr (wr (hi) 36 2 (0)) 36 4 (0)) (hl1 := hl) rfl ?_ (fun _ _ _ => rfl)
  refine EX.iconst (v := 0) rfl rfl ?_
  refine EX.istore_n (req1 := [(3, .int (0)), (2, .int (0)), (0, .ref 36), (1, .ref 12)]) rfl rfl rfl ?_
  obtain ⟨x6, hx6, h⟩ := bnd_some h
  refine EX.pick [2, 3, 1, 0] ?_ rfl
  refine lp_sound (f := fun s => B_FrameFinder_gather_14 N s.1 s.2.1 s.2.2.1 s.2.2.2) (PS := fun s => EX w0 ev 1 m_FrameFinder_gather 14 [(0, .ref 36), (1, .ref 12), (2, .int (s.1)), (3, .int (s.2.1))] [] (s.2.2.1) (s.2.2.2) (oI o)) (PX := fun x => EX w0 ev 1 m_FrameFinder_gather 75 [(2, .int (x.1))] [] (x.2.1) (x.2.2) (oI o)) ?_ N _ x6 hx6 ?_
  · exact fun s z hz hk => bB_FrameFinder_gather_14 ev hz hk
  show EX w0 ev 1 m_FrameFinder_gather 75 [(2, .int (x6.1))] [] (x6.2.1) (x6.2.2) (oI o)
  refine EX.iload_n (x := x6.1) rfl (List.mem_of_getElem? (i := 0) rfl) ?_
  obtain rfl := Option.some.inj h
  exact EX.iret rfl rfl
def B_Arrays_fill_6 (N : Nat) (v1 : Int64) (v4 : Int32) (v3 : Int32) (hi : HI) (hl : HL) : Option ((Int32 × HI × HL) ⊕ (HI × HL)) :=
  if (v4 : Int32) ≤ (v3 : Int32) then some (.inr (hi, hl)) else if (v3 : Int32) < 0 ∨ 4096 ≤ Int32.toNatClampNeg (v3) then none else some (.inl (v3 + 1, hi, wrL (hl) 41 (Int32.toNatClampNeg (v3)) (v1)))
set_option maxRecDepth 10000 in
set_option maxHeartbeats 4000000 in
theorem bB_Arrays_fill_6 (ev : EV) {N : Nat} {v1 : Int64} {v4 : Int32} {v3 : Int32} {hi : HI} {hl : HL} {z : (Int32 × HI × HL) ⊕ (HI × HL)} {OUT : Option Value × HI × HL} (h : B_Arrays_fill_6 N v1 v4 v3 hi hl = some z) (hk : Sum.elim (fun s => EX w0 ev 0 m_Arrays_fill 6 [(0, .ref 41), (1, .long (v1)), (3, .int (s.1)), (4, .int (v4))] [] (s.2.1) (s.2.2) OUT) (fun x => EX w0 ev 0 m_Arrays_fill 22 [] [] (x.1) (x.2) OUT) z) : EX w0 ev 0 m_Arrays_fill 6 [(0, .ref 41), (1, .long (v1)), (3, .int (v3)), (4, .int (v4))] [] (hi) (hl) OUT := by
  unfold B_Arrays_fill_6 at h
  refine EX.iload_n (x := v3) rfl (List.mem_of_getElem? (i := 2) rfl) ?_
  refine EX.iload (x := v4) rfl (List.mem_of_getElem? (i := 3) rfl) ?_
  rcases ite_some h with ⟨c1, h⟩ | ⟨c1, h⟩
  · refine EX.go (i := .if_icmp .ge 13) (len := 3) (pc1 := 22) (st1 := []) (hi1 := hi) (hl1 := hl) rfl ?_ (fun _ _ _ => if_pos c1)
    obtain rfl := Option.some.inj h
    have hk : EX w0 ev 0 m_Arrays_fill 22 [] [] (hi) (hl) OUT := hk
    exact EX.pick [] hk rfl
  · refine EX.go (i := .if_icmp .ge 13) (len := 3) (pc1 := 12) (st1 := []) (hi1 := hi) (hl1 := hl) rfl ?_ (fun _ _ _ => if_neg c1)
    refine EX.aload_n (x := 41) rfl (List.mem_of_getElem? (i := 0) rfl) ?_
    refine EX.iload_n (x := v3) rfl (List.mem_of_getElem? (i := 2) rfl) ?_
    refine EX.lload_n (x := v1) rfl (List.mem_of_getElem? (i := 1) rfl) ?_
    obtain ⟨g2, h⟩ := grd_some h
    refine EX.lastore rfl rfl g2 ?_
    refine EX.iinc (x := v3) (v := v3 + 1) (req1 := [(3, .int (v3 + 1)), (0, .ref 41), (1, .long (v1)), (4, .int (v4))]) rfl rfl (List.mem_of_getElem? (i := 2) rfl) rfl rfl ?_
    refine EX.go (i := .goto (-13)) (len := 3) (pc1 := 6) (st1 := []) (hi1 := hi) (hl1 := wrL (hl) 41 (Int32.toNatClampNeg (v3)) (v1)) rfl ?_ (fun _ _ _ => rfl)
    obtain rfl := Option.some.inj h
    have hk : EX w0 ev 0 m_Arrays_fill 6 [(0, .ref 41), (1, .long (v1)), (3, .int (v3 + 1)), (4, .int (v4))] [] (hi) (wrL (hl) 41 (Int32.toNatClampNeg (v3)) (v1)) OUT := hk
    exact EX.pick [1, 2, 0, 3] hk rfl
def f_Arrays_fill (N : Nat) (p1 : Int64) (hi : HI) (hl : HL) : Option (Unit × HI × HL) :=
  (lpN (fun s => B_Arrays_fill_6 N (p1) (4096) s.1 s.2.1 s.2.2) N (0, hi, hl)).bind fun x3 => some ((), x3.1, x3.2)
set_option maxRecDepth 10000 in
set_option maxHeartbeats 4000000 in
theorem b_Arrays_fill (ev : EV) {N : Nat} {p1 : Int64} {hi : HI} {hl : HL} {o : Unit × HI × HL} (h : f_Arrays_fill N p1 hi hl = some o) : EM w0 ev 1 m_Arrays_fill [.ref 41, .long (p1)] hi hl (oV o) := by
  unfold f_Arrays_fill at h
  refine EM.of rfl ?_
  show EX w0 ev 0 m_Arrays_fill 0 [(0, .ref 41), (1, .long (p1))] [] (hi) (hl) (oV o)
  refine EX.iconst (v := 0) rfl rfl ?_
  refine EX.istore_n (req1 := [(3, .int (0)), (0, .ref 41), (1, .long (p1))]) rfl rfl rfl ?_
  refine EX.aload_n (x := 41) rfl (List.mem_of_getElem? (i := 1) rfl) ?_
  refine EX.go (i := .arraylength) (len := 1) (pc1 := 4) (st1 := [.int (4096)]) (hi1 := hi) (hl1 := hl) rfl ?_ (fun _ _ _ => rfl)
  refine EX.istore (req1 := [(4, .int (4096)), (3, .int (0)), (0, .ref 41), (1, .long (p1))]) rfl rfl rfl ?_
  obtain ⟨x3, hx3, h⟩ := bnd_some h
  refine EX.pick [2, 3, 1, 0] ?_ rfl
  refine lp_sound (f := fun s => B_Arrays_fill_6 N (p1) (4096) s.1 s.2.1 s.2.2) (PS := fun s => EX w0 ev 0 m_Arrays_fill 6 [(0, .ref 41), (1, .long (p1)), (3, .int (s.1)), (4, .int (4096))] [] (s.2.1) (s.2.2) (oV o)) (PX := fun x => EX w0 ev 0 m_Arrays_fill 22 [] [] (x.1) (x.2) (oV o)) ?_ N _ x3 hx3 ?_
  · exact fun s z hz hk => bB_Arrays_fill_6 ev hz hk
  show EX w0 ev 0 m_Arrays_fill 22 [] [] (x3.1) (x3.2) (oV o)
  obtain rfl := Option.some.inj h
  exact EX.vret rfl rfl
def f_FrameFinder_failedWith (N : Nat) (p1 : Int32) (hi : HI) (hl : HL) : Option (Int32 × HI × HL) :=
  if hi 36 1 = 42 then if ((p1 >>> ((4) &&& 31)) : Int32) < 0 ∨ 4096 ≤ Int32.toNatClampNeg ((p1 >>> ((4) &&& 31))) then none else some ((Int64.toInt32 (((((Int64.toUInt64 (hl 41 (Int32.toNatClampNeg ((p1 >>> ((4) &&& 31)))) : Int64) >>> ((Int32.toInt64 ((((p1 &&& (15)) : Int32) * (4)))).toUInt64 &&& Int64.toUInt64 63)).toInt64) : Int64) &&& (15)))), hi, hl) else none
set_option maxRecDepth 10000 in
set_option maxHeartbeats 4000000 in
theorem b_FrameFinder_failedWith (ev : EV) {N : Nat} {p1 : Int32} {hi : HI} {hl : HL} {o : Int32 × HI × HL} (h : f_FrameFinder_failedWith N p1 hi hl = some o) : EM w0 ev 1 m_FrameFinder_failedWith [.ref 36, .int (p1)] hi hl (oI o) := by
  unfold f_FrameFinder_failedWith at h
  refine EM.of rfl ?_
  show EX w0 ev 0 m_FrameFinder_failedWith 0 [(0, .ref 36), (1, .int (p1))] [] (hi) (hl) (oI o)
  refine EX.aload_n (x := 36) rfl (List.mem_of_getElem? (i := 0) rfl) ?_
  obtain ⟨g1, h⟩ := grp_some h
  refine EX.getfieldV (v := .ref 41) rfl rfl rfl rfl (fv3 rfl g1) ?_
  refine EX.iload_n (x := p1) rfl (List.mem_of_getElem? (i := 1) rfl) ?_
  refine EX.iconst (v := 4) rfl rfl ?_
  refine EX.go (i := .ishr) (len := 1) (pc1 := 7) (st1 := [.int ((p1 >>> ((4) &&& 31))), .ref 41]) (hi1 := hi) (hl1 := hl) rfl ?_ (fun _ _ _ => rfl)
  obtain ⟨g2, h⟩ := grd_some h
  refine EX.laload rfl rfl g2 ?_
  refine EX.iload_n (x := p1) rfl (List.mem_of_getElem? (i := 1) rfl) ?_
  refine EX.bipush (v := 15) rfl rfl ?_
  refine EX.go (i := .iand) (len := 1) (pc1 := 12) (st1 := [.int ((p1 &&& (15))), .long (hl 41 (Int32.toNatClampNeg ((p1 >>> ((4) &&& 31)))))]) (hi1 := hi) (hl1 := hl) rfl ?_ (fun _ _ _ => rfl)
  refine EX.iconst (v := 4) rfl rfl ?_
  refine EX.go (i := .imul) (len := 1) (pc1 := 14) (st1 := [.int ((((p1 &&& (15)) : Int32) * (4))), .long (hl 41 (Int32.toNatClampNeg ((p1 >>> ((4) &&& 31)))))]) (hi1 := hi) (hl1 := hl) rfl ?_ (fun _ _ _ => rfl)
  refine EX.go (i := .lushr) (len := 1) (pc1 := 15) (st1 := [.long (((Int64.toUInt64 (hl 41 (Int32.toNatClampNeg ((p1 >>> ((4) &&& 31)))) : Int64) >>> ((Int32.toInt64 ((((p1 &&& (15)) : Int32) * (4)))).toUInt64 &&& Int64.toUInt64 63)).toInt64))]) (hi1 := hi) (hl1 := hl) rfl ?_ (fun _ _ _ => rfl)
  refine EX.go (i := .ldc2_w 91) (len := 3) (pc1 := 18) (st1 := [.long (15), .long (((Int64.toUInt64 (hl 41 (Int32.toNatClampNeg ((p1 >>> ((4) &&& 31)))) : Int64) >>> ((Int32.toInt64 ((((p1 &&& (15)) : Int32) * (4)))).toUInt64 &&& Int64.toUInt64 63)).toInt64))]) (hi1 := hi) (hl1 := hl) rfl ?_ (fun _ _ _ => rfl)
  refine EX.go (i := .land) (len := 1) (pc1 := 19) (st1 := [.long (((((Int64.toUInt64 (hl 41 (Int32.toNatClampNeg ((p1 >>> ((4) &&& 31)))) : Int64) >>> ((Int32.toInt64 ((((p1 &&& (15)) : Int32) * (4)))).toUInt64 &&& Int64.toUInt64 63)).toInt64) : Int64) &&& (15)))]) (hi1 := hi) (hl1 := hl) rfl ?_ (fun _ _ _ => rfl)
  refine EX.go (i := .l2i) (len := 1) (pc1 := 20) (st1 := [.int ((Int64.toInt32 (((((Int64.toUInt64 (hl 41 (Int32.toNatClampNeg ((p1 >>> ((4) &&& 31)))) : Int64) >>> ((Int32.toInt64 ((((p1 &&& (15)) : Int32) * (4)))).toUInt64 &&& Int64.toUInt64 63)).toInt64) : Int64) &&& (15)))))]) (hi1 := hi) (hl1 := hl) rfl ?_ (fun _ _ _ => rfl)
  obtain rfl := Option.some.inj h
  exact EX.iret rfl rfl
def f_Integer_lowestOneBit (N : Nat) (p0 : Int32) (hi : HI) (hl : HL) : Option (Int32 × HI × HL) :=
  some ((p0 &&& ((-(p0 : Int32)))), hi, hl)
set_option maxRecDepth 10000 in
set_option maxHeartbeats 4000000 in
theorem b_Integer_lowestOneBit (ev : EV) {N : Nat} {p0 : Int32} {hi : HI} {hl : HL} {o : Int32 × HI × HL} (h : f_Integer_lowestOneBit N p0 hi hl = some o) : EM w0 ev 1 m_Integer_lowestOneBit [.int (p0)] hi hl (oI o) := by
  unfold f_Integer_lowestOneBit at h
  refine EM.of rfl ?_
  show EX w0 ev 0 m_Integer_lowestOneBit 0 [(0, .int (p0))] [] (hi) (hl) (oI o)
  refine EX.iload_n (x := p0) rfl (List.mem_of_getElem? (i := 0) rfl) ?_
  refine EX.iload_n (x := p0) rfl (List.mem_of_getElem? (i := 0) rfl) ?_
  refine EX.go (i := .ineg) (len := 1) (pc1 := 3) (st1 := [.int ((-(p0 : Int32))), .int (p0)]) (hi1 := hi) (hl1 := hl) rfl ?_ (fun _ _ _ => rfl)
  refine EX.go (i := .iand) (len := 1) (pc1 := 4) (st1 := [.int ((p0 &&& ((-(p0 : Int32)))))]) (hi1 := hi) (hl1 := hl) rfl ?_ (fun _ _ _ => rfl)
  obtain rfl := Option.some.inj h
  exact EX.iret rfl rfl
def f_FrameFinder_noteFailed (N : Nat) (p1 : Int32) (p2 : Int32) (hi : HI) (hl : HL) : Option (Unit × HI × HL) :=
  if hi 36 1 = 42 then if ((p1 >>> ((4) &&& 31)) : Int32) < 0 ∨ 4096 ≤ Int32.toNatClampNeg ((p1 >>> ((4) &&& 31))) then none else if hi 36 1 = 42 then if ((p1 >>> ((4) &&& 31)) : Int32) < 0 ∨ 4096 ≤ Int32.toNatClampNeg ((p1 >>> ((4) &&& 31))) then none else some ((), hi, wrL (hl) 41 (Int32.toNatClampNeg ((p1 >>> ((4) &&& 31)))) (((((hl 41 (Int32.toNatClampNeg ((p1 >>> ((4) &&& 31)))) : Int64) &&& (((((15 : Int64) <<< (Int32.toInt64 ((((p1 &&& (15)) : Int32) * (4))) &&& 63)) : Int64) ^^^ ((-1))))) : Int64) ||| ((((Int32.toInt64 (p2)) : Int64) <<< (Int32.toInt64 ((((p1 &&& (15)) : Int32) * (4))) &&& 63)))))) else none else none
set_option maxRecDepth 10000 in
set_option maxHeartbeats 4000000 in
theorem b_FrameFinder_noteFailed (ev : EV) {N : Nat} {p1 : Int32} {p2 : Int32} {hi : HI} {hl : HL} {o : Unit × HI × HL} (h : f_FrameFinder_noteFailed N p1 p2 hi hl = some o) : EM w0 ev 1 m_FrameFinder_noteFailed [.ref 36, .int (p1), .int (p2)] hi hl (oV o) := by
  unfold f_FrameFinder_noteFailed at h
  refine EM.of rfl ?_
  show EX w0 ev 0 m_FrameFinder_noteFailed 0 [(0, .ref 36), (1, .int (p1)), (2, .int (p2))] [] (hi) (hl) (oV o)
  refine EX.iload_n (x := p1) rfl (List.mem_of_getElem? (i := 1) rfl) ?_
  refine EX.bipush (v := 15) rfl rfl ?_
  refine EX.go (i := .iand) (len := 1) (pc1 := 4) (st1 := [.int ((p1 &&& (15)))]) (hi1 := hi) (hl1 := hl) rfl ?_ (fun _ _ _ => rfl)
  refine EX.iconst (v := 4) rfl rfl ?_
  refine EX.go (i := .imul) (len := 1) (pc1 := 6) (st1 := [.int ((((p1 &&& (15)) : Int32) * (4)))]) (hi1 := hi) (hl1 := hl) rfl ?_ (fun _ _ _ => rfl)
  refine EX.istore_n (req1 := [(3, .int ((((p1 &&& (15)) : Int32) * (4)))), (0, .ref 36), (1, .int (p1)), (2, .int (p2))]) rfl rfl rfl ?_
  refine EX.aload_n (x := 36) rfl (List.mem_of_getElem? (i := 1) rfl) ?_
  obtain ⟨g1, h⟩ := grp_some h
  refine EX.getfieldV (v := .ref 41) rfl rfl rfl rfl (fv3 rfl g1) ?_
  refine EX.iload_n (x := p1) rfl (List.mem_of_getElem? (i := 2) rfl) ?_
  refine EX.iconst (v := 4) rfl rfl ?_
  refine EX.go (i := .ishr) (len := 1) (pc1 := 14) (st1 := [.int ((p1 >>> ((4) &&& 31))), .ref 41]) (hi1 := hi) (hl1 := hl) rfl ?_ (fun _ _ _ => rfl)
  obtain ⟨g2, h⟩ := grd_some h
  refine EX.laload rfl rfl g2 ?_
  refine EX.go (i := .ldc2_w 91) (len := 3) (pc1 := 18) (st1 := [.long (15), .long (hl 41 (Int32.toNatClampNeg ((p1 >>> ((4) &&& 31)))))]) (hi1 := hi) (hl1 := hl) rfl ?_ (fun _ _ _ => rfl)
  refine EX.iload_n (x := (((p1 &&& (15)) : Int32) * (4))) rfl (List.mem_of_getElem? (i := 0) rfl) ?_
  refine EX.go (i := .lshl) (len := 1) (pc1 := 20) (st1 := [.long (((15 : Int64) <<< (Int32.toInt64 ((((p1 &&& (15)) : Int32) * (4))) &&& 63))), .long (hl 41 (Int32.toNatClampNeg ((p1 >>> ((4) &&& 31)))))]) (hi1 := hi) (hl1 := hl) rfl ?_ (fun _ _ _ => rfl)
  refine EX.go (i := .ldc2_w 93) (len := 3) (pc1 := 23) (st1 := [.long ((-1)), .long (((15 : Int64) <<< (Int32.toInt64 ((((p1 &&& (15)) : Int32) * (4))) &&& 63))), .long (hl 41 (Int32.toNatClampNeg ((p1 >>> ((4) &&& 31)))))]) (hi1 := hi) (hl1 := hl) rfl ?_ (fun _ _ _ => rfl)
  refine EX.go (i := .lxor) (len := 1) (pc1 := 24) (st1 := [.long (((((15 : Int64) <<< (Int32.toInt64 ((((p1 &&& (15)) : Int32) * (4))) &&& 63)) : Int64) ^^^ ((-1)))), .long (hl 41 (Int32.toNatClampNeg ((p1 >>> ((4) &&& 31)))))]) (hi1 := hi) (hl1 := hl) rfl ?_ (fun _ _ _ => rfl)
  refine EX.go (i := .land) (len := 1) (pc1 := 25) (st1 := [.long (((hl 41 (Int32.toNatClampNeg ((p1 >>> ((4) &&& 31)))) : Int64) &&& (((((15 : Int64) <<< (Int32.toInt64 ((((p1 &&& (15)) : Int32) * (4))) &&& 63)) : Int64) ^^^ ((-1))))))]) (hi1 := hi) (hl1 := hl) rfl ?_ (fun _ _ _ => rfl)
  refine EX.lstore (req1 := [(4, .long (((hl 41 (Int32.toNatClampNeg ((p1 >>> ((4) &&& 31)))) : Int64) &&& (((((15 : Int64) <<< (Int32.toInt64 ((((p1 &&& (15)) : Int32) * (4))) &&& 63)) : Int64) ^^^ ((-1))))))), (3, .int ((((p1 &&& (15)) : Int32) * (4)))), (0, .ref 36), (1, .int (p1)), (2, .int (p2))]) rfl rfl rfl ?_
  refine EX.aload_n (x := 36) rfl (List.mem_of_getElem? (i := 2) rfl) ?_
  obtain ⟨g3, h⟩ := grp_some h
  refine EX.getfieldV (v := .ref 41) rfl rfl rfl rfl (fv3 rfl g3) ?_
  refine EX.iload_n (x := p1) rfl (List.mem_of_getElem? (i := 3) rfl) ?_
  refine EX.iconst (v := 4) rfl rfl ?_
  refine EX.go (i := .ishr) (len := 1) (pc1 := 34) (st1 := [.int ((p1 >>> ((4) &&& 31))), .ref 41]) (hi1 := hi) (hl1 := hl) rfl ?_ (fun _ _ _ => rfl)
  refine EX.lload (x := ((hl 41 (Int32.toNatClampNeg ((p1 >>> ((4) &&& 31)))) : Int64) &&& (((((15 : Int64) <<< (Int32.toInt64 ((((p1 &&& (15)) : Int32) * (4))) &&& 63)) : Int64) ^^^ ((-1)))))) rfl (List.mem_of_getElem? (i := 0) rfl) ?_
  refine EX.iload_n (x := p2) rfl (List.mem_of_getElem? (i := 4) rfl) ?_
  refine EX.go (i := .i2l) (len := 1) (pc1 := 38) (st1 := [.long ((Int32.toInt64 (p2))), .long (((hl 41 (Int32.toNatClampNeg ((p1 >>> ((4) &&& 31)))) : Int64) &&& (((((15 : Int64) <<< (Int32.toInt64 ((((p1 &&& (15)) : Int32) * (4))) &&& 63)) : Int64) ^^^ ((-1)))))), .int ((p1 >>> ((4) &&& 31))), .ref 41]) (hi1 := hi) (hl1 := hl) rfl ?_ (fun _ _ _ => rfl)
  refine EX.iload_n (x := (((p1 &&& (15)) : Int32) * (4))) rfl (List.mem_of_getElem? (i := 1) rfl) ?_
  refine EX.go (i := .lshl) (len := 1) (pc1 := 40) (st1 := [.long ((((Int32.toInt64 (p2)) : Int64) <<< (Int32.toInt64 ((((p1 &&& (15)) : Int32) * (4))) &&& 63))), .long (((hl 41 (Int32.toNatClampNeg ((p1 >>> ((4) &&& 31)))) : Int64) &&& (((((15 : Int64) <<< (Int32.toInt64 ((((p1 &&& (15)) : Int32) * (4))) &&& 63)) : Int64) ^^^ ((-1)))))), .int ((p1 >>> ((4) &&& 31))), .ref 41]) (hi1 := hi) (hl1 := hl) rfl ?_ (fun _ _ _ => rfl)
  refine EX.go (i := .lor) (len := 1) (pc1 := 41) (st1 := [.long (((((hl 41 (Int32.toNatClampNeg ((p1 >>> ((4) &&& 31)))) : Int64) &&& (((((15 : Int64) <<< (Int32.toInt64 ((((p1 &&& (15)) : Int32) * (4))) &&& 63)) : Int64) ^^^ ((-1))))) : Int64) ||| ((((Int32.toInt64 (p2)) : Int64) <<< (Int32.toInt64 ((((p1 &&& (15)) : Int32) * (4))) &&& 63))))), .int ((p1 >>> ((4) &&& 31))), .ref 41]) (hi1 := hi) (hl1 := hl) rfl ?_ (fun _ _ _ => rfl)
  obtain ⟨g4, h⟩ := grd_some h
  refine EX.lastore rfl rfl g4 ?_
  obtain rfl := Option.some.inj h
  exact EX.vret rfl rfl
def J_FrameFinder_reaches_95 (N : Nat) (rc : Int32 → Int32 → HI → HL → Option (Int32 × HI × HL)) (v1 : Int32) (v2 : Int32) (v4 : Int32) (v5 : Int32) (hi : HI) (hl : HL) : Option ((Int32 × HI × HL) ⊕ (Nat × HI × HL)) :=
  some (.inl (v5 + 1, hi, hl))
set_option maxRecDepth 10000 in
set_option maxHeartbeats 4000000 in
theorem bJ_FrameFinder_reaches_95 (ev : EV) {rc : Int32 → Int32 → HI → HL → Option (Int32 × HI × HL)} {dr : Nat} (hdr : 2 ≤ dr) (hrc : ∀ a b hi hl o, rc a b hi hl = some o → EM w0 ev dr m_FrameFinder_reaches [.ref 36, .int a, .int b] hi hl (oI o)) {N : Nat} {v1 : Int32} {v2 : Int32} {v4 : Int32} {v5 : Int32} {hi : HI} {hl : HL} {z : (Int32 × HI × HL) ⊕ (Nat × HI × HL)} {OUT : Option Value × HI × HL} (h : J_FrameFinder_reaches_95 N rc v1 v2 v4 v5 hi hl = some z) (hk : Sum.elim (fun s => EX w0 ev dr m_FrameFinder_reaches 52 [(0, .ref 36), (1, .int (v1)), (2, .int (v2)), (4, .int (v4)), (5, .int (s.1))] [] (s.2.1) (s.2.2) OUT) (fun x => (x.1 = 0 → EX w0 ev dr m_FrameFinder_reaches 101 [(0, .ref 36), (1, .int (v1)), (2, .int (v2))] [] (x.2.1) (x.2.2) OUT) ∧ (x.1 = 1 → EX w0 ev dr m_FrameFinder_reaches 93 [] [] (x.2.1) (x.2.2) OUT)) z) : EX w0 ev dr m_FrameFinder_reaches 95 [(0, .ref 36), (1, .int (v1)), (2, .int (v2)), (4, .int (v4)), (5, .int (v5))] [] (hi) (hl) OUT := by
  unfold J_FrameFinder_reaches_95 at h
  refine EX.iinc (x := v5) (v := v5 + 1) (req1 := [(5, .int (v5 + 1)), (0, .ref 36), (1, .int (v1)), (2, .int (v2)), (4, .int (v4))]) rfl rfl (List.mem_of_getElem? (i := 4) rfl) rfl rfl ?_
  refine EX.go (i := .goto (-46)) (len := 3) (pc1 := 52) (st1 := []) (hi1 := hi) (hl1 := hl) rfl ?_ (fun _ _ _ => rfl)
  obtain rfl := Option.some.inj h
  have hk : EX w0 ev dr m_FrameFinder_reaches 52 [(0, .ref 36), (1, .int (v1)), (2, .int (v2)), (4, .int (v4)), (5, .int (v5 + 1))] [] (hi) (hl) OUT := hk
  exact EX.pick [1, 2, 3, 4, 0] hk rfl
def B_FrameFinder_reaches_52 (N : Nat) (rc : Int32 → Int32 → HI → HL → Option (Int32 × HI × HL)) (v1 : Int32) (v2 : Int32) (v4 : Int32) (v5 : Int32) (hi : HI) (hl : HL) : Option ((Int32 × HI × HL) ⊕ (Nat × HI × HL)) :=
  if (hi 36 2 : Int32) ≤ (v5 : Int32) then some (.inr (0, hi, hl)) else if (v5 : Int32) < 0 ∨ 729 ≤ Int32.toNatClampNeg (v5) then none else if (((hi 37 (Int32.toNatClampNeg (v5)) : Int32) &&& v4) : Int32) = 0 then J_FrameFinder_reaches_95 N rc (v1) (v2) (v4) (v5) (hi) (hl) else if (v5 : Int32) < 0 ∨ 729 ≤ Int32.toNatClampNeg (v5) then none else (rc ((v1 ||| (hi 37 (Int32.toNatClampNeg (v5))))) ((v2 - (1))) (hi) (hl)).bind fun z12 => if (z12.1 : Int32) = 0 then J_FrameFinder_reaches_95 N rc (v1) (v2) (v4) (v5) (z12.2.1) (z12.2.2) else some (.inr (1, z12.2.1, z12.2.2))
set_option maxRecDepth 10000 in
set_option maxHeartbeats 4000000 in
theorem bB_FrameFinder_reaches_52 (ev : EV) {rc : Int32 → Int32 → HI → HL → Option (Int32 × HI × HL)} {dr : Nat} (hdr : 2 ≤ dr) (hrc : ∀ a b hi hl o, rc a b hi hl = some o → EM w0 ev dr m_FrameFinder_reaches [.ref 36, .int a, .int b] hi hl (oI o)) {N : Nat} {v1 : Int32} {v2 : Int32} {v4 : Int32} {v5 : Int32} {hi : HI} {hl : HL} {z : (Int32 × HI × HL) ⊕ (Nat × HI × HL)} {OUT : Option Value × HI × HL} (h : B_FrameFinder_reaches_52 N rc v1 v2 v4 v5 hi hl = some z) (hk : Sum.elim (fun s => EX w0 ev dr m_FrameFinder_reaches 52 [(0, .ref 36), (1, .int (v1)), (2, .int (v2)), (4, .int (v4)), (5, .int (s.1))] [] (s.2.1) (s.2.2) OUT) (fun x => (x.1 = 0 → EX w0 ev dr m_FrameFinder_reaches 101 [(0, .ref 36), (1, .int (v1)), (2, .int (v2))] [] (x.2.1) (x.2.2) OUT) ∧ (x.1 = 1 → EX w0 ev dr m_FrameFinder_reaches 93 [] [] (x.2.1) (x.2.2) OUT)) z) : EX w0 ev dr m_FrameFinder_reaches 52 [(0, .ref 36), (1, .int (v1)), (2, .int (v2)), (4, .int (v4)), (5, .int (v5))] [] (hi) (hl) OUT := by
  unfold B_FrameFinder_reaches_52 at h
  refine EX.iload (x := v5) rfl (List.mem_of_getElem? (i := 4) rfl) ?_
  refine EX.aload_n (x := 36) rfl (List.mem_of_getElem? (i := 0) rfl) ?_
  refine EX.go (i := .getfield 51) (len := 3) (pc1 := 58) (st1 := [.int (hi 36 2), .int (v5)]) (hi1 := hi) (hl1 := hl) rfl ?_ (fun _ _ _ => rfl)
  rcases ite_some h with ⟨c8, h⟩ | ⟨c8, h⟩
  · refine EX.go (i := .if_icmp .ge 43) (len := 3) (pc1 := 101) (st1 := []) (hi1 := hi) (hl1 := hl) rfl ?_ (fun _ _ _ => if_pos c8)
    obtain rfl := Option.some.inj h
    have hk := hk.1 rfl
    have hk : EX w0 ev dr m_FrameFinder_reaches 101 [(0, .ref 36), (1, .int (v1)), (2, .int (v2))] [] (hi) (hl) OUT := hk
    exact EX.pick [0, 1, 2] hk rfl
  · refine EX.go (i := .if_icmp .ge 43) (len := 3) (pc1 := 61) (st1 := []) (hi1 := hi) (hl1 := hl) rfl ?_ (fun _ _ _ => if_neg c8)
    refine EX.aload_n (x := 36) rfl (List.mem_of_getElem? (i := 0) rfl) ?_
    refine EX.go (i := .getfield 9) (len := 3) (pc1 := 65) (st1 := [.ref 37]) (hi1 := hi) (hl1 := hl) rfl ?_ (fun _ _ _ => rfl)
    refine EX.iload (x := v5) rfl (List.mem_of_getElem? (i := 4) rfl) ?_
    obtain ⟨g9, h⟩ := grd_some h
    refine EX.iaload rfl rfl g9 ?_
    refine EX.iload (x := v4) rfl (List.mem_of_getElem? (i := 3) rfl) ?_
    refine EX.go (i := .iand) (len := 1) (pc1 := 71) (st1 := [.int (((hi 37 (Int32.toNatClampNeg (v5)) : Int32) &&& v4))]) (hi1 := hi) (hl1 := hl) rfl ?_ (fun _ _ _ => rfl)
    rcases ite_some h with ⟨c10, h⟩ | ⟨c10, h⟩
    · refine EX.go (i := .ifCond .eq 24) (len := 3) (pc1 := 95) (st1 := []) (hi1 := hi) (hl1 := hl) rfl ?_ (fun _ _ _ => if_pos c10)
      refine EX.pick [0, 1, 2, 3, 4] ?_ rfl
      exact bJ_FrameFinder_reaches_95 ev hdr hrc h hk
    · refine EX.go (i := .ifCond .eq 24) (len := 3) (pc1 := 74) (st1 := []) (hi1 := hi) (hl1 := hl) rfl ?_ (fun _ _ _ => if_neg c10)
      refine EX.aload_n (x := 36) rfl (List.mem_of_getElem? (i := 0) rfl) ?_
      refine EX.iload_n (x := v1) rfl (List.mem_of_getElem? (i := 1) rfl) ?_
      refine EX.aload_n (x := 36) rfl (List.mem_of_getElem? (i := 0) rfl) ?_
      refine EX.go (i := .getfield 9) (len := 3) (pc1 := 80) (st1 := [.ref 37, .int (v1), .ref 36]) (hi1 := hi) (hl1 := hl) rfl ?_ (fun _ _ _ => rfl)
      refine EX.iload (x := v5) rfl (List.mem_of_getElem? (i := 4) rfl) ?_
      obtain ⟨g11, h⟩ := grd_some h
      refine EX.iaload rfl rfl g11 ?_
      refine EX.go (i := .ior) (len := 1) (pc1 := 84) (st1 := [.int ((v1 ||| (hi 37 (Int32.toNatClampNeg (v5))))), .ref 36]) (hi1 := hi) (hl1 := hl) rfl ?_ (fun _ _ _ => rfl)
      refine EX.iload_n (x := v2) rfl (List.mem_of_getElem? (i := 2) rfl) ?_
      refine EX.iconst (v := 1) rfl rfl ?_
      refine EX.go (i := .isub) (len := 1) (pc1 := 87) (st1 := [.int ((v2 - (1))), .int ((v1 ||| (hi 37 (Int32.toNatClampNeg (v5))))), .ref 36]) (hi1 := hi) (hl1 := hl) rfl ?_ (fun _ _ _ => rfl)
      obtain ⟨z12, hz12, h⟩ := bnd_some h
      refine EX.callV (b := 36) (as := [.int ((v1 ||| (hi 37 (Int32.toNatClampNeg (v5))))), .int ((v2 - (1)))]) (rest := []) (r := some (.int (z12.1))) (hi1 := z12.2.1) (hl1 := z12.2.2) rfl rfl rfl rfl rfl rfl (hrc _ _ _ _ _ hz12) ?_
      show EX w0 ev dr m_FrameFinder_reaches 90 [(0, .ref 36), (1, .int (v1)), (2, .int (v2)), (4, .int (v4)), (5, .int (v5))] [.int (z12.1)] (z12.2.1) (z12.2.2) OUT
      rcases ite_some h with ⟨c13, h⟩ | ⟨c13, h⟩
      · refine EX.go (i := .ifCond .eq 5) (len := 3) (pc1 := 95) (st1 := []) (hi1 := z12.2.1) (hl1 := z12.2.2) rfl ?_ (fun _ _ _ => if_pos c13)
        refine EX.pick [0, 1, 2, 3, 4] ?_ rfl
        exact bJ_FrameFinder_reaches_95 ev hdr hrc h hk
      · refine EX.go (i := .ifCond .eq 5) (len := 3) (pc1 := 93) (st1 := []) (hi1 := z12.2.1) (hl1 := z12.2.2) rfl ?_ (fun _ _ _ => if_neg c13)
        obtain rfl := Option.some.inj h
        have hk := hk.2 rfl
        have hk : EX w0 ev dr m_FrameFinder_reaches 93 [] [] (z12.2.1) (z12.2.2) OUT := hk
        exact EX.pick [] hk rfl
def g_FrameFinder_reaches (N : Nat) (rc : Int32 → Int32 → HI → HL → Option (Int32 × HI × HL)) (p1 : Int32) (p2 : Int32) (hi : HI) (hl : HL) : Option (Int32 × HI × HL) :=
  if (((hi 36 0 : Int32) &&& ((p1 ^^^ ((-1))))) : Int32) = 0 then some (1, hi, hl) else if (p2 : Int32) ≤ 0 then some (0, hi, hl) else (f_Integer_bitCount N (((hi 36 0 : Int32) &&& ((p1 ^^^ ((-1)))))) (hi) (hl)).bind fun z3 => if ((p2 * (z3.2.1 36 4)) : Int32) < (z3.1 : Int32) then some (0, z3.2.1, z3.2.2) else (f_FrameFinder_failedWith N (p1) (z3.2.1) (z3.2.2)).bind fun z5 => if (z5.1 : Int32) < (p2 : Int32) then (f_Integer_lowestOneBit N (((hi 36 0 : Int32) &&& ((p1 ^^^ ((-1)))))) (z5.2.1) (z5.2.2)).bind fun z7 => (lpN (fun s => B_FrameFinder_reaches_52 N rc (p1) (p2) (z7.1) s.1 s.2.1 s.2.2) N (0, z7.2.1, z7.2.2)).bind fun x14 => if x14.1 = 0 then (f_FrameFinder_noteFailed N (p1) (p2) (x14.2.1) (x14.2.2)).bind fun z16 => some (0, z16.2.1, z16.2.2) else some (1, x14.2.1, x14.2.2) else some (0, z5.2.1, z5.2.2)
set_option maxRecDepth 10000 in
set_option maxHeartbeats 4000000 in
theorem bg_FrameFinder_reaches (ev : EV) {rc : Int32 → Int32 → HI → HL → Option (Int32 × HI × HL)} {dr : Nat} (hdr : 2 ≤ dr) (hrc : ∀ a b hi hl o, rc a b hi hl = some o → EM w0 ev dr m_FrameFinder_reaches [.ref 36, .int a, .int b] hi hl (oI o)) {N : Nat} {p1 : Int32} {p2 : Int32} {hi : HI} {hl : HL} {o : Int32 × HI × HL} (h : g_FrameFinder_reaches N rc p1 p2 hi hl = some o) : EX w0 ev dr m_FrameFinder_reaches 0 [(0, .ref 36), (1, .int (p1)), (2, .int (p2))] [] (hi) (hl) (oI o) := by
  unfold g_FrameFinder_reaches at h
  refine EX.aload_n (x := 36) rfl (List.mem_of_getElem? (i := 0) rfl) ?_
  refine EX.go (i := .getfield 15) (len := 3) (pc1 := 4) (st1 := [.int (hi 36 0)]) (hi1 := hi) (hl1 := hl) rfl ?_ (fun _ _ _ => rfl)
  refine EX.iload_n (x := p1) rfl (List.mem_of_getElem? (i := 1) rfl) ?_
  refine EX.iconst (v := (-1)) rfl rfl ?_
  refine EX.go (i := .ixor) (len := 1) (pc1 := 7) (st1 := [.int ((p1 ^^^ ((-1)))), .int (hi 36 0)]) (hi1 := hi) (hl1 := hl) rfl ?_ (fun _ _ _ => rfl)
  refine EX.go (i := .iand) (len := 1) (pc1 := 8) (st1 := [.int (((hi 36 0 : Int32) &&& ((p1 ^^^ ((-1))))))]) (hi1 := hi) (hl1 := hl) rfl ?_ (fun _ _ _ => rfl)
  refine EX.istore_n (req1 := [(3, .int (((hi 36 0 : Int32) &&& ((p1 ^^^ ((-1))))))), (0, .ref 36), (1, .int (p1)), (2, .int (p2))]) rfl rfl rfl ?_
  refine EX.iload_n (x := ((hi 36 0 : Int32) &&& ((p1 ^^^ ((-1)))))) rfl (List.mem_of_getElem? (i := 0) rfl) ?_
  rcases ite_some h with ⟨c1, h⟩ | ⟨c1, h⟩
  · refine EX.go (i := .ifCond .ne 5) (len := 3) (pc1 := 13) (st1 := []) (hi1 := hi) (hl1 := hl) rfl ?_ (fun _ _ _ => if_pos c1)
    refine EX.iconst (v := 1) rfl rfl ?_
    obtain rfl := Option.some.inj h
    exact EX.zret rfl rfl (Or.inr rfl)
  · refine EX.go (i := .ifCond .ne 5) (len := 3) (pc1 := 15) (st1 := []) (hi1 := hi) (hl1 := hl) rfl ?_ (fun _ _ _ => if_neg c1)
    refine EX.iload_n (x := p2) rfl (List.mem_of_getElem? (i := 3) rfl) ?_
    rcases ite_some h with ⟨c2, h⟩ | ⟨c2, h⟩
    · refine EX.go (i := .ifCond .le 25) (len := 3) (pc1 := 41) (st1 := []) (hi1 := hi) (hl1 := hl) rfl ?_ (fun _ _ _ => if_pos c2)
      refine EX.iconst (v := 0) rfl rfl ?_
      obtain rfl := Option.some.inj h
      exact EX.zret rfl rfl (Or.inl rfl)
    · refine EX.go (i := .ifCond .le 25) (len := 3) (pc1 := 19) (st1 := []) (hi1 := hi) (hl1 := hl) rfl ?_ (fun _ _ _ => if_neg c2)
      refine EX.iload_n (x := ((hi 36 0 : Int32) &&& ((p1 ^^^ ((-1)))))) rfl (List.mem_of_getElem? (i := 0) rfl) ?_
      obtain ⟨z3, hz3, h⟩ := bnd_some h
      refine EX.callS (as := [.int (((hi 36 0 : Int32) &&& ((p1 ^^^ ((-1))))))]) (rest := []) (r := some (.int (z3.1))) (hi1 := z3.2.1) (hl1 := z3.2.2) rfl rfl rfl rfl rfl rfl ((b_Integer_bitCount ev hz3).mono (by omega)) ?_
      show EX w0 ev dr m_FrameFinder_reaches 23 [(3, .int (((hi 36 0 : Int32) &&& ((p1 ^^^ ((-1))))))), (0, .ref 36), (1, .int (p1)), (2, .int (p2))] [.int (z3.1)] (z3.2.1) (z3.2.2) (oI o)
      refine EX.iload_n (x := p2) rfl (List.mem_of_getElem? (i := 3) rfl) ?_
      refine EX.aload_n (x := 36) rfl (List.mem_of_getElem? (i := 1) rfl) ?_
      refine EX.go (i := .getfield 54) (len := 3) (pc1 := 28) (st1 := [.int (z3.2.1 36 4), .int (p2), .int (z3.1)]) (hi1 := z3.2.1) (hl1 := z3.2.2) rfl ?_ (fun _ _ _ => rfl)
      refine EX.go (i := .imul) (len := 1) (pc1 := 29) (st1 := [.int ((p2 * (z3.2.1 36 4))), .int (z3.1)]) (hi1 := z3.2.1) (hl1 := z3.2.2) rfl ?_ (fun _ _ _ => rfl)
      rcases ite_some h with ⟨c4, h⟩ | ⟨c4, h⟩
      · refine EX.go (i := .if_icmp .gt 12) (len := 3) (pc1 := 41) (st1 := []) (hi1 := z3.2.1) (hl1 := z3.2.2) rfl ?_ (fun _ _ _ => if_pos c4)
        refine EX.iconst (v := 0) rfl rfl ?_
        obtain rfl := Option.some.inj h
        exact EX.zret rfl rfl (Or.inl rfl)
      · refine EX.go (i := .if_icmp .gt 12) (len := 3) (pc1 := 32) (st1 := []) (hi1 := z3.2.1) (hl1 := z3.2.2) rfl ?_ (fun _ _ _ => if_neg c4)
        refine EX.iload_n (x := p2) rfl (List.mem_of_getElem? (i := 3) rfl) ?_
        refine EX.aload_n (x := 36) rfl (List.mem_of_getElem? (i := 1) rfl) ?_
        refine EX.iload_n (x := p1) rfl (List.mem_of_getElem? (i := 2) rfl) ?_
        obtain ⟨z5, hz5, h⟩ := bnd_some h
        refine EX.callV (b := 36) (as := [.int (p1)]) (rest := [.int (p2)]) (r := some (.int (z5.1))) (hi1 := z5.2.1) (hl1 := z5.2.2) rfl rfl rfl rfl rfl rfl ((b_FrameFinder_failedWith ev hz5).mono (by omega)) ?_
        show EX w0 ev dr m_FrameFinder_reaches 38 [(3, .int (((hi 36 0 : Int32) &&& ((p1 ^^^ ((-1))))))), (0, .ref 36), (1, .int (p1)), (2, .int (p2))] [.int (z5.1), .int (p2)] (z5.2.1) (z5.2.2) (oI o)
        rcases ite_some h with ⟨c6, h⟩ | ⟨c6, h⟩
        · refine EX.go (i := .if_icmp .gt 5) (len := 3) (pc1 := 43) (st1 := []) (hi1 := z5.2.1) (hl1 := z5.2.2) rfl ?_ (fun _ _ _ => if_pos c6)
          refine EX.iload_n (x := ((hi 36 0 : Int32) &&& ((p1 ^^^ ((-1)))))) rfl (List.mem_of_getElem? (i := 0) rfl) ?_
          obtain ⟨z7, hz7, h⟩ := bnd_some h
          refine EX.callS (as := [.int (((hi 36 0 : Int32) &&& ((p1 ^^^ ((-1))))))]) (rest := []) (r := some (.int (z7.1))) (hi1 := z7.2.1) (hl1 := z7.2.2) rfl rfl rfl rfl rfl rfl ((b_Integer_lowestOneBit ev hz7).mono (by omega)) ?_
          show EX w0 ev dr m_FrameFinder_reaches 47 [(3, .int (((hi 36 0 : Int32) &&& ((p1 ^^^ ((-1))))))), (0, .ref 36), (1, .int (p1)), (2, .int (p2))] [.int (z7.1)] (z7.2.1) (z7.2.2) (oI o)
          refine EX.istore (req1 := [(4, .int (z7.1)), (3, .int (((hi 36 0 : Int32) &&& ((p1 ^^^ ((-1))))))), (0, .ref 36), (1, .int (p1)), (2, .int (p2))]) rfl rfl rfl ?_
          refine EX.iconst (v := 0) rfl rfl ?_
          refine EX.istore (req1 := [(5, .int (0)), (4, .int (z7.1)), (3, .int (((hi 36 0 : Int32) &&& ((p1 ^^^ ((-1))))))), (0, .ref 36), (1, .int (p1)), (2, .int (p2))]) rfl rfl rfl ?_
          obtain ⟨x14, hx14, h⟩ := bnd_some h
          refine EX.pick [3, 4, 5, 1, 0] ?_ rfl
          refine lp_sound (f := fun s => B_FrameFinder_reaches_52 N rc (p1) (p2) (z7.1) s.1 s.2.1 s.2.2) (PS := fun s => EX w0 ev dr m_FrameFinder_reaches 52 [(0, .ref 36), (1, .int (p1)), (2, .int (p2)), (4, .int (z7.1)), (5, .int (s.1))] [] (s.2.1) (s.2.2) (oI o)) (PX := fun x => (x.1 = 0 → EX w0 ev dr m_FrameFinder_reaches 101 [(0, .ref 36), (1, .int (p1)), (2, .int (p2))] [] (x.2.1) (x.2.2) (oI o)) ∧ (x.1 = 1 → EX w0 ev dr m_FrameFinder_reaches 93 [] [] (x.2.1) (x.2.2) (oI o))) ?_ N _ x14 hx14 ?_
          · exact fun s z hz hk => bB_FrameFinder_reaches_52 ev hdr hrc hz hk
          rcases ite_some h with ⟨c15, h⟩ | ⟨c15, h⟩
          · refine ⟨fun _ => ?_, fun e9 => absurd (c15.symm.trans e9) (by decide)⟩
            show EX w0 ev dr m_FrameFinder_reaches 101 [(0, .ref 36), (1, .int (p1)), (2, .int (p2))] [] (x14.2.1) (x14.2.2) (oI o)
            refine EX.aload_n (x := 36) rfl (List.mem_of_getElem? (i := 0) rfl) ?_
            refine EX.iload_n (x := p1) rfl (List.mem_of_getElem? (i := 1) rfl) ?_
            refine EX.iload_n (x := p2) rfl (List.mem_of_getElem? (i := 2) rfl) ?_
            obtain ⟨z16, hz16, h⟩ := bnd_some h
            refine EX.callV (b := 36) (as := [.int (p1), .int (p2)]) (rest := []) (r := none) (hi1 := z16.2.1) (hl1 := z16.2.2) rfl rfl rfl rfl rfl rfl ((b_FrameFinder_noteFailed ev hz16).mono (by omega)) ?_
            show EX w0 ev dr m_FrameFinder_reaches 107 [(0, .ref 36), (1, .int (p1)), (2, .int (p2))] [] (z16.2.1) (z16.2.2) (oI o)
            refine EX.iconst (v := 0) rfl rfl ?_
            obtain rfl := Option.some.inj h
            exact EX.zret rfl rfl (Or.inl rfl)
          · refine ⟨fun e9 => absurd e9 c15, fun _ => ?_⟩
            show EX w0 ev dr m_FrameFinder_reaches 93 [] [] (x14.2.1) (x14.2.2) (oI o)
            refine EX.iconst (v := 1) rfl rfl ?_
            obtain rfl := Option.some.inj h
            exact EX.zret rfl rfl (Or.inr rfl)
        · refine EX.go (i := .if_icmp .gt 5) (len := 3) (pc1 := 41) (st1 := []) (hi1 := z5.2.1) (hl1 := z5.2.2) rfl ?_ (fun _ _ _ => if_neg c6)
          refine EX.iconst (v := 0) rfl rfl ?_
          obtain rfl := Option.some.inj h
          exact EX.zret rfl rfl (Or.inl rfl)
def f_FrameFinder_reaches (N : Nat) : Nat → Int32 → Int32 → HI → HL → Option (Int32 × HI × HL)
  | 0, _, _, _, _ => none
  | d + 1, a, b, hi, hl => g_FrameFinder_reaches N (f_FrameFinder_reaches N d) a b hi hl
theorem bb_FrameFinder_reaches (ev : EV) {N : Nat} : ∀ (d : Nat) {a b : Int32} {hi : HI} {hl : HL} {o : Int32 × HI × HL}, f_FrameFinder_reaches N d a b hi hl = some o → EM w0 ev (d + 3) m_FrameFinder_reaches [.ref 36, .int a, .int b] hi hl (oI o)
  | 0, _, _, _, _, _, h => by cases h
  | d + 1, _, _, _, _, _, h => EM.of rfl (bg_FrameFinder_reaches ev (dr := d + 3) (by omega) (fun _ _ _ _ _ k => bb_FrameFinder_reaches ev d k) h)
theorem b_FrameFinder_reaches (ev : EV) {N : Nat} {a b : Int32} {hi : HI} {hl : HL} {o : Int32 × HI × HL} (h : f_FrameFinder_reaches N 20 a b hi hl = some o) : EM w0 ev 23 m_FrameFinder_reaches [.ref 36, .int a, .int b] hi hl (oI o) := bb_FrameFinder_reaches ev 20 h
def J_FrameFinder_choose_69 (N : Nat) (v2 : Int32) (v3 : Int32) (v4 : Int32) (v5 : Int32) (hi : HI) (hl : HL) : Option ((Int32 × HI × HL) ⊕ (Nat × Int32 × HI × HL)) :=
  some (.inl (v5 + 1, hi, hl))
set_option maxRecDepth 10000 in
set_option maxHeartbeats 4000000 in
theorem bJ_FrameFinder_choose_69 (ev : EV) {N : Nat} {v2 : Int32} {v3 : Int32} {v4 : Int32} {v5 : Int32} {hi : HI} {hl : HL} {z : (Int32 × HI × HL) ⊕ (Nat × Int32 × HI × HL)} {OUT : Option Value × HI × HL} (h : J_FrameFinder_choose_69 N v2 v3 v4 v5 hi hl = some z) (hk : Sum.elim (fun s => EX w0 ev 23 m_FrameFinder_choose 16 [(0, .ref 36), (1, .ref 12), (2, .int (v2)), (3, .int (v3)), (4, .int (v4)), (5, .int (s.1))] [] (s.2.1) (s.2.2) OUT) (fun x => (x.1 = 0 → EX w0 ev 23 m_FrameFinder_choose 75 [] [] (x.2.2.1) (x.2.2.2) OUT) ∧ (x.1 = 1 → EX w0 ev 23 m_FrameFinder_choose 66 [(5, .int (x.2.1))] [] (x.2.2.1) (x.2.2.2) OUT)) z) : EX w0 ev 23 m_FrameFinder_choose 69 [(0, .ref 36), (1, .ref 12), (2, .int (v2)), (3, .int (v3)), (4, .int (v4)), (5, .int (v5))] [] (hi) (hl) OUT := by
  unfold J_FrameFinder_choose_69 at h
  refine EX.iinc (x := v5) (v := v5 + 1) (req1 := [(5, .int (v5 + 1)), (0, .ref 36), (1, .ref 12), (2, .int (v2)), (3, .int (v3)), (4, .int (v4))]) rfl rfl (List.mem_of_getElem? (i := 5) rfl) rfl rfl ?_
  refine EX.go (i := .goto (-56)) (len := 3) (pc1 := 16) (st1 := []) (hi1 := hi) (hl1 := hl) rfl ?_ (fun _ _ _ => rfl)
  obtain rfl := Option.some.inj h
  have hk : EX w0 ev 23 m_FrameFinder_choose 16 [(0, .ref 36), (1, .ref 12), (2, .int (v2)), (3, .int (v3)), (4, .int (v4)), (5, .int (v5 + 1))] [] (hi) (hl) OUT := hk
  exact EX.pick [1, 2, 3, 4, 5, 0] hk rfl
def B_FrameFinder_choose_16 (N : Nat) (v2 : Int32) (v3 : Int32) (v4 : Int32) (v5 : Int32) (hi : HI) (hl : HL) : Option ((Int32 × HI × HL) ⊕ (Nat × Int32 × HI × HL)) :=
  if (hi 12 7 : Int32) ≤ (v5 : Int32) then some (.inr (0, v5, hi, hl)) else if (v5 : Int32) < 0 ∨ 729 ≤ Int32.toNatClampNeg (v5) then none else if (((hi 15 (Int32.toNatClampNeg (v5)) : Int32) &&& v4) : Int32) = 0 then J_FrameFinder_choose_69 N (v2) (v3) (v4) (v5) (hi) (hl) else if (((hi 15 (Int32.toNatClampNeg (v5)) : Int32) &&& (((hi 36 0 : Int32) ^^^ ((-1))))) : Int32) = 0 then (f_FrameFinder_reaches N 20 ((v2 ||| (hi 15 (Int32.toNatClampNeg (v5))))) (v3) (hi) (hl)).bind fun z6 => if (z6.1 : Int32) = 0 then J_FrameFinder_choose_69 N (v2) (v3) (v4) (v5) (z6.2.1) (z6.2.2) else some (.inr (1, v5, z6.2.1, z6.2.2)) else J_FrameFinder_choose_69 N (v2) (v3) (v4) (v5) (hi) (hl)
set_option maxRecDepth 10000 in
set_option maxHeartbeats 4000000 in
theorem bB_FrameFinder_choose_16 (ev : EV) {N : Nat} {v2 : Int32} {v3 : Int32} {v4 : Int32} {v5 : Int32} {hi : HI} {hl : HL} {z : (Int32 × HI × HL) ⊕ (Nat × Int32 × HI × HL)} {OUT : Option Value × HI × HL} (h : B_FrameFinder_choose_16 N v2 v3 v4 v5 hi hl = some z) (hk : Sum.elim (fun s => EX w0 ev 23 m_FrameFinder_choose 16 [(0, .ref 36), (1, .ref 12), (2, .int (v2)), (3, .int (v3)), (4, .int (v4)), (5, .int (s.1))] [] (s.2.1) (s.2.2) OUT) (fun x => (x.1 = 0 → EX w0 ev 23 m_FrameFinder_choose 75 [] [] (x.2.2.1) (x.2.2.2) OUT) ∧ (x.1 = 1 → EX w0 ev 23 m_FrameFinder_choose 66 [(5, .int (x.2.1))] [] (x.2.2.1) (x.2.2.2) OUT)) z) : EX w0 ev 23 m_FrameFinder_choose 16 [(0, .ref 36), (1, .ref 12), (2, .int (v2)), (3, .int (v3)), (4, .int (v4)), (5, .int (v5))] [] (hi) (hl) OUT := by
  unfold B_FrameFinder_choose_16 at h
  refine EX.iload (x := v5) rfl (List.mem_of_getElem? (i := 5) rfl) ?_
  refine EX.aload_n (x := 12) rfl (List.mem_of_getElem? (i := 1) rfl) ?_
  refine EX.go (i := .getfield 57) (len := 3) (pc1 := 22) (st1 := [.int (hi 12 7), .int (v5)]) (hi1 := hi) (hl1 := hl) rfl ?_ (fun _ _ _ => rfl)
  rcases ite_some h with ⟨c2, h⟩ | ⟨c2, h⟩
  · refine EX.go (i := .if_icmp .ge 53) (len := 3) (pc1 := 75) (st1 := []) (hi1 := hi) (hl1 := hl) rfl ?_ (fun _ _ _ => if_pos c2)
    obtain rfl := Option.some.inj h
    have hk := hk.1 rfl
    have hk : EX w0 ev 23 m_FrameFinder_choose 75 [] [] (hi) (hl) OUT := hk
    exact EX.pick [] hk rfl
  · refine EX.go (i := .if_icmp .ge 53) (len := 3) (pc1 := 25) (st1 := []) (hi1 := hi) (hl1 := hl) rfl ?_ (fun _ _ _ => if_neg c2)
    refine EX.aload_n (x := 12) rfl (List.mem_of_getElem? (i := 1) rfl) ?_
    refine EX.go (i := .getfield 62) (len := 3) (pc1 := 29) (st1 := [.ref 15]) (hi1 := hi) (hl1 := hl) rfl ?_ (fun _ _ _ => rfl)
    refine EX.iload (x := v5) rfl (List.mem_of_getElem? (i := 5) rfl) ?_
    obtain ⟨g3, h⟩ := grd_some h
    refine EX.iaload rfl rfl g3 ?_
    refine EX.istore (req1 := [(6, .int (hi 15 (Int32.toNatClampNeg (v5)))), (0, .ref 36), (1, .ref 12), (2, .int (v2)), (3, .int (v3)), (4, .int (v4)), (5, .int (v5))]) rfl rfl rfl ?_
    refine EX.iload (x := hi 15 (Int32.toNatClampNeg (v5))) rfl (List.mem_of_getElem? (i := 0) rfl) ?_
    refine EX.iload (x := v4) rfl (List.mem_of_getElem? (i := 5) rfl) ?_
    refine EX.go (i := .iand) (len := 1) (pc1 := 39) (st1 := [.int (((hi 15 (Int32.toNatClampNeg (v5)) : Int32) &&& v4))]) (hi1 := hi) (hl1 := hl) rfl ?_ (fun _ _ _ => rfl)
    rcases ite_some h with ⟨c4, h⟩ | ⟨c4, h⟩
    · refine EX.go (i := .ifCond .eq 30) (len := 3) (pc1 := 69) (st1 := []) (hi1 := hi) (hl1 := hl) rfl ?_ (fun _ _ _ => if_pos c4)
      refine EX.pick [1, 2, 3, 4, 5, 6] ?_ rfl
      exact bJ_FrameFinder_choose_69 ev h hk
    · refine EX.go (i := .ifCond .eq 30) (len := 3) (pc1 := 42) (st1 := []) (hi1 := hi) (hl1 := hl) rfl ?_ (fun _ _ _ => if_neg c4)
      refine EX.iload (x := hi 15 (Int32.toNatClampNeg (v5))) rfl (List.mem_of_getElem? (i := 0) rfl) ?_
      refine EX.aload_n (x := 36) rfl (List.mem_of_getElem? (i := 1) rfl) ?_
      refine EX.go (i := .getfield 15) (len := 3) (pc1 := 48) (st1 := [.int (hi 36 0), .int (hi 15 (Int32.toNatClampNeg (v5)))]) (hi1 := hi) (hl1 := hl) rfl ?_ (fun _ _ _ => rfl)
      refine EX.iconst (v := (-1)) rfl rfl ?_
      refine EX.go (i := .ixor) (len := 1) (pc1 := 50) (st1 := [.int (((hi 36 0 : Int32) ^^^ ((-1)))), .int (hi 15 (Int32.toNatClampNeg (v5)))]) (hi1 := hi) (hl1 := hl) rfl ?_ (fun _ _ _ => rfl)
      refine EX.go (i := .iand) (len := 1) (pc1 := 51) (st1 := [.int (((hi 15 (Int32.toNatClampNeg (v5)) : Int32) &&& (((hi 36 0 : Int32) ^^^ ((-1))))))]) (hi1 := hi) (hl1 := hl) rfl ?_ (fun _ _ _ => rfl)
      rcases ite_some h with ⟨c5, h⟩ | ⟨c5, h⟩
      · refine EX.go (i := .ifCond .ne 18) (len := 3) (pc1 := 54) (st1 := []) (hi1 := hi) (hl1 := hl) rfl ?_ (fun _ _ _ => if_pos c5)
        refine EX.aload_n (x := 36) rfl (List.mem_of_getElem? (i := 1) rfl) ?_
        refine EX.iload_n (x := v2) rfl (List.mem_of_getElem? (i := 3) rfl) ?_
        refine EX.iload (x := hi 15 (Int32.toNatClampNeg (v5))) rfl (List.mem_of_getElem? (i := 0) rfl) ?_
        refine EX.go (i := .ior) (len := 1) (pc1 := 59) (st1 := [.int ((v2 ||| (hi 15 (Int32.toNatClampNeg (v5))))), .ref 36]) (hi1 := hi) (hl1 := hl) rfl ?_ (fun _ _ _ => rfl)
        refine EX.iload_n (x := v3) rfl (List.mem_of_getElem? (i := 4) rfl) ?_
        obtain ⟨z6, hz6, h⟩ := bnd_some h
        refine EX.callV (b := 36) (as := [.int ((v2 ||| (hi 15 (Int32.toNatClampNeg (v5))))), .int (v3)]) (rest := []) (r := some (.int (z6.1))) (hi1 := z6.2.1) (hl1 := z6.2.2) rfl rfl rfl rfl rfl rfl ((b_FrameFinder_reaches ev hz6).mono (by decide)) ?_
        show EX w0 ev 23 m_FrameFinder_choose 63 [(6, .int (hi 15 (Int32.toNatClampNeg (v5)))), (0, .ref 36), (1, .ref 12), (2, .int (v2)), (3, .int (v3)), (4, .int (v4)), (5, .int (v5))] [.int (z6.1)] (z6.2.1) (z6.2.2) OUT
        rcases ite_some h with ⟨c7, h⟩ | ⟨c7, h⟩
        · refine EX.go (i := .ifCond .eq 6) (len := 3) (pc1 := 69) (st1 := []) (hi1 := z6.2.1) (hl1 := z6.2.2) rfl ?_ (fun _ _ _ => if_pos c7)
          refine EX.pick [1, 2, 3, 4, 5, 6] ?_ rfl
          exact bJ_FrameFinder_choose_69 ev h hk
        · refine EX.go (i := .ifCond .eq 6) (len := 3) (pc1 := 66) (st1 := []) (hi1 := z6.2.1) (hl1 := z6.2.2) rfl ?_ (fun _ _ _ => if_neg c7)
          obtain rfl := Option.some.inj h
          have hk := hk.2 rfl
          have hk : EX w0 ev 23 m_FrameFinder_choose 66 [(5, .int (v5))] [] (z6.2.1) (z6.2.2) OUT := hk
          exact EX.pick [6] hk rfl
      · refine EX.go (i := .ifCond .ne 18) (len := 3) (pc1 := 69) (st1 := []) (hi1 := hi) (hl1 := hl) rfl ?_ (fun _ _ _ => if_neg c5)
        refine EX.pick [1, 2, 3, 4, 5, 6] ?_ rfl
        exact bJ_FrameFinder_choose_69 ev h hk
def f_FrameFinder_choose (N : Nat) (p2 : Int32) (p3 : Int32) (hi : HI) (hl : HL) : Option (Int32 × HI × HL) :=
  (f_Integer_lowestOneBit N (((hi 36 0 : Int32) &&& ((p2 ^^^ ((-1)))))) (hi) (hl)).bind fun z1 => (lpN (fun s => B_FrameFinder_choose_16 N (p2) (p3) (z1.1) s.1 s.2.1 s.2.2) N (0, z1.2.1, z1.2.2)).bind fun x8 => if x8.1 = 0 then some ((-4), x8.2.2.1, x8.2.2.2) else some (x8.2.1, x8.2.2.1, x8.2.2.2)
set_option maxRecDepth 10000 in
set_option maxHeartbeats 4000000 in
theorem b_FrameFinder_choose (ev : EV) {N : Nat} {p2 : Int32} {p3 : Int32} {hi : HI} {hl : HL} {o : Int32 × HI × HL} (h : f_FrameFinder_choose N p2 p3 hi hl = some o) : EM w0 ev 24 m_FrameFinder_choose [.ref 36, .ref 12, .int (p2), .int (p3)] hi hl (oI o) := by
  unfold f_FrameFinder_choose at h
  refine EM.of rfl ?_
  show EX w0 ev 23 m_FrameFinder_choose 0 [(0, .ref 36), (1, .ref 12), (2, .int (p2)), (3, .int (p3))] [] (hi) (hl) (oI o)
  refine EX.aload_n (x := 36) rfl (List.mem_of_getElem? (i := 0) rfl) ?_
  refine EX.go (i := .getfield 15) (len := 3) (pc1 := 4) (st1 := [.int (hi 36 0)]) (hi1 := hi) (hl1 := hl) rfl ?_ (fun _ _ _ => rfl)
  refine EX.iload_n (x := p2) rfl (List.mem_of_getElem? (i := 2) rfl) ?_
  refine EX.iconst (v := (-1)) rfl rfl ?_
  refine EX.go (i := .ixor) (len := 1) (pc1 := 7) (st1 := [.int ((p2 ^^^ ((-1)))), .int (hi 36 0)]) (hi1 := hi) (hl1 := hl) rfl ?_ (fun _ _ _ => rfl)
  refine EX.go (i := .iand) (len := 1) (pc1 := 8) (st1 := [.int (((hi 36 0 : Int32) &&& ((p2 ^^^ ((-1))))))]) (hi1 := hi) (hl1 := hl) rfl ?_ (fun _ _ _ => rfl)
  obtain ⟨z1, hz1, h⟩ := bnd_some h
  refine EX.callS (as := [.int (((hi 36 0 : Int32) &&& ((p2 ^^^ ((-1))))))]) (rest := []) (r := some (.int (z1.1))) (hi1 := z1.2.1) (hl1 := z1.2.2) rfl rfl rfl rfl rfl rfl ((b_Integer_lowestOneBit ev hz1).mono (by decide)) ?_
  show EX w0 ev 23 m_FrameFinder_choose 11 [(0, .ref 36), (1, .ref 12), (2, .int (p2)), (3, .int (p3))] [.int (z1.1)] (z1.2.1) (z1.2.2) (oI o)
  refine EX.istore (req1 := [(4, .int (z1.1)), (0, .ref 36), (1, .ref 12), (2, .int (p2)), (3, .int (p3))]) rfl rfl rfl ?_
  refine EX.iconst (v := 0) rfl rfl ?_
  refine EX.istore (req1 := [(5, .int (0)), (4, .int (z1.1)), (0, .ref 36), (1, .ref 12), (2, .int (p2)), (3, .int (p3))]) rfl rfl rfl ?_
  obtain ⟨x8, hx8, h⟩ := bnd_some h
  refine EX.pick [2, 3, 4, 5, 1, 0] ?_ rfl
  refine lp_sound (f := fun s => B_FrameFinder_choose_16 N (p2) (p3) (z1.1) s.1 s.2.1 s.2.2) (PS := fun s => EX w0 ev 23 m_FrameFinder_choose 16 [(0, .ref 36), (1, .ref 12), (2, .int (p2)), (3, .int (p3)), (4, .int (z1.1)), (5, .int (s.1))] [] (s.2.1) (s.2.2) (oI o)) (PX := fun x => (x.1 = 0 → EX w0 ev 23 m_FrameFinder_choose 75 [] [] (x.2.2.1) (x.2.2.2) (oI o)) ∧ (x.1 = 1 → EX w0 ev 23 m_FrameFinder_choose 66 [(5, .int (x.2.1))] [] (x.2.2.1) (x.2.2.2) (oI o))) ?_ N _ x8 hx8 ?_
  · exact fun s z hz hk => bB_FrameFinder_choose_16 ev hz hk
  rcases ite_some h with ⟨c9, h⟩ | ⟨c9, h⟩
  · refine ⟨fun _ => ?_, fun e9 => absurd (c9.symm.trans e9) (by decide)⟩
    show EX w0 ev 23 m_FrameFinder_choose 75 [] [] (x8.2.2.1) (x8.2.2.2) (oI o)
    refine EX.bipush (v := (-4)) rfl rfl ?_
    obtain rfl := Option.some.inj h
    exact EX.iret rfl rfl
  · refine ⟨fun e9 => absurd e9 c9, fun _ => ?_⟩
    show EX w0 ev 23 m_FrameFinder_choose 66 [(5, .int (x8.2.1))] [] (x8.2.2.1) (x8.2.2.2) (oI o)
    refine EX.iload (x := x8.2.1) rfl (List.mem_of_getElem? (i := 0) rfl) ?_
    obtain rfl := Option.some.inj h
    exact EX.iret rfl rfl
def J_FrameFinder_take_62 (N : Nat) (v1 : Nat) (v3 : Int32) (v4 : Int32) (hi : HI) (hl : HL) : Option ((Int32 × Int32 × HI × HL) ⊕ (HI × HL)) :=
  some (.inl (v3, v4 + 1, hi, hl))
set_option maxRecDepth 10000 in
set_option maxHeartbeats 4000000 in
theorem bJ_FrameFinder_take_62 (ev : EV) {N : Nat} {v1 : Nat} {v3 : Int32} {v4 : Int32} {hi : HI} {hl : HL} {z : (Int32 × Int32 × HI × HL) ⊕ (HI × HL)} {OUT : Option Value × HI × HL} (h : J_FrameFinder_take_62 N v1 v3 v4 hi hl = some z) (hk : Sum.elim (fun s => EX w0 ev 24 m_FrameFinder_take 5 [(0, .ref 36), (1, .ref (v1)), (2, .ref 12), (3, .int (s.1)), (4, .int (s.2.1))] [] (s.2.2.1) (s.2.2.2) OUT) (fun x => EX w0 ev 24 m_FrameFinder_take 68 [] [] (x.1) (x.2) OUT) z) : EX w0 ev 24 m_FrameFinder_take 62 [(0, .ref 36), (1, .ref (v1)), (2, .ref 12), (3, .int (v3)), (4, .int (v4))] [] (hi) (hl) OUT := by
  unfold J_FrameFinder_take_62 at h
  refine EX.iinc (x := v4) (v := v4 + 1) (req1 := [(4, .int (v4 + 1)), (0, .ref 36), (1, .ref (v1)), (2, .ref 12), (3, .int (v3))]) rfl rfl (List.mem_of_getElem? (i := 4) rfl) rfl rfl ?_
  refine EX.go (i := .goto (-60)) (len := 3) (pc1 := 5) (st1 := []) (hi1 := hi) (hl1 := hl) rfl ?_ (fun _ _ _ => rfl)
  obtain rfl := Option.some.inj h
  have hk : EX w0 ev 24 m_FrameFinder_take 5 [(0, .ref 36), (1, .ref (v1)), (2, .ref 12), (3, .int (v3)), (4, .int (v4 + 1))] [] (hi) (hl) OUT := hk
  exact EX.pick [1, 2, 3, 4, 0] hk rfl
def B_FrameFinder_take_5 (N : Nat) (v1 : Nat) (v3 : Int32) (v4 : Int32) (hi : HI) (hl : HL) : Option ((Int32 × Int32 × HI × HL) ⊕ (HI × HL)) :=
  if gF (v1) then if (hi (v1) 2 : Int32) ≤ (v4 : Int32) then some (.inr (hi, hl)) else (f_FrameFinder_choose N (v3) (((((hi (v1) 2 : Int32) - v4) : Int32) - (1))) (hi) (hl)).bind fun z2 => if (z2.1 : Int32) = ((-4) : Int32) then J_FrameFinder_take_62 N (v1) (v3) (v4) (z2.2.1) (z2.2.2) else if (z2.1 : Int32) < 0 ∨ 729 ≤ Int32.toNatClampNeg (z2.1) then none else if (v4 : Int32) < 0 ∨ 16 ≤ Int32.toNatClampNeg (v4) then none else if (z2.1 : Int32) < 0 ∨ 729 ≤ Int32.toNatClampNeg (z2.1) then none else J_FrameFinder_take_62 N (v1) ((v3 ||| ((wr (z2.2.1) (v1 + 1) (Int32.toNatClampNeg (v4)) (z2.2.1 16 (Int32.toNatClampNeg (z2.1)))) 15 (Int32.toNatClampNeg (z2.1))))) (v4) (wr (z2.2.1) (v1 + 1) (Int32.toNatClampNeg (v4)) (z2.2.1 16 (Int32.toNatClampNeg (z2.1)))) (z2.2.2) else none
set_option maxRecDepth 10000 in
set_option maxHeartbeats 4000000 in
theorem bB_FrameFinder_take_5 (ev : EV) {N : Nat} {v1 : Nat} {v3 : Int32} {v4 : Int32} {hi : HI} {hl : HL} {z : (Int32 × Int32 × HI × HL) ⊕ (HI × HL)} {OUT : Option Value × HI × HL} (h : B_FrameFinder_take_5 N v1 v3 v4 hi hl = some z) (hk : Sum.elim (fun s => EX w0 ev 24 m_FrameFinder_take 5 [(0, .ref 36), (1, .ref (v1)), (2, .ref 12), (3, .int (s.1)), (4, .int (s.2.1))] [] (s.2.2.1) (s.2.2.2) OUT) (fun x => EX w0 ev 24 m_FrameFinder_take 68 [] [] (x.1) (x.2) OUT) z) : EX w0 ev 24 m_FrameFinder_take 5 [(0, .ref 36), (1, .ref (v1)), (2, .ref 12), (3, .int (v3)), (4, .int (v4))] [] (hi) (hl) OUT := by
  unfold B_FrameFinder_take_5 at h
  refine EX.iload (x := v4) rfl (List.mem_of_getElem? (i := 4) rfl) ?_
  refine EX.aload_n (x := v1) rfl (List.mem_of_getElem? (i := 1) rfl) ?_
  obtain ⟨k_v1, h⟩ := grp_some h
  refine EX.getfieldV (v := .int (hi (v1) 2)) rfl rfl k_v1.1 rfl rfl ?_
  rcases ite_some h with ⟨c1, h⟩ | ⟨c1, h⟩
  · refine EX.go (i := .if_icmp .ge 57) (len := 3) (pc1 := 68) (st1 := []) (hi1 := hi) (hl1 := hl) rfl ?_ (fun _ _ _ => if_pos c1)
    obtain rfl := Option.some.inj h
    have hk : EX w0 ev 24 m_FrameFinder_take 68 [] [] (hi) (hl) OUT := hk
    exact EX.pick [] hk rfl
  · refine EX.go (i := .if_icmp .ge 57) (len := 3) (pc1 := 14) (st1 := []) (hi1 := hi) (hl1 := hl) rfl ?_ (fun _ _ _ => if_neg c1)
    refine EX.aload_n (x := 36) rfl (List.mem_of_getElem? (i := 0) rfl) ?_
    refine EX.aload_n (x := 12) rfl (List.mem_of_getElem? (i := 2) rfl) ?_
    refine EX.iload_n (x := v3) rfl (List.mem_of_getElem? (i := 3) rfl) ?_
    refine EX.aload_n (x := v1) rfl (List.mem_of_getElem? (i := 1) rfl) ?_
    refine EX.getfieldV (v := .int (hi (v1) 2)) rfl rfl k_v1.1 rfl rfl ?_
    refine EX.iload (x := v4) rfl (List.mem_of_getElem? (i := 4) rfl) ?_
    refine EX.go (i := .isub) (len := 1) (pc1 := 24) (st1 := [.int (((hi (v1) 2 : Int32) - v4)), .int (v3), .ref 12, .ref 36]) (hi1 := hi) (hl1 := hl) rfl ?_ (fun _ _ _ => rfl)
    refine EX.iconst (v := 1) rfl rfl ?_
    refine EX.go (i := .isub) (len := 1) (pc1 := 26) (st1 := [.int (((((hi (v1) 2 : Int32) - v4) : Int32) - (1))), .int (v3), .ref 12, .ref 36]) (hi1 := hi) (hl1 := hl) rfl ?_ (fun _ _ _ => rfl)
    obtain ⟨z2, hz2, h⟩ := bnd_some h
    refine EX.callV (b := 36) (as := [.ref 12, .int (v3), .int (((((hi (v1) 2 : Int32) - v4) : Int32) - (1)))]) (rest := []) (r := some (.int (z2.1))) (hi1 := z2.2.1) (hl1 := z2.2.2) rfl rfl rfl rfl rfl rfl ((b_FrameFinder_choose ev hz2).mono (by decide)) ?_
    show EX w0 ev 24 m_FrameFinder_take 29 [(0, .ref 36), (1, .ref (v1)), (2, .ref 12), (3, .int (v3)), (4, .int (v4))] [.int (z2.1)] (z2.2.1) (z2.2.2) OUT
    refine EX.istore (req1 := [(5, .int (z2.1)), (0, .ref 36), (1, .ref (v1)), (2, .ref 12), (3, .int (v3)), (4, .int (v4))]) rfl rfl rfl ?_
    refine EX.iload (x := z2.1) rfl (List.mem_of_getElem? (i := 0) rfl) ?_
    refine EX.bipush (v := (-4)) rfl rfl ?_
    rcases ite_some h with ⟨c3, h⟩ | ⟨c3, h⟩
    · refine EX.go (i := .if_icmp .eq 27) (len := 3) (pc1 := 62) (st1 := []) (hi1 := z2.2.1) (hl1 := z2.2.2) rfl ?_ (fun _ _ _ => if_pos c3)
      refine EX.pick [1, 2, 3, 4, 5] ?_ rfl
      exact bJ_FrameFinder_take_62 ev h hk
    · refine EX.go (i := .if_icmp .eq 27) (len := 3) (pc1 := 38) (st1 := []) (hi1 := z2.2.1) (hl1 := z2.2.2) rfl ?_ (fun _ _ _ => if_neg c3)
      refine EX.aload_n (x := v1) rfl (List.mem_of_getElem? (i := 2) rfl) ?_
      refine EX.getfieldV (v := .ref (v1 + 1)) rfl rfl k_v1.1 rfl rfl ?_
      refine EX.iload (x := v4) rfl (List.mem_of_getElem? (i := 5) rfl) ?_
      refine EX.aload_n (x := 12) rfl (List.mem_of_getElem? (i := 3) rfl) ?_
      refine EX.go (i := .getfield 102) (len := 3) (pc1 := 48) (st1 := [.ref 16, .int (v4), .ref (v1 + 1)]) (hi1 := z2.2.1) (hl1 := z2.2.2) rfl ?_ (fun _ _ _ => rfl)
      refine EX.iload (x := z2.1) rfl (List.mem_of_getElem? (i := 0) rfl) ?_
      obtain ⟨g4, h⟩ := grd_some h
      refine EX.iaload rfl rfl g4 ?_
      obtain ⟨g5, h⟩ := grd_some h
      refine EX.iastore rfl k_v1.2 g5 ?_
      refine EX.iload_n (x := v3) rfl (List.mem_of_getElem? (i := 4) rfl) ?_
      refine EX.aload_n (x := 12) rfl (List.mem_of_getElem? (i := 3) rfl) ?_
      refine EX.go (i := .getfield 62) (len := 3) (pc1 := 57) (st1 := [.ref 15, .int (v3)]) (hi1 := wr (z2.2.1) (v1 + 1) (Int32.toNatClampNeg (v4)) (z2.2.1 16 (Int32.toNatClampNeg (z2.1)))) (hl1 := z2.2.2) rfl ?_ (fun _ _ _ => rfl)
      refine EX.iload (x := z2.1) rfl (List.mem_of_getElem? (i := 0) rfl) ?_
      obtain ⟨g6, h⟩ := grd_some h
      refine EX.iaload rfl rfl g6 ?_
      refine EX.go (i := .ior) (len := 1) (pc1 := 61) (st1 := [.int ((v3 ||| ((wr (z2.2.1) (v1 + 1) (Int32.toNatClampNeg (v4)) (z2.2.1 16 (Int32.toNatClampNeg (z2.1)))) 15 (Int32.toNatClampNeg (z2.1)))))]) (hi1 := wr (z2.2.1) (v1 + 1) (Int32.toNatClampNeg (v4)) (z2.2.1 16 (Int32.toNatClampNeg (z2.1)))) (hl1 := z2.2.2) rfl ?_ (fun _ _ _ => rfl)
      refine EX.istore_n (req1 := [(3, .int ((v3 ||| ((wr (z2.2.1) (v1 + 1) (Int32.toNatClampNeg (v4)) (z2.2.1 16 (Int32.toNatClampNeg (z2.1)))) 15 (Int32.toNatClampNeg (z2.1)))))), (5, .int (z2.1)), (0, .ref 36), (1, .ref (v1)), (2, .ref 12), (4, .int (v4))]) rfl rfl rfl ?_
      refine EX.pick [2, 3, 4, 0, 5] ?_ rfl
      exact bJ_FrameFinder_take_62 ev h hk
def f_FrameFinder_take (N : Nat) (p1 : Nat) (hi : HI) (hl : HL) : Option (Unit × HI × HL) :=
  (lpN (fun s => B_FrameFinder_take_5 N (p1) s.1 s.2.1 s.2.2.1 s.2.2.2) N (0, 0, hi, hl)).bind fun x7 => some ((), x7.1, x7.2)
set_option maxRecDepth 10000 in
set_option maxHeartbeats 4000000 in
theorem b_FrameFinder_take (ev : EV) {N : Nat} {p1 : Nat} {hi : HI} {hl : HL} {o : Unit × HI × HL} (h : f_FrameFinder_take N p1 hi hl = some o) : EM w0 ev 25 m_FrameFinder_take [.ref 36, .ref (p1), .ref 12] hi hl (oV o) := by
  unfold f_FrameFinder_take at h
  refine EM.of rfl ?_
  show EX w0 ev 24 m_FrameFinder_take 0 [(0, .ref 36), (1, .ref (p1)), (2, .ref 12)] [] (hi) (hl) (oV o)
  refine EX.iconst (v := 0) rfl rfl ?_
  refine EX.istore_n (req1 := [(3, .int (0)), (0, .ref 36), (1, .ref (p1)), (2, .ref 12)]) rfl rfl rfl ?_
  refine EX.iconst (v := 0) rfl rfl ?_
  refine EX.istore (req1 := [(4, .int (0)), (3, .int (0)), (0, .ref 36), (1, .ref (p1)), (2, .ref 12)]) rfl rfl rfl ?_
  obtain ⟨x7, hx7, h⟩ := bnd_some h
  refine EX.pick [2, 3, 4, 1, 0] ?_ rfl
  refine lp_sound (f := fun s => B_FrameFinder_take_5 N (p1) s.1 s.2.1 s.2.2.1 s.2.2.2) (PS := fun s => EX w0 ev 24 m_FrameFinder_take 5 [(0, .ref 36), (1, .ref (p1)), (2, .ref 12), (3, .int (s.1)), (4, .int (s.2.1))] [] (s.2.2.1) (s.2.2.2) (oV o)) (PX := fun x => EX w0 ev 24 m_FrameFinder_take 68 [] [] (x.1) (x.2) (oV o)) ?_ N _ x7 hx7 ?_
  · exact fun s z hz hk => bB_FrameFinder_take_5 ev hz hk
  show EX w0 ev 24 m_FrameFinder_take 68 [] [] (x7.1) (x7.2) (oV o)
  obtain rfl := Option.some.inj h
  exact EX.vret rfl rfl
def B_FrameFinder_fill_48 (N : Nat) (v1 : Nat) (v5 : Int32) (hi : HI) (hl : HL) : Option ((Int32 × HI × HL) ⊕ (Int32 × HI × HL)) :=
  if (16 : Int32) ≤ (v5 : Int32) then some (.inr (v5, hi, hl)) else (f_FrameFinder_reaches N 20 (0) (v5) (hi) (hl)).bind fun z6 => if (z6.1 : Int32) = 0 then some (.inl (v5 + 1, z6.2.1, z6.2.2)) else some (.inr (v5, z6.2.1, z6.2.2))
set_option maxRecDepth 10000 in
set_option maxHeartbeats 4000000 in
theorem bB_FrameFinder_fill_48 (ev : EV) {N : Nat} {v1 : Nat} {v5 : Int32} {hi : HI} {hl : HL} {z : (Int32 × HI × HL) ⊕ (Int32 × HI × HL)} {OUT : Option Value × HI × HL} (h : B_FrameFinder_fill_48 N v1 v5 hi hl = some z) (hk : Sum.elim (fun s => EX w0 ev 25 m_FrameFinder_fill 48 [(0, .ref 36), (1, .ref (v1)), (3, .ref 12), (5, .int (s.1))] [] (s.2.1) (s.2.2) OUT) (fun x => EX w0 ev 25 m_FrameFinder_fill 71 [(0, .ref 36), (1, .ref (v1)), (3, .ref 12), (5, .int (x.1))] [] (x.2.1) (x.2.2) OUT) z) : EX w0 ev 25 m_FrameFinder_fill 48 [(0, .ref 36), (1, .ref (v1)), (3, .ref 12), (5, .int (v5))] [] (hi) (hl) OUT := by
  unfold B_FrameFinder_fill_48 at h
  refine EX.iload (x := v5) rfl (List.mem_of_getElem? (i := 3) rfl) ?_
  refine EX.bipush (v := 16) rfl rfl ?_
  rcases ite_some h with ⟨c5, h⟩ | ⟨c5, h⟩
  · refine EX.go (i := .if_icmp .ge 19) (len := 3) (pc1 := 71) (st1 := []) (hi1 := hi) (hl1 := hl) rfl ?_ (fun _ _ _ => if_pos c5)
    obtain rfl := Option.some.inj h
    have hk : EX w0 ev 25 m_FrameFinder_fill 71 [(0, .ref 36), (1, .ref (v1)), (3, .ref 12), (5, .int (v5))] [] (hi) (hl) OUT := hk
    exact EX.pick [0, 1, 2, 3] hk rfl
  · refine EX.go (i := .if_icmp .ge 19) (len := 3) (pc1 := 55) (st1 := []) (hi1 := hi) (hl1 := hl) rfl ?_ (fun _ _ _ => if_neg c5)
    refine EX.aload_n (x := 36) rfl (List.mem_of_getElem? (i := 0) rfl) ?_
    refine EX.iconst (v := 0) rfl rfl ?_
    refine EX.iload (x := v5) rfl (List.mem_of_getElem? (i := 3) rfl) ?_
    obtain ⟨z6, hz6, h⟩ := bnd_some h
    refine EX.callV (b := 36) (as := [.int (0), .int (v5)]) (rest := []) (r := some (.int (z6.1))) (hi1 := z6.2.1) (hl1 := z6.2.2) rfl rfl rfl rfl rfl rfl ((b_FrameFinder_reaches ev hz6).mono (by decide)) ?_
    show EX w0 ev 25 m_FrameFinder_fill 62 [(0, .ref 36), (1, .ref (v1)), (3, .ref 12), (5, .int (v5))] [.int (z6.1)] (z6.2.1) (z6.2.2) OUT
    rcases ite_some h with ⟨c7, h⟩ | ⟨c7, h⟩
    · refine EX.go (i := .ifCond .ne 9) (len := 3) (pc1 := 65) (st1 := []) (hi1 := z6.2.1) (hl1 := z6.2.2) rfl ?_ (fun _ _ _ => if_pos c7)
      refine EX.iinc (x := v5) (v := v5 + 1) (req1 := [(5, .int (v5 + 1)), (0, .ref 36), (1, .ref (v1)), (3, .ref 12)]) rfl rfl (List.mem_of_getElem? (i := 3) rfl) rfl rfl ?_
      refine EX.go (i := .goto (-20)) (len := 3) (pc1 := 48) (st1 := []) (hi1 := z6.2.1) (hl1 := z6.2.2) rfl ?_ (fun _ _ _ => rfl)
      obtain rfl := Option.some.inj h
      have hk : EX w0 ev 25 m_FrameFinder_fill 48 [(0, .ref 36), (1, .ref (v1)), (3, .ref 12), (5, .int (v5 + 1))] [] (z6.2.1) (z6.2.2) OUT := hk
      exact EX.pick [1, 2, 3, 0] hk rfl
    · refine EX.go (i := .ifCond .ne 9) (len := 3) (pc1 := 71) (st1 := []) (hi1 := z6.2.1) (hl1 := z6.2.2) rfl ?_ (fun _ _ _ => if_neg c7)
      obtain rfl := Option.some.inj h
      have hk : EX w0 ev 25 m_FrameFinder_fill 71 [(0, .ref 36), (1, .ref (v1)), (3, .ref 12), (5, .int (v5))] [] (z6.2.1) (z6.2.2) OUT := hk
      exact EX.pick [0, 1, 2, 3] hk rfl
def J_FrameFinder_fill_71 (N : Nat) (v1 : Nat) (v5 : Int32) (hi : HI) (hl : HL) : Option (Unit × HI × HL) :=
  if gF (v1) then (f_FrameFinder_take N (v1) (wr (hi) (v1) 2 (v5)) (hl)).bind fun z9 => some ((), z9.2.1, z9.2.2) else none
set_option maxRecDepth 10000 in
set_option maxHeartbeats 4000000 in
theorem bJ_FrameFinder_fill_71 (ev : EV) {N : Nat} {v1 : Nat} {v5 : Int32} {hi : HI} {hl : HL} {o : Unit × HI × HL} (h : J_FrameFinder_fill_71 N v1 v5 hi hl = some o) : EX w0 ev 25 m_FrameFinder_fill 71 [(0, .ref 36), (1, .ref (v1)), (3, .ref 12), (5, .int (v5))] [] (hi) (hl) (oV o) := by
  unfold J_FrameFinder_fill_71 at h
  refine EX.aload_n (x := v1) rfl (List.mem_of_getElem? (i := 1) rfl) ?_
  refine EX.iload (x := v5) rfl (List.mem_of_getElem? (i := 3) rfl) ?_
  obtain ⟨k_v1, h⟩ := grp_some h
  refine EX.putfieldV (k := 2) rfl rfl k_v1.1 rfl rfl (Or.inl rfl) ?_
  refine EX.aload_n (x := 36) rfl (List.mem_of_getElem? (i := 0) rfl) ?_
  refine EX.aload_n (x := v1) rfl (List.mem_of_getElem? (i := 1) rfl) ?_
  refine EX.aload_n (x := 12) rfl (List.mem_of_getElem? (i := 2) rfl) ?_
  obtain ⟨z9, hz9, h⟩ := bnd_some h
  refine EX.callV (b := 36) (as := [.ref (v1), .ref 12]) (rest := []) (r := none) (hi1 := z9.2.1) (hl1 := z9.2.2) rfl rfl rfl rfl rfl rfl ((b_FrameFinder_take ev hz9).mono (by decide)) ?_
  show EX w0 ev 25 m_FrameFinder_fill 83 [(0, .ref 36), (1, .ref (v1)), (3, .ref 12), (5, .int (v5))] [] (z9.2.1) (z9.2.2) (oV o)
  obtain rfl := Option.some.inj h
  exact EX.vret rfl rfl
def f_FrameFinder_fill (N : Nat) (p1 : Nat) (p2 : Int32) (hi : HI) (hl : HL) : Option (Unit × HI × HL) :=
  if gF (p1) then (f_FrameFinder_gather N (wr (wr (wr (wr (wr (hi) 36 0 (p2)) 36 1 (42)) (p1) 1 (p2)) (p1) 0 (1)) (p1) 2 ((-4))) (hl)).bind fun z1 => if (z1.1 : Int32) = (p2 : Int32) then if z1.2.1 36 1 = 42 then (f_Arrays_fill N (0) (z1.2.1) (z1.2.2)).bind fun z4 => (lpN (fun s => B_FrameFinder_fill_48 N (p1) s.1 s.2.1 s.2.2) N (0, z4.2.1, z4.2.2)).bind fun x8 => J_FrameFinder_fill_71 N (p1) (x8.1) (x8.2.1) (x8.2.2) else none else some ((), z1.2.1, z1.2.2) else none
set_option maxRecDepth 10000 in
set_option maxHeartbeats 4000000 in
theorem b_FrameFinder_fill (ev : EV) {N : Nat} {p1 : Nat} {p2 : Int32} {hi : HI} {hl : HL} {o : Unit × HI × HL} (h : f_FrameFinder_fill N p1 p2 hi hl = some o) : EM w0 ev 26 m_FrameFinder_fill [.ref 36, .ref (p1), .int (p2), .ref 12, .ref 41] hi hl (oV o) := by
  unfold f_FrameFinder_fill at h
  refine EM.of rfl ?_
  show EX w0 ev 25 m_FrameFinder_fill 0 [(0, .ref 36), (1, .ref (p1)), (2, .int (p2)), (3, .ref 12), (4, .ref 41)] [] (hi) (hl) (oV o)
  refine EX.aload_n (x := 36) rfl (List.mem_of_getElem? (i := 0) rfl) ?_
  refine EX.iload_n (x := p2) rfl (List.mem_of_getElem? (i := 2) rfl) ?_
  refine EX.go (i := .putfield 15) (len := 3) (pc1 := 5) (st1 := []) (hi1 := wr (hi) 36 0 (p2)) (hl1 := hl) rfl ?_ (fun _ _ _ => rfl)
  refine EX.aload_n (x := 36) rfl (List.mem_of_getElem? (i := 0) rfl) ?_
  refine EX.aload (x := 41) rfl (List.mem_of_getElem? (i := 4) rfl) ?_
  refine EX.go (i := .putfield 19) (len := 3) (pc1 := 11) (st1 := []) (hi1 := wr (wr (hi) 36 0 (p2)) 36 1 (42)) (hl1 := hl) rfl ?_ (fun _ _ _ => rfl)
  refine EX.aload_n (x := p1) rfl (List.mem_of_getElem? (i := 1) rfl) ?_
  refine EX.iload_n (x := p2) rfl (List.mem_of_getElem? (i := 2) rfl) ?_
  obtain ⟨k_p1, h⟩ := grp_some h
  refine EX.putfieldV (k := 1) rfl rfl k_p1.1 rfl rfl (Or.inl rfl) ?_
  refine EX.aload_n (x := p1) rfl (List.mem_of_getElem? (i := 1) rfl) ?_
  refine EX.iconst (v := 1) rfl rfl ?_
  refine EX.putfieldV (k := 0) rfl rfl k_p1.1 rfl rfl (Or.inr ⟨rfl, Or.inr rfl⟩) ?_
  refine EX.aload_n (x := p1) rfl (List.mem_of_getElem? (i := 1) rfl) ?_
  refine EX.bipush (v := (-4)) rfl rfl ?_
  refine EX.putfieldV (k := 2) rfl rfl k_p1.1 rfl rfl (Or.inl rfl) ?_
  refine EX.aload_n (x := 36) rfl (List.mem_of_getElem? (i := 0) rfl) ?_
  refine EX.aload_n (x := 12) rfl (List.mem_of_getElem? (i := 3) rfl) ?_
  obtain ⟨z1, hz1, h⟩ := bnd_some h
  refine EX.callV (b := 36) (as := [.ref 12]) (rest := []) (r := some (.int (z1.1))) (hi1 := z1.2.1) (hl1 := z1.2.2) rfl rfl rfl rfl rfl rfl ((b_FrameFinder_gather ev hz1).mono (by decide)) ?_
  show EX w0 ev 25 m_FrameFinder_fill 32 [(0, .ref 36), (1, .ref (p1)), (2, .int (p2)), (3, .ref 12), (4, .ref 41)] [.int (z1.1)] (z1.2.1) (z1.2.2) (oV o)
  refine EX.iload_n (x := p2) rfl (List.mem_of_getElem? (i := 2) rfl) ?_
  rcases ite_some h with ⟨c2, h⟩ | ⟨c2, h⟩
  · refine EX.go (i := .if_icmp .eq 4) (len := 3) (pc1 := 37) (st1 := []) (hi1 := z1.2.1) (hl1 := z1.2.2) rfl ?_ (fun _ _ _ => if_pos c2)
    refine EX.aload_n (x := 36) rfl (List.mem_of_getElem? (i := 0) rfl) ?_
    obtain ⟨g3, h⟩ := grp_some h
    refine EX.getfieldV (v := .ref 41) rfl rfl rfl rfl (fv3 rfl g3) ?_
    refine EX.lconst (v := 0) rfl rfl ?_
    obtain ⟨z4, hz4, h⟩ := bnd_some h
    refine EX.callS (as := [.ref 41, .long (0)]) (rest := []) (r := none) (hi1 := z4.2.1) (hl1 := z4.2.2) rfl rfl rfl rfl rfl rfl ((b_Arrays_fill ev hz4).mono (by decide)) ?_
    show EX w0 ev 25 m_FrameFinder_fill 45 [(0, .ref 36), (1, .ref (p1)), (2, .int (p2)), (3, .ref 12), (4, .ref 41)] [] (z4.2.1) (z4.2.2) (oV o)
    refine EX.iconst (v := 0) rfl rfl ?_
    refine EX.istore (req1 := [(5, .int (0)), (0, .ref 36), (1, .ref (p1)), (2, .int (p2)), (3, .ref 12), (4, .ref 41)]) rfl rfl rfl ?_
    obtain ⟨x8, hx8, h⟩ := bnd_some h
    refine EX.pick [1, 2, 4, 0] ?_ rfl
    refine lp_sound (f := fun s => B_FrameFinder_fill_48 N (p1) s.1 s.2.1 s.2.2) (PS := fun s => EX w0 ev 25 m_FrameFinder_fill 48 [(0, .ref 36), (1, .ref (p1)), (3, .ref 12), (5, .int (s.1))] [] (s.2.1) (s.2.2) (oV o)) (PX := fun x => EX w0 ev 25 m_FrameFinder_fill 71 [(0, .ref 36), (1, .ref (p1)), (3, .ref 12), (5, .int (x.1))] [] (x.2.1) (x.2.2) (oV o)) ?_ N _ x8 hx8 ?_
    · exact fun s z hz hk => bB_FrameFinder_fill_48 ev hz hk
    show EX w0 ev 25 m_FrameFinder_fill 71 [(0, .ref 36), (1, .ref (p1)), (3, .ref 12), (5, .int (x8.1))] [] (x8.2.1) (x8.2.2) (oV o)
    refine EX.pick [0, 1, 2, 3] ?_ rfl
    exact bJ_FrameFinder_fill_71 ev h
  · refine EX.go (i := .if_icmp .eq 4) (len := 3) (pc1 := 36) (st1 := []) (hi1 := z1.2.1) (hl1 := z1.2.2) rfl ?_ (fun _ _ _ => if_neg c2)
    obtain rfl := Option.some.inj h
    exact EX.vret rfl rfl
def B_Frames_forget_2 (N : Nat) (v1 : Int32) (hi : HI) (hl : HL) : Option ((Int32 × HI × HL) ⊕ (HI × HL)) :=
  if (8 : Int32) ≤ (v1 : Int32) then some (.inr (hi, hl)) else if (v1 : Int32) < 0 ∨ 8 ≤ Int32.toNatClampNeg (v1) then none else if gF (20 + 2 * Int32.toNatClampNeg (v1)) then some (.inl (v1 + 1, wr (hi) (20 + 2 * Int32.toNatClampNeg (v1)) 0 (0), hl)) else none
set_option maxRecDepth 10000 in
set_option maxHeartbeats 4000000 in
theorem bB_Frames_forget_2 (ev : EV) {N : Nat} {v1 : Int32} {hi : HI} {hl : HL} {z : (Int32 × HI × HL) ⊕ (HI × HL)} {OUT : Option Value × HI × HL} (h : B_Frames_forget_2 N v1 hi hl = some z) (hk : Sum.elim (fun s => EX w0 ev 0 m_Frames_forget 2 [(0, .ref 18), (1, .int (s.1))] [] (s.2.1) (s.2.2) OUT) (fun x => EX w0 ev 0 m_Frames_forget 24 [] [] (x.1) (x.2) OUT) z) : EX w0 ev 0 m_Frames_forget 2 [(0, .ref 18), (1, .int (v1))] [] (hi) (hl) OUT := by
  unfold B_Frames_forget_2 at h
  refine EX.iload_n (x := v1) rfl (List.mem_of_getElem? (i := 1) rfl) ?_
  refine EX.bipush (v := 8) rfl rfl ?_
  rcases ite_some h with ⟨c1, h⟩ | ⟨c1, h⟩
  · refine EX.go (i := .if_icmp .ge 19) (len := 3) (pc1 := 24) (st1 := []) (hi1 := hi) (hl1 := hl) rfl ?_ (fun _ _ _ => if_pos c1)
    obtain rfl := Option.some.inj h
    have hk : EX w0 ev 0 m_Frames_forget 24 [] [] (hi) (hl) OUT := hk
    exact EX.pick [] hk rfl
  · refine EX.go (i := .if_icmp .ge 19) (len := 3) (pc1 := 8) (st1 := []) (hi1 := hi) (hl1 := hl) rfl ?_ (fun _ _ _ => if_neg c1)
    refine EX.aload_n (x := 18) rfl (List.mem_of_getElem? (i := 0) rfl) ?_
    refine EX.go (i := .getfield 11) (len := 3) (pc1 := 12) (st1 := [.ref 19]) (hi1 := hi) (hl1 := hl) rfl ?_ (fun _ _ _ => rfl)
    refine EX.iload_n (x := v1) rfl (List.mem_of_getElem? (i := 1) rfl) ?_
    obtain ⟨g2, h⟩ := grd_some h
    refine EX.aaloadF (b := 20 + 2 * Int32.toNatClampNeg (v1)) rfl rfl g2 (fr_at g2).1 (fr_at g2).2 ?_
    refine EX.iconst (v := 0) rfl rfl ?_
    obtain ⟨k_20___2___Int32_toNatClampNeg__v1_, h⟩ := grp_some h
    refine EX.putfieldV (k := 0) rfl rfl k_20___2___Int32_toNatClampNeg__v1_.1 rfl rfl (Or.inr ⟨rfl, Or.inl rfl⟩) ?_
    refine EX.iinc (x := v1) (v := v1 + 1) (req1 := [(1, .int (v1 + 1)), (0, .ref 18)]) rfl rfl (List.mem_of_getElem? (i := 1) rfl) rfl rfl ?_
    refine EX.go (i := .goto (-19)) (len := 3) (pc1 := 2) (st1 := []) (hi1 := wr (hi) (20 + 2 * Int32.toNatClampNeg (v1)) 0 (0)) (hl1 := hl) rfl ?_ (fun _ _ _ => rfl)
    obtain rfl := Option.some.inj h
    have hk : EX w0 ev 0 m_Frames_forget 2 [(0, .ref 18), (1, .int (v1 + 1))] [] (wr (hi) (20 + 2 * Int32.toNatClampNeg (v1)) 0 (0)) (hl) OUT := hk
    exact EX.pick [1, 0] hk rfl
def f_Frames_forget (N : Nat) (hi : HI) (hl : HL) : Option (Unit × HI × HL) :=
  (lpN (fun s => B_Frames_forget_2 N s.1 s.2.1 s.2.2) N (0, hi, hl)).bind fun x3 => some ((), x3.1, x3.2)
set_option maxRecDepth 10000 in
set_option maxHeartbeats 4000000 in
theorem b_Frames_forget (ev : EV) {N : Nat} {hi : HI} {hl : HL} {o : Unit × HI × HL} (h : f_Frames_forget N hi hl = some o) : EM w0 ev 1 m_Frames_forget [.ref 18] hi hl (oV o) := by
  unfold f_Frames_forget at h
  refine EM.of rfl ?_
  show EX w0 ev 0 m_Frames_forget 0 [(0, .ref 18)] [] (hi) (hl) (oV o)
  refine EX.iconst (v := 0) rfl rfl ?_
  refine EX.istore_n (req1 := [(1, .int (0)), (0, .ref 18)]) rfl rfl rfl ?_
  obtain ⟨x3, hx3, h⟩ := bnd_some h
  refine EX.pick [1, 0] ?_ rfl
  refine lp_sound (f := fun s => B_Frames_forget_2 N s.1 s.2.1 s.2.2) (PS := fun s => EX w0 ev 0 m_Frames_forget 2 [(0, .ref 18), (1, .int (s.1))] [] (s.2.1) (s.2.2) (oV o)) (PX := fun x => EX w0 ev 0 m_Frames_forget 24 [] [] (x.1) (x.2) (oV o)) ?_ N _ x3 hx3 ?_
  · exact fun s z hz hk => bB_Frames_forget_2 ev hz hk
  show EX w0 ev 0 m_Frames_forget 24 [] [] (x3.1) (x3.2) (oV o)
  obtain rfl := Option.some.inj h
  exact EX.vret rfl rfl
def J_Frames_find_40 (N : Nat) (v1 : Int32) (v2 : Int32) (hi : HI) (hl : HL) : Option ((Int32 × HI × HL) ⊕ (Nat × Int32 × HI × HL)) :=
  some (.inl (v2 + 1, hi, hl))
set_option maxRecDepth 10000 in
set_option maxHeartbeats 4000000 in
theorem bJ_Frames_find_40 (ev : EV) {N : Nat} {v1 : Int32} {v2 : Int32} {hi : HI} {hl : HL} {z : (Int32 × HI × HL) ⊕ (Nat × Int32 × HI × HL)} {OUT : Option Value × HI × HL} (h : J_Frames_find_40 N v1 v2 hi hl = some z) (hk : Sum.elim (fun s => EX w0 ev 0 m_Frames_find 2 [(0, .ref 18), (1, .int (v1)), (2, .int (s.1))] [] (s.2.1) (s.2.2) OUT) (fun x => (x.1 = 0 → EX w0 ev 0 m_Frames_find 46 [(0, .ref 18)] [] (x.2.2.1) (x.2.2.2) OUT) ∧ (x.1 = 1 → EX w0 ev 0 m_Frames_find 33 [(0, .ref 18), (2, .int (x.2.1))] [] (x.2.2.1) (x.2.2.2) OUT)) z) : EX w0 ev 0 m_Frames_find 40 [(0, .ref 18), (1, .int (v1)), (2, .int (v2))] [] (hi) (hl) OUT := by
  unfold J_Frames_find_40 at h
  refine EX.iinc (x := v2) (v := v2 + 1) (req1 := [(2, .int (v2 + 1)), (0, .ref 18), (1, .int (v1))]) rfl rfl (List.mem_of_getElem? (i := 2) rfl) rfl rfl ?_
  refine EX.go (i := .goto (-41)) (len := 3) (pc1 := 2) (st1 := []) (hi1 := hi) (hl1 := hl) rfl ?_ (fun _ _ _ => rfl)
  obtain rfl := Option.some.inj h
  have hk : EX w0 ev 0 m_Frames_find 2 [(0, .ref 18), (1, .int (v1)), (2, .int (v2 + 1))] [] (hi) (hl) OUT := hk
  exact EX.pick [1, 2, 0] hk rfl
def B_Frames_find_2 (N : Nat) (v1 : Int32) (v2 : Int32) (hi : HI) (hl : HL) : Option ((Int32 × HI × HL) ⊕ (Nat × Int32 × HI × HL)) :=
  if (8 : Int32) ≤ (v2 : Int32) then some (.inr (0, v2, hi, hl)) else if (v2 : Int32) < 0 ∨ 8 ≤ Int32.toNatClampNeg (v2) then none else if gF (20 + 2 * Int32.toNatClampNeg (v2)) then if (hi (20 + 2 * Int32.toNatClampNeg (v2)) 0 : Int32) = 0 then J_Frames_find_40 N (v1) (v2) (hi) (hl) else if (v2 : Int32) < 0 ∨ 8 ≤ Int32.toNatClampNeg (v2) then none else if (hi (20 + 2 * Int32.toNatClampNeg (v2)) 1 : Int32) = (v1 : Int32) then some (.inr (1, v2, hi, hl)) else J_Frames_find_40 N (v1) (v2) (hi) (hl) else none
set_option maxRecDepth 10000 in
set_option maxHeartbeats 4000000 in
theorem bB_Frames_find_2 (ev : EV) {N : Nat} {v1 : Int32} {v2 : Int32} {hi : HI} {hl : HL} {z : (Int32 × HI × HL) ⊕ (Nat × Int32 × HI × HL)} {OUT : Option Value × HI × HL} (h : B_Frames_find_2 N v1 v2 hi hl = some z) (hk : Sum.elim (fun s => EX w0 ev 0 m_Frames_find 2 [(0, .ref 18), (1, .int (v1)), (2, .int (s.1))] [] (s.2.1) (s.2.2) OUT) (fun x => (x.1 = 0 → EX w0 ev 0 m_Frames_find 46 [(0, .ref 18)] [] (x.2.2.1) (x.2.2.2) OUT) ∧ (x.1 = 1 → EX w0 ev 0 m_Frames_find 33 [(0, .ref 18), (2, .int (x.2.1))] [] (x.2.2.1) (x.2.2.2) OUT)) z) : EX w0 ev 0 m_Frames_find 2 [(0, .ref 18), (1, .int (v1)), (2, .int (v2))] [] (hi) (hl) OUT := by
  unfold B_Frames_find_2 at h
  refine EX.iload_n (x := v2) rfl (List.mem_of_getElem? (i := 2) rfl) ?_
  refine EX.bipush (v := 8) rfl rfl ?_
  rcases ite_some h with ⟨c1, h⟩ | ⟨c1, h⟩
  · refine EX.go (i := .if_icmp .ge 41) (len := 3) (pc1 := 46) (st1 := []) (hi1 := hi) (hl1 := hl) rfl ?_ (fun _ _ _ => if_pos c1)
    obtain rfl := Option.some.inj h
    have hk := hk.1 rfl
    have hk : EX w0 ev 0 m_Frames_find 46 [(0, .ref 18)] [] (hi) (hl) OUT := hk
    exact EX.pick [0] hk rfl
  · refine EX.go (i := .if_icmp .ge 41) (len := 3) (pc1 := 8) (st1 := []) (hi1 := hi) (hl1 := hl) rfl ?_ (fun _ _ _ => if_neg c1)
    refine EX.aload_n (x := 18) rfl (List.mem_of_getElem? (i := 0) rfl) ?_
    refine EX.go (i := .getfield 11) (len := 3) (pc1 := 12) (st1 := [.ref 19]) (hi1 := hi) (hl1 := hl) rfl ?_ (fun _ _ _ => rfl)
    refine EX.iload_n (x := v2) rfl (List.mem_of_getElem? (i := 2) rfl) ?_
    obtain ⟨g2, h⟩ := grd_some h
    refine EX.aaloadF (b := 20 + 2 * Int32.toNatClampNeg (v2)) rfl rfl g2 (fr_at g2).1 (fr_at g2).2 ?_
    obtain ⟨k_20___2___Int32_toNatClampNeg__v2_, h⟩ := grp_some h
    refine EX.getfieldV (v := .int (hi (20 + 2 * Int32.toNatClampNeg (v2)) 0)) rfl rfl k_20___2___Int32_toNatClampNeg__v2_.1 rfl rfl ?_
    rcases ite_some h with ⟨c3, h⟩ | ⟨c3, h⟩
    · refine EX.go (i := .ifCond .eq 23) (len := 3) (pc1 := 40) (st1 := []) (hi1 := hi) (hl1 := hl) rfl ?_ (fun _ _ _ => if_pos c3)
      refine EX.pick [0, 1, 2] ?_ rfl
      exact bJ_Frames_find_40 ev h hk
    · refine EX.go (i := .ifCond .eq 23) (len := 3) (pc1 := 20) (st1 := []) (hi1 := hi) (hl1 := hl) rfl ?_ (fun _ _ _ => if_neg c3)
      refine EX.aload_n (x := 18) rfl (List.mem_of_getElem? (i := 0) rfl) ?_
      refine EX.go (i := .getfield 11) (len := 3) (pc1 := 24) (st1 := [.ref 19]) (hi1 := hi) (hl1 := hl) rfl ?_ (fun _ _ _ => rfl)
      refine EX.iload_n (x := v2) rfl (List.mem_of_getElem? (i := 2) rfl) ?_
      obtain ⟨g4, h⟩ := grd_some h
      refine EX.aaloadF (b := 20 + 2 * Int32.toNatClampNeg (v2)) rfl rfl g4 (fr_at g4).1 (fr_at g4).2 ?_
      refine EX.getfieldV (v := .int (hi (20 + 2 * Int32.toNatClampNeg (v2)) 1)) rfl rfl k_20___2___Int32_toNatClampNeg__v2_.1 rfl rfl ?_
      refine EX.iload_n (x := v1) rfl (List.mem_of_getElem? (i := 1) rfl) ?_
      rcases ite_some h with ⟨c5, h⟩ | ⟨c5, h⟩
      · refine EX.go (i := .if_icmp .ne 10) (len := 3) (pc1 := 33) (st1 := []) (hi1 := hi) (hl1 := hl) rfl ?_ (fun _ _ _ => if_pos c5)
        obtain rfl := Option.some.inj h
        have hk := hk.2 rfl
        have hk : EX w0 ev 0 m_Frames_find 33 [(0, .ref 18), (2, .int (v2))] [] (hi) (hl) OUT := hk
        exact EX.pick [0, 2] hk rfl
      · refine EX.go (i := .if_icmp .ne 10) (len := 3) (pc1 := 40) (st1 := []) (hi1 := hi) (hl1 := hl) rfl ?_ (fun _ _ _ => if_neg c5)
        refine EX.pick [0, 1, 2] ?_ rfl
        exact bJ_Frames_find_40 ev h hk
def f_Frames_find (N : Nat) (p1 : Int32) (hi : HI) (hl : HL) : Option (Nat × HI × HL) :=
  (lpN (fun s => B_Frames_find_2 N (p1) s.1 s.2.1 s.2.2) N (0, hi, hl)).bind fun x6 => if x6.1 = 0 then if (x6.2.2.1 18 1 : Int32) < 0 ∨ 8 ≤ Int32.toNatClampNeg (x6.2.2.1 18 1) then none else if gF (20 + 2 * Int32.toNatClampNeg (x6.2.2.1 18 1)) then if Nat.blt (20 + 2 * Int32.toNatClampNeg (x6.2.2.1 18 1)) 1000000 = true then some (20 + 2 * Int32.toNatClampNeg (x6.2.2.1 18 1), wr (wr (x6.2.2.1) 18 1 (((((x6.2.2.1 18 1 : Int32) + (1)) : Int32) - (((x6.2.2.1 18 1 : Int32) + (1)) : Int32) / (8) * (8)))) (20 + 2 * Int32.toNatClampNeg (x6.2.2.1 18 1)) 0 (0), x6.2.2.2) else none else none else if (x6.2.1 : Int32) < 0 ∨ 8 ≤ Int32.toNatClampNeg (x6.2.1) then none else if Nat.blt (20 + 2 * Int32.toNatClampNeg (x6.2.1)) 1000000 = true then some (20 + 2 * Int32.toNatClampNeg (x6.2.1), x6.2.2.1, x6.2.2.2) else none
set_option maxRecDepth 10000 in
set_option maxHeartbeats 4000000 in
theorem b_Frames_find (ev : EV) {N : Nat} {p1 : Int32} {hi : HI} {hl : HL} {o : Nat × HI × HL} (h : f_Frames_find N p1 hi hl = some o) : EM w0 ev 1 m_Frames_find [.ref 18, .int (p1)] hi hl (oR o) := by
  unfold f_Frames_find at h
  refine EM.of rfl ?_
  show EX w0 ev 0 m_Frames_find 0 [(0, .ref 18), (1, .int (p1))] [] (hi) (hl) (oR o)
  refine EX.iconst (v := 0) rfl rfl ?_
  refine EX.istore_n (req1 := [(2, .int (0)), (0, .ref 18), (1, .int (p1))]) rfl rfl rfl ?_
  obtain ⟨x6, hx6, h⟩ := bnd_some h
  refine EX.pick [1, 2, 0] ?_ rfl
  refine lp_sound (f := fun s => B_Frames_find_2 N (p1) s.1 s.2.1 s.2.2) (PS := fun s => EX w0 ev 0 m_Frames_find 2 [(0, .ref 18), (1, .int (p1)), (2, .int (s.1))] [] (s.2.1) (s.2.2) (oR o)) (PX := fun x => (x.1 = 0 → EX w0 ev 0 m_Frames_find 46 [(0, .ref 18)] [] (x.2.2.1) (x.2.2.2) (oR o)) ∧ (x.1 = 1 → EX w0 ev 0 m_Frames_find 33 [(0, .ref 18), (2, .int (x.2.1))] [] (x.2.2.1) (x.2.2.2) (oR o))) ?_ N _ x6 hx6 ?_
  · exact fun s z hz hk => bB_Frames_find_2 ev hz hk
  rcases ite_some h with ⟨c7, h⟩ | ⟨c7, h⟩
  · refine ⟨fun _ => ?_, fun e9 => absurd (c7.symm.trans e9) (by decide)⟩
    show EX w0 ev 0 m_Frames_find 46 [(0, .ref 18)] [] (x6.2.2.1) (x6.2.2.2) (oR o)
    refine EX.aload_n (x := 18) rfl (List.mem_of_getElem? (i := 0) rfl) ?_
    refine EX.go (i := .getfield 11) (len := 3) (pc1 := 50) (st1 := [.ref 19]) (hi1 := x6.2.2.1) (hl1 := x6.2.2.2) rfl ?_ (fun _ _ _ => rfl)
    refine EX.aload_n (x := 18) rfl (List.mem_of_getElem? (i := 0) rfl) ?_
    refine EX.go (i := .getfield 24) (len := 3) (pc1 := 54) (st1 := [.int (x6.2.2.1 18 1), .ref 19]) (hi1 := x6.2.2.1) (hl1 := x6.2.2.2) rfl ?_ (fun _ _ _ => rfl)
    obtain ⟨g8, h⟩ := grd_some h
    refine EX.aaloadF (b := 20 + 2 * Int32.toNatClampNeg (x6.2.2.1 18 1)) rfl rfl g8 (fr_at g8).1 (fr_at g8).2 ?_
    refine EX.astore_n (req1 := [(2, .ref (20 + 2 * Int32.toNatClampNeg (x6.2.2.1 18 1))), (0, .ref 18)]) rfl rfl rfl ?_
    refine EX.aload_n (x := 18) rfl (List.mem_of_getElem? (i := 1) rfl) ?_
    refine EX.aload_n (x := 18) rfl (List.mem_of_getElem? (i := 1) rfl) ?_
    refine EX.go (i := .getfield 24) (len := 3) (pc1 := 61) (st1 := [.int (x6.2.2.1 18 1), .ref 18]) (hi1 := x6.2.2.1) (hl1 := x6.2.2.2) rfl ?_ (fun _ _ _ => rfl)
    refine EX.iconst (v := 1) rfl rfl ?_
    refine EX.go (i := .iadd) (len := 1) (pc1 := 63) (st1 := [.int (((x6.2.2.1 18 1 : Int32) + (1))), .ref 18]) (hi1 := x6.2.2.1) (hl1 := x6.2.2.2) rfl ?_ (fun _ _ _ => rfl)
    refine EX.bipush (v := 8) rfl rfl ?_
    refine EX.go (i := .irem) (len := 1) (pc1 := 66) (st1 := [.int (((((x6.2.2.1 18 1 : Int32) + (1)) : Int32) - (((x6.2.2.1 18 1 : Int32) + (1)) : Int32) / (8) * (8))), .ref 18]) (hi1 := x6.2.2.1) (hl1 := x6.2.2.2) rfl ?_ (fun _ _ _ => rfl)
    refine EX.go (i := .putfield 24) (len := 3) (pc1 := 69) (st1 := []) (hi1 := wr (x6.2.2.1) 18 1 (((((x6.2.2.1 18 1 : Int32) + (1)) : Int32) - (((x6.2.2.1 18 1 : Int32) + (1)) : Int32) / (8) * (8)))) (hl1 := x6.2.2.2) rfl ?_ (fun _ _ _ => rfl)
    refine EX.aload_n (x := 20 + 2 * Int32.toNatClampNeg (x6.2.2.1 18 1)) rfl (List.mem_of_getElem? (i := 0) rfl) ?_
    refine EX.iconst (v := 0) rfl rfl ?_
    obtain ⟨k_20___2___Int32_toNatClampNeg__x6_2_2_1_18_1_, h⟩ := grp_some h
    refine EX.putfieldV (k := 0) rfl rfl k_20___2___Int32_toNatClampNeg__x6_2_2_1_18_1_.1 rfl rfl (Or.inr ⟨rfl, Or.inl rfl⟩) ?_
    refine EX.aload_n (x := 20 + 2 * Int32.toNatClampNeg (x6.2.2.1 18 1)) rfl (List.mem_of_getElem? (i := 0) rfl) ?_
    obtain ⟨g9, h⟩ := grp_some h
    obtain rfl := Option.some.inj h
    exact EX.aret rfl rfl g9
  · refine ⟨fun e9 => absurd e9 c7, fun _ => ?_⟩
    show EX w0 ev 0 m_Frames_find 33 [(0, .ref 18), (2, .int (x6.2.1))] [] (x6.2.2.1) (x6.2.2.2) (oR o)
    refine EX.aload_n (x := 18) rfl (List.mem_of_getElem? (i := 0) rfl) ?_
    refine EX.go (i := .getfield 11) (len := 3) (pc1 := 37) (st1 := [.ref 19]) (hi1 := x6.2.2.1) (hl1 := x6.2.2.2) rfl ?_ (fun _ _ _ => rfl)
    refine EX.iload_n (x := x6.2.1) rfl (List.mem_of_getElem? (i := 1) rfl) ?_
    obtain ⟨g10, h⟩ := grd_some h
    refine EX.aaloadF (b := 20 + 2 * Int32.toNatClampNeg (x6.2.1)) rfl rfl g10 (fr_at g10).1 (fr_at g10).2 ?_
    obtain ⟨g11, h⟩ := grp_some h
    obtain rfl := Option.some.inj h
    exact EX.aret rfl rfl g11
def f_Guesses_forget (N : Nat) (hi : HI) (hl : HL) : Option (Unit × HI × HL) :=
  some ((), wr (wr (hi) 51 0 (0)) 51 5 (0), hl)
set_option maxRecDepth 10000 in
set_option maxHeartbeats 4000000 in
theorem b_Guesses_forget (ev : EV) {N : Nat} {hi : HI} {hl : HL} {o : Unit × HI × HL} (h : f_Guesses_forget N hi hl = some o) : EM w0 ev 1 m_Guesses_forget [.ref 51] hi hl (oV o) := by
  unfold f_Guesses_forget at h
  refine EM.of rfl ?_
  show EX w0 ev 0 m_Guesses_forget 0 [(0, .ref 51)] [] (hi) (hl) (oV o)
  refine EX.aload_n (x := 51) rfl (List.mem_of_getElem? (i := 0) rfl) ?_
  refine EX.iconst (v := 0) rfl rfl ?_
  refine EX.go (i := .putfield 24) (len := 3) (pc1 := 5) (st1 := []) (hi1 := wr (hi) 51 0 (0)) (hl1 := hl) rfl ?_ (fun _ _ _ => rfl)
  refine EX.aload_n (x := 51) rfl (List.mem_of_getElem? (i := 0) rfl) ?_
  refine EX.iconst (v := 0) rfl rfl ?_
  refine EX.go (i := .putfield 28) (len := 3) (pc1 := 10) (st1 := []) (hi1 := wr (wr (hi) 51 0 (0)) 51 5 (0)) (hl1 := hl) rfl ?_ (fun _ _ _ => rfl)
  obtain rfl := Option.some.inj h
  exact EX.vret rfl rfl
