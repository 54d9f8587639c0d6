/-! methods as functions -/
def B_Arrays_fill_I_5 (N : Nat) (v0 : Nat) (v1 : Int32) (v3 : Int32) (v2 : Int32) (hi : HI) (hl : HL) : Option ((Int32 × HI × HL) ⊕ (HI × HL)) :=
  if (v3 : Int32) ≤ (v2 : Int32) then some (.inr (hi, hl)) else if gA (v0) then if (v2 : Int32) < 0 ∨ lenW v0 ≤ Int32.toNatClampNeg (v2) then none else some (.inl (v2 + 1, wr (hi) (v0) (Int32.toNatClampNeg (v2)) (v1), hl)) else none
set_option maxRecDepth 10000 in
set_option maxHeartbeats 4000000 in
theorem bB_Arrays_fill_I_5 (ev : EV) {N : Nat} {v0 : Nat} {v1 : Int32} {v3 : Int32} {v2 : Int32} {hi : HI} {hl : HL} {z : (Int32 × HI × HL) ⊕ (HI × HL)} {OUT : Option Value × HI × HL} (h : B_Arrays_fill_I_5 N v0 v1 v3 v2 hi hl = some z) (hk : Sum.elim (fun s => EX w0 ev 0 m_Arrays_fill_I 5 [(0, .ref (v0)), (1, .int (v1)), (2, .int (s.1)), (3, .int (v3))] [] (s.2.1) (s.2.2) OUT) (fun x => EX w0 ev 0 m_Arrays_fill_I 20 [] [] (x.1) (x.2) OUT) z) : EX w0 ev 0 m_Arrays_fill_I 5 [(0, .ref (v0)), (1, .int (v1)), (2, .int (v2)), (3, .int (v3))] [] (hi) (hl) OUT := by
  unfold B_Arrays_fill_I_5 at h
  refine EX.iload_n (x := v2) rfl (List.mem_of_getElem? (i := 2) rfl) ?_
  refine EX.iload_n (x := v3) rfl (List.mem_of_getElem? (i := 3) rfl) ?_
  rcases ite_some h with ⟨c1, h⟩ | ⟨c1, h⟩
  · refine EX.go (i := .if_icmp .ge 13) (len := 3) (pc1 := 20) (st1 := []) (hi1 := hi) (hl1 := hl) rfl ?_ (fun _ _ _ => if_pos c1)
    obtain rfl := Option.some.inj h
    have hk : EX w0 ev 0 m_Arrays_fill_I 20 [] [] (hi) (hl) OUT := hk
    exact EX.pick [] hk rfl
  · refine EX.go (i := .if_icmp .ge 13) (len := 3) (pc1 := 10) (st1 := []) (hi1 := hi) (hl1 := hl) rfl ?_ (fun _ _ _ => if_neg c1)
    refine EX.aload_n (x := v0) rfl (List.mem_of_getElem? (i := 0) rfl) ?_
    refine EX.iload_n (x := v2) rfl (List.mem_of_getElem? (i := 2) rfl) ?_
    refine EX.iload_n (x := v1) rfl (List.mem_of_getElem? (i := 1) rfl) ?_
    obtain ⟨k_v0, h⟩ := grp_some h
    obtain ⟨g2, h⟩ := grd_some h
    refine EX.iastore rfl k_v0 g2 ?_
    refine EX.iinc (x := v2) (v := v2 + 1) (req1 := [(2, .int (v2 + 1)), (0, .ref (v0)), (1, .int (v1)), (3, .int (v3))]) rfl rfl (List.mem_of_getElem? (i := 2) rfl) rfl rfl ?_
    refine EX.go (i := .goto (-12)) (len := 3) (pc1 := 5) (st1 := []) (hi1 := wr (hi) (v0) (Int32.toNatClampNeg (v2)) (v1)) (hl1 := hl) rfl ?_ (fun _ _ _ => rfl)
    obtain rfl := Option.some.inj h
    have hk : EX w0 ev 0 m_Arrays_fill_I 5 [(0, .ref (v0)), (1, .int (v1)), (2, .int (v2 + 1)), (3, .int (v3))] [] (wr (hi) (v0) (Int32.toNatClampNeg (v2)) (v1)) (hl) OUT := hk
    exact EX.pick [1, 2, 0, 3] hk rfl
def f_Arrays_fill_I (N : Nat) (p0 : Nat) (p1 : Int32) (hi : HI) (hl : HL) : Option (Unit × HI × HL) :=
  if gA (p0) then (lpN (fun s => B_Arrays_fill_I_5 N (p0) (p1) ((Int32.ofNat (lenW p0))) s.1 s.2.1 s.2.2) N (0, hi, hl)).bind fun x3 => some ((), x3.1, x3.2) else none
set_option maxRecDepth 10000 in
set_option maxHeartbeats 4000000 in
theorem b_Arrays_fill_I (ev : EV) {N : Nat} {p0 : Nat} {p1 : Int32} {hi : HI} {hl : HL} {o : Unit × HI × HL} (h : f_Arrays_fill_I N p0 p1 hi hl = some o) : EM w0 ev 1 m_Arrays_fill_I [.ref (p0), .int (p1)] hi hl (oV o) := by
  unfold f_Arrays_fill_I at h
  refine EM.of rfl ?_
  show EX w0 ev 0 m_Arrays_fill_I 0 [(0, .ref (p0)), (1, .int (p1))] [] (hi) (hl) (oV o)
  refine EX.iconst (v := 0) rfl rfl ?_
  refine EX.istore_n (req1 := [(2, .int (0)), (0, .ref (p0)), (1, .int (p1))]) rfl rfl rfl ?_
  refine EX.aload_n (x := p0) rfl (List.mem_of_getElem? (i := 1) rfl) ?_
  obtain ⟨k_p0, h⟩ := grp_some h
  refine EX.alenV rfl k_p0 ?_
  refine EX.istore_n (req1 := [(3, .int ((Int32.ofNat (lenW p0)))), (2, .int (0)), (0, .ref (p0)), (1, .int (p1))]) rfl rfl rfl ?_
  obtain ⟨x3, hx3, h⟩ := bnd_some h
  refine EX.pick [2, 3, 1, 0] ?_ rfl
  refine lp_sound (f := fun s => B_Arrays_fill_I_5 N (p0) (p1) ((Int32.ofNat (lenW p0))) s.1 s.2.1 s.2.2) (PS := fun s => EX w0 ev 0 m_Arrays_fill_I 5 [(0, .ref (p0)), (1, .int (p1)), (2, .int (s.1)), (3, .int ((Int32.ofNat (lenW p0))))] [] (s.2.1) (s.2.2) (oV o)) (PX := fun x => EX w0 ev 0 m_Arrays_fill_I 20 [] [] (x.1) (x.2) (oV o)) ?_ N _ x3 hx3 ?_
  · exact fun s z hz hk => bB_Arrays_fill_I_5 ev hz hk
  show EX w0 ev 0 m_Arrays_fill_I 20 [] [] (x3.1) (x3.2) (oV o)
  obtain rfl := Option.some.inj h
  exact EX.vret rfl rfl
def J_Guesses_spoil_24 (N : Nat) (s0 : Int32) (s1 : Int32) (hi : HI) (hl : HL) : Option (Unit × HI × HL) :=
  if (s1 : Int32) < 0 ∨ 16 ≤ Int32.toNatClampNeg (s1) then none else some ((), wr (hi) 54 (Int32.toNatClampNeg (s1)) (s0), hl)
set_option maxRecDepth 10000 in
set_option maxHeartbeats 4000000 in
theorem bJ_Guesses_spoil_24 (ev : EV) {N : Nat} {s0 : Int32} {s1 : Int32} {hi : HI} {hl : HL} {o : Unit × HI × HL} (h : J_Guesses_spoil_24 N s0 s1 hi hl = some o) : EX w0 ev 0 m_Guesses_spoil 24 [] [.int (s0), .int (s1), .ref 54] (hi) (hl) (oV o) := by
  unfold J_Guesses_spoil_24 at h
  obtain ⟨g3, h⟩ := grd_some h
  refine EX.iastore rfl rfl g3 ?_
  obtain rfl := Option.some.inj h
  exact EX.vret rfl rfl
def f_Guesses_spoil (N : Nat) (p1 : Int32) (hi : HI) (hl : HL) : Option (Unit × HI × HL) :=
  if (p1 : Int32) = ((-4) : Int32) then some ((), hi, hl) else if (((p1 : Int32) - (p1 : Int32) / (2) * (2)) : Int32) = 0 then J_Guesses_spoil_24 N (1) (((p1 : Int32) / (2))) (hi) (hl) else J_Guesses_spoil_24 N (2) (((p1 : Int32) / (2))) (hi) (hl)
set_option maxRecDepth 10000 in
set_option maxHeartbeats 4000000 in
theorem b_Guesses_spoil (ev : EV) {N : Nat} {p1 : Int32} {hi : HI} {hl : HL} {o : Unit × HI × HL} (h : f_Guesses_spoil N p1 hi hl = some o) : EM w0 ev 1 m_Guesses_spoil [.ref 51, .int (p1)] hi hl (oV o) := by
  unfold f_Guesses_spoil at h
  refine EM.of rfl ?_
  show EX w0 ev 0 m_Guesses_spoil 0 [(0, .ref 51), (1, .int (p1))] [] (hi) (hl) (oV o)
  refine EX.iload_n (x := p1) rfl (List.mem_of_getElem? (i := 1) rfl) ?_
  refine EX.bipush (v := (-4)) rfl rfl ?_
  rcases ite_some h with ⟨c1, h⟩ | ⟨c1, h⟩
  · refine EX.go (i := .if_icmp .eq 22) (len := 3) (pc1 := 25) (st1 := []) (hi1 := hi) (hl1 := hl) rfl ?_ (fun _ _ _ => if_pos c1)
    obtain rfl := Option.some.inj h
    exact EX.vret rfl rfl
  · refine EX.go (i := .if_icmp .eq 22) (len := 3) (pc1 := 6) (st1 := []) (hi1 := hi) (hl1 := hl) rfl ?_ (fun _ _ _ => if_neg c1)
    refine EX.aload_n (x := 51) rfl (List.mem_of_getElem? (i := 0) rfl) ?_
    refine EX.go (i := .getfield 18) (len := 3) (pc1 := 10) (st1 := [.ref 54]) (hi1 := hi) (hl1 := hl) rfl ?_ (fun _ _ _ => rfl)
    refine EX.iload_n (x := p1) rfl (List.mem_of_getElem? (i := 1) rfl) ?_
    refine EX.iconst (v := 2) rfl rfl ?_
    refine EX.go (i := .idiv) (len := 1) (pc1 := 13) (st1 := [.int (((p1 : Int32) / (2))), .ref 54]) (hi1 := hi) (hl1 := hl) rfl ?_ (fun _ _ _ => rfl)
    refine EX.iload_n (x := p1) rfl (List.mem_of_getElem? (i := 1) rfl) ?_
    refine EX.iconst (v := 2) rfl rfl ?_
    refine EX.go (i := .irem) (len := 1) (pc1 := 16) (st1 := [.int (((p1 : Int32) - (p1 : Int32) / (2) * (2))), .int (((p1 : Int32) / (2))), .ref 54]) (hi1 := hi) (hl1 := hl) rfl ?_ (fun _ _ _ => rfl)
    rcases ite_some h with ⟨c2, h⟩ | ⟨c2, h⟩
    · refine EX.go (i := .ifCond .ne 7) (len := 3) (pc1 := 19) (st1 := [.int (((p1 : Int32) / (2))), .ref 54]) (hi1 := hi) (hl1 := hl) rfl ?_ (fun _ _ _ => if_pos c2)
      refine EX.iconst (v := 1) rfl rfl ?_
      refine EX.go (i := .goto 4) (len := 3) (pc1 := 24) (st1 := [.int (1), .int (((p1 : Int32) / (2))), .ref 54]) (hi1 := hi) (hl1 := hl) rfl ?_ (fun _ _ _ => rfl)
      refine EX.pick [] ?_ rfl
      exact bJ_Guesses_spoil_24 ev h
    · refine EX.go (i := .ifCond .ne 7) (len := 3) (pc1 := 23) (st1 := [.int (((p1 : Int32) / (2))), .ref 54]) (hi1 := hi) (hl1 := hl) rfl ?_ (fun _ _ _ => if_neg c2)
      refine EX.iconst (v := 2) rfl rfl ?_
      refine EX.pick [] ?_ rfl
      exact bJ_Guesses_spoil_24 ev h
def f_Ways_step (N : Nat) (p1 : Int32) (p2 : Int32) (p3 : Int32) (hi : HI) (hl : HL) : Option (Unit × HI × HL) :=
  if (p1 : Int32) < 0 ∨ 36 ≤ Int32.toNatClampNeg (p1) then none else if (hi 8 (Int32.toNatClampNeg (p1)) : Int32) ≤ (p2 : Int32) then some ((), hi, hl) else if (p1 : Int32) < 0 ∨ 36 ≤ Int32.toNatClampNeg (p1) then none else if (p1 : Int32) < 0 ∨ 36 ≤ Int32.toNatClampNeg (p1) then none else some ((), wr (wr (hi) 8 (Int32.toNatClampNeg (p1)) (p2)) 9 (Int32.toNatClampNeg (p1)) (p3), hl)
set_option maxRecDepth 10000 in
set_option maxHeartbeats 4000000 in
theorem b_Ways_step (ev : EV) {N : Nat} {p1 : Int32} {p2 : Int32} {p3 : Int32} {hi : HI} {hl : HL} {o : Unit × HI × HL} (h : f_Ways_step N p1 p2 p3 hi hl = some o) : EM w0 ev 1 m_Ways_step [.ref 7, .int (p1), .int (p2), .int (p3)] hi hl (oV o) := by
  unfold f_Ways_step at h
  refine EM.of rfl ?_
  show EX w0 ev 0 m_Ways_step 0 [(0, .ref 7), (1, .int (p1)), (2, .int (p2)), (3, .int (p3))] [] (hi) (hl) (oV o)
  refine EX.iload_n (x := p2) rfl (List.mem_of_getElem? (i := 2) rfl) ?_
  refine EX.aload_n (x := 7) rfl (List.mem_of_getElem? (i := 0) rfl) ?_
  refine EX.go (i := .getfield 9) (len := 3) (pc1 := 5) (st1 := [.ref 8, .int (p2)]) (hi1 := hi) (hl1 := hl) rfl ?_ (fun _ _ _ => rfl)
  refine EX.iload_n (x := p1) rfl (List.mem_of_getElem? (i := 1) rfl) ?_
  obtain ⟨g1, h⟩ := grd_some h
  refine EX.iaload rfl rfl g1 ?_
  rcases ite_some h with ⟨c2, h⟩ | ⟨c2, h⟩
  · refine EX.go (i := .if_icmp .ge 17) (len := 3) (pc1 := 24) (st1 := []) (hi1 := hi) (hl1 := hl) rfl ?_ (fun _ _ _ => if_pos c2)
    obtain rfl := Option.some.inj h
    exact EX.vret rfl rfl
  · refine EX.go (i := .if_icmp .ge 17) (len := 3) (pc1 := 10) (st1 := []) (hi1 := hi) (hl1 := hl) rfl ?_ (fun _ _ _ => if_neg c2)
    refine EX.aload_n (x := 7) rfl (List.mem_of_getElem? (i := 0) rfl) ?_
    refine EX.go (i := .getfield 9) (len := 3) (pc1 := 14) (st1 := [.ref 8]) (hi1 := hi) (hl1 := hl) rfl ?_ (fun _ _ _ => rfl)
    refine EX.iload_n (x := p1) rfl (List.mem_of_getElem? (i := 1) rfl) ?_
    refine EX.iload_n (x := p2) rfl (List.mem_of_getElem? (i := 2) rfl) ?_
    obtain ⟨g3, h⟩ := grd_some h
    refine EX.iastore rfl rfl g3 ?_
    refine EX.aload_n (x := 7) rfl (List.mem_of_getElem? (i := 0) rfl) ?_
    refine EX.go (i := .getfield 15) (len := 3) (pc1 := 21) (st1 := [.ref 9]) (hi1 := wr (hi) 8 (Int32.toNatClampNeg (p1)) (p2)) (hl1 := hl) rfl ?_ (fun _ _ _ => rfl)
    refine EX.iload_n (x := p1) rfl (List.mem_of_getElem? (i := 1) rfl) ?_
    refine EX.iload_n (x := p3) rfl (List.mem_of_getElem? (i := 3) rfl) ?_
    obtain ⟨g4, h⟩ := grd_some h
    refine EX.iastore rfl rfl g4 ?_
    obtain rfl := Option.some.inj h
    exact EX.vret rfl rfl
def J_Ways_load_127 (N : Nat) (v2 : Nat) (v3 : Int32) (hi : HI) (hl : HL) : Option ((Int32 × HI × HL) ⊕ (HI × HL)) :=
  some (.inl (v3 + 1, hi, hl))
set_option maxRecDepth 10000 in
set_option maxHeartbeats 4000000 in
theorem bJ_Ways_load_127 (ev : EV) {N : Nat} {v2 : Nat} {v3 : Int32} {hi : HI} {hl : HL} {z : (Int32 × HI × HL) ⊕ (HI × HL)} {OUT : Option Value × HI × HL} (h : J_Ways_load_127 N v2 v3 hi hl = some z) (hk : Sum.elim (fun s => EX w0 ev 1 m_Ways_load 36 [(0, .ref 7), (1, .ref 1), (2, .ref (v2)), (3, .int (s.1))] [] (s.2.1) (s.2.2) OUT) (fun x => EX w0 ev 1 m_Ways_load 133 [] [] (x.1) (x.2) OUT) z) : EX w0 ev 1 m_Ways_load 127 [(0, .ref 7), (1, .ref 1), (2, .ref (v2)), (3, .int (v3))] [] (hi) (hl) OUT := by
  unfold J_Ways_load_127 at h
  refine EX.iinc (x := v3) (v := v3 + 1) (req1 := [(3, .int (v3 + 1)), (0, .ref 7), (1, .ref 1), (2, .ref (v2))]) rfl rfl (List.mem_of_getElem? (i := 3) rfl) rfl rfl ?_
  refine EX.go (i := .goto (-94)) (len := 3) (pc1 := 36) (st1 := []) (hi1 := hi) (hl1 := hl) rfl ?_ (fun _ _ _ => rfl)
  obtain rfl := Option.some.inj h
  have hk : EX w0 ev 1 m_Ways_load 36 [(0, .ref 7), (1, .ref 1), (2, .ref (v2)), (3, .int (v3 + 1))] [] (hi) (hl) OUT := hk
  exact EX.pick [1, 2, 3, 0] hk rfl
def B_Ways_load_36 (N : Nat) (v2 : Nat) (v3 : Int32) (hi : HI) (hl : HL) : Option ((Int32 × HI × HL) ⊕ (HI × HL)) :=
  if (hi 1 2 : Int32) ≤ (v3 : Int32) then some (.inr (hi, hl)) else if (v3 : Int32) < 0 ∨ 16 ≤ Int32.toNatClampNeg (v3) then none else if (v3 : Int32) < 0 ∨ 16 ≤ Int32.toNatClampNeg (v3) then none else if (v3 : Int32) < 0 ∨ 16 ≤ Int32.toNatClampNeg (v3) then none else if (v3 : Int32) < 0 ∨ 16 ≤ Int32.toNatClampNeg (v3) then none else if gA16 (v2) then if (v3 : Int32) < 0 ∨ 16 ≤ Int32.toNatClampNeg (v3) then none else if (hi (v2) (Int32.toNatClampNeg (v3)) : Int32) = (2 : Int32) then (f_Ways_step N (((((hi 2 (Int32.toNatClampNeg (v3)) : Int32) * (6)) : Int32) + (hi 3 (Int32.toNatClampNeg (v3))))) (0) (0) (hi) (hl)).bind fun z10 => (f_Ways_step N (((((hi 3 (Int32.toNatClampNeg (v3)) : Int32) * (6)) : Int32) + (hi 2 (Int32.toNatClampNeg (v3))))) (0) (0) (z10.2.1) (z10.2.2)).bind fun z11 => J_Ways_load_127 N (v2) (v3) (z11.2.1) (z11.2.2) else if (v3 : Int32) < 0 ∨ 16 ≤ Int32.toNatClampNeg (v3) then none else if (hi (v2) (Int32.toNatClampNeg (v3)) : Int32) = 0 then if (v3 : Int32) < 0 ∨ 16 ≤ Int32.toNatClampNeg (v3) then none else (f_Ways_step N (((((hi 2 (Int32.toNatClampNeg (v3)) : Int32) * (6)) : Int32) + (hi 3 (Int32.toNatClampNeg (v3))))) (hi 4 (Int32.toNatClampNeg (v3))) (((1 : Int32) <<< (v3 &&& 31))) (hi) (hl)).bind fun z15 => J_Ways_load_127 N (v2) (v3) (z15.2.1) (z15.2.2) else J_Ways_load_127 N (v2) (v3) (hi) (hl) else none
set_option maxRecDepth 10000 in
set_option maxHeartbeats 4000000 in
theorem bB_Ways_load_36 (ev : EV) {N : Nat} {v2 : Nat} {v3 : Int32} {hi : HI} {hl : HL} {z : (Int32 × HI × HL) ⊕ (HI × HL)} {OUT : Option Value × HI × HL} (h : B_Ways_load_36 N v2 v3 hi hl = some z) (hk : Sum.elim (fun s => EX w0 ev 1 m_Ways_load 36 [(0, .ref 7), (1, .ref 1), (2, .ref (v2)), (3, .int (s.1))] [] (s.2.1) (s.2.2) OUT) (fun x => EX w0 ev 1 m_Ways_load 133 [] [] (x.1) (x.2) OUT) z) : EX w0 ev 1 m_Ways_load 36 [(0, .ref 7), (1, .ref 1), (2, .ref (v2)), (3, .int (v3))] [] (hi) (hl) OUT := by
  unfold B_Ways_load_36 at h
  refine EX.iload_n (x := v3) rfl (List.mem_of_getElem? (i := 3) rfl) ?_
  refine EX.aload_n (x := 1) rfl (List.mem_of_getElem? (i := 1) rfl) ?_
  refine EX.go (i := .getfield 41) (len := 3) (pc1 := 41) (st1 := [.int (hi 1 2), .int (v3)]) (hi1 := hi) (hl1 := hl) rfl ?_ (fun _ _ _ => rfl)
  rcases ite_some h with ⟨c3, h⟩ | ⟨c3, h⟩
  · refine EX.go (i := .if_icmp .ge 92) (len := 3) (pc1 := 133) (st1 := []) (hi1 := hi) (hl1 := hl) rfl ?_ (fun _ _ _ => if_pos c3)
    obtain rfl := Option.some.inj h
    have hk : EX w0 ev 1 m_Ways_load 133 [] [] (hi) (hl) OUT := hk
    exact EX.pick [] hk rfl
  · refine EX.go (i := .if_icmp .ge 92) (len := 3) (pc1 := 44) (st1 := []) (hi1 := hi) (hl1 := hl) rfl ?_ (fun _ _ _ => if_neg c3)
    refine EX.aload_n (x := 1) rfl (List.mem_of_getElem? (i := 1) rfl) ?_
    refine EX.go (i := .getfield 44) (len := 3) (pc1 := 48) (st1 := [.ref 2]) (hi1 := hi) (hl1 := hl) rfl ?_ (fun _ _ _ => rfl)
    refine EX.iload_n (x := v3) rfl (List.mem_of_getElem? (i := 3) rfl) ?_
    obtain ⟨g4, h⟩ := grd_some h
    refine EX.iaload rfl rfl g4 ?_
    refine EX.bipush (v := 6) rfl rfl ?_
    refine EX.go (i := .imul) (len := 1) (pc1 := 53) (st1 := [.int (((hi 2 (Int32.toNatClampNeg (v3)) : Int32) * (6)))]) (hi1 := hi) (hl1 := hl) rfl ?_ (fun _ _ _ => rfl)
    refine EX.aload_n (x := 1) rfl (List.mem_of_getElem? (i := 1) rfl) ?_
    refine EX.go (i := .getfield 47) (len := 3) (pc1 := 57) (st1 := [.ref 3, .int (((hi 2 (Int32.toNatClampNeg (v3)) : Int32) * (6)))]) (hi1 := hi) (hl1 := hl) rfl ?_ (fun _ _ _ => rfl)
    refine EX.iload_n (x := v3) rfl (List.mem_of_getElem? (i := 3) rfl) ?_
    obtain ⟨g5, h⟩ := grd_some h
    refine EX.iaload rfl rfl g5 ?_
    refine EX.go (i := .iadd) (len := 1) (pc1 := 60) (st1 := [.int (((((hi 2 (Int32.toNatClampNeg (v3)) : Int32) * (6)) : Int32) + (hi 3 (Int32.toNatClampNeg (v3)))))]) (hi1 := hi) (hl1 := hl) rfl ?_ (fun _ _ _ => rfl)
    refine EX.istore (req1 := [(4, .int (((((hi 2 (Int32.toNatClampNeg (v3)) : Int32) * (6)) : Int32) + (hi 3 (Int32.toNatClampNeg (v3)))))), (0, .ref 7), (1, .ref 1), (2, .ref (v2)), (3, .int (v3))]) rfl rfl rfl ?_
    refine EX.aload_n (x := 1) rfl (List.mem_of_getElem? (i := 2) rfl) ?_
    refine EX.go (i := .getfield 47) (len := 3) (pc1 := 66) (st1 := [.ref 3]) (hi1 := hi) (hl1 := hl) rfl ?_ (fun _ _ _ => rfl)
    refine EX.iload_n (x := v3) rfl (List.mem_of_getElem? (i := 4) rfl) ?_
    obtain ⟨g6, h⟩ := grd_some h
    refine EX.iaload rfl rfl g6 ?_
    refine EX.bipush (v := 6) rfl rfl ?_
    refine EX.go (i := .imul) (len := 1) (pc1 := 71) (st1 := [.int (((hi 3 (Int32.toNatClampNeg (v3)) : Int32) * (6)))]) (hi1 := hi) (hl1 := hl) rfl ?_ (fun _ _ _ => rfl)
    refine EX.aload_n (x := 1) rfl (List.mem_of_getElem? (i := 2) rfl) ?_
    refine EX.go (i := .getfield 44) (len := 3) (pc1 := 75) (st1 := [.ref 2, .int (((hi 3 (Int32.toNatClampNeg (v3)) : Int32) * (6)))]) (hi1 := hi) (hl1 := hl) rfl ?_ (fun _ _ _ => rfl)
    refine EX.iload_n (x := v3) rfl (List.mem_of_getElem? (i := 4) rfl) ?_
    obtain ⟨g7, h⟩ := grd_some h
    refine EX.iaload rfl rfl g7 ?_
    refine EX.go (i := .iadd) (len := 1) (pc1 := 78) (st1 := [.int (((((hi 3 (Int32.toNatClampNeg (v3)) : Int32) * (6)) : Int32) + (hi 2 (Int32.toNatClampNeg (v3)))))]) (hi1 := hi) (hl1 := hl) rfl ?_ (fun _ _ _ => rfl)
    refine EX.istore (req1 := [(5, .int (((((hi 3 (Int32.toNatClampNeg (v3)) : Int32) * (6)) : Int32) + (hi 2 (Int32.toNatClampNeg (v3)))))), (4, .int (((((hi 2 (Int32.toNatClampNeg (v3)) : Int32) * (6)) : Int32) + (hi 3 (Int32.toNatClampNeg (v3)))))), (0, .ref 7), (1, .ref 1), (2, .ref (v2)), (3, .int (v3))]) rfl rfl rfl ?_
    refine EX.aload_n (x := v2) rfl (List.mem_of_getElem? (i := 4) rfl) ?_
    refine EX.iload_n (x := v3) rfl (List.mem_of_getElem? (i := 5) rfl) ?_
    obtain ⟨k_v2, h⟩ := grp_some h
    obtain ⟨g8, h⟩ := grd_some h
    refine EX.iaload rfl k_v2 g8 ?_
    refine EX.iconst (v := 2) rfl rfl ?_
    rcases ite_some h with ⟨c9, h⟩ | ⟨c9, h⟩
    · refine EX.go (i := .if_icmp .ne 22) (len := 3) (pc1 := 87) (st1 := []) (hi1 := hi) (hl1 := hl) rfl ?_ (fun _ _ _ => if_pos c9)
      refine EX.aload_n (x := 7) rfl (List.mem_of_getElem? (i := 2) rfl) ?_
      refine EX.iload (x := ((((hi 2 (Int32.toNatClampNeg (v3)) : Int32) * (6)) : Int32) + (hi 3 (Int32.toNatClampNeg (v3))))) rfl (List.mem_of_getElem? (i := 1) rfl) ?_
      refine EX.iconst (v := 0) rfl rfl ?_
      refine EX.iconst (v := 0) rfl rfl ?_
      obtain ⟨z10, hz10, h⟩ := bnd_some h
      refine EX.callV (b := 7) (as := [.int (((((hi 2 (Int32.toNatClampNeg (v3)) : Int32) * (6)) : Int32) + (hi 3 (Int32.toNatClampNeg (v3))))), .int (0), .int (0)]) (rest := []) (r := none) (hi1 := z10.2.1) (hl1 := z10.2.2) rfl rfl rfl rfl rfl rfl ((b_Ways_step ev hz10).mono (by decide)) ?_
      show EX w0 ev 1 m_Ways_load 95 [(5, .int (((((hi 3 (Int32.toNatClampNeg (v3)) : Int32) * (6)) : Int32) + (hi 2 (Int32.toNatClampNeg (v3)))))), (4, .int (((((hi 2 (Int32.toNatClampNeg (v3)) : Int32) * (6)) : Int32) + (hi 3 (Int32.toNatClampNeg (v3)))))), (0, .ref 7), (1, .ref 1), (2, .ref (v2)), (3, .int (v3))] [] (z10.2.1) (z10.2.2) OUT
      refine EX.aload_n (x := 7) rfl (List.mem_of_getElem? (i := 2) rfl) ?_
      refine EX.iload (x := ((((hi 3 (Int32.toNatClampNeg (v3)) : Int32) * (6)) : Int32) + (hi 2 (Int32.toNatClampNeg (v3))))) rfl (List.mem_of_getElem? (i := 0) rfl) ?_
      refine EX.iconst (v := 0) rfl rfl ?_
      refine EX.iconst (v := 0) rfl rfl ?_
      obtain ⟨z11, hz11, h⟩ := bnd_some h
      refine EX.callV (b := 7) (as := [.int (((((hi 3 (Int32.toNatClampNeg (v3)) : Int32) * (6)) : Int32) + (hi 2 (Int32.toNatClampNeg (v3))))), .int (0), .int (0)]) (rest := []) (r := none) (hi1 := z11.2.1) (hl1 := z11.2.2) rfl rfl rfl rfl rfl rfl ((b_Ways_step ev hz11).mono (by decide)) ?_
      show EX w0 ev 1 m_Ways_load 103 [(5, .int (((((hi 3 (Int32.toNatClampNeg (v3)) : Int32) * (6)) : Int32) + (hi 2 (Int32.toNatClampNeg (v3)))))), (4, .int (((((hi 2 (Int32.toNatClampNeg (v3)) : Int32) * (6)) : Int32) + (hi 3 (Int32.toNatClampNeg (v3)))))), (0, .ref 7), (1, .ref 1), (2, .ref (v2)), (3, .int (v3))] [] (z11.2.1) (z11.2.2) OUT
      refine EX.go (i := .goto 24) (len := 3) (pc1 := 127) (st1 := []) (hi1 := z11.2.1) (hl1 := z11.2.2) rfl ?_ (fun _ _ _ => rfl)
      refine EX.pick [2, 3, 4, 5] ?_ rfl
      exact bJ_Ways_load_127 ev h hk
    · refine EX.go (i := .if_icmp .ne 22) (len := 3) (pc1 := 106) (st1 := []) (hi1 := hi) (hl1 := hl) rfl ?_ (fun _ _ _ => if_neg c9)
      refine EX.aload_n (x := v2) rfl (List.mem_of_getElem? (i := 4) rfl) ?_
      refine EX.iload_n (x := v3) rfl (List.mem_of_getElem? (i := 5) rfl) ?_
      obtain ⟨g12, h⟩ := grd_some h
      refine EX.iaload rfl k_v2 g12 ?_
      rcases ite_some h with ⟨c13, h⟩ | ⟨c13, h⟩
      · refine EX.go (i := .ifCond .ne 18) (len := 3) (pc1 := 112) (st1 := []) (hi1 := hi) (hl1 := hl) rfl ?_ (fun _ _ _ => if_pos c13)
        refine EX.aload_n (x := 7) rfl (List.mem_of_getElem? (i := 2) rfl) ?_
        refine EX.iload (x := ((((hi 2 (Int32.toNatClampNeg (v3)) : Int32) * (6)) : Int32) + (hi 3 (Int32.toNatClampNeg (v3))))) rfl (List.mem_of_getElem? (i := 1) rfl) ?_
        refine EX.aload_n (x := 1) rfl (List.mem_of_getElem? (i := 3) rfl) ?_
        refine EX.go (i := .getfield 54) (len := 3) (pc1 := 119) (st1 := [.ref 4, .int (((((hi 2 (Int32.toNatClampNeg (v3)) : Int32) * (6)) : Int32) + (hi 3 (Int32.toNatClampNeg (v3))))), .ref 7]) (hi1 := hi) (hl1 := hl) rfl ?_ (fun _ _ _ => rfl)
        refine EX.iload_n (x := v3) rfl (List.mem_of_getElem? (i := 5) rfl) ?_
        obtain ⟨g14, h⟩ := grd_some h
        refine EX.iaload rfl rfl g14 ?_
        refine EX.iconst (v := 1) rfl rfl ?_
        refine EX.iload_n (x := v3) rfl (List.mem_of_getElem? (i := 5) rfl) ?_
        refine EX.go (i := .ishl) (len := 1) (pc1 := 124) (st1 := [.int (((1 : Int32) <<< (v3 &&& 31))), .int (hi 4 (Int32.toNatClampNeg (v3))), .int (((((hi 2 (Int32.toNatClampNeg (v3)) : Int32) * (6)) : Int32) + (hi 3 (Int32.toNatClampNeg (v3))))), .ref 7]) (hi1 := hi) (hl1 := hl) rfl ?_ (fun _ _ _ => rfl)
        obtain ⟨z15, hz15, h⟩ := bnd_some h
        refine EX.callV (b := 7) (as := [.int (((((hi 2 (Int32.toNatClampNeg (v3)) : Int32) * (6)) : Int32) + (hi 3 (Int32.toNatClampNeg (v3))))), .int (hi 4 (Int32.toNatClampNeg (v3))), .int (((1 : Int32) <<< (v3 &&& 31)))]) (rest := []) (r := none) (hi1 := z15.2.1) (hl1 := z15.2.2) rfl rfl rfl rfl rfl rfl ((b_Ways_step ev hz15).mono (by decide)) ?_
        show EX w0 ev 1 m_Ways_load 127 [(5, .int (((((hi 3 (Int32.toNatClampNeg (v3)) : Int32) * (6)) : Int32) + (hi 2 (Int32.toNatClampNeg (v3)))))), (4, .int (((((hi 2 (Int32.toNatClampNeg (v3)) : Int32) * (6)) : Int32) + (hi 3 (Int32.toNatClampNeg (v3)))))), (0, .ref 7), (1, .ref 1), (2, .ref (v2)), (3, .int (v3))] [] (z15.2.1) (z15.2.2) OUT
        refine EX.pick [2, 3, 4, 5] ?_ rfl
        exact bJ_Ways_load_127 ev h hk
      · refine EX.go (i := .ifCond .ne 18) (len := 3) (pc1 := 127) (st1 := []) (hi1 := hi) (hl1 := hl) rfl ?_ (fun _ _ _ => if_neg c13)
        refine EX.pick [2, 3, 4, 5] ?_ rfl
        exact bJ_Ways_load_127 ev h hk
def f_Ways_load (N : Nat) (p2 : Nat) (hi : HI) (hl : HL) : Option (Unit × HI × HL) :=
  (f_Arrays_fill_I N (8) (1000) (wr (wr (hi) 7 2 (hi 1 0)) 7 3 ((wr (hi) 7 2 (hi 1 0)) 1 1)) (hl)).bind fun z1 => (f_Arrays_fill_I N (9) (0) (z1.2.1) (z1.2.2)).bind fun z2 => (lpN (fun s => B_Ways_load_36 N (p2) s.1 s.2.1 s.2.2) N (0, z2.2.1, z2.2.2)).bind fun x16 => some ((), x16.1, x16.2)
set_option maxRecDepth 10000 in
set_option maxHeartbeats 4000000 in
theorem b_Ways_load (ev : EV) {N : Nat} {p2 : Nat} {hi : HI} {hl : HL} {o : Unit × HI × HL} (h : f_Ways_load N p2 hi hl = some o) : EM w0 ev 2 m_Ways_load [.ref 7, .ref 1, .ref (p2)] hi hl (oV o) := by
  unfold f_Ways_load at h
  refine EM.of rfl ?_
  show EX w0 ev 1 m_Ways_load 0 [(0, .ref 7), (1, .ref 1), (2, .ref (p2))] [] (hi) (hl) (oV o)
  refine EX.aload_n (x := 7) rfl (List.mem_of_getElem? (i := 0) rfl) ?_
  refine EX.aload_n (x := 1) rfl (List.mem_of_getElem? (i := 1) rfl) ?_
  refine EX.go (i := .getfield 24) (len := 3) (pc1 := 5) (st1 := [.int (hi 1 0), .ref 7]) (hi1 := hi) (hl1 := hl) rfl ?_ (fun _ _ _ => rfl)
  refine EX.go (i := .putfield 30) (len := 3) (pc1 := 8) (st1 := []) (hi1 := wr (hi) 7 2 (hi 1 0)) (hl1 := hl) rfl ?_ (fun _ _ _ => rfl)
  refine EX.aload_n (x := 7) rfl (List.mem_of_getElem? (i := 0) rfl) ?_
  refine EX.aload_n (x := 1) rfl (List.mem_of_getElem? (i := 1) rfl) ?_
  refine EX.go (i := .getfield 31) (len := 3) (pc1 := 13) (st1 := [.int ((wr (hi) 7 2 (hi 1 0)) 1 1), .ref 7]) (hi1 := wr (hi) 7 2 (hi 1 0)) (hl1 := hl) rfl ?_ (fun _ _ _ => rfl)
  refine EX.go (i := .putfield 34) (len := 3) (pc1 := 16) (st1 := []) (hi1 := wr (wr (hi) 7 2 (hi 1 0)) 7 3 ((wr (hi) 7 2 (hi 1 0)) 1 1)) (hl1 := hl) rfl ?_ (fun _ _ _ => rfl)
  refine EX.aload_n (x := 7) rfl (List.mem_of_getElem? (i := 0) rfl) ?_
  refine EX.go (i := .getfield 9) (len := 3) (pc1 := 20) (st1 := [.ref 8]) (hi1 := wr (wr (hi) 7 2 (hi 1 0)) 7 3 ((wr (hi) 7 2 (hi 1 0)) 1 1)) (hl1 := hl) rfl ?_ (fun _ _ _ => rfl)
  refine EX.sipush (v := 1000) rfl rfl ?_
  obtain ⟨z1, hz1, h⟩ := bnd_some h
  refine EX.callS (as := [.ref 8, .int (1000)]) (rest := []) (r := none) (hi1 := z1.2.1) (hl1 := z1.2.2) rfl rfl rfl rfl rfl rfl ((b_Arrays_fill_I ev hz1).mono (by decide)) ?_
  show EX w0 ev 1 m_Ways_load 26 [(0, .ref 7), (1, .ref 1), (2, .ref (p2))] [] (z1.2.1) (z1.2.2) (oV o)
  refine EX.aload_n (x := 7) rfl (List.mem_of_getElem? (i := 0) rfl) ?_
  refine EX.go (i := .getfield 15) (len := 3) (pc1 := 30) (st1 := [.ref 9]) (hi1 := z1.2.1) (hl1 := z1.2.2) rfl ?_ (fun _ _ _ => rfl)
  refine EX.iconst (v := 0) rfl rfl ?_
  obtain ⟨z2, hz2, h⟩ := bnd_some h
  refine EX.callS (as := [.ref 9, .int (0)]) (rest := []) (r := none) (hi1 := z2.2.1) (hl1 := z2.2.2) rfl rfl rfl rfl rfl rfl ((b_Arrays_fill_I ev hz2).mono (by decide)) ?_
  show EX w0 ev 1 m_Ways_load 34 [(0, .ref 7), (1, .ref 1), (2, .ref (p2))] [] (z2.2.1) (z2.2.2) (oV o)
  refine EX.iconst (v := 0) rfl rfl ?_
  refine EX.istore_n (req1 := [(3, .int (0)), (0, .ref 7), (1, .ref 1), (2, .ref (p2))]) rfl rfl rfl ?_
  obtain ⟨x16, hx16, h⟩ := bnd_some h
  refine EX.pick [1, 2, 3, 0] ?_ rfl
  refine lp_sound (f := fun s => B_Ways_load_36 N (p2) s.1 s.2.1 s.2.2) (PS := fun s => EX w0 ev 1 m_Ways_load 36 [(0, .ref 7), (1, .ref 1), (2, .ref (p2)), (3, .int (s.1))] [] (s.2.1) (s.2.2) (oV o)) (PX := fun x => EX w0 ev 1 m_Ways_load 133 [] [] (x.1) (x.2) (oV o)) ?_ N _ x16 hx16 ?_
  · exact fun s z hz hk => bB_Ways_load_36 ev hz hk
  show EX w0 ev 1 m_Ways_load 133 [] [] (x16.1) (x16.2) (oV o)
  obtain rfl := Option.some.inj h
  exact EX.vret rfl rfl
def f_Guesses_suppose (N : Nat) (p3 : Int32) (p4 : Int32) (hi : HI) (hl : HL) : Option (Unit × HI × HL) :=
  (f_Arrays_fill_I N (54) (0) (hi) (hl)).bind fun z1 => (f_Guesses_spoil N (p3) (z1.2.1) (z1.2.2)).bind fun z2 => (f_Guesses_spoil N (p4) (z2.2.1) (z2.2.2)).bind fun z3 => (f_Ways_load N (54) (z3.2.1) (z3.2.2)).bind fun z4 => some ((), z4.2.1, z4.2.2)
set_option maxRecDepth 10000 in
set_option maxHeartbeats 4000000 in
theorem b_Guesses_suppose (ev : EV) {N : Nat} {p3 : Int32} {p4 : Int32} {hi : HI} {hl : HL} {o : Unit × HI × HL} (h : f_Guesses_suppose N p3 p4 hi hl = some o) : EM w0 ev 3 m_Guesses_suppose [.ref 51, .ref 1, .ref 7, .int (p3), .int (p4)] hi hl (oV o) := by
  unfold f_Guesses_suppose at h
  refine EM.of rfl ?_
  show EX w0 ev 2 m_Guesses_suppose 0 [(0, .ref 51), (1, .ref 1), (2, .ref 7), (3, .int (p3)), (4, .int (p4))] [] (hi) (hl) (oV o)
  refine EX.aload_n (x := 51) rfl (List.mem_of_getElem? (i := 0) rfl) ?_
  refine EX.go (i := .getfield 18) (len := 3) (pc1 := 4) (st1 := [.ref 54]) (hi1 := hi) (hl1 := hl) rfl ?_ (fun _ _ _ => rfl)
  refine EX.iconst (v := 0) rfl rfl ?_
  obtain ⟨z1, hz1, h⟩ := bnd_some h
  refine EX.callS (as := [.ref 54, .int (0)]) (rest := []) (r := none) (hi1 := z1.2.1) (hl1 := z1.2.2) rfl rfl rfl rfl rfl rfl ((b_Arrays_fill_I ev hz1).mono (by decide)) ?_
  show EX w0 ev 2 m_Guesses_suppose 8 [(0, .ref 51), (1, .ref 1), (2, .ref 7), (3, .int (p3)), (4, .int (p4))] [] (z1.2.1) (z1.2.2) (oV o)
  refine EX.aload_n (x := 51) rfl (List.mem_of_getElem? (i := 0) rfl) ?_
  refine EX.iload_n (x := p3) rfl (List.mem_of_getElem? (i := 3) rfl) ?_
  obtain ⟨z2, hz2, h⟩ := bnd_some h
  refine EX.callV (b := 51) (as := [.int (p3)]) (rest := []) (r := none) (hi1 := z2.2.1) (hl1 := z2.2.2) rfl rfl rfl rfl rfl rfl ((b_Guesses_spoil ev hz2).mono (by decide)) ?_
  show EX w0 ev 2 m_Guesses_suppose 13 [(0, .ref 51), (1, .ref 1), (2, .ref 7), (3, .int (p3)), (4, .int (p4))] [] (z2.2.1) (z2.2.2) (oV o)
  refine EX.aload_n (x := 51) rfl (List.mem_of_getElem? (i := 0) rfl) ?_
  refine EX.iload (x := p4) rfl (List.mem_of_getElem? (i := 4) rfl) ?_
  obtain ⟨z3, hz3, h⟩ := bnd_some h
  refine EX.callV (b := 51) (as := [.int (p4)]) (rest := []) (r := none) (hi1 := z3.2.1) (hl1 := z3.2.2) rfl rfl rfl rfl rfl rfl ((b_Guesses_spoil ev hz3).mono (by decide)) ?_
  show EX w0 ev 2 m_Guesses_suppose 19 [(0, .ref 51), (1, .ref 1), (2, .ref 7), (3, .int (p3)), (4, .int (p4))] [] (z3.2.1) (z3.2.2) (oV o)
  refine EX.aload_n (x := 7) rfl (List.mem_of_getElem? (i := 2) rfl) ?_
  refine EX.aload_n (x := 1) rfl (List.mem_of_getElem? (i := 1) rfl) ?_
  refine EX.aload_n (x := 51) rfl (List.mem_of_getElem? (i := 0) rfl) ?_
  refine EX.go (i := .getfield 18) (len := 3) (pc1 := 25) (st1 := [.ref 54, .ref 1, .ref 7]) (hi1 := z3.2.1) (hl1 := z3.2.2) rfl ?_ (fun _ _ _ => rfl)
  obtain ⟨z4, hz4, h⟩ := bnd_some h
  refine EX.callV (b := 7) (as := [.ref 1, .ref 54]) (rest := []) (r := none) (hi1 := z4.2.1) (hl1 := z4.2.2) rfl rfl rfl rfl rfl rfl ((b_Ways_load ev hz4).mono (by decide)) ?_
  show EX w0 ev 2 m_Guesses_suppose 28 [(0, .ref 51), (1, .ref 1), (2, .ref 7), (3, .int (p3)), (4, .int (p4))] [] (z4.2.1) (z4.2.2) (oV o)
  obtain rfl := Option.some.inj h
  exact EX.vret rfl rfl
def f_Ways_offer (N : Nat) (p1 : Int32) (p2 : Int32) (p3 : Int32) (hi : HI) (hl : HL) : Option (Unit × HI × HL) :=
  if (p1 : Int32) < 0 ∨ 36 ≤ Int32.toNatClampNeg (p1) then none else if (hi 10 (Int32.toNatClampNeg (p1)) : Int32) ≤ (p2 : Int32) then if (p1 : Int32) < 0 ∨ 36 ≤ Int32.toNatClampNeg (p1) then none else if (p2 : Int32) = (hi 10 (Int32.toNatClampNeg (p1)) : Int32) then if (p1 : Int32) < 0 ∨ 36 ≤ Int32.toNatClampNeg (p1) then none else if (p1 : Int32) < 0 ∨ 36 ≤ Int32.toNatClampNeg (p1) then none else some ((), wr (hi) 11 (Int32.toNatClampNeg (p1)) (((hi 11 (Int32.toNatClampNeg (p1)) : Int32) ||| p3)), hl) else some ((), hi, hl) else if (p1 : Int32) < 0 ∨ 36 ≤ Int32.toNatClampNeg (p1) then none else if (p1 : Int32) < 0 ∨ 36 ≤ Int32.toNatClampNeg (p1) then none else some ((), wr (wr (hi) 10 (Int32.toNatClampNeg (p1)) (p2)) 11 (Int32.toNatClampNeg (p1)) (p3), hl)
set_option maxRecDepth 10000 in
set_option maxHeartbeats 4000000 in
theorem b_Ways_offer (ev : EV) {N : Nat} {p1 : Int32} {p2 : Int32} {p3 : Int32} {hi : HI} {hl : HL} {o : Unit × HI × HL} (h : f_Ways_offer N p1 p2 p3 hi hl = some o) : EM w0 ev 1 m_Ways_offer [.ref 7, .int (p1), .int (p2), .int (p3)] hi hl (oV o) := by
  unfold f_Ways_offer at h
  refine EM.of rfl ?_
  show EX w0 ev 0 m_Ways_offer 0 [(0, .ref 7), (1, .int (p1)), (2, .int (p2)), (3, .int (p3))] [] (hi) (hl) (oV o)
  refine EX.iload_n (x := p2) rfl (List.mem_of_getElem? (i := 2) rfl) ?_
  refine EX.aload_n (x := 7) rfl (List.mem_of_getElem? (i := 0) rfl) ?_
  refine EX.go (i := .getfield 18) (len := 3) (pc1 := 5) (st1 := [.ref 10, .int (p2)]) (hi1 := hi) (hl1 := hl) rfl ?_ (fun _ _ _ => rfl)
  refine EX.iload_n (x := p1) rfl (List.mem_of_getElem? (i := 1) rfl) ?_
  obtain ⟨g1, h⟩ := grd_some h
  refine EX.iaload rfl rfl g1 ?_
  rcases ite_some h with ⟨c2, h⟩ | ⟨c2, h⟩
  · refine EX.go (i := .if_icmp .ge 20) (len := 3) (pc1 := 27) (st1 := []) (hi1 := hi) (hl1 := hl) rfl ?_ (fun _ _ _ => if_pos c2)
    refine EX.iload_n (x := p2) rfl (List.mem_of_getElem? (i := 2) rfl) ?_
    refine EX.aload_n (x := 7) rfl (List.mem_of_getElem? (i := 0) rfl) ?_
    refine EX.go (i := .getfield 18) (len := 3) (pc1 := 32) (st1 := [.ref 10, .int (p2)]) (hi1 := hi) (hl1 := hl) rfl ?_ (fun _ _ _ => rfl)
    refine EX.iload_n (x := p1) rfl (List.mem_of_getElem? (i := 1) rfl) ?_
    obtain ⟨g3, h⟩ := grd_some h
    refine EX.iaload rfl rfl g3 ?_
    rcases ite_some h with ⟨c4, h⟩ | ⟨c4, h⟩
    · refine EX.go (i := .if_icmp .ne 13) (len := 3) (pc1 := 37) (st1 := []) (hi1 := hi) (hl1 := hl) rfl ?_ (fun _ _ _ => if_pos c4)
      refine EX.aload_n (x := 7) rfl (List.mem_of_getElem? (i := 0) rfl) ?_
      refine EX.go (i := .getfield 21) (len := 3) (pc1 := 41) (st1 := [.ref 11]) (hi1 := hi) (hl1 := hl) rfl ?_ (fun _ _ _ => rfl)
      refine EX.iload_n (x := p1) rfl (List.mem_of_getElem? (i := 1) rfl) ?_
      refine EX.go (i := .dup2) (len := 1) (pc1 := 43) (st1 := [.int (p1), .ref 11, .int (p1), .ref 11]) (hi1 := hi) (hl1 := hl) rfl ?_ (fun _ _ _ => rfl)
      obtain ⟨g5, h⟩ := grd_some h
      refine EX.iaload rfl rfl g5 ?_
      refine EX.iload_n (x := p3) rfl (List.mem_of_getElem? (i := 3) rfl) ?_
      refine EX.go (i := .ior) (len := 1) (pc1 := 46) (st1 := [.int (((hi 11 (Int32.toNatClampNeg (p1)) : Int32) ||| p3)), .int (p1), .ref 11]) (hi1 := hi) (hl1 := hl) rfl ?_ (fun _ _ _ => rfl)
      obtain ⟨g6, h⟩ := grd_some h
      refine EX.iastore rfl rfl g6 ?_
      obtain rfl := Option.some.inj h
      exact EX.vret rfl rfl
    · refine EX.go (i := .if_icmp .ne 13) (len := 3) (pc1 := 47) (st1 := []) (hi1 := hi) (hl1 := hl) rfl ?_ (fun _ _ _ => if_neg c4)
      obtain rfl := Option.some.inj h
      exact EX.vret rfl rfl
  · refine EX.go (i := .if_icmp .ge 20) (len := 3) (pc1 := 10) (st1 := []) (hi1 := hi) (hl1 := hl) rfl ?_ (fun _ _ _ => if_neg c2)
    refine EX.aload_n (x := 7) rfl (List.mem_of_getElem? (i := 0) rfl) ?_
    refine EX.go (i := .getfield 18) (len := 3) (pc1 := 14) (st1 := [.ref 10]) (hi1 := hi) (hl1 := hl) rfl ?_ (fun _ _ _ => rfl)
    refine EX.iload_n (x := p1) rfl (List.mem_of_getElem? (i := 1) rfl) ?_
    refine EX.iload_n (x := p2) rfl (List.mem_of_getElem? (i := 2) rfl) ?_
    obtain ⟨g7, h⟩ := grd_some h
    refine EX.iastore rfl rfl g7 ?_
    refine EX.aload_n (x := 7) rfl (List.mem_of_getElem? (i := 0) rfl) ?_
    refine EX.go (i := .getfield 21) (len := 3) (pc1 := 21) (st1 := [.ref 11]) (hi1 := wr (hi) 10 (Int32.toNatClampNeg (p1)) (p2)) (hl1 := hl) rfl ?_ (fun _ _ _ => rfl)
    refine EX.iload_n (x := p1) rfl (List.mem_of_getElem? (i := 1) rfl) ?_
    refine EX.iload_n (x := p3) rfl (List.mem_of_getElem? (i := 3) rfl) ?_
    obtain ⟨g8, h⟩ := grd_some h
    refine EX.iastore rfl rfl g8 ?_
    refine EX.go (i := .goto 23) (len := 3) (pc1 := 47) (st1 := []) (hi1 := wr (wr (hi) 10 (Int32.toNatClampNeg (p1)) (p2)) 11 (Int32.toNatClampNeg (p1)) (p3)) (hl1 := hl) rfl ?_ (fun _ _ _ => rfl)
    obtain rfl := Option.some.inj h
    exact EX.vret rfl rfl
def J_Ways_leadOver_138 (N : Nat) (v1 : Int32) (v2 : Int32) (v3 : Int32) (hi : HI) (hl : HL) : Option ((Int32 × HI × HL) ⊕ (HI × HL)) :=
  some (.inl (v3 + 1, hi, hl))
set_option maxRecDepth 10000 in
set_option maxHeartbeats 4000000 in
theorem bJ_Ways_leadOver_138 (ev : EV) {N : Nat} {v1 : Int32} {v2 : Int32} {v3 : Int32} {hi : HI} {hl : HL} {z : (Int32 × HI × HL) ⊕ (HI × HL)} {OUT : Option Value × HI × HL} (h : J_Ways_leadOver_138 N v1 v2 v3 hi hl = some z) (hk : Sum.elim (fun s => EX w0 ev 1 m_Ways_leadOver 2 [(0, .ref 7), (1, .int (v1)), (2, .int (v2)), (3, .int (s.1))] [] (s.2.1) (s.2.2) OUT) (fun x => EX w0 ev 1 m_Ways_leadOver 144 [] [] (x.1) (x.2) OUT) z) : EX w0 ev 1 m_Ways_leadOver 138 [(0, .ref 7), (1, .int (v1)), (2, .int (v2)), (3, .int (v3))] [] (hi) (hl) OUT := by
  unfold J_Ways_leadOver_138 at h
  refine EX.iinc (x := v3) (v := v3 + 1) (req1 := [(3, .int (v3 + 1)), (0, .ref 7), (1, .int (v1)), (2, .int (v2))]) rfl rfl (List.mem_of_getElem? (i := 3) rfl) rfl rfl ?_
  refine EX.go (i := .goto (-139)) (len := 3) (pc1 := 2) (st1 := []) (hi1 := hi) (hl1 := hl) rfl ?_ (fun _ _ _ => rfl)
  obtain rfl := Option.some.inj h
  have hk : EX w0 ev 1 m_Ways_leadOver 2 [(0, .ref 7), (1, .int (v1)), (2, .int (v2)), (3, .int (v3 + 1))] [] (hi) (hl) OUT := hk
  exact EX.pick [1, 2, 3, 0] hk rfl
def J_Ways_leadOver_132 (N : Nat) (v1 : Int32) (v2 : Int32) (v3 : Int32) (v4 : Int32) (v5 : Int32) (hi : HI) (hl : HL) : Option ((Int32 × HI × HL) ⊕ (HI × HL)) :=
  some (.inl (v5 + 1, hi, hl))
set_option maxRecDepth 10000 in
set_option maxHeartbeats 4000000 in
theorem bJ_Ways_leadOver_132 (ev : EV) {N : Nat} {v1 : Int32} {v2 : Int32} {v3 : Int32} {v4 : Int32} {v5 : Int32} {hi : HI} {hl : HL} {z : (Int32 × HI × HL) ⊕ (HI × HL)} {OUT : Option Value × HI × HL} (h : J_Ways_leadOver_132 N v1 v2 v3 v4 v5 hi hl = some z) (hk : Sum.elim (fun s => EX w0 ev 1 m_Ways_leadOver 45 [(0, .ref 7), (1, .int (v1)), (2, .int (v2)), (3, .int (v3)), (4, .int (v4)), (5, .int (s.1))] [] (s.2.1) (s.2.2) OUT) (fun x => EX w0 ev 1 m_Ways_leadOver 138 [(0, .ref 7), (1, .int (v1)), (2, .int (v2)), (3, .int (v3))] [] (x.1) (x.2) OUT) z) : EX w0 ev 1 m_Ways_leadOver 132 [(0, .ref 7), (1, .int (v1)), (2, .int (v2)), (3, .int (v3)), (4, .int (v4)), (5, .int (v5))] [] (hi) (hl) OUT := by
  unfold J_Ways_leadOver_132 at h
  refine EX.iinc (x := v5) (v := v5 + 1) (req1 := [(5, .int (v5 + 1)), (0, .ref 7), (1, .int (v1)), (2, .int (v2)), (3, .int (v3)), (4, .int (v4))]) rfl rfl (List.mem_of_getElem? (i := 5) rfl) rfl rfl ?_
  refine EX.go (i := .goto (-90)) (len := 3) (pc1 := 45) (st1 := []) (hi1 := hi) (hl1 := hl) rfl ?_ (fun _ _ _ => rfl)
  obtain rfl := Option.some.inj h
  have hk : EX w0 ev 1 m_Ways_leadOver 45 [(0, .ref 7), (1, .int (v1)), (2, .int (v2)), (3, .int (v3)), (4, .int (v4)), (5, .int (v5 + 1))] [] (hi) (hl) OUT := hk
  exact EX.pick [1, 2, 3, 4, 5, 0] hk rfl
def B_Ways_leadOver_45 (N : Nat) (v1 : Int32) (v2 : Int32) (v3 : Int32) (v4 : Int32) (v5 : Int32) (hi : HI) (hl : HL) : Option ((Int32 × HI × HL) ⊕ (HI × HL)) :=
  if (hi 7 2 : Int32) ≤ (v5 : Int32) then some (.inr (hi, hl)) else if (v5 : Int32) = (v3 : Int32) then J_Ways_leadOver_132 N (v1) (v2) (v3) (v4) (v5) (hi) (hl) else if ((((v2 >>> (v5 &&& 31)) : Int32) &&& (1)) : Int32) = 0 then J_Ways_leadOver_132 N (v1) (v2) (v3) (v4) (v5) (hi) (hl) else if ((((v1 * (6)) : Int32) + v5) : Int32) < 0 ∨ 36 ≤ Int32.toNatClampNeg ((((v1 * (6)) : Int32) + v5)) then none else if (1000 : Int32) ≤ (hi 10 (Int32.toNatClampNeg ((((v1 * (6)) : Int32) + v5))) : Int32) then J_Ways_leadOver_132 N (v1) (v2) (v3) (v4) (v5) (hi) (hl) else if (v4 : Int32) < 0 ∨ 36 ≤ Int32.toNatClampNeg (v4) then none else if ((((v1 * (6)) : Int32) + v5) : Int32) < 0 ∨ 36 ≤ Int32.toNatClampNeg ((((v1 * (6)) : Int32) + v5)) then none else if (v4 : Int32) < 0 ∨ 36 ≤ Int32.toNatClampNeg (v4) then none else if ((((v1 * (6)) : Int32) + v5) : Int32) < 0 ∨ 36 ≤ Int32.toNatClampNeg ((((v1 * (6)) : Int32) + v5)) then none else (f_Ways_offer N ((((v3 * (6)) : Int32) + v5)) (((hi 10 (Int32.toNatClampNeg (v4)) : Int32) + (hi 10 (Int32.toNatClampNeg ((((v1 * (6)) : Int32) + v5)))))) (((hi 11 (Int32.toNatClampNeg (v4)) : Int32) ||| (hi 11 (Int32.toNatClampNeg ((((v1 * (6)) : Int32) + v5)))))) (hi) (hl)).bind fun z14 => J_Ways_leadOver_132 N (v1) (v2) (v3) (v4) (v5) (z14.2.1) (z14.2.2)
set_option maxRecDepth 10000 in
set_option maxHeartbeats 4000000 in
theorem bB_Ways_leadOver_45 (ev : EV) {N : Nat} {v1 : Int32} {v2 : Int32} {v3 : Int32} {v4 : Int32} {v5 : Int32} {hi : HI} {hl : HL} {z : (Int32 × HI × HL) ⊕ (HI × HL)} {OUT : Option Value × HI × HL} (h : B_Ways_leadOver_45 N v1 v2 v3 v4 v5 hi hl = some z) (hk : Sum.elim (fun s => EX w0 ev 1 m_Ways_leadOver 45 [(0, .ref 7), (1, .int (v1)), (2, .int (v2)), (3, .int (v3)), (4, .int (v4)), (5, .int (s.1))] [] (s.2.1) (s.2.2) OUT) (fun x => EX w0 ev 1 m_Ways_leadOver 138 [(0, .ref 7), (1, .int (v1)), (2, .int (v2)), (3, .int (v3))] [] (x.1) (x.2) OUT) z) : EX w0 ev 1 m_Ways_leadOver 45 [(0, .ref 7), (1, .int (v1)), (2, .int (v2)), (3, .int (v3)), (4, .int (v4)), (5, .int (v5))] [] (hi) (hl) OUT := by
  unfold B_Ways_leadOver_45 at h
  refine EX.iload (x := v5) rfl (List.mem_of_getElem? (i := 5) rfl) ?_
  refine EX.aload_n (x := 7) rfl (List.mem_of_getElem? (i := 0) rfl) ?_
  refine EX.go (i := .getfield 30) (len := 3) (pc1 := 51) (st1 := [.int (hi 7 2), .int (v5)]) (hi1 := hi) (hl1 := hl) rfl ?_ (fun _ _ _ => rfl)
  rcases ite_some h with ⟨c5, h⟩ | ⟨c5, h⟩
  · refine EX.go (i := .if_icmp .ge 87) (len := 3) (pc1 := 138) (st1 := []) (hi1 := hi) (hl1 := hl) rfl ?_ (fun _ _ _ => if_pos c5)
    obtain rfl := Option.some.inj h
    have hk : EX w0 ev 1 m_Ways_leadOver 138 [(0, .ref 7), (1, .int (v1)), (2, .int (v2)), (3, .int (v3))] [] (hi) (hl) OUT := hk
    exact EX.pick [0, 1, 2, 3] hk rfl
  · refine EX.go (i := .if_icmp .ge 87) (len := 3) (pc1 := 54) (st1 := []) (hi1 := hi) (hl1 := hl) rfl ?_ (fun _ _ _ => if_neg c5)
    refine EX.iload_n (x := v1) rfl (List.mem_of_getElem? (i := 1) rfl) ?_
    refine EX.bipush (v := 6) rfl rfl ?_
    refine EX.go (i := .imul) (len := 1) (pc1 := 58) (st1 := [.int ((v1 * (6)))]) (hi1 := hi) (hl1 := hl) rfl ?_ (fun _ _ _ => rfl)
    refine EX.iload (x := v5) rfl (List.mem_of_getElem? (i := 5) rfl) ?_
    refine EX.go (i := .iadd) (len := 1) (pc1 := 61) (st1 := [.int ((((v1 * (6)) : Int32) + v5))]) (hi1 := hi) (hl1 := hl) rfl ?_ (fun _ _ _ => rfl)
    refine EX.istore (req1 := [(6, .int ((((v1 * (6)) : Int32) + v5))), (0, .ref 7), (1, .int (v1)), (2, .int (v2)), (3, .int (v3)), (4, .int (v4)), (5, .int (v5))]) rfl rfl rfl ?_
    refine EX.iload (x := v5) rfl (List.mem_of_getElem? (i := 6) rfl) ?_
    refine EX.iload_n (x := v3) rfl (List.mem_of_getElem? (i := 4) rfl) ?_
    rcases ite_some h with ⟨c6, h⟩ | ⟨c6, h⟩
    · refine EX.go (i := .if_icmp .eq 66) (len := 3) (pc1 := 132) (st1 := []) (hi1 := hi) (hl1 := hl) rfl ?_ (fun _ _ _ => if_pos c6)
      refine EX.pick [1, 2, 3, 4, 5, 6] ?_ rfl
      exact bJ_Ways_leadOver_132 ev h hk
    · refine EX.go (i := .if_icmp .eq 66) (len := 3) (pc1 := 69) (st1 := []) (hi1 := hi) (hl1 := hl) rfl ?_ (fun _ _ _ => if_neg c6)
      refine EX.iload_n (x := v2) rfl (List.mem_of_getElem? (i := 3) rfl) ?_
      refine EX.iload (x := v5) rfl (List.mem_of_getElem? (i := 6) rfl) ?_
      refine EX.go (i := .ishr) (len := 1) (pc1 := 73) (st1 := [.int ((v2 >>> (v5 &&& 31)))]) (hi1 := hi) (hl1 := hl) rfl ?_ (fun _ _ _ => rfl)
      refine EX.iconst (v := 1) rfl rfl ?_
      refine EX.go (i := .iand) (len := 1) (pc1 := 75) (st1 := [.int ((((v2 >>> (v5 &&& 31)) : Int32) &&& (1)))]) (hi1 := hi) (hl1 := hl) rfl ?_ (fun _ _ _ => rfl)
      rcases ite_some h with ⟨c7, h⟩ | ⟨c7, h⟩
      · refine EX.go (i := .ifCond .eq 57) (len := 3) (pc1 := 132) (st1 := []) (hi1 := hi) (hl1 := hl) rfl ?_ (fun _ _ _ => if_pos c7)
        refine EX.pick [1, 2, 3, 4, 5, 6] ?_ rfl
        exact bJ_Ways_leadOver_132 ev h hk
      · refine EX.go (i := .ifCond .eq 57) (len := 3) (pc1 := 78) (st1 := []) (hi1 := hi) (hl1 := hl) rfl ?_ (fun _ _ _ => if_neg c7)
        refine EX.aload_n (x := 7) rfl (List.mem_of_getElem? (i := 1) rfl) ?_
        refine EX.go (i := .getfield 18) (len := 3) (pc1 := 82) (st1 := [.ref 10]) (hi1 := hi) (hl1 := hl) rfl ?_ (fun _ _ _ => rfl)
        refine EX.iload (x := (((v1 * (6)) : Int32) + v5)) rfl (List.mem_of_getElem? (i := 0) rfl) ?_
        obtain ⟨g8, h⟩ := grd_some h
        refine EX.iaload rfl rfl g8 ?_
        refine EX.sipush (v := 1000) rfl rfl ?_
        rcases ite_some h with ⟨c9, h⟩ | ⟨c9, h⟩
        · refine EX.go (i := .if_icmp .ge 44) (len := 3) (pc1 := 132) (st1 := []) (hi1 := hi) (hl1 := hl) rfl ?_ (fun _ _ _ => if_pos c9)
          refine EX.pick [1, 2, 3, 4, 5, 6] ?_ rfl
          exact bJ_Ways_leadOver_132 ev h hk
        · refine EX.go (i := .if_icmp .ge 44) (len := 3) (pc1 := 91) (st1 := []) (hi1 := hi) (hl1 := hl) rfl ?_ (fun _ _ _ => if_neg c9)
          refine EX.aload_n (x := 7) rfl (List.mem_of_getElem? (i := 1) rfl) ?_
          refine EX.iload_n (x := v3) rfl (List.mem_of_getElem? (i := 4) rfl) ?_
          refine EX.bipush (v := 6) rfl rfl ?_
          refine EX.go (i := .imul) (len := 1) (pc1 := 96) (st1 := [.int ((v3 * (6))), .ref 7]) (hi1 := hi) (hl1 := hl) rfl ?_ (fun _ _ _ => rfl)
          refine EX.iload (x := v5) rfl (List.mem_of_getElem? (i := 6) rfl) ?_
          refine EX.go (i := .iadd) (len := 1) (pc1 := 99) (st1 := [.int ((((v3 * (6)) : Int32) + v5)), .ref 7]) (hi1 := hi) (hl1 := hl) rfl ?_ (fun _ _ _ => rfl)
          refine EX.aload_n (x := 7) rfl (List.mem_of_getElem? (i := 1) rfl) ?_
          refine EX.go (i := .getfield 18) (len := 3) (pc1 := 103) (st1 := [.ref 10, .int ((((v3 * (6)) : Int32) + v5)), .ref 7]) (hi1 := hi) (hl1 := hl) rfl ?_ (fun _ _ _ => rfl)
          refine EX.iload (x := v4) rfl (List.mem_of_getElem? (i := 5) rfl) ?_
          obtain ⟨g10, h⟩ := grd_some h
          refine EX.iaload rfl rfl g10 ?_
          refine EX.aload_n (x := 7) rfl (List.mem_of_getElem? (i := 1) rfl) ?_
          refine EX.go (i := .getfield 18) (len := 3) (pc1 := 110) (st1 := [.ref 10, .int (hi 10 (Int32.toNatClampNeg (v4))), .int ((((v3 * (6)) : Int32) + v5)), .ref 7]) (hi1 := hi) (hl1 := hl) rfl ?_ (fun _ _ _ => rfl)
          refine EX.iload (x := (((v1 * (6)) : Int32) + v5)) rfl (List.mem_of_getElem? (i := 0) rfl) ?_
          obtain ⟨g11, h⟩ := grd_some h
          refine EX.iaload rfl rfl g11 ?_
          refine EX.go (i := .iadd) (len := 1) (pc1 := 114) (st1 := [.int (((hi 10 (Int32.toNatClampNeg (v4)) : Int32) + (hi 10 (Int32.toNatClampNeg ((((v1 * (6)) : Int32) + v5)))))), .int ((((v3 * (6)) : Int32) + v5)), .ref 7]) (hi1 := hi) (hl1 := hl) rfl ?_ (fun _ _ _ => rfl)
          refine EX.aload_n (x := 7) rfl (List.mem_of_getElem? (i := 1) rfl) ?_
          refine EX.go (i := .getfield 21) (len := 3) (pc1 := 118) (st1 := [.ref 11, .int (((hi 10 (Int32.toNatClampNeg (v4)) : Int32) + (hi 10 (Int32.toNatClampNeg ((((v1 * (6)) : Int32) + v5)))))), .int ((((v3 * (6)) : Int32) + v5)), .ref 7]) (hi1 := hi) (hl1 := hl) rfl ?_ (fun _ _ _ => rfl)
          refine EX.iload (x := v4) rfl (List.mem_of_getElem? (i := 5) rfl) ?_
          obtain ⟨g12, h⟩ := grd_some h
          refine EX.iaload rfl rfl g12 ?_
          refine EX.aload_n (x := 7) rfl (List.mem_of_getElem? (i := 1) rfl) ?_
          refine EX.go (i := .getfield 21) (len := 3) (pc1 := 125) (st1 := [.ref 11, .int (hi 11 (Int32.toNatClampNeg (v4))), .int (((hi 10 (Int32.toNatClampNeg (v4)) : Int32) + (hi 10 (Int32.toNatClampNeg ((((v1 * (6)) : Int32) + v5)))))), .int ((((v3 * (6)) : Int32) + v5)), .ref 7]) (hi1 := hi) (hl1 := hl) rfl ?_ (fun _ _ _ => rfl)
          refine EX.iload (x := (((v1 * (6)) : Int32) + v5)) rfl (List.mem_of_getElem? (i := 0) rfl) ?_
          obtain ⟨g13, h⟩ := grd_some h
          refine EX.iaload rfl rfl g13 ?_
          refine EX.go (i := .ior) (len := 1) (pc1 := 129) (st1 := [.int (((hi 11 (Int32.toNatClampNeg (v4)) : Int32) ||| (hi 11 (Int32.toNatClampNeg ((((v1 * (6)) : Int32) + v5)))))), .int (((hi 10 (Int32.toNatClampNeg (v4)) : Int32) + (hi 10 (Int32.toNatClampNeg ((((v1 * (6)) : Int32) + v5)))))), .int ((((v3 * (6)) : Int32) + v5)), .ref 7]) (hi1 := hi) (hl1 := hl) rfl ?_ (fun _ _ _ => rfl)
          obtain ⟨z14, hz14, h⟩ := bnd_some h
          refine EX.callV (b := 7) (as := [.int ((((v3 * (6)) : Int32) + v5)), .int (((hi 10 (Int32.toNatClampNeg (v4)) : Int32) + (hi 10 (Int32.toNatClampNeg ((((v1 * (6)) : Int32) + v5)))))), .int (((hi 11 (Int32.toNatClampNeg (v4)) : Int32) ||| (hi 11 (Int32.toNatClampNeg ((((v1 * (6)) : Int32) + v5))))))]) (rest := []) (r := none) (hi1 := z14.2.1) (hl1 := z14.2.2) rfl rfl rfl rfl rfl rfl ((b_Ways_offer ev hz14).mono (by decide)) ?_
          show EX w0 ev 1 m_Ways_leadOver 132 [(6, .int ((((v1 * (6)) : Int32) + v5))), (0, .ref 7), (1, .int (v1)), (2, .int (v2)), (3, .int (v3)), (4, .int (v4)), (5, .int (v5))] [] (z14.2.1) (z14.2.2) OUT
          refine EX.pick [1, 2, 3, 4, 5, 6] ?_ rfl
          exact bJ_Ways_leadOver_132 ev h hk
def B_Ways_leadOver_2 (N : Nat) (v1 : Int32) (v2 : Int32) (v3 : Int32) (hi : HI) (hl : HL) : Option ((Int32 × HI × HL) ⊕ (HI × HL)) :=
  if (hi 7 2 : Int32) ≤ (v3 : Int32) then some (.inr (hi, hl)) else if ((((v2 >>> (v3 &&& 31)) : Int32) &&& (1)) : Int32) = 0 then J_Ways_leadOver_138 N (v1) (v2) (v3) (hi) (hl) else if ((((v3 * (6)) : Int32) + v1) : Int32) < 0 ∨ 36 ≤ Int32.toNatClampNeg ((((v3 * (6)) : Int32) + v1)) then none else if (hi 10 (Int32.toNatClampNeg ((((v3 * (6)) : Int32) + v1))) : Int32) < (1000 : Int32) then (lpN (fun s => B_Ways_leadOver_45 N (v1) (v2) (v3) ((((v3 * (6)) : Int32) + v1)) s.1 s.2.1 s.2.2) N (0, hi, hl)).bind fun x15 => J_Ways_leadOver_138 N (v1) (v2) (v3) (x15.1) (x15.2) else J_Ways_leadOver_138 N (v1) (v2) (v3) (hi) (hl)
set_option maxRecDepth 10000 in
set_option maxHeartbeats 4000000 in
theorem bB_Ways_leadOver_2 (ev : EV) {N : Nat} {v1 : Int32} {v2 : Int32} {v3 : Int32} {hi : HI} {hl : HL} {z : (Int32 × HI × HL) ⊕ (HI × HL)} {OUT : Option Value × HI × HL} (h : B_Ways_leadOver_2 N v1 v2 v3 hi hl = some z) (hk : Sum.elim (fun s => EX w0 ev 1 m_Ways_leadOver 2 [(0, .ref 7), (1, .int (v1)), (2, .int (v2)), (3, .int (s.1))] [] (s.2.1) (s.2.2) OUT) (fun x => EX w0 ev 1 m_Ways_leadOver 144 [] [] (x.1) (x.2) OUT) z) : EX w0 ev 1 m_Ways_leadOver 2 [(0, .ref 7), (1, .int (v1)), (2, .int (v2)), (3, .int (v3))] [] (hi) (hl) OUT := by
  unfold B_Ways_leadOver_2 at h
  refine EX.iload_n (x := v3) rfl (List.mem_of_getElem? (i := 3) rfl) ?_
  refine EX.aload_n (x := 7) rfl (List.mem_of_getElem? (i := 0) rfl) ?_
  refine EX.go (i := .getfield 30) (len := 3) (pc1 := 7) (st1 := [.int (hi 7 2), .int (v3)]) (hi1 := hi) (hl1 := hl) rfl ?_ (fun _ _ _ => rfl)
  rcases ite_some h with ⟨c1, h⟩ | ⟨c1, h⟩
  · refine EX.go (i := .if_icmp .ge 137) (len := 3) (pc1 := 144) (st1 := []) (hi1 := hi) (hl1 := hl) rfl ?_ (fun _ _ _ => if_pos c1)
    obtain rfl := Option.some.inj h
    have hk : EX w0 ev 1 m_Ways_leadOver 144 [] [] (hi) (hl) OUT := hk
    exact EX.pick [] hk rfl
  · refine EX.go (i := .if_icmp .ge 137) (len := 3) (pc1 := 10) (st1 := []) (hi1 := hi) (hl1 := hl) rfl ?_ (fun _ _ _ => if_neg c1)
    refine EX.iload_n (x := v3) rfl (List.mem_of_getElem? (i := 3) rfl) ?_
    refine EX.bipush (v := 6) rfl rfl ?_
    refine EX.go (i := .imul) (len := 1) (pc1 := 14) (st1 := [.int ((v3 * (6)))]) (hi1 := hi) (hl1 := hl) rfl ?_ (fun _ _ _ => rfl)
    refine EX.iload_n (x := v1) rfl (List.mem_of_getElem? (i := 1) rfl) ?_
    refine EX.go (i := .iadd) (len := 1) (pc1 := 16) (st1 := [.int ((((v3 * (6)) : Int32) + v1))]) (hi1 := hi) (hl1 := hl) rfl ?_ (fun _ _ _ => rfl)
    refine EX.istore (req1 := [(4, .int ((((v3 * (6)) : Int32) + v1))), (0, .ref 7), (1, .int (v1)), (2, .int (v2)), (3, .int (v3))]) rfl rfl rfl ?_
    refine EX.iload_n (x := v2) rfl (List.mem_of_getElem? (i := 3) rfl) ?_
    refine EX.iload_n (x := v3) rfl (List.mem_of_getElem? (i := 4) rfl) ?_
    refine EX.go (i := .ishr) (len := 1) (pc1 := 21) (st1 := [.int ((v2 >>> (v3 &&& 31)))]) (hi1 := hi) (hl1 := hl) rfl ?_ (fun _ _ _ => rfl)
    refine EX.iconst (v := 1) rfl rfl ?_
    refine EX.go (i := .iand) (len := 1) (pc1 := 23) (st1 := [.int ((((v2 >>> (v3 &&& 31)) : Int32) &&& (1)))]) (hi1 := hi) (hl1 := hl) rfl ?_ (fun _ _ _ => rfl)
    rcases ite_some h with ⟨c2, h⟩ | ⟨c2, h⟩
    · refine EX.go (i := .ifCond .eq 115) (len := 3) (pc1 := 138) (st1 := []) (hi1 := hi) (hl1 := hl) rfl ?_ (fun _ _ _ => if_pos c2)
      refine EX.pick [1, 2, 3, 4] ?_ rfl
      exact bJ_Ways_leadOver_138 ev h hk
    · refine EX.go (i := .ifCond .eq 115) (len := 3) (pc1 := 26) (st1 := []) (hi1 := hi) (hl1 := hl) rfl ?_ (fun _ _ _ => if_neg c2)
      refine EX.aload_n (x := 7) rfl (List.mem_of_getElem? (i := 1) rfl) ?_
      refine EX.go (i := .getfield 18) (len := 3) (pc1 := 30) (st1 := [.ref 10]) (hi1 := hi) (hl1 := hl) rfl ?_ (fun _ _ _ => rfl)
      refine EX.iload (x := (((v3 * (6)) : Int32) + v1)) rfl (List.mem_of_getElem? (i := 0) rfl) ?_
      obtain ⟨g3, h⟩ := grd_some h
      refine EX.iaload rfl rfl g3 ?_
      refine EX.sipush (v := 1000) rfl rfl ?_
      rcases ite_some h with ⟨c4, h⟩ | ⟨c4, h⟩
      · refine EX.go (i := .if_icmp .lt 6) (len := 3) (pc1 := 42) (st1 := []) (hi1 := hi) (hl1 := hl) rfl ?_ (fun _ _ _ => if_pos c4)
        refine EX.iconst (v := 0) rfl rfl ?_
        refine EX.istore (req1 := [(5, .int (0)), (4, .int ((((v3 * (6)) : Int32) + v1))), (0, .ref 7), (1, .int (v1)), (2, .int (v2)), (3, .int (v3))]) rfl rfl rfl ?_
        obtain ⟨x15, hx15, h⟩ := bnd_some h
        refine EX.pick [2, 3, 4, 5, 1, 0] ?_ rfl
        refine lp_sound (f := fun s => B_Ways_leadOver_45 N (v1) (v2) (v3) ((((v3 * (6)) : Int32) + v1)) s.1 s.2.1 s.2.2) (PS := fun s => EX w0 ev 1 m_Ways_leadOver 45 [(0, .ref 7), (1, .int (v1)), (2, .int (v2)), (3, .int (v3)), (4, .int ((((v3 * (6)) : Int32) + v1))), (5, .int (s.1))] [] (s.2.1) (s.2.2) OUT) (PX := fun x => EX w0 ev 1 m_Ways_leadOver 138 [(0, .ref 7), (1, .int (v1)), (2, .int (v2)), (3, .int (v3))] [] (x.1) (x.2) OUT) ?_ N _ x15 hx15 ?_
        · exact fun s z hz hk => bB_Ways_leadOver_45 ev hz hk
        show EX w0 ev 1 m_Ways_leadOver 138 [(0, .ref 7), (1, .int (v1)), (2, .int (v2)), (3, .int (v3))] [] (x15.1) (x15.2) OUT
        refine EX.pick [0, 1, 2, 3] ?_ rfl
        exact bJ_Ways_leadOver_138 ev h hk
      · refine EX.go (i := .if_icmp .lt 6) (len := 3) (pc1 := 39) (st1 := []) (hi1 := hi) (hl1 := hl) rfl ?_ (fun _ _ _ => if_neg c4)
        refine EX.go (i := .goto 99) (len := 3) (pc1 := 138) (st1 := []) (hi1 := hi) (hl1 := hl) rfl ?_ (fun _ _ _ => rfl)
        refine EX.pick [1, 2, 3, 4] ?_ rfl
        exact bJ_Ways_leadOver_138 ev h hk
def f_Ways_leadOver (N : Nat) (p1 : Int32) (p2 : Int32) (hi : HI) (hl : HL) : Option (Unit × HI × HL) :=
  (lpN (fun s => B_Ways_leadOver_2 N (p1) (p2) s.1 s.2.1 s.2.2) N (0, hi, hl)).bind fun x16 => some ((), x16.1, x16.2)
set_option maxRecDepth 10000 in
set_option maxHeartbeats 4000000 in
theorem b_Ways_leadOver (ev : EV) {N : Nat} {p1 : Int32} {p2 : Int32} {hi : HI} {hl : HL} {o : Unit × HI × HL} (h : f_Ways_leadOver N p1 p2 hi hl = some o) : EM w0 ev 2 m_Ways_leadOver [.ref 7, .int (p1), .int (p2)] hi hl (oV o) := by
  unfold f_Ways_leadOver at h
  refine EM.of rfl ?_
  show EX w0 ev 1 m_Ways_leadOver 0 [(0, .ref 7), (1, .int (p1)), (2, .int (p2))] [] (hi) (hl) (oV o)
  refine EX.iconst (v := 0) rfl rfl ?_
  refine EX.istore_n (req1 := [(3, .int (0)), (0, .ref 7), (1, .int (p1)), (2, .int (p2))]) rfl rfl rfl ?_
  obtain ⟨x16, hx16, h⟩ := bnd_some h
  refine EX.pick [1, 2, 3, 0] ?_ rfl
  refine lp_sound (f := fun s => B_Ways_leadOver_2 N (p1) (p2) s.1 s.2.1 s.2.2) (PS := fun s => EX w0 ev 1 m_Ways_leadOver 2 [(0, .ref 7), (1, .int (p1)), (2, .int (p2)), (3, .int (s.1))] [] (s.2.1) (s.2.2) (oV o)) (PX := fun x => EX w0 ev 1 m_Ways_leadOver 144 [] [] (x.1) (x.2) (oV o)) ?_ N _ x16 hx16 ?_
  · exact fun s z hz hk => bB_Ways_leadOver_2 ev hz hk
  show EX w0 ev 1 m_Ways_leadOver 144 [] [] (x16.1) (x16.2) (oV o)
  obtain rfl := Option.some.inj h
  exact EX.vret rfl rfl
def J_Ways_leave_71 (N : Nat) (v1 : Int32) (v2 : Int32) (v3 : Int32) (hi : HI) (hl : HL) : Option ((Int32 × Int32 × HI × HL) ⊕ (HI × HL)) :=
  some (.inl (v2, v3 + 1, hi, hl))
set_option maxRecDepth 10000 in
set_option maxHeartbeats 4000000 in
theorem bJ_Ways_leave_71 (ev : EV) {N : Nat} {v1 : Int32} {v2 : Int32} {v3 : Int32} {hi : HI} {hl : HL} {z : (Int32 × Int32 × HI × HL) ⊕ (HI × HL)} {OUT : Option Value × HI × HL} (h : J_Ways_leave_71 N v1 v2 v3 hi hl = some z) (hk : Sum.elim (fun s => EX w0 ev 2 m_Ways_leave 41 [(0, .ref 7), (1, .int (v1)), (2, .int (s.1)), (3, .int (s.2.1))] [] (s.2.2.1) (s.2.2.2) OUT) (fun x => EX w0 ev 2 m_Ways_leave 77 [] [] (x.1) (x.2) OUT) z) : EX w0 ev 2 m_Ways_leave 71 [(0, .ref 7), (1, .int (v1)), (2, .int (v2)), (3, .int (v3))] [] (hi) (hl) OUT := by
  unfold J_Ways_leave_71 at h
  refine EX.iinc (x := v3) (v := v3 + 1) (req1 := [(3, .int (v3 + 1)), (0, .ref 7), (1, .int (v1)), (2, .int (v2))]) rfl rfl (List.mem_of_getElem? (i := 3) rfl) rfl rfl ?_
  refine EX.go (i := .goto (-33)) (len := 3) (pc1 := 41) (st1 := []) (hi1 := hi) (hl1 := hl) rfl ?_ (fun _ _ _ => rfl)
  obtain rfl := Option.some.inj h
  have hk : EX w0 ev 2 m_Ways_leave 41 [(0, .ref 7), (1, .int (v1)), (2, .int (v2)), (3, .int (v3 + 1))] [] (hi) (hl) OUT := hk
  exact EX.pick [1, 2, 3, 0] hk rfl
def B_Ways_leave_41 (N : Nat) (v1 : Int32) (v2 : Int32) (v3 : Int32) (hi : HI) (hl : HL) : Option ((Int32 × Int32 × HI × HL) ⊕ (HI × HL)) :=
  if (hi 7 2 : Int32) ≤ (v3 : Int32) then some (.inr (hi, hl)) else if ((((v1 >>> (v3 &&& 31)) : Int32) &&& (1)) : Int32) = 0 then J_Ways_leave_71 N (v1) (v2) (v3) (hi) (hl) else (f_Ways_leadOver N (v3) ((v2 &&& (((((1 : Int32) <<< (v3 &&& 31)) : Int32) ^^^ ((-1)))))) (hi) (hl)).bind fun z3 => J_Ways_leave_71 N (v1) ((v2 &&& (((((1 : Int32) <<< (v3 &&& 31)) : Int32) ^^^ ((-1)))))) (v3) (z3.2.1) (z3.2.2)
set_option maxRecDepth 10000 in
set_option maxHeartbeats 4000000 in
theorem bB_Ways_leave_41 (ev : EV) {N : Nat} {v1 : Int32} {v2 : Int32} {v3 : Int32} {hi : HI} {hl : HL} {z : (Int32 × Int32 × HI × HL) ⊕ (HI × HL)} {OUT : Option Value × HI × HL} (h : B_Ways_leave_41 N v1 v2 v3 hi hl = some z) (hk : Sum.elim (fun s => EX w0 ev 2 m_Ways_leave 41 [(0, .ref 7), (1, .int (v1)), (2, .int (s.1)), (3, .int (s.2.1))] [] (s.2.2.1) (s.2.2.2) OUT) (fun x => EX w0 ev 2 m_Ways_leave 77 [] [] (x.1) (x.2) OUT) z) : EX w0 ev 2 m_Ways_leave 41 [(0, .ref 7), (1, .int (v1)), (2, .int (v2)), (3, .int (v3))] [] (hi) (hl) OUT := by
  unfold B_Ways_leave_41 at h
  refine EX.iload_n (x := v3) rfl (List.mem_of_getElem? (i := 3) rfl) ?_
  refine EX.aload_n (x := 7) rfl (List.mem_of_getElem? (i := 0) rfl) ?_
  refine EX.go (i := .getfield 30) (len := 3) (pc1 := 46) (st1 := [.int (hi 7 2), .int (v3)]) (hi1 := hi) (hl1 := hl) rfl ?_ (fun _ _ _ => rfl)
  rcases ite_some h with ⟨c1, h⟩ | ⟨c1, h⟩
  · refine EX.go (i := .if_icmp .ge 31) (len := 3) (pc1 := 77) (st1 := []) (hi1 := hi) (hl1 := hl) rfl ?_ (fun _ _ _ => if_pos c1)
    obtain rfl := Option.some.inj h
    have hk : EX w0 ev 2 m_Ways_leave 77 [] [] (hi) (hl) OUT := hk
    exact EX.pick [] hk rfl
  · refine EX.go (i := .if_icmp .ge 31) (len := 3) (pc1 := 49) (st1 := []) (hi1 := hi) (hl1 := hl) rfl ?_ (fun _ _ _ => if_neg c1)
    refine EX.iload_n (x := v1) rfl (List.mem_of_getElem? (i := 1) rfl) ?_
    refine EX.iload_n (x := v3) rfl (List.mem_of_getElem? (i := 3) rfl) ?_
    refine EX.go (i := .ishr) (len := 1) (pc1 := 52) (st1 := [.int ((v1 >>> (v3 &&& 31)))]) (hi1 := hi) (hl1 := hl) rfl ?_ (fun _ _ _ => rfl)
    refine EX.iconst (v := 1) rfl rfl ?_
    refine EX.go (i := .iand) (len := 1) (pc1 := 54) (st1 := [.int ((((v1 >>> (v3 &&& 31)) : Int32) &&& (1)))]) (hi1 := hi) (hl1 := hl) rfl ?_ (fun _ _ _ => rfl)
    rcases ite_some h with ⟨c2, h⟩ | ⟨c2, h⟩
    · refine EX.go (i := .ifCond .eq 17) (len := 3) (pc1 := 71) (st1 := []) (hi1 := hi) (hl1 := hl) rfl ?_ (fun _ _ _ => if_pos c2)
      refine EX.pick [0, 1, 2, 3] ?_ rfl
      exact bJ_Ways_leave_71 ev h hk
    · refine EX.go (i := .ifCond .eq 17) (len := 3) (pc1 := 57) (st1 := []) (hi1 := hi) (hl1 := hl) rfl ?_ (fun _ _ _ => if_neg c2)
      refine EX.iload_n (x := v2) rfl (List.mem_of_getElem? (i := 2) rfl) ?_
      refine EX.iconst (v := 1) rfl rfl ?_
      refine EX.iload_n (x := v3) rfl (List.mem_of_getElem? (i := 3) rfl) ?_
      refine EX.go (i := .ishl) (len := 1) (pc1 := 61) (st1 := [.int (((1 : Int32) <<< (v3 &&& 31))), .int (v2)]) (hi1 := hi) (hl1 := hl) rfl ?_ (fun _ _ _ => rfl)
      refine EX.iconst (v := (-1)) rfl rfl ?_
      refine EX.go (i := .ixor) (len := 1) (pc1 := 63) (st1 := [.int (((((1 : Int32) <<< (v3 &&& 31)) : Int32) ^^^ ((-1)))), .int (v2)]) (hi1 := hi) (hl1 := hl) rfl ?_ (fun _ _ _ => rfl)
      refine EX.go (i := .iand) (len := 1) (pc1 := 64) (st1 := [.int ((v2 &&& (((((1 : Int32) <<< (v3 &&& 31)) : Int32) ^^^ ((-1))))))]) (hi1 := hi) (hl1 := hl) rfl ?_ (fun _ _ _ => rfl)
      refine EX.istore_n (req1 := [(2, .int ((v2 &&& (((((1 : Int32) <<< (v3 &&& 31)) : Int32) ^^^ ((-1))))))), (0, .ref 7), (1, .int (v1)), (3, .int (v3))]) rfl rfl rfl ?_
      refine EX.aload_n (x := 7) rfl (List.mem_of_getElem? (i := 1) rfl) ?_
      refine EX.iload_n (x := v3) rfl (List.mem_of_getElem? (i := 3) rfl) ?_
      refine EX.iload_n (x := (v2 &&& (((((1 : Int32) <<< (v3 &&& 31)) : Int32) ^^^ ((-1)))))) rfl (List.mem_of_getElem? (i := 0) rfl) ?_
      obtain ⟨z3, hz3, h⟩ := bnd_some h
      refine EX.callV (b := 7) (as := [.int (v3), .int ((v2 &&& (((((1 : Int32) <<< (v3 &&& 31)) : Int32) ^^^ ((-1))))))]) (rest := []) (r := none) (hi1 := z3.2.1) (hl1 := z3.2.2) rfl rfl rfl rfl rfl rfl ((b_Ways_leadOver ev hz3).mono (by decide)) ?_
      show EX w0 ev 2 m_Ways_leave 71 [(2, .int ((v2 &&& (((((1 : Int32) <<< (v3 &&& 31)) : Int32) ^^^ ((-1))))))), (0, .ref 7), (1, .int (v1)), (3, .int (v3))] [] (z3.2.1) (z3.2.2) OUT
      refine EX.pick [1, 2, 0, 3] ?_ rfl
      exact bJ_Ways_leave_71 ev h hk
def f_Ways_leave (N : Nat) (p1 : Int32) (hi : HI) (hl : HL) : Option (Unit × HI × HL) :=
  (lpN (fun s => B_Ways_leave_41 N (p1) s.1 s.2.1 s.2.2.1 s.2.2.2) N (((((1 : Int32) <<< (((va_up (va_up (hi) 10 (va_cpy (hi 8) (hi 10) 0 0 36)) 11 (va_cpy ((va_up (hi) 10 (va_cpy (hi 8) (hi 10) 0 0 36)) 9) ((va_up (hi) 10 (va_cpy (hi 8) (hi 10) 0 0 36)) 11) 0 0 36)) 7 2) &&& 31)) : Int32) - (1)), 0, va_up (va_up (hi) 10 (va_cpy (hi 8) (hi 10) 0 0 36)) 11 (va_cpy ((va_up (hi) 10 (va_cpy (hi 8) (hi 10) 0 0 36)) 9) ((va_up (hi) 10 (va_cpy (hi 8) (hi 10) 0 0 36)) 11) 0 0 36), hl)).bind fun x4 => some ((), x4.1, x4.2)
set_option maxRecDepth 10000 in
set_option maxHeartbeats 4000000 in
theorem b_Ways_leave (ev : EV) {N : Nat} {p1 : Int32} {hi : HI} {hl : HL} {o : Unit × HI × HL} (h : f_Ways_leave N p1 hi hl = some o) : EM w0 ev 3 m_Ways_leave [.ref 7, .int (p1)] hi hl (oV o) := by
  unfold f_Ways_leave at h
  refine EM.of rfl ?_
  show EX w0 ev 2 m_Ways_leave 0 [(0, .ref 7), (1, .int (p1))] [] (hi) (hl) (oV o)
  refine EX.aload_n (x := 7) rfl (List.mem_of_getElem? (i := 0) rfl) ?_
  refine EX.go (i := .getfield 9) (len := 3) (pc1 := 4) (st1 := [.ref 8]) (hi1 := hi) (hl1 := hl) rfl ?_ (fun _ _ _ => rfl)
  refine EX.iconst (v := 0) rfl rfl ?_
  refine EX.aload_n (x := 7) rfl (List.mem_of_getElem? (i := 0) rfl) ?_
  refine EX.go (i := .getfield 18) (len := 3) (pc1 := 9) (st1 := [.ref 10, .int (0), .ref 8]) (hi1 := hi) (hl1 := hl) rfl ?_ (fun _ _ _ => rfl)
  refine EX.iconst (v := 0) rfl rfl ?_
  refine EX.bipush (v := 36) rfl rfl ?_
  refine EX.go (i := .invokestatic 68) (len := 3) (pc1 := 15) (st1 := []) (hi1 := va_up (hi) 10 (va_cpy (hi 8) (hi 10) 0 0 36)) (hl1 := hl) rfl ?_ (fun _ _ _ => rfl)
  refine EX.aload_n (x := 7) rfl (List.mem_of_getElem? (i := 0) rfl) ?_
  refine EX.go (i := .getfield 15) (len := 3) (pc1 := 19) (st1 := [.ref 9]) (hi1 := va_up (hi) 10 (va_cpy (hi 8) (hi 10) 0 0 36)) (hl1 := hl) rfl ?_ (fun _ _ _ => rfl)
  refine EX.iconst (v := 0) rfl rfl ?_
  refine EX.aload_n (x := 7) rfl (List.mem_of_getElem? (i := 0) rfl) ?_
  refine EX.go (i := .getfield 21) (len := 3) (pc1 := 24) (st1 := [.ref 11, .int (0), .ref 9]) (hi1 := va_up (hi) 10 (va_cpy (hi 8) (hi 10) 0 0 36)) (hl1 := hl) rfl ?_ (fun _ _ _ => rfl)
  refine EX.iconst (v := 0) rfl rfl ?_
  refine EX.bipush (v := 36) rfl rfl ?_
  refine EX.go (i := .invokestatic 68) (len := 3) (pc1 := 30) (st1 := []) (hi1 := va_up (va_up (hi) 10 (va_cpy (hi 8) (hi 10) 0 0 36)) 11 (va_cpy ((va_up (hi) 10 (va_cpy (hi 8) (hi 10) 0 0 36)) 9) ((va_up (hi) 10 (va_cpy (hi 8) (hi 10) 0 0 36)) 11) 0 0 36)) (hl1 := hl) rfl ?_ (fun _ _ _ => rfl)
  refine EX.iconst (v := 1) rfl rfl ?_
  refine EX.aload_n (x := 7) rfl (List.mem_of_getElem? (i := 0) rfl) ?_
  refine EX.go (i := .getfield 30) (len := 3) (pc1 := 35) (st1 := [.int ((va_up (va_up (hi) 10 (va_cpy (hi 8) (hi 10) 0 0 36)) 11 (va_cpy ((va_up (hi) 10 (va_cpy (hi 8) (hi 10) 0 0 36)) 9) ((va_up (hi) 10 (va_cpy (hi 8) (hi 10) 0 0 36)) 11) 0 0 36)) 7 2), .int (1)]) (hi1 := va_up (va_up (hi) 10 (va_cpy (hi 8) (hi 10) 0 0 36)) 11 (va_cpy ((va_up (hi) 10 (va_cpy (hi 8) (hi 10) 0 0 36)) 9) ((va_up (hi) 10 (va_cpy (hi 8) (hi 10) 0 0 36)) 11) 0 0 36)) (hl1 := hl) rfl ?_ (fun _ _ _ => rfl)
  refine EX.go (i := .ishl) (len := 1) (pc1 := 36) (st1 := [.int (((1 : Int32) <<< (((va_up (va_up (hi) 10 (va_cpy (hi 8) (hi 10) 0 0 36)) 11 (va_cpy ((va_up (hi) 10 (va_cpy (hi 8) (hi 10) 0 0 36)) 9) ((va_up (hi) 10 (va_cpy (hi 8) (hi 10) 0 0 36)) 11) 0 0 36)) 7 2) &&& 31)))]) (hi1 := va_up (va_up (hi) 10 (va_cpy (hi 8) (hi 10) 0 0 36)) 11 (va_cpy ((va_up (hi) 10 (va_cpy (hi 8) (hi 10) 0 0 36)) 9) ((va_up (hi) 10 (va_cpy (hi 8) (hi 10) 0 0 36)) 11) 0 0 36)) (hl1 := hl) rfl ?_ (fun _ _ _ => rfl)
  refine EX.iconst (v := 1) rfl rfl ?_
  refine EX.go (i := .isub) (len := 1) (pc1 := 38) (st1 := [.int (((((1 : Int32) <<< (((va_up (va_up (hi) 10 (va_cpy (hi 8) (hi 10) 0 0 36)) 11 (va_cpy ((va_up (hi) 10 (va_cpy (hi 8) (hi 10) 0 0 36)) 9) ((va_up (hi) 10 (va_cpy (hi 8) (hi 10) 0 0 36)) 11) 0 0 36)) 7 2) &&& 31)) : Int32) - (1)))]) (hi1 := va_up (va_up (hi) 10 (va_cpy (hi 8) (hi 10) 0 0 36)) 11 (va_cpy ((va_up (hi) 10 (va_cpy (hi 8) (hi 10) 0 0 36)) 9) ((va_up (hi) 10 (va_cpy (hi 8) (hi 10) 0 0 36)) 11) 0 0 36)) (hl1 := hl) rfl ?_ (fun _ _ _ => rfl)
  refine EX.istore_n (req1 := [(2, .int (((((1 : Int32) <<< (((va_up (va_up (hi) 10 (va_cpy (hi 8) (hi 10) 0 0 36)) 11 (va_cpy ((va_up (hi) 10 (va_cpy (hi 8) (hi 10) 0 0 36)) 9) ((va_up (hi) 10 (va_cpy (hi 8) (hi 10) 0 0 36)) 11) 0 0 36)) 7 2) &&& 31)) : Int32) - (1)))), (0, .ref 7), (1, .int (p1))]) rfl rfl rfl ?_
  refine EX.iconst (v := 0) rfl rfl ?_
  refine EX.istore_n (req1 := [(3, .int (0)), (2, .int (((((1 : Int32) <<< (((va_up (va_up (hi) 10 (va_cpy (hi 8) (hi 10) 0 0 36)) 11 (va_cpy ((va_up (hi) 10 (va_cpy (hi 8) (hi 10) 0 0 36)) 9) ((va_up (hi) 10 (va_cpy (hi 8) (hi 10) 0 0 36)) 11) 0 0 36)) 7 2) &&& 31)) : Int32) - (1)))), (0, .ref 7), (1, .int (p1))]) rfl rfl rfl ?_
  obtain ⟨x4, hx4, h⟩ := bnd_some h
  refine EX.pick [2, 3, 1, 0] ?_ rfl
  refine lp_sound (f := fun s => B_Ways_leave_41 N (p1) s.1 s.2.1 s.2.2.1 s.2.2.2) (PS := fun s => EX w0 ev 2 m_Ways_leave 41 [(0, .ref 7), (1, .int (p1)), (2, .int (s.1)), (3, .int (s.2.1))] [] (s.2.2.1) (s.2.2.2) (oV o)) (PX := fun x => EX w0 ev 2 m_Ways_leave 77 [] [] (x.1) (x.2) (oV o)) ?_ N _ x4 hx4 ?_
  · exact fun s z hz hk => bB_Ways_leave_41 ev hz hk
  show EX w0 ev 2 m_Ways_leave 77 [] [] (x4.1) (x4.2) (oV o)
  obtain rfl := Option.some.inj h
  exact EX.vret rfl rfl
def J_Ways_drive_123 (N : Nat) (v1 : Int32) (v2 : Int32) (v3 : Int32) (v4 : Int32) (v5 : Int32) (hi : HI) (hl : HL) : Option ((Int32 × Int32 × Int32 × HI × HL) ⊕ (Int32 × Int32 × HI × HL)) :=
  some (.inl (v3, v4, v5 + 1, hi, hl))
set_option maxRecDepth 10000 in
set_option maxHeartbeats 4000000 in
theorem bJ_Ways_drive_123 (ev : EV) {N : Nat} {v1 : Int32} {v2 : Int32} {v3 : Int32} {v4 : Int32} {v5 : Int32} {hi : HI} {hl : HL} {z : (Int32 × Int32 × Int32 × HI × HL) ⊕ (Int32 × Int32 × HI × HL)} {OUT : Option Value × HI × HL} (h : J_Ways_drive_123 N v1 v2 v3 v4 v5 hi hl = some z) (hk : Sum.elim (fun s => EX w0 ev 0 m_Ways_drive 10 [(0, .ref 7), (1, .int (v1)), (2, .int (v2)), (3, .int (s.1)), (4, .int (s.2.1)), (5, .int (s.2.2.1))] [] (s.2.2.2.1) (s.2.2.2.2) OUT) (fun x => EX w0 ev 0 m_Ways_drive 129 [(0, .ref 7), (3, .int (x.1)), (4, .int (x.2.1))] [] (x.2.2.1) (x.2.2.2) OUT) z) : EX w0 ev 0 m_Ways_drive 123 [(0, .ref 7), (1, .int (v1)), (2, .int (v2)), (3, .int (v3)), (4, .int (v4)), (5, .int (v5))] [] (hi) (hl) OUT := by
  unfold J_Ways_drive_123 at h
  refine EX.iinc (x := v5) (v := v5 + 1) (req1 := [(5, .int (v5 + 1)), (0, .ref 7), (1, .int (v1)), (2, .int (v2)), (3, .int (v3)), (4, .int (v4))]) rfl rfl (List.mem_of_getElem? (i := 5) rfl) rfl rfl ?_
  refine EX.go (i := .goto (-116)) (len := 3) (pc1 := 10) (st1 := []) (hi1 := hi) (hl1 := hl) rfl ?_ (fun _ _ _ => rfl)
  obtain rfl := Option.some.inj h
  have hk : EX w0 ev 0 m_Ways_drive 10 [(0, .ref 7), (1, .int (v1)), (2, .int (v2)), (3, .int (v3)), (4, .int (v4)), (5, .int (v5 + 1))] [] (hi) (hl) OUT := hk
  exact EX.pick [1, 2, 3, 4, 5, 0] hk rfl
def J_Ways_drive_117 (N : Nat) (v1 : Int32) (v2 : Int32) (v3 : Int32) (v4 : Int32) (v5 : Int32) (v6 : Int32) (hi : HI) (hl : HL) : Option ((Int32 × Int32 × Int32 × HI × HL) ⊕ (Int32 × Int32 × HI × HL)) :=
  some (.inl (v3, v4, v6 + 1, hi, hl))
set_option maxRecDepth 10000 in
set_option maxHeartbeats 4000000 in
theorem bJ_Ways_drive_117 (ev : EV) {N : Nat} {v1 : Int32} {v2 : Int32} {v3 : Int32} {v4 : Int32} {v5 : Int32} {v6 : Int32} {hi : HI} {hl : HL} {z : (Int32 × Int32 × Int32 × HI × HL) ⊕ (Int32 × Int32 × HI × HL)} {OUT : Option Value × HI × HL} (h : J_Ways_drive_117 N v1 v2 v3 v4 v5 v6 hi hl = some z) (hk : Sum.elim (fun s => EX w0 ev 0 m_Ways_drive 34 [(0, .ref 7), (1, .int (v1)), (2, .int (v2)), (3, .int (s.1)), (4, .int (s.2.1)), (5, .int (v5)), (6, .int (s.2.2.1))] [] (s.2.2.2.1) (s.2.2.2.2) OUT) (fun x => EX w0 ev 0 m_Ways_drive 123 [(0, .ref 7), (1, .int (v1)), (2, .int (v2)), (3, .int (x.1)), (4, .int (x.2.1)), (5, .int (v5))] [] (x.2.2.1) (x.2.2.2) OUT) z) : EX w0 ev 0 m_Ways_drive 117 [(0, .ref 7), (1, .int (v1)), (2, .int (v2)), (3, .int (v3)), (4, .int (v4)), (5, .int (v5)), (6, .int (v6))] [] (hi) (hl) OUT := by
  unfold J_Ways_drive_117 at h
  refine EX.iinc (x := v6) (v := v6 + 1) (req1 := [(6, .int (v6 + 1)), (0, .ref 7), (1, .int (v1)), (2, .int (v2)), (3, .int (v3)), (4, .int (v4)), (5, .int (v5))]) rfl rfl (List.mem_of_getElem? (i := 6) rfl) rfl rfl ?_
  refine EX.go (i := .goto (-86)) (len := 3) (pc1 := 34) (st1 := []) (hi1 := hi) (hl1 := hl) rfl ?_ (fun _ _ _ => rfl)
  obtain rfl := Option.some.inj h
  have hk : EX w0 ev 0 m_Ways_drive 34 [(0, .ref 7), (1, .int (v1)), (2, .int (v2)), (3, .int (v3)), (4, .int (v4)), (5, .int (v5)), (6, .int (v6 + 1))] [] (hi) (hl) OUT := hk
  exact EX.pick [1, 2, 3, 4, 5, 6, 0] hk rfl
def J_Ways_drive_107 (N : Nat) (v1 : Int32) (v2 : Int32) (v5 : Int32) (v6 : Int32) (v7 : Int32) (s0 : Int32) (hi : HI) (hl : HL) : Option ((Int32 × Int32 × Int32 × HI × HL) ⊕ (Int32 × Int32 × HI × HL)) :=
  if (v7 : Int32) < 0 ∨ 36 ≤ Int32.toNatClampNeg (v7) then none else J_Ways_drive_117 N (v1) (v2) (hi 10 (Int32.toNatClampNeg (v7))) (s0) (v5) (v6) (hi) (hl)
set_option maxRecDepth 10000 in
set_option maxHeartbeats 4000000 in
theorem bJ_Ways_drive_107 (ev : EV) {N : Nat} {v1 : Int32} {v2 : Int32} {v5 : Int32} {v6 : Int32} {v7 : Int32} {s0 : Int32} {hi : HI} {hl : HL} {z : (Int32 × Int32 × Int32 × HI × HL) ⊕ (Int32 × Int32 × HI × HL)} {OUT : Option Value × HI × HL} (h : J_Ways_drive_107 N v1 v2 v5 v6 v7 s0 hi hl = some z) (hk : Sum.elim (fun s => EX w0 ev 0 m_Ways_drive 34 [(0, .ref 7), (1, .int (v1)), (2, .int (v2)), (3, .int (s.1)), (4, .int (s.2.1)), (5, .int (v5)), (6, .int (s.2.2.1))] [] (s.2.2.2.1) (s.2.2.2.2) OUT) (fun x => EX w0 ev 0 m_Ways_drive 123 [(0, .ref 7), (1, .int (v1)), (2, .int (v2)), (3, .int (x.1)), (4, .int (x.2.1)), (5, .int (v5))] [] (x.2.2.1) (x.2.2.2) OUT) z) : EX w0 ev 0 m_Ways_drive 107 [(0, .ref 7), (1, .int (v1)), (2, .int (v2)), (5, .int (v5)), (6, .int (v6)), (7, .int (v7))] [.int (s0)] (hi) (hl) OUT := by
  unfold J_Ways_drive_107 at h
  refine EX.istore (req1 := [(4, .int (s0)), (0, .ref 7), (1, .int (v1)), (2, .int (v2)), (5, .int (v5)), (6, .int (v6)), (7, .int (v7))]) rfl rfl rfl ?_
  refine EX.aload_n (x := 7) rfl (List.mem_of_getElem? (i := 1) rfl) ?_
  refine EX.go (i := .getfield 18) (len := 3) (pc1 := 113) (st1 := [.ref 10]) (hi1 := hi) (hl1 := hl) rfl ?_ (fun _ _ _ => rfl)
  refine EX.iload (x := v7) rfl (List.mem_of_getElem? (i := 6) rfl) ?_
  obtain ⟨g10, h⟩ := grd_some h
  refine EX.iaload rfl rfl g10 ?_
  refine EX.istore_n (req1 := [(3, .int (hi 10 (Int32.toNatClampNeg (v7)))), (4, .int (s0)), (0, .ref 7), (1, .int (v1)), (2, .int (v2)), (5, .int (v5)), (6, .int (v6)), (7, .int (v7))]) rfl rfl rfl ?_
  refine EX.pick [2, 3, 4, 0, 1, 5, 6] ?_ rfl
  exact bJ_Ways_drive_117 ev h hk
def B_Ways_drive_34 (N : Nat) (v1 : Int32) (v2 : Int32) (v5 : Int32) (v3 : Int32) (v4 : Int32) (v6 : Int32) (hi : HI) (hl : HL) : Option ((Int32 × Int32 × Int32 × HI × HL) ⊕ (Int32 × Int32 × HI × HL)) :=
  if (hi 7 2 : Int32) ≤ (v6 : Int32) then some (.inr (v3, v4, hi, hl)) else if ((((v2 >>> (v6 &&& 31)) : Int32) &&& (1)) : Int32) = 0 then J_Ways_drive_117 N (v1) (v2) (v3) (v4) (v5) (v6) (hi) (hl) else if ((((v5 * (6)) : Int32) + v6) : Int32) < 0 ∨ 36 ≤ Int32.toNatClampNeg ((((v5 * (6)) : Int32) + v6)) then none else if (hi 10 (Int32.toNatClampNeg ((((v5 * (6)) : Int32) + v6))) : Int32) ≤ (v3 : Int32) then if ((((v5 * (6)) : Int32) + v6) : Int32) < 0 ∨ 36 ≤ Int32.toNatClampNeg ((((v5 * (6)) : Int32) + v6)) then none else if (v3 : Int32) ≤ (hi 10 (Int32.toNatClampNeg ((((v5 * (6)) : Int32) + v6))) : Int32) then if ((((v5 * (6)) : Int32) + v6) : Int32) < 0 ∨ 36 ≤ Int32.toNatClampNeg ((((v5 * (6)) : Int32) + v6)) then none else J_Ways_drive_107 N (v1) (v2) (v5) (v6) ((((v5 * (6)) : Int32) + v6)) ((v4 ||| (hi 11 (Int32.toNatClampNeg ((((v5 * (6)) : Int32) + v6)))))) (hi) (hl) else if ((((v5 * (6)) : Int32) + v6) : Int32) < 0 ∨ 36 ≤ Int32.toNatClampNeg ((((v5 * (6)) : Int32) + v6)) then none else J_Ways_drive_107 N (v1) (v2) (v5) (v6) ((((v5 * (6)) : Int32) + v6)) (hi 11 (Int32.toNatClampNeg ((((v5 * (6)) : Int32) + v6)))) (hi) (hl) else J_Ways_drive_117 N (v1) (v2) (v3) (v4) (v5) (v6) (hi) (hl)
set_option maxRecDepth 10000 in
set_option maxHeartbeats 4000000 in
theorem bB_Ways_drive_34 (ev : EV) {N : Nat} {v1 : Int32} {v2 : Int32} {v5 : Int32} {v3 : Int32} {v4 : Int32} {v6 : Int32} {hi : HI} {hl : HL} {z : (Int32 × Int32 × Int32 × HI × HL) ⊕ (Int32 × Int32 × HI × HL)} {OUT : Option Value × HI × HL} (h : B_Ways_drive_34 N v1 v2 v5 v3 v4 v6 hi hl = some z) (hk : Sum.elim (fun s => EX w0 ev 0 m_Ways_drive 34 [(0, .ref 7), (1, .int (v1)), (2, .int (v2)), (3, .int (s.1)), (4, .int (s.2.1)), (5, .int (v5)), (6, .int (s.2.2.1))] [] (s.2.2.2.1) (s.2.2.2.2) OUT) (fun x => EX w0 ev 0 m_Ways_drive 123 [(0, .ref 7), (1, .int (v1)), (2, .int (v2)), (3, .int (x.1)), (4, .int (x.2.1)), (5, .int (v5))] [] (x.2.2.1) (x.2.2.2) OUT) z) : EX w0 ev 0 m_Ways_drive 34 [(0, .ref 7), (1, .int (v1)), (2, .int (v2)), (3, .int (v3)), (4, .int (v4)), (5, .int (v5)), (6, .int (v6))] [] (hi) (hl) OUT := by
  unfold B_Ways_drive_34 at h
  refine EX.iload (x := v6) rfl (List.mem_of_getElem? (i := 6) rfl) ?_
  refine EX.aload_n (x := 7) rfl (List.mem_of_getElem? (i := 0) rfl) ?_
  refine EX.go (i := .getfield 30) (len := 3) (pc1 := 40) (st1 := [.int (hi 7 2), .int (v6)]) (hi1 := hi) (hl1 := hl) rfl ?_ (fun _ _ _ => rfl)
  rcases ite_some h with ⟨c3, h⟩ | ⟨c3, h⟩
  · refine EX.go (i := .if_icmp .ge 83) (len := 3) (pc1 := 123) (st1 := []) (hi1 := hi) (hl1 := hl) rfl ?_ (fun _ _ _ => if_pos c3)
    obtain rfl := Option.some.inj h
    have hk : EX w0 ev 0 m_Ways_drive 123 [(0, .ref 7), (1, .int (v1)), (2, .int (v2)), (3, .int (v3)), (4, .int (v4)), (5, .int (v5))] [] (hi) (hl) OUT := hk
    exact EX.pick [0, 1, 2, 3, 4, 5] hk rfl
  · refine EX.go (i := .if_icmp .ge 83) (len := 3) (pc1 := 43) (st1 := []) (hi1 := hi) (hl1 := hl) rfl ?_ (fun _ _ _ => if_neg c3)
    refine EX.iload (x := v5) rfl (List.mem_of_getElem? (i := 5) rfl) ?_
    refine EX.bipush (v := 6) rfl rfl ?_
    refine EX.go (i := .imul) (len := 1) (pc1 := 48) (st1 := [.int ((v5 * (6)))]) (hi1 := hi) (hl1 := hl) rfl ?_ (fun _ _ _ => rfl)
    refine EX.iload (x := v6) rfl (List.mem_of_getElem? (i := 6) rfl) ?_
    refine EX.go (i := .iadd) (len := 1) (pc1 := 51) (st1 := [.int ((((v5 * (6)) : Int32) + v6))]) (hi1 := hi) (hl1 := hl) rfl ?_ (fun _ _ _ => rfl)
    refine EX.istore (req1 := [(7, .int ((((v5 * (6)) : Int32) + v6))), (0, .ref 7), (1, .int (v1)), (2, .int (v2)), (3, .int (v3)), (4, .int (v4)), (5, .int (v5)), (6, .int (v6))]) rfl rfl rfl ?_
    refine EX.iload_n (x := v2) rfl (List.mem_of_getElem? (i := 3) rfl) ?_
    refine EX.iload (x := v6) rfl (List.mem_of_getElem? (i := 7) rfl) ?_
    refine EX.go (i := .ishr) (len := 1) (pc1 := 57) (st1 := [.int ((v2 >>> (v6 &&& 31)))]) (hi1 := hi) (hl1 := hl) rfl ?_ (fun _ _ _ => rfl)
    refine EX.iconst (v := 1) rfl rfl ?_
    refine EX.go (i := .iand) (len := 1) (pc1 := 59) (st1 := [.int ((((v2 >>> (v6 &&& 31)) : Int32) &&& (1)))]) (hi1 := hi) (hl1 := hl) rfl ?_ (fun _ _ _ => rfl)
    rcases ite_some h with ⟨c4, h⟩ | ⟨c4, h⟩
    · refine EX.go (i := .ifCond .eq 58) (len := 3) (pc1 := 117) (st1 := []) (hi1 := hi) (hl1 := hl) rfl ?_ (fun _ _ _ => if_pos c4)
      refine EX.pick [1, 2, 3, 4, 5, 6, 7] ?_ rfl
      exact bJ_Ways_drive_117 ev h hk
    · refine EX.go (i := .ifCond .eq 58) (len := 3) (pc1 := 62) (st1 := []) (hi1 := hi) (hl1 := hl) rfl ?_ (fun _ _ _ => if_neg c4)
      refine EX.aload_n (x := 7) rfl (List.mem_of_getElem? (i := 1) rfl) ?_
      refine EX.go (i := .getfield 18) (len := 3) (pc1 := 66) (st1 := [.ref 10]) (hi1 := hi) (hl1 := hl) rfl ?_ (fun _ _ _ => rfl)
      refine EX.iload (x := (((v5 * (6)) : Int32) + v6)) rfl (List.mem_of_getElem? (i := 0) rfl) ?_
      obtain ⟨g5, h⟩ := grd_some h
      refine EX.iaload rfl rfl g5 ?_
      refine EX.iload_n (x := v3) rfl (List.mem_of_getElem? (i := 4) rfl) ?_
      rcases ite_some h with ⟨c6, h⟩ | ⟨c6, h⟩
      · refine EX.go (i := .if_icmp .le 6) (len := 3) (pc1 := 76) (st1 := []) (hi1 := hi) (hl1 := hl) rfl ?_ (fun _ _ _ => if_pos c6)
        refine EX.aload_n (x := 7) rfl (List.mem_of_getElem? (i := 1) rfl) ?_
        refine EX.go (i := .getfield 18) (len := 3) (pc1 := 80) (st1 := [.ref 10]) (hi1 := hi) (hl1 := hl) rfl ?_ (fun _ _ _ => rfl)
        refine EX.iload (x := (((v5 * (6)) : Int32) + v6)) rfl (List.mem_of_getElem? (i := 0) rfl) ?_
        obtain ⟨g7, h⟩ := grd_some h
        refine EX.iaload rfl rfl g7 ?_
        refine EX.iload_n (x := v3) rfl (List.mem_of_getElem? (i := 4) rfl) ?_
        rcases ite_some h with ⟨c8, h⟩ | ⟨c8, h⟩
        · refine EX.go (i := .if_icmp .ge 13) (len := 3) (pc1 := 97) (st1 := []) (hi1 := hi) (hl1 := hl) rfl ?_ (fun _ _ _ => if_pos c8)
          refine EX.iload (x := v4) rfl (List.mem_of_getElem? (i := 5) rfl) ?_
          refine EX.aload_n (x := 7) rfl (List.mem_of_getElem? (i := 1) rfl) ?_
          refine EX.go (i := .getfield 21) (len := 3) (pc1 := 103) (st1 := [.ref 11, .int (v4)]) (hi1 := hi) (hl1 := hl) rfl ?_ (fun _ _ _ => rfl)
          refine EX.iload (x := (((v5 * (6)) : Int32) + v6)) rfl (List.mem_of_getElem? (i := 0) rfl) ?_
          obtain ⟨g9, h⟩ := grd_some h
          refine EX.iaload rfl rfl g9 ?_
          refine EX.go (i := .ior) (len := 1) (pc1 := 107) (st1 := [.int ((v4 ||| (hi 11 (Int32.toNatClampNeg ((((v5 * (6)) : Int32) + v6))))))]) (hi1 := hi) (hl1 := hl) rfl ?_ (fun _ _ _ => rfl)
          refine EX.pick [1, 2, 3, 6, 7, 0] ?_ rfl
          exact bJ_Ways_drive_107 ev h hk
        · refine EX.go (i := .if_icmp .ge 13) (len := 3) (pc1 := 87) (st1 := []) (hi1 := hi) (hl1 := hl) rfl ?_ (fun _ _ _ => if_neg c8)
          refine EX.aload_n (x := 7) rfl (List.mem_of_getElem? (i := 1) rfl) ?_
          refine EX.go (i := .getfield 21) (len := 3) (pc1 := 91) (st1 := [.ref 11]) (hi1 := hi) (hl1 := hl) rfl ?_ (fun _ _ _ => rfl)
          refine EX.iload (x := (((v5 * (6)) : Int32) + v6)) rfl (List.mem_of_getElem? (i := 0) rfl) ?_
          obtain ⟨g11, h⟩ := grd_some h
          refine EX.iaload rfl rfl g11 ?_
          refine EX.go (i := .goto 13) (len := 3) (pc1 := 107) (st1 := [.int (hi 11 (Int32.toNatClampNeg ((((v5 * (6)) : Int32) + v6))))]) (hi1 := hi) (hl1 := hl) rfl ?_ (fun _ _ _ => rfl)
          refine EX.pick [1, 2, 3, 6, 7, 0] ?_ rfl
          exact bJ_Ways_drive_107 ev h hk
      · refine EX.go (i := .if_icmp .le 6) (len := 3) (pc1 := 73) (st1 := []) (hi1 := hi) (hl1 := hl) rfl ?_ (fun _ _ _ => if_neg c6)
        refine EX.go (i := .goto 44) (len := 3) (pc1 := 117) (st1 := []) (hi1 := hi) (hl1 := hl) rfl ?_ (fun _ _ _ => rfl)
        refine EX.pick [1, 2, 3, 4, 5, 6, 7] ?_ rfl
        exact bJ_Ways_drive_117 ev h hk
def B_Ways_drive_10 (N : Nat) (v1 : Int32) (v2 : Int32) (v3 : Int32) (v4 : Int32) (v5 : Int32) (hi : HI) (hl : HL) : Option ((Int32 × Int32 × Int32 × HI × HL) ⊕ (Int32 × Int32 × HI × HL)) :=
  if (hi 7 2 : Int32) ≤ (v5 : Int32) then some (.inr (v3, v4, hi, hl)) else if ((((v1 >>> (v5 &&& 31)) : Int32) &&& (1)) : Int32) = 0 then J_Ways_drive_123 N (v1) (v2) (v3) (v4) (v5) (hi) (hl) else (lpN (fun s => B_Ways_drive_34 N (v1) (v2) (v5) s.1 s.2.1 s.2.2.1 s.2.2.2.1 s.2.2.2.2) N (v3, v4, 0, hi, hl)).bind fun x12 => J_Ways_drive_123 N (v1) (v2) (x12.1) (x12.2.1) (v5) (x12.2.2.1) (x12.2.2.2)
set_option maxRecDepth 10000 in
set_option maxHeartbeats 4000000 in
theorem bB_Ways_drive_10 (ev : EV) {N : Nat} {v1 : Int32} {v2 : Int32} {v3 : Int32} {v4 : Int32} {v5 : Int32} {hi : HI} {hl : HL} {z : (Int32 × Int32 × Int32 × HI × HL) ⊕ (Int32 × Int32 × HI × HL)} {OUT : Option Value × HI × HL} (h : B_Ways_drive_10 N v1 v2 v3 v4 v5 hi hl = some z) (hk : Sum.elim (fun s => EX w0 ev 0 m_Ways_drive 10 [(0, .ref 7), (1, .int (v1)), (2, .int (v2)), (3, .int (s.1)), (4, .int (s.2.1)), (5, .int (s.2.2.1))] [] (s.2.2.2.1) (s.2.2.2.2) OUT) (fun x => EX w0 ev 0 m_Ways_drive 129 [(0, .ref 7), (3, .int (x.1)), (4, .int (x.2.1))] [] (x.2.2.1) (x.2.2.2) OUT) z) : EX w0 ev 0 m_Ways_drive 10 [(0, .ref 7), (1, .int (v1)), (2, .int (v2)), (3, .int (v3)), (4, .int (v4)), (5, .int (v5))] [] (hi) (hl) OUT := by
  unfold B_Ways_drive_10 at h
  refine EX.iload (x := v5) rfl (List.mem_of_getElem? (i := 5) rfl) ?_
  refine EX.aload_n (x := 7) rfl (List.mem_of_getElem? (i := 0) rfl) ?_
  refine EX.go (i := .getfield 30) (len := 3) (pc1 := 16) (st1 := [.int (hi 7 2), .int (v5)]) (hi1 := hi) (hl1 := hl) rfl ?_ (fun _ _ _ => rfl)
  rcases ite_some h with ⟨c1, h⟩ | ⟨c1, h⟩
  · refine EX.go (i := .if_icmp .ge 113) (len := 3) (pc1 := 129) (st1 := []) (hi1 := hi) (hl1 := hl) rfl ?_ (fun _ _ _ => if_pos c1)
    obtain rfl := Option.some.inj h
    have hk : EX w0 ev 0 m_Ways_drive 129 [(0, .ref 7), (3, .int (v3)), (4, .int (v4))] [] (hi) (hl) OUT := hk
    exact EX.pick [0, 3, 4] hk rfl
  · refine EX.go (i := .if_icmp .ge 113) (len := 3) (pc1 := 19) (st1 := []) (hi1 := hi) (hl1 := hl) rfl ?_ (fun _ _ _ => if_neg c1)
    refine EX.iload_n (x := v1) rfl (List.mem_of_getElem? (i := 1) rfl) ?_
    refine EX.iload (x := v5) rfl (List.mem_of_getElem? (i := 5) rfl) ?_
    refine EX.go (i := .ishr) (len := 1) (pc1 := 23) (st1 := [.int ((v1 >>> (v5 &&& 31)))]) (hi1 := hi) (hl1 := hl) rfl ?_ (fun _ _ _ => rfl)
    refine EX.iconst (v := 1) rfl rfl ?_
    refine EX.go (i := .iand) (len := 1) (pc1 := 25) (st1 := [.int ((((v1 >>> (v5 &&& 31)) : Int32) &&& (1)))]) (hi1 := hi) (hl1 := hl) rfl ?_ (fun _ _ _ => rfl)
    rcases ite_some h with ⟨c2, h⟩ | ⟨c2, h⟩
    · refine EX.go (i := .ifCond .ne 6) (len := 3) (pc1 := 28) (st1 := []) (hi1 := hi) (hl1 := hl) rfl ?_ (fun _ _ _ => if_pos c2)
      refine EX.go (i := .goto 95) (len := 3) (pc1 := 123) (st1 := []) (hi1 := hi) (hl1 := hl) rfl ?_ (fun _ _ _ => rfl)
      refine EX.pick [0, 1, 2, 3, 4, 5] ?_ rfl
      exact bJ_Ways_drive_123 ev h hk
    · refine EX.go (i := .ifCond .ne 6) (len := 3) (pc1 := 31) (st1 := []) (hi1 := hi) (hl1 := hl) rfl ?_ (fun _ _ _ => if_neg c2)
      refine EX.iconst (v := 0) rfl rfl ?_
      refine EX.istore (req1 := [(6, .int (0)), (0, .ref 7), (1, .int (v1)), (2, .int (v2)), (3, .int (v3)), (4, .int (v4)), (5, .int (v5))]) rfl rfl rfl ?_
      obtain ⟨x12, hx12, h⟩ := bnd_some h
      refine EX.pick [1, 2, 3, 4, 5, 6, 0] ?_ rfl
      refine lp_sound (f := fun s => B_Ways_drive_34 N (v1) (v2) (v5) s.1 s.2.1 s.2.2.1 s.2.2.2.1 s.2.2.2.2) (PS := fun s => EX w0 ev 0 m_Ways_drive 34 [(0, .ref 7), (1, .int (v1)), (2, .int (v2)), (3, .int (s.1)), (4, .int (s.2.1)), (5, .int (v5)), (6, .int (s.2.2.1))] [] (s.2.2.2.1) (s.2.2.2.2) OUT) (PX := fun x => EX w0 ev 0 m_Ways_drive 123 [(0, .ref 7), (1, .int (v1)), (2, .int (v2)), (3, .int (x.1)), (4, .int (x.2.1)), (5, .int (v5))] [] (x.2.2.1) (x.2.2.2) OUT) ?_ N _ x12 hx12 ?_
      · exact fun s z hz hk => bB_Ways_drive_34 ev hz hk
      show EX w0 ev 0 m_Ways_drive 123 [(0, .ref 7), (1, .int (v1)), (2, .int (v2)), (3, .int (x12.1)), (4, .int (x12.2.1)), (5, .int (v5))] [] (x12.2.2.1) (x12.2.2.2) OUT
      refine EX.pick [0, 1, 2, 3, 4, 5] ?_ rfl
      exact bJ_Ways_drive_123 ev h hk
def J_Ways_drive_165 (N : Nat) (hi : HI) (hl : HL) : Option (Unit × HI × HL) :=
  some ((), wr (hi) 7 1 (0), hl)
set_option maxRecDepth 10000 in
set_option maxHeartbeats 4000000 in
theorem bJ_Ways_drive_165 (ev : EV) {N : Nat} {hi : HI} {hl : HL} {o : Unit × HI × HL} (h : J_Ways_drive_165 N hi hl = some o) : EX w0 ev 0 m_Ways_drive 165 [] [.ref 7] (hi) (hl) (oV o) := by
  unfold J_Ways_drive_165 at h
  refine EX.iconst (v := 0) rfl rfl ?_
  refine EX.go (i := .putfield 83) (len := 3) (pc1 := 169) (st1 := []) (hi1 := wr (hi) 7 1 (0)) (hl1 := hl) rfl ?_ (fun _ _ _ => rfl)
  obtain rfl := Option.some.inj h
  exact EX.vret rfl rfl
def J_Ways_drive_143 (N : Nat) (v3 : Int32) (v4 : Int32) (s0 : Int32) (hi : HI) (hl : HL) : Option (Unit × HI × HL) :=
  if (v3 : Int32) < (1 : Int32) then J_Ways_drive_165 N (wr (hi) 7 0 (s0)) (hl) else if ((wr (hi) 7 0 (s0)) 7 3 : Int32) < (v3 : Int32) then J_Ways_drive_165 N (wr (hi) 7 0 (s0)) (hl) else some ((), wr (wr (hi) 7 0 (s0)) 7 1 (v4), hl)
set_option maxRecDepth 10000 in
set_option maxHeartbeats 4000000 in
theorem bJ_Ways_drive_143 (ev : EV) {N : Nat} {v3 : Int32} {v4 : Int32} {s0 : Int32} {hi : HI} {hl : HL} {o : Unit × HI × HL} (h : J_Ways_drive_143 N v3 v4 s0 hi hl = some o) : EX w0 ev 0 m_Ways_drive 143 [(0, .ref 7), (3, .int (v3)), (4, .int (v4))] [.int (s0), .ref 7] (hi) (hl) (oV o) := by
  unfold J_Ways_drive_143 at h
  refine EX.go (i := .putfield 80) (len := 3) (pc1 := 146) (st1 := []) (hi1 := wr (hi) 7 0 (s0)) (hl1 := hl) rfl ?_ (fun _ _ _ => rfl)
  refine EX.aload_n (x := 7) rfl (List.mem_of_getElem? (i := 0) rfl) ?_
  refine EX.iload_n (x := v3) rfl (List.mem_of_getElem? (i := 1) rfl) ?_
  refine EX.iconst (v := 1) rfl rfl ?_
  rcases ite_some h with ⟨c15, h⟩ | ⟨c15, h⟩
  · refine EX.go (i := .if_icmp .lt 16) (len := 3) (pc1 := 165) (st1 := [.ref 7]) (hi1 := wr (hi) 7 0 (s0)) (hl1 := hl) rfl ?_ (fun _ _ _ => if_pos c15)
    refine EX.pick [] ?_ rfl
    exact bJ_Ways_drive_165 ev h
  · refine EX.go (i := .if_icmp .lt 16) (len := 3) (pc1 := 152) (st1 := [.ref 7]) (hi1 := wr (hi) 7 0 (s0)) (hl1 := hl) rfl ?_ (fun _ _ _ => if_neg c15)
    refine EX.iload_n (x := v3) rfl (List.mem_of_getElem? (i := 1) rfl) ?_
    refine EX.aload_n (x := 7) rfl (List.mem_of_getElem? (i := 0) rfl) ?_
    refine EX.go (i := .getfield 34) (len := 3) (pc1 := 157) (st1 := [.int ((wr (hi) 7 0 (s0)) 7 3), .int (v3), .ref 7]) (hi1 := wr (hi) 7 0 (s0)) (hl1 := hl) rfl ?_ (fun _ _ _ => rfl)
    rcases ite_some h with ⟨c16, h⟩ | ⟨c16, h⟩
    · refine EX.go (i := .if_icmp .gt 8) (len := 3) (pc1 := 165) (st1 := [.ref 7]) (hi1 := wr (hi) 7 0 (s0)) (hl1 := hl) rfl ?_ (fun _ _ _ => if_pos c16)
      refine EX.pick [] ?_ rfl
      exact bJ_Ways_drive_165 ev h
    · refine EX.go (i := .if_icmp .gt 8) (len := 3) (pc1 := 160) (st1 := [.ref 7]) (hi1 := wr (hi) 7 0 (s0)) (hl1 := hl) rfl ?_ (fun _ _ _ => if_neg c16)
      refine EX.iload (x := v4) rfl (List.mem_of_getElem? (i := 2) rfl) ?_
      refine EX.go (i := .goto 4) (len := 3) (pc1 := 166) (st1 := [.int (v4), .ref 7]) (hi1 := wr (hi) 7 0 (s0)) (hl1 := hl) rfl ?_ (fun _ _ _ => rfl)
      refine EX.go (i := .putfield 83) (len := 3) (pc1 := 169) (st1 := []) (hi1 := wr (wr (hi) 7 0 (s0)) 7 1 (v4)) (hl1 := hl) rfl ?_ (fun _ _ _ => rfl)
      obtain rfl := Option.some.inj h
      exact EX.vret rfl rfl
def f_Ways_drive (N : Nat) (p1 : Int32) (p2 : Int32) (hi : HI) (hl : HL) : Option (Unit × HI × HL) :=
  (lpN (fun s => B_Ways_drive_10 N (p1) (p2) s.1 s.2.1 s.2.2.1 s.2.2.2.1 s.2.2.2.2) N (1000, 0, 0, hi, hl)).bind fun x13 => if (1000 : Int32) ≤ (x13.1 : Int32) then J_Ways_drive_143 N (x13.1) (x13.2.1) ((-4)) (x13.2.2.1) (x13.2.2.2) else J_Ways_drive_143 N (x13.1) (x13.2.1) (x13.1) (x13.2.2.1) (x13.2.2.2)
set_option maxRecDepth 10000 in
set_option maxHeartbeats 4000000 in
theorem b_Ways_drive (ev : EV) {N : Nat} {p1 : Int32} {p2 : Int32} {hi : HI} {hl : HL} {o : Unit × HI × HL} (h : f_Ways_drive N p1 p2 hi hl = some o) : EM w0 ev 1 m_Ways_drive [.ref 7, .int (p1), .int (p2)] hi hl (oV o) := by
  unfold f_Ways_drive at h
  refine EM.of rfl ?_
  show EX w0 ev 0 m_Ways_drive 0 [(0, .ref 7), (1, .int (p1)), (2, .int (p2))] [] (hi) (hl) (oV o)
  refine EX.sipush (v := 1000) rfl rfl ?_
  refine EX.istore_n (req1 := [(3, .int (1000)), (0, .ref 7), (1, .int (p1)), (2, .int (p2))]) rfl rfl rfl ?_
  refine EX.iconst (v := 0) rfl rfl ?_
  refine EX.istore (req1 := [(4, .int (0)), (3, .int (1000)), (0, .ref 7), (1, .int (p1)), (2, .int (p2))]) rfl rfl rfl ?_
  refine EX.iconst (v := 0) rfl rfl ?_
  refine EX.istore (req1 := [(5, .int (0)), (4, .int (0)), (3, .int (1000)), (0, .ref 7), (1, .int (p1)), (2, .int (p2))]) rfl rfl rfl ?_
  obtain ⟨x13, hx13, h⟩ := bnd_some h
  refine EX.pick [3, 4, 5, 2, 1, 0] ?_ rfl
  refine lp_sound (f := fun s => B_Ways_drive_10 N (p1) (p2) s.1 s.2.1 s.2.2.1 s.2.2.2.1 s.2.2.2.2) (PS := fun s => EX w0 ev 0 m_Ways_drive 10 [(0, .ref 7), (1, .int (p1)), (2, .int (p2)), (3, .int (s.1)), (4, .int (s.2.1)), (5, .int (s.2.2.1))] [] (s.2.2.2.1) (s.2.2.2.2) (oV o)) (PX := fun x => EX w0 ev 0 m_Ways_drive 129 [(0, .ref 7), (3, .int (x.1)), (4, .int (x.2.1))] [] (x.2.2.1) (x.2.2.2) (oV o)) ?_ N _ x13 hx13 ?_
  · exact fun s z hz hk => bB_Ways_drive_10 ev hz hk
  show EX w0 ev 0 m_Ways_drive 129 [(0, .ref 7), (3, .int (x13.1)), (4, .int (x13.2.1))] [] (x13.2.2.1) (x13.2.2.2) (oV o)
  refine EX.aload_n (x := 7) rfl (List.mem_of_getElem? (i := 0) rfl) ?_
  refine EX.iload_n (x := x13.1) rfl (List.mem_of_getElem? (i := 1) rfl) ?_
  refine EX.sipush (v := 1000) rfl rfl ?_
  rcases ite_some h with ⟨c14, h⟩ | ⟨c14, h⟩
  · refine EX.go (i := .if_icmp .ge 7) (len := 3) (pc1 := 141) (st1 := [.ref 7]) (hi1 := x13.2.2.1) (hl1 := x13.2.2.2) rfl ?_ (fun _ _ _ => if_pos c14)
    refine EX.bipush (v := (-4)) rfl rfl ?_
    refine EX.pick [0, 1, 2] ?_ rfl
    exact bJ_Ways_drive_143 ev h
  · refine EX.go (i := .if_icmp .ge 7) (len := 3) (pc1 := 137) (st1 := [.ref 7]) (hi1 := x13.2.2.1) (hl1 := x13.2.2.2) rfl ?_ (fun _ _ _ => if_neg c14)
    refine EX.iload_n (x := x13.1) rfl (List.mem_of_getElem? (i := 1) rfl) ?_
    refine EX.go (i := .goto 5) (len := 3) (pc1 := 143) (st1 := [.int (x13.1), .ref 7]) (hi1 := x13.2.2.1) (hl1 := x13.2.2.2) rfl ?_ (fun _ _ _ => rfl)
    refine EX.pick [0, 1, 2] ?_ rfl
    exact bJ_Ways_drive_143 ev h
def J_Ways_solve_80 (N : Nat) (v1 : Int32) (v2 : Int32) (v3 : Int32) (v5 : Int32) (s0 : Int32) (s1 : Int32) (hi : HI) (hl : HL) : Option ((Int32 × Int32 × Int32 × Int32 × HI × HL) ⊕ (Int32 × Int32 × Int32 × HI × HL)) :=
  some (.inl (v2, v3, (s1 ||| s0), v5 + 1, hi, hl))
set_option maxRecDepth 10000 in
set_option maxHeartbeats 4000000 in
theorem bJ_Ways_solve_80 (ev : EV) {N : Nat} {v1 : Int32} {v2 : Int32} {v3 : Int32} {v5 : Int32} {s0 : Int32} {s1 : Int32} {hi : HI} {hl : HL} {z : (Int32 × Int32 × Int32 × Int32 × HI × HL) ⊕ (Int32 × Int32 × Int32 × HI × HL)} {OUT : Option Value × HI × HL} (h : J_Ways_solve_80 N v1 v2 v3 v5 s0 s1 hi hl = some z) (hk : Sum.elim (fun s => EX w0 ev 3 m_Ways_solve 10 [(0, .ref 7), (1, .int (v1)), (2, .int (s.1)), (3, .int (s.2.1)), (4, .int (s.2.2.1)), (5, .int (s.2.2.2.1))] [] (s.2.2.2.2.1) (s.2.2.2.2.2) OUT) (fun x => EX w0 ev 3 m_Ways_solve 89 [(0, .ref 7), (2, .int (x.1)), (3, .int (x.2.1)), (4, .int (x.2.2.1))] [] (x.2.2.2.1) (x.2.2.2.2) OUT) z) : EX w0 ev 3 m_Ways_solve 80 [(0, .ref 7), (1, .int (v1)), (2, .int (v2)), (3, .int (v3)), (5, .int (v5))] [.int (s0), .int (s1)] (hi) (hl) OUT := by
  unfold J_Ways_solve_80 at h
  refine EX.go (i := .ior) (len := 1) (pc1 := 81) (st1 := [.int ((s1 ||| s0))]) (hi1 := hi) (hl1 := hl) rfl ?_ (fun _ _ _ => rfl)
  refine EX.istore (req1 := [(4, .int ((s1 ||| s0))), (0, .ref 7), (1, .int (v1)), (2, .int (v2)), (3, .int (v3)), (5, .int (v5))]) rfl rfl rfl ?_
  refine EX.iinc (x := v5) (v := v5 + 1) (req1 := [(5, .int (v5 + 1)), (4, .int ((s1 ||| s0))), (0, .ref 7), (1, .int (v1)), (2, .int (v2)), (3, .int (v3))]) rfl rfl (List.mem_of_getElem? (i := 5) rfl) rfl rfl ?_
  refine EX.go (i := .goto (-76)) (len := 3) (pc1 := 10) (st1 := []) (hi1 := hi) (hl1 := hl) rfl ?_ (fun _ _ _ => rfl)
  obtain rfl := Option.some.inj h
  have hk : EX w0 ev 3 m_Ways_solve 10 [(0, .ref 7), (1, .int (v1)), (2, .int (v2)), (3, .int (v3)), (4, .int ((s1 ||| s0))), (5, .int (v5 + 1))] [] (hi) (hl) OUT := hk
  exact EX.pick [2, 3, 4, 5, 1, 0] hk rfl
def J_Ways_solve_62 (N : Nat) (v1 : Int32) (v2 : Int32) (v4 : Int32) (v5 : Int32) (v6 : Int32) (s0 : Int32) (s1 : Int32) (hi : HI) (hl : HL) : Option ((Int32 × Int32 × Int32 × Int32 × HI × HL) ⊕ (Int32 × Int32 × Int32 × HI × HL)) :=
  if (v6 : Int32) = (2 : Int32) then J_Ways_solve_80 N (v1) (v2) ((s1 ||| s0)) (v5) (((1 : Int32) <<< (v5 &&& 31))) (v4) (hi) (hl) else J_Ways_solve_80 N (v1) (v2) ((s1 ||| s0)) (v5) (0) (v4) (hi) (hl)
set_option maxRecDepth 10000 in
set_option maxHeartbeats 4000000 in
theorem bJ_Ways_solve_62 (ev : EV) {N : Nat} {v1 : Int32} {v2 : Int32} {v4 : Int32} {v5 : Int32} {v6 : Int32} {s0 : Int32} {s1 : Int32} {hi : HI} {hl : HL} {z : (Int32 × Int32 × Int32 × Int32 × HI × HL) ⊕ (Int32 × Int32 × Int32 × HI × HL)} {OUT : Option Value × HI × HL} (h : J_Ways_solve_62 N v1 v2 v4 v5 v6 s0 s1 hi hl = some z) (hk : Sum.elim (fun s => EX w0 ev 3 m_Ways_solve 10 [(0, .ref 7), (1, .int (v1)), (2, .int (s.1)), (3, .int (s.2.1)), (4, .int (s.2.2.1)), (5, .int (s.2.2.2.1))] [] (s.2.2.2.2.1) (s.2.2.2.2.2) OUT) (fun x => EX w0 ev 3 m_Ways_solve 89 [(0, .ref 7), (2, .int (x.1)), (3, .int (x.2.1)), (4, .int (x.2.2.1))] [] (x.2.2.2.1) (x.2.2.2.2) OUT) z) : EX w0 ev 3 m_Ways_solve 62 [(0, .ref 7), (1, .int (v1)), (2, .int (v2)), (4, .int (v4)), (5, .int (v5)), (6, .int (v6))] [.int (s0), .int (s1)] (hi) (hl) OUT := by
  unfold J_Ways_solve_62 at h
  refine EX.go (i := .ior) (len := 1) (pc1 := 63) (st1 := [.int ((s1 ||| s0))]) (hi1 := hi) (hl1 := hl) rfl ?_ (fun _ _ _ => rfl)
  refine EX.istore_n (req1 := [(3, .int ((s1 ||| s0))), (0, .ref 7), (1, .int (v1)), (2, .int (v2)), (4, .int (v4)), (5, .int (v5)), (6, .int (v6))]) rfl rfl rfl ?_
  refine EX.iload (x := v4) rfl (List.mem_of_getElem? (i := 4) rfl) ?_
  refine EX.iload (x := v6) rfl (List.mem_of_getElem? (i := 6) rfl) ?_
  refine EX.iconst (v := 2) rfl rfl ?_
  rcases ite_some h with ⟨c6, h⟩ | ⟨c6, h⟩
  · refine EX.go (i := .if_icmp .ne 10) (len := 3) (pc1 := 72) (st1 := [.int (v4)]) (hi1 := hi) (hl1 := hl) rfl ?_ (fun _ _ _ => if_pos c6)
    refine EX.iconst (v := 1) rfl rfl ?_
    refine EX.iload (x := v5) rfl (List.mem_of_getElem? (i := 5) rfl) ?_
    refine EX.go (i := .ishl) (len := 1) (pc1 := 76) (st1 := [.int (((1 : Int32) <<< (v5 &&& 31))), .int (v4)]) (hi1 := hi) (hl1 := hl) rfl ?_ (fun _ _ _ => rfl)
    refine EX.go (i := .goto 4) (len := 3) (pc1 := 80) (st1 := [.int (((1 : Int32) <<< (v5 &&& 31))), .int (v4)]) (hi1 := hi) (hl1 := hl) rfl ?_ (fun _ _ _ => rfl)
    refine EX.pick [1, 2, 3, 0, 5] ?_ rfl
    exact bJ_Ways_solve_80 ev h hk
  · refine EX.go (i := .if_icmp .ne 10) (len := 3) (pc1 := 79) (st1 := [.int (v4)]) (hi1 := hi) (hl1 := hl) rfl ?_ (fun _ _ _ => if_neg c6)
    refine EX.iconst (v := 0) rfl rfl ?_
    refine EX.pick [1, 2, 3, 0, 5] ?_ rfl
    exact bJ_Ways_solve_80 ev h hk
def J_Ways_solve_45 (N : Nat) (v1 : Int32) (v3 : Int32) (v4 : Int32) (v5 : Int32) (v6 : Int32) (s0 : Int32) (s1 : Int32) (hi : HI) (hl : HL) : Option ((Int32 × Int32 × Int32 × Int32 × HI × HL) ⊕ (Int32 × Int32 × Int32 × HI × HL)) :=
  if (v6 : Int32) = (1 : Int32) then J_Ways_solve_62 N (v1) ((s1 ||| s0)) (v4) (v5) (v6) (((1 : Int32) <<< (v5 &&& 31))) (v3) (hi) (hl) else J_Ways_solve_62 N (v1) ((s1 ||| s0)) (v4) (v5) (v6) (0) (v3) (hi) (hl)
set_option maxRecDepth 10000 in
set_option maxHeartbeats 4000000 in
theorem bJ_Ways_solve_45 (ev : EV) {N : Nat} {v1 : Int32} {v3 : Int32} {v4 : Int32} {v5 : Int32} {v6 : Int32} {s0 : Int32} {s1 : Int32} {hi : HI} {hl : HL} {z : (Int32 × Int32 × Int32 × Int32 × HI × HL) ⊕ (Int32 × Int32 × Int32 × HI × HL)} {OUT : Option Value × HI × HL} (h : J_Ways_solve_45 N v1 v3 v4 v5 v6 s0 s1 hi hl = some z) (hk : Sum.elim (fun s => EX w0 ev 3 m_Ways_solve 10 [(0, .ref 7), (1, .int (v1)), (2, .int (s.1)), (3, .int (s.2.1)), (4, .int (s.2.2.1)), (5, .int (s.2.2.2.1))] [] (s.2.2.2.2.1) (s.2.2.2.2.2) OUT) (fun x => EX w0 ev 3 m_Ways_solve 89 [(0, .ref 7), (2, .int (x.1)), (3, .int (x.2.1)), (4, .int (x.2.2.1))] [] (x.2.2.2.1) (x.2.2.2.2) OUT) z) : EX w0 ev 3 m_Ways_solve 45 [(0, .ref 7), (1, .int (v1)), (3, .int (v3)), (4, .int (v4)), (5, .int (v5)), (6, .int (v6))] [.int (s0), .int (s1)] (hi) (hl) OUT := by
  unfold J_Ways_solve_45 at h
  refine EX.go (i := .ior) (len := 1) (pc1 := 46) (st1 := [.int ((s1 ||| s0))]) (hi1 := hi) (hl1 := hl) rfl ?_ (fun _ _ _ => rfl)
  refine EX.istore_n (req1 := [(2, .int ((s1 ||| s0))), (0, .ref 7), (1, .int (v1)), (3, .int (v3)), (4, .int (v4)), (5, .int (v5)), (6, .int (v6))]) rfl rfl rfl ?_
  refine EX.iload_n (x := v3) rfl (List.mem_of_getElem? (i := 3) rfl) ?_
  refine EX.iload (x := v6) rfl (List.mem_of_getElem? (i := 6) rfl) ?_
  refine EX.iconst (v := 1) rfl rfl ?_
  rcases ite_some h with ⟨c5, h⟩ | ⟨c5, h⟩
  · refine EX.go (i := .if_icmp .ne 10) (len := 3) (pc1 := 54) (st1 := [.int (v3)]) (hi1 := hi) (hl1 := hl) rfl ?_ (fun _ _ _ => if_pos c5)
    refine EX.iconst (v := 1) rfl rfl ?_
    refine EX.iload (x := v5) rfl (List.mem_of_getElem? (i := 5) rfl) ?_
    refine EX.go (i := .ishl) (len := 1) (pc1 := 58) (st1 := [.int (((1 : Int32) <<< (v5 &&& 31))), .int (v3)]) (hi1 := hi) (hl1 := hl) rfl ?_ (fun _ _ _ => rfl)
    refine EX.go (i := .goto 4) (len := 3) (pc1 := 62) (st1 := [.int (((1 : Int32) <<< (v5 &&& 31))), .int (v3)]) (hi1 := hi) (hl1 := hl) rfl ?_ (fun _ _ _ => rfl)
    refine EX.pick [1, 2, 0, 4, 5, 6] ?_ rfl
    exact bJ_Ways_solve_62 ev h hk
  · refine EX.go (i := .if_icmp .ne 10) (len := 3) (pc1 := 61) (st1 := [.int (v3)]) (hi1 := hi) (hl1 := hl) rfl ?_ (fun _ _ _ => if_neg c5)
    refine EX.iconst (v := 0) rfl rfl ?_
    refine EX.pick [1, 2, 0, 4, 5, 6] ?_ rfl
    exact bJ_Ways_solve_62 ev h hk
def B_Ways_solve_10 (N : Nat) (v1 : Int32) (v2 : Int32) (v3 : Int32) (v4 : Int32) (v5 : Int32) (hi : HI) (hl : HL) : Option ((Int32 × Int32 × Int32 × Int32 × HI × HL) ⊕ (Int32 × Int32 × Int32 × HI × HL)) :=
  if (hi 7 2 : Int32) ≤ (v5 : Int32) then some (.inr (v2, v3, v4, hi, hl)) else if (v5 : Int32) < 0 ∨ 7 ≤ Int32.toNatClampNeg (v5) then none else if ((powT.getD (v5).toNatClampNeg 0) : Int32) = 0 then none else if (((((v1 : Int32) / ((powT.getD (v5).toNatClampNeg 0))) : Int32) - (((v1 : Int32) / ((powT.getD (v5).toNatClampNeg 0))) : Int32) / (3) * (3)) : Int32) = 0 then J_Ways_solve_45 N (v1) (v3) (v4) (v5) (((((v1 : Int32) / ((powT.getD (v5).toNatClampNeg 0))) : Int32) - (((v1 : Int32) / ((powT.getD (v5).toNatClampNeg 0))) : Int32) / (3) * (3))) (((1 : Int32) <<< (v5 &&& 31))) (v2) (hi) (hl) else J_Ways_solve_45 N (v1) (v3) (v4) (v5) (((((v1 : Int32) / ((powT.getD (v5).toNatClampNeg 0))) : Int32) - (((v1 : Int32) / ((powT.getD (v5).toNatClampNeg 0))) : Int32) / (3) * (3))) (0) (v2) (hi) (hl)
set_option maxRecDepth 10000 in
set_option maxHeartbeats 4000000 in
theorem bB_Ways_solve_10 (ev : EV) {N : Nat} {v1 : Int32} {v2 : Int32} {v3 : Int32} {v4 : Int32} {v5 : Int32} {hi : HI} {hl : HL} {z : (Int32 × Int32 × Int32 × Int32 × HI × HL) ⊕ (Int32 × Int32 × Int32 × HI × HL)} {OUT : Option Value × HI × HL} (h : B_Ways_solve_10 N v1 v2 v3 v4 v5 hi hl = some z) (hk : Sum.elim (fun s => EX w0 ev 3 m_Ways_solve 10 [(0, .ref 7), (1, .int (v1)), (2, .int (s.1)), (3, .int (s.2.1)), (4, .int (s.2.2.1)), (5, .int (s.2.2.2.1))] [] (s.2.2.2.2.1) (s.2.2.2.2.2) OUT) (fun x => EX w0 ev 3 m_Ways_solve 89 [(0, .ref 7), (2, .int (x.1)), (3, .int (x.2.1)), (4, .int (x.2.2.1))] [] (x.2.2.2.1) (x.2.2.2.2) OUT) z) : EX w0 ev 3 m_Ways_solve 10 [(0, .ref 7), (1, .int (v1)), (2, .int (v2)), (3, .int (v3)), (4, .int (v4)), (5, .int (v5))] [] (hi) (hl) OUT := by
  unfold B_Ways_solve_10 at h
  refine EX.iload (x := v5) rfl (List.mem_of_getElem? (i := 5) rfl) ?_
  refine EX.aload_n (x := 7) rfl (List.mem_of_getElem? (i := 0) rfl) ?_
  refine EX.go (i := .getfield 30) (len := 3) (pc1 := 16) (st1 := [.int (hi 7 2), .int (v5)]) (hi1 := hi) (hl1 := hl) rfl ?_ (fun _ _ _ => rfl)
  rcases ite_some h with ⟨c1, h⟩ | ⟨c1, h⟩
  · refine EX.go (i := .if_icmp .ge 73) (len := 3) (pc1 := 89) (st1 := []) (hi1 := hi) (hl1 := hl) rfl ?_ (fun _ _ _ => if_pos c1)
    obtain rfl := Option.some.inj h
    have hk : EX w0 ev 3 m_Ways_solve 89 [(0, .ref 7), (2, .int (v2)), (3, .int (v3)), (4, .int (v4))] [] (hi) (hl) OUT := hk
    exact EX.pick [0, 2, 3, 4] hk rfl
  · refine EX.go (i := .if_icmp .ge 73) (len := 3) (pc1 := 19) (st1 := []) (hi1 := hi) (hl1 := hl) rfl ?_ (fun _ _ _ => if_neg c1)
    refine EX.iload_n (x := v1) rfl (List.mem_of_getElem? (i := 1) rfl) ?_
    refine EX.go (i := .getstatic 57) (len := 3) (pc1 := 23) (st1 := [.ref 1000000, .int (v1)]) (hi1 := hi) (hl1 := hl) rfl ?_ (fun _ _ _ => rfl)
    refine EX.iload (x := v5) rfl (List.mem_of_getElem? (i := 5) rfl) ?_
    obtain ⟨g2, h⟩ := grd_some h
    refine EX.ialoadR (v := .int ((powT.getD (v5).toNatClampNeg 0))) rfl rfl rfl g2 rfl ?_
    obtain ⟨g3, h⟩ := grd_some h
    refine EX.go (i := .idiv) (len := 1) (pc1 := 27) (st1 := [.int (((v1 : Int32) / ((powT.getD (v5).toNatClampNeg 0))))]) (hi1 := hi) (hl1 := hl) rfl ?_ (fun _ _ _ => if_neg g3)
    refine EX.iconst (v := 3) rfl rfl ?_
    refine EX.go (i := .irem) (len := 1) (pc1 := 29) (st1 := [.int (((((v1 : Int32) / ((powT.getD (v5).toNatClampNeg 0))) : Int32) - (((v1 : Int32) / ((powT.getD (v5).toNatClampNeg 0))) : Int32) / (3) * (3)))]) (hi1 := hi) (hl1 := hl) rfl ?_ (fun _ _ _ => rfl)
    refine EX.istore (req1 := [(6, .int (((((v1 : Int32) / ((powT.getD (v5).toNatClampNeg 0))) : Int32) - (((v1 : Int32) / ((powT.getD (v5).toNatClampNeg 0))) : Int32) / (3) * (3)))), (0, .ref 7), (1, .int (v1)), (2, .int (v2)), (3, .int (v3)), (4, .int (v4)), (5, .int (v5))]) rfl rfl rfl ?_
    refine EX.iload_n (x := v2) rfl (List.mem_of_getElem? (i := 3) rfl) ?_
    refine EX.iload (x := ((((v1 : Int32) / ((powT.getD (v5).toNatClampNeg 0))) : Int32) - (((v1 : Int32) / ((powT.getD (v5).toNatClampNeg 0))) : Int32) / (3) * (3))) rfl (List.mem_of_getElem? (i := 0) rfl) ?_
    rcases ite_some h with ⟨c4, h⟩ | ⟨c4, h⟩
    · refine EX.go (i := .ifCond .ne 10) (len := 3) (pc1 := 37) (st1 := [.int (v2)]) (hi1 := hi) (hl1 := hl) rfl ?_ (fun _ _ _ => if_pos c4)
      refine EX.iconst (v := 1) rfl rfl ?_
      refine EX.iload (x := v5) rfl (List.mem_of_getElem? (i := 6) rfl) ?_
      refine EX.go (i := .ishl) (len := 1) (pc1 := 41) (st1 := [.int (((1 : Int32) <<< (v5 &&& 31))), .int (v2)]) (hi1 := hi) (hl1 := hl) rfl ?_ (fun _ _ _ => rfl)
      refine EX.go (i := .goto 4) (len := 3) (pc1 := 45) (st1 := [.int (((1 : Int32) <<< (v5 &&& 31))), .int (v2)]) (hi1 := hi) (hl1 := hl) rfl ?_ (fun _ _ _ => rfl)
      refine EX.pick [1, 2, 4, 5, 6, 0] ?_ rfl
      exact bJ_Ways_solve_45 ev h hk
    · refine EX.go (i := .ifCond .ne 10) (len := 3) (pc1 := 44) (st1 := [.int (v2)]) (hi1 := hi) (hl1 := hl) rfl ?_ (fun _ _ _ => if_neg c4)
      refine EX.iconst (v := 0) rfl rfl ?_
      refine EX.pick [1, 2, 4, 5, 6, 0] ?_ rfl
      exact bJ_Ways_solve_45 ev h hk
def f_Ways_solve (N : Nat) (p1 : Int32) (hi : HI) (hl : HL) : Option (Unit × HI × HL) :=
  (lpN (fun s => B_Ways_solve_10 N (p1) s.1 s.2.1 s.2.2.1 s.2.2.2.1 s.2.2.2.2.1 s.2.2.2.2.2) N (0, 0, 0, 0, hi, hl)).bind fun x7 => (f_Ways_leave N (x7.1) (x7.2.2.2.1) (x7.2.2.2.2)).bind fun z8 => (f_Ways_drive N (x7.2.1) (x7.2.2.1) (z8.2.1) (z8.2.2)).bind fun z9 => some ((), z9.2.1, z9.2.2)
set_option maxRecDepth 10000 in
set_option maxHeartbeats 4000000 in
theorem b_Ways_solve (ev : EV) {N : Nat} {p1 : Int32} {hi : HI} {hl : HL} {o : Unit × HI × HL} (h : f_Ways_solve N p1 hi hl = some o) : EM w0 ev 4 m_Ways_solve [.ref 7, .int (p1)] hi hl (oV o) := by
  unfold f_Ways_solve at h
  refine EM.of rfl ?_
  show EX w0 ev 3 m_Ways_solve 0 [(0, .ref 7), (1, .int (p1))] [] (hi) (hl) (oV o)
  refine EX.iconst (v := 0) rfl rfl ?_
  refine EX.istore_n (req1 := [(2, .int (0)), (0, .ref 7), (1, .int (p1))]) rfl rfl rfl ?_
  refine EX.iconst (v := 0) rfl rfl ?_
  refine EX.istore_n (req1 := [(3, .int (0)), (2, .int (0)), (0, .ref 7), (1, .int (p1))]) rfl rfl rfl ?_
  refine EX.iconst (v := 0) rfl rfl ?_
  refine EX.istore (req1 := [(4, .int (0)), (3, .int (0)), (2, .int (0)), (0, .ref 7), (1, .int (p1))]) rfl rfl rfl ?_
  refine EX.iconst (v := 0) rfl rfl ?_
  refine EX.istore (req1 := [(5, .int (0)), (4, .int (0)), (3, .int (0)), (2, .int (0)), (0, .ref 7), (1, .int (p1))]) rfl rfl rfl ?_
  obtain ⟨x7, hx7, h⟩ := bnd_some h
  refine EX.pick [4, 5, 3, 2, 1, 0] ?_ rfl
  refine lp_sound (f := fun s => B_Ways_solve_10 N (p1) s.1 s.2.1 s.2.2.1 s.2.2.2.1 s.2.2.2.2.1 s.2.2.2.2.2) (PS := fun s => EX w0 ev 3 m_Ways_solve 10 [(0, .ref 7), (1, .int (p1)), (2, .int (s.1)), (3, .int (s.2.1)), (4, .int (s.2.2.1)), (5, .int (s.2.2.2.1))] [] (s.2.2.2.2.1) (s.2.2.2.2.2) (oV o)) (PX := fun x => EX w0 ev 3 m_Ways_solve 89 [(0, .ref 7), (2, .int (x.1)), (3, .int (x.2.1)), (4, .int (x.2.2.1))] [] (x.2.2.2.1) (x.2.2.2.2) (oV o)) ?_ N _ x7 hx7 ?_
  · exact fun s z hz hk => bB_Ways_solve_10 ev hz hk
  show EX w0 ev 3 m_Ways_solve 89 [(0, .ref 7), (2, .int (x7.1)), (3, .int (x7.2.1)), (4, .int (x7.2.2.1))] [] (x7.2.2.2.1) (x7.2.2.2.2) (oV o)
  refine EX.aload_n (x := 7) rfl (List.mem_of_getElem? (i := 0) rfl) ?_
  refine EX.iload_n (x := x7.1) rfl (List.mem_of_getElem? (i := 1) rfl) ?_
  obtain ⟨z8, hz8, h⟩ := bnd_some h
  refine EX.callV (b := 7) (as := [.int (x7.1)]) (rest := []) (r := none) (hi1 := z8.2.1) (hl1 := z8.2.2) rfl rfl rfl rfl rfl rfl ((b_Ways_leave ev hz8).mono (by decide)) ?_
  show EX w0 ev 3 m_Ways_solve 94 [(0, .ref 7), (2, .int (x7.1)), (3, .int (x7.2.1)), (4, .int (x7.2.2.1))] [] (z8.2.1) (z8.2.2) (oV o)
  refine EX.aload_n (x := 7) rfl (List.mem_of_getElem? (i := 0) rfl) ?_
  refine EX.iload_n (x := x7.2.1) rfl (List.mem_of_getElem? (i := 2) rfl) ?_
  refine EX.iload (x := x7.2.2.1) rfl (List.mem_of_getElem? (i := 3) rfl) ?_
  obtain ⟨z9, hz9, h⟩ := bnd_some h
  refine EX.callV (b := 7) (as := [.int (x7.2.1), .int (x7.2.2.1)]) (rest := []) (r := none) (hi1 := z9.2.1) (hl1 := z9.2.2) rfl rfl rfl rfl rfl rfl ((b_Ways_drive ev hz9).mono (by decide)) ?_
  show EX w0 ev 3 m_Ways_solve 101 [(0, .ref 7), (2, .int (x7.1)), (3, .int (x7.2.1)), (4, .int (x7.2.2.1))] [] (z9.2.1) (z9.2.2) (oV o)
  obtain rfl := Option.some.inj h
  exact EX.vret rfl rfl
def J_Guesses_tryGuess_60 (N : Nat) (v4 : Int32) (v5 : Int32) (v6 : Int32) (hi : HI) (hl : HL) : Option ((Int32 × HI × HL) ⊕ (Nat × HI × HL)) :=
  some (.inl (v6 + 1, hi, hl))
set_option maxRecDepth 10000 in
set_option maxHeartbeats 4000000 in
theorem bJ_Guesses_tryGuess_60 (ev : EV) {N : Nat} {v4 : Int32} {v5 : Int32} {v6 : Int32} {hi : HI} {hl : HL} {z : (Int32 × HI × HL) ⊕ (Nat × HI × HL)} {OUT : Option Value × HI × HL} (h : J_Guesses_tryGuess_60 N v4 v5 v6 hi hl = some z) (hk : Sum.elim (fun s => EX w0 ev 4 m_Guesses_tryGuess 13 [(0, .ref 51), (2, .ref 7), (3, .ref 47), (4, .int (v4)), (5, .int (v5)), (6, .int (s.1))] [] (s.2.1) (s.2.2) OUT) (fun x => (x.1 = 0 → EX w0 ev 4 m_Guesses_tryGuess 66 [(0, .ref 51), (4, .int (v4)), (5, .int (v5))] [] (x.2.1) (x.2.2) OUT) ∧ (x.1 = 1 → EX w0 ev 4 m_Guesses_tryGuess 59 [] [] (x.2.1) (x.2.2) OUT)) z) : EX w0 ev 4 m_Guesses_tryGuess 60 [(0, .ref 51), (2, .ref 7), (3, .ref 47), (4, .int (v4)), (5, .int (v5)), (6, .int (v6))] [] (hi) (hl) OUT := by
  unfold J_Guesses_tryGuess_60 at h
  refine EX.iinc (x := v6) (v := v6 + 1) (req1 := [(6, .int (v6 + 1)), (0, .ref 51), (2, .ref 7), (3, .ref 47), (4, .int (v4)), (5, .int (v5))]) rfl rfl (List.mem_of_getElem? (i := 5) rfl) rfl rfl ?_
  refine EX.go (i := .goto (-50)) (len := 3) (pc1 := 13) (st1 := []) (hi1 := hi) (hl1 := hl) rfl ?_ (fun _ _ _ => rfl)
  obtain rfl := Option.some.inj h
  have hk : EX w0 ev 4 m_Guesses_tryGuess 13 [(0, .ref 51), (2, .ref 7), (3, .ref 47), (4, .int (v4)), (5, .int (v5)), (6, .int (v6 + 1))] [] (hi) (hl) OUT := hk
  exact EX.pick [1, 2, 3, 4, 5, 0] hk rfl
def B_Guesses_tryGuess_13 (N : Nat) (v4 : Int32) (v5 : Int32) (v6 : Int32) (hi : HI) (hl : HL) : Option ((Int32 × HI × HL) ⊕ (Nat × HI × HL)) :=
  if (hi 47 0 : Int32) ≤ (v6 : Int32) then some (.inr (0, hi, hl)) else if (v6 : Int32) < 0 ∨ 12 ≤ Int32.toNatClampNeg (v6) then none else if (hi 50 (Int32.toNatClampNeg (v6)) : Int32) = ((-4) : Int32) then J_Guesses_tryGuess_60 N (v4) (v5) (v6) (hi) (hl) else if (v6 : Int32) < 0 ∨ 12 ≤ Int32.toNatClampNeg (v6) then none else (f_Ways_solve N (hi 48 (Int32.toNatClampNeg (v6))) (hi) (hl)).bind fun z6 => if (v6 : Int32) < 0 ∨ 12 ≤ Int32.toNatClampNeg (v6) then none else if (z6.2.1 7 1 : Int32) = (z6.2.1 50 (Int32.toNatClampNeg (v6)) : Int32) then J_Guesses_tryGuess_60 N (v4) (v5) (v6) (z6.2.1) (z6.2.2) else some (.inr (1, z6.2.1, z6.2.2))
set_option maxRecDepth 10000 in
set_option maxHeartbeats 4000000 in
theorem bB_Guesses_tryGuess_13 (ev : EV) {N : Nat} {v4 : Int32} {v5 : Int32} {v6 : Int32} {hi : HI} {hl : HL} {z : (Int32 × HI × HL) ⊕ (Nat × HI × HL)} {OUT : Option Value × HI × HL} (h : B_Guesses_tryGuess_13 N v4 v5 v6 hi hl = some z) (hk : Sum.elim (fun s => EX w0 ev 4 m_Guesses_tryGuess 13 [(0, .ref 51), (2, .ref 7), (3, .ref 47), (4, .int (v4)), (5, .int (v5)), (6, .int (s.1))] [] (s.2.1) (s.2.2) OUT) (fun x => (x.1 = 0 → EX w0 ev 4 m_Guesses_tryGuess 66 [(0, .ref 51), (4, .int (v4)), (5, .int (v5))] [] (x.2.1) (x.2.2) OUT) ∧ (x.1 = 1 → EX w0 ev 4 m_Guesses_tryGuess 59 [] [] (x.2.1) (x.2.2) OUT)) z) : EX w0 ev 4 m_Guesses_tryGuess 13 [(0, .ref 51), (2, .ref 7), (3, .ref 47), (4, .int (v4)), (5, .int (v5)), (6, .int (v6))] [] (hi) (hl) OUT := by
  unfold B_Guesses_tryGuess_13 at h
  refine EX.iload (x := v6) rfl (List.mem_of_getElem? (i := 5) rfl) ?_
  refine EX.aload_n (x := 47) rfl (List.mem_of_getElem? (i := 2) rfl) ?_
  refine EX.go (i := .getfield 74) (len := 3) (pc1 := 19) (st1 := [.int (hi 47 0), .int (v6)]) (hi1 := hi) (hl1 := hl) rfl ?_ (fun _ _ _ => rfl)
  rcases ite_some h with ⟨c2, h⟩ | ⟨c2, h⟩
  · refine EX.go (i := .if_icmp .ge 47) (len := 3) (pc1 := 66) (st1 := []) (hi1 := hi) (hl1 := hl) rfl ?_ (fun _ _ _ => if_pos c2)
    obtain rfl := Option.some.inj h
    have hk := hk.1 rfl
    have hk : EX w0 ev 4 m_Guesses_tryGuess 66 [(0, .ref 51), (4, .int (v4)), (5, .int (v5))] [] (hi) (hl) OUT := hk
    exact EX.pick [0, 3, 4] hk rfl
  · refine EX.go (i := .if_icmp .ge 47) (len := 3) (pc1 := 22) (st1 := []) (hi1 := hi) (hl1 := hl) rfl ?_ (fun _ _ _ => if_neg c2)
    refine EX.aload_n (x := 47) rfl (List.mem_of_getElem? (i := 2) rfl) ?_
    refine EX.go (i := .getfield 79) (len := 3) (pc1 := 26) (st1 := [.ref 50]) (hi1 := hi) (hl1 := hl) rfl ?_ (fun _ _ _ => rfl)
    refine EX.iload (x := v6) rfl (List.mem_of_getElem? (i := 5) rfl) ?_
    obtain ⟨g3, h⟩ := grd_some h
    refine EX.iaload rfl rfl g3 ?_
    refine EX.bipush (v := (-4)) rfl rfl ?_
    rcases ite_some h with ⟨c4, h⟩ | ⟨c4, h⟩
    · refine EX.go (i := .if_icmp .eq 29) (len := 3) (pc1 := 60) (st1 := []) (hi1 := hi) (hl1 := hl) rfl ?_ (fun _ _ _ => if_pos c4)
      refine EX.pick [0, 1, 2, 3, 4, 5] ?_ rfl
      exact bJ_Guesses_tryGuess_60 ev h hk
    · refine EX.go (i := .if_icmp .eq 29) (len := 3) (pc1 := 34) (st1 := []) (hi1 := hi) (hl1 := hl) rfl ?_ (fun _ _ _ => if_neg c4)
      refine EX.aload_n (x := 7) rfl (List.mem_of_getElem? (i := 1) rfl) ?_
      refine EX.aload_n (x := 47) rfl (List.mem_of_getElem? (i := 2) rfl) ?_
      refine EX.go (i := .getfield 82) (len := 3) (pc1 := 39) (st1 := [.ref 48, .ref 7]) (hi1 := hi) (hl1 := hl) rfl ?_ (fun _ _ _ => rfl)
      refine EX.iload (x := v6) rfl (List.mem_of_getElem? (i := 5) rfl) ?_
      obtain ⟨g5, h⟩ := grd_some h
      refine EX.iaload rfl rfl g5 ?_
      obtain ⟨z6, hz6, h⟩ := bnd_some h
      refine EX.callV (b := 7) (as := [.int (hi 48 (Int32.toNatClampNeg (v6)))]) (rest := []) (r := none) (hi1 := z6.2.1) (hl1 := z6.2.2) rfl rfl rfl rfl rfl rfl ((b_Ways_solve ev hz6).mono (by decide)) ?_
      show EX w0 ev 4 m_Guesses_tryGuess 45 [(0, .ref 51), (2, .ref 7), (3, .ref 47), (4, .int (v4)), (5, .int (v5)), (6, .int (v6))] [] (z6.2.1) (z6.2.2) OUT
      refine EX.aload_n (x := 7) rfl (List.mem_of_getElem? (i := 1) rfl) ?_
      refine EX.go (i := .getfield 88) (len := 3) (pc1 := 49) (st1 := [.int (z6.2.1 7 1)]) (hi1 := z6.2.1) (hl1 := z6.2.2) rfl ?_ (fun _ _ _ => rfl)
      refine EX.aload_n (x := 47) rfl (List.mem_of_getElem? (i := 2) rfl) ?_
      refine EX.go (i := .getfield 79) (len := 3) (pc1 := 53) (st1 := [.ref 50, .int (z6.2.1 7 1)]) (hi1 := z6.2.1) (hl1 := z6.2.2) rfl ?_ (fun _ _ _ => rfl)
      refine EX.iload (x := v6) rfl (List.mem_of_getElem? (i := 5) rfl) ?_
      obtain ⟨g7, h⟩ := grd_some h
      refine EX.iaload rfl rfl g7 ?_
      rcases ite_some h with ⟨c8, h⟩ | ⟨c8, h⟩
      · refine EX.go (i := .if_icmp .eq 4) (len := 3) (pc1 := 60) (st1 := []) (hi1 := z6.2.1) (hl1 := z6.2.2) rfl ?_ (fun _ _ _ => if_pos c8)
        refine EX.pick [0, 1, 2, 3, 4, 5] ?_ rfl
        exact bJ_Guesses_tryGuess_60 ev h hk
      · refine EX.go (i := .if_icmp .eq 4) (len := 3) (pc1 := 59) (st1 := []) (hi1 := z6.2.1) (hl1 := z6.2.2) rfl ?_ (fun _ _ _ => if_neg c8)
        obtain rfl := Option.some.inj h
        have hk := hk.2 rfl
        have hk : EX w0 ev 4 m_Guesses_tryGuess 59 [] [] (z6.2.1) (z6.2.2) OUT := hk
        exact EX.pick [] hk rfl
def f_Guesses_tryGuess (N : Nat) (p4 : Int32) (p5 : Int32) (hi : HI) (hl : HL) : Option (Unit × HI × HL) :=
  (f_Guesses_suppose N (p4) (p5) (hi) (hl)).bind fun z1 => (lpN (fun s => B_Guesses_tryGuess_13 N (p4) (p5) s.1 s.2.1 s.2.2) N (0, z1.2.1, z1.2.2)).bind fun x9 => if x9.1 = 0 then if (480 : Int32) ≤ (x9.2.1 51 2 : Int32) then some ((), x9.2.1, x9.2.2) else if (x9.2.1 51 2 : Int32) < 0 ∨ 480 ≤ Int32.toNatClampNeg (x9.2.1 51 2) then none else if ((wr (x9.2.1) 52 (Int32.toNatClampNeg (x9.2.1 51 2)) (p4)) 51 2 : Int32) < 0 ∨ 480 ≤ Int32.toNatClampNeg ((wr (x9.2.1) 52 (Int32.toNatClampNeg (x9.2.1 51 2)) (p4)) 51 2) then none else some ((), wr (wr (wr (x9.2.1) 52 (Int32.toNatClampNeg (x9.2.1 51 2)) (p4)) 53 (Int32.toNatClampNeg ((wr (x9.2.1) 52 (Int32.toNatClampNeg (x9.2.1 51 2)) (p4)) 51 2)) (p5)) 51 2 ((((wr (wr (x9.2.1) 52 (Int32.toNatClampNeg (x9.2.1 51 2)) (p4)) 53 (Int32.toNatClampNeg ((wr (x9.2.1) 52 (Int32.toNatClampNeg (x9.2.1 51 2)) (p4)) 51 2)) (p5)) 51 2 : Int32) + (1))), x9.2.2) else some ((), x9.2.1, x9.2.2)
set_option maxRecDepth 10000 in
set_option maxHeartbeats 4000000 in
theorem b_Guesses_tryGuess (ev : EV) {N : Nat} {p4 : Int32} {p5 : Int32} {hi : HI} {hl : HL} {o : Unit × HI × HL} (h : f_Guesses_tryGuess N p4 p5 hi hl = some o) : EM w0 ev 5 m_Guesses_tryGuess [.ref 51, .ref 1, .ref 7, .ref 47, .int (p4), .int (p5)] hi hl (oV o) := by
  unfold f_Guesses_tryGuess at h
  refine EM.of rfl ?_
  show EX w0 ev 4 m_Guesses_tryGuess 0 [(0, .ref 51), (1, .ref 1), (2, .ref 7), (3, .ref 47), (4, .int (p4)), (5, .int (p5))] [] (hi) (hl) (oV o)
  refine EX.aload_n (x := 51) rfl (List.mem_of_getElem? (i := 0) rfl) ?_
  refine EX.aload_n (x := 1) rfl (List.mem_of_getElem? (i := 1) rfl) ?_
  refine EX.aload_n (x := 7) rfl (List.mem_of_getElem? (i := 2) rfl) ?_
  refine EX.iload (x := p4) rfl (List.mem_of_getElem? (i := 4) rfl) ?_
  refine EX.iload (x := p5) rfl (List.mem_of_getElem? (i := 5) rfl) ?_
  obtain ⟨z1, hz1, h⟩ := bnd_some h
  refine EX.callV (b := 51) (as := [.ref 1, .ref 7, .int (p4), .int (p5)]) (rest := []) (r := none) (hi1 := z1.2.1) (hl1 := z1.2.2) rfl rfl rfl rfl rfl rfl ((b_Guesses_suppose ev hz1).mono (by decide)) ?_
  show EX w0 ev 4 m_Guesses_tryGuess 10 [(0, .ref 51), (1, .ref 1), (2, .ref 7), (3, .ref 47), (4, .int (p4)), (5, .int (p5))] [] (z1.2.1) (z1.2.2) (oV o)
  refine EX.iconst (v := 0) rfl rfl ?_
  refine EX.istore (req1 := [(6, .int (0)), (0, .ref 51), (1, .ref 1), (2, .ref 7), (3, .ref 47), (4, .int (p4)), (5, .int (p5))]) rfl rfl rfl ?_
  obtain ⟨x9, hx9, h⟩ := bnd_some h
  refine EX.pick [1, 3, 4, 5, 6, 0] ?_ rfl
  refine lp_sound (f := fun s => B_Guesses_tryGuess_13 N (p4) (p5) s.1 s.2.1 s.2.2) (PS := fun s => EX w0 ev 4 m_Guesses_tryGuess 13 [(0, .ref 51), (2, .ref 7), (3, .ref 47), (4, .int (p4)), (5, .int (p5)), (6, .int (s.1))] [] (s.2.1) (s.2.2) (oV o)) (PX := fun x => (x.1 = 0 → EX w0 ev 4 m_Guesses_tryGuess 66 [(0, .ref 51), (4, .int (p4)), (5, .int (p5))] [] (x.2.1) (x.2.2) (oV o)) ∧ (x.1 = 1 → EX w0 ev 4 m_Guesses_tryGuess 59 [] [] (x.2.1) (x.2.2) (oV o))) ?_ N _ x9 hx9 ?_
  · exact fun s z hz hk => bB_Guesses_tryGuess_13 ev hz hk
  rcases ite_some h with ⟨c10, h⟩ | ⟨c10, h⟩
  · refine ⟨fun _ => ?_, fun e9 => absurd (c10.symm.trans e9) (by decide)⟩
    show EX w0 ev 4 m_Guesses_tryGuess 66 [(0, .ref 51), (4, .int (p4)), (5, .int (p5))] [] (x9.2.1) (x9.2.2) (oV o)
    refine EX.aload_n (x := 51) rfl (List.mem_of_getElem? (i := 0) rfl) ?_
    refine EX.go (i := .getfield 47) (len := 3) (pc1 := 70) (st1 := [.int (x9.2.1 51 2)]) (hi1 := x9.2.1) (hl1 := x9.2.2) rfl ?_ (fun _ _ _ => rfl)
    refine EX.sipush (v := 480) rfl rfl ?_
    rcases ite_some h with ⟨c11, h⟩ | ⟨c11, h⟩
    · refine EX.go (i := .if_icmp .ge 35) (len := 3) (pc1 := 108) (st1 := []) (hi1 := x9.2.1) (hl1 := x9.2.2) rfl ?_ (fun _ _ _ => if_pos c11)
      obtain rfl := Option.some.inj h
      exact EX.vret rfl rfl
    · refine EX.go (i := .if_icmp .ge 35) (len := 3) (pc1 := 76) (st1 := []) (hi1 := x9.2.1) (hl1 := x9.2.2) rfl ?_ (fun _ _ _ => if_neg c11)
      refine EX.aload_n (x := 51) rfl (List.mem_of_getElem? (i := 0) rfl) ?_
      refine EX.go (i := .getfield 11) (len := 3) (pc1 := 80) (st1 := [.ref 52]) (hi1 := x9.2.1) (hl1 := x9.2.2) rfl ?_ (fun _ _ _ => rfl)
      refine EX.aload_n (x := 51) rfl (List.mem_of_getElem? (i := 0) rfl) ?_
      refine EX.go (i := .getfield 47) (len := 3) (pc1 := 84) (st1 := [.int (x9.2.1 51 2), .ref 52]) (hi1 := x9.2.1) (hl1 := x9.2.2) rfl ?_ (fun _ _ _ => rfl)
      refine EX.iload (x := p4) rfl (List.mem_of_getElem? (i := 1) rfl) ?_
      obtain ⟨g12, h⟩ := grd_some h
      refine EX.iastore rfl rfl g12 ?_
      refine EX.aload_n (x := 51) rfl (List.mem_of_getElem? (i := 0) rfl) ?_
      refine EX.go (i := .getfield 15) (len := 3) (pc1 := 91) (st1 := [.ref 53]) (hi1 := wr (x9.2.1) 52 (Int32.toNatClampNeg (x9.2.1 51 2)) (p4)) (hl1 := x9.2.2) rfl ?_ (fun _ _ _ => rfl)
      refine EX.aload_n (x := 51) rfl (List.mem_of_getElem? (i := 0) rfl) ?_
      refine EX.go (i := .getfield 47) (len := 3) (pc1 := 95) (st1 := [.int ((wr (x9.2.1) 52 (Int32.toNatClampNeg (x9.2.1 51 2)) (p4)) 51 2), .ref 53]) (hi1 := wr (x9.2.1) 52 (Int32.toNatClampNeg (x9.2.1 51 2)) (p4)) (hl1 := x9.2.2) rfl ?_ (fun _ _ _ => rfl)
      refine EX.iload (x := p5) rfl (List.mem_of_getElem? (i := 2) rfl) ?_
      obtain ⟨g13, h⟩ := grd_some h
      refine EX.iastore rfl rfl g13 ?_
      refine EX.aload_n (x := 51) rfl (List.mem_of_getElem? (i := 0) rfl) ?_
      refine EX.go (i := .dup) (len := 1) (pc1 := 100) (st1 := [.ref 51, .ref 51]) (hi1 := wr (wr (x9.2.1) 52 (Int32.toNatClampNeg (x9.2.1 51 2)) (p4)) 53 (Int32.toNatClampNeg ((wr (x9.2.1) 52 (Int32.toNatClampNeg (x9.2.1 51 2)) (p4)) 51 2)) (p5)) (hl1 := x9.2.2) rfl ?_ (fun _ _ _ => rfl)
      refine EX.go (i := .getfield 47) (len := 3) (pc1 := 103) (st1 := [.int ((wr (wr (x9.2.1) 52 (Int32.toNatClampNeg (x9.2.1 51 2)) (p4)) 53 (Int32.toNatClampNeg ((wr (x9.2.1) 52 (Int32.toNatClampNeg (x9.2.1 51 2)) (p4)) 51 2)) (p5)) 51 2), .ref 51]) (hi1 := wr (wr (x9.2.1) 52 (Int32.toNatClampNeg (x9.2.1 51 2)) (p4)) 53 (Int32.toNatClampNeg ((wr (x9.2.1) 52 (Int32.toNatClampNeg (x9.2.1 51 2)) (p4)) 51 2)) (p5)) (hl1 := x9.2.2) rfl ?_ (fun _ _ _ => rfl)
      refine EX.iconst (v := 1) rfl rfl ?_
      refine EX.go (i := .iadd) (len := 1) (pc1 := 105) (st1 := [.int ((((wr (wr (x9.2.1) 52 (Int32.toNatClampNeg (x9.2.1 51 2)) (p4)) 53 (Int32.toNatClampNeg ((wr (x9.2.1) 52 (Int32.toNatClampNeg (x9.2.1 51 2)) (p4)) 51 2)) (p5)) 51 2 : Int32) + (1))), .ref 51]) (hi1 := wr (wr (x9.2.1) 52 (Int32.toNatClampNeg (x9.2.1 51 2)) (p4)) 53 (Int32.toNatClampNeg ((wr (x9.2.1) 52 (Int32.toNatClampNeg (x9.2.1 51 2)) (p4)) 51 2)) (p5)) (hl1 := x9.2.2) rfl ?_ (fun _ _ _ => rfl)
      refine EX.go (i := .putfield 47) (len := 3) (pc1 := 108) (st1 := []) (hi1 := wr (wr (wr (x9.2.1) 52 (Int32.toNatClampNeg (x9.2.1 51 2)) (p4)) 53 (Int32.toNatClampNeg ((wr (x9.2.1) 52 (Int32.toNatClampNeg (x9.2.1 51 2)) (p4)) 51 2)) (p5)) 51 2 ((((wr (wr (x9.2.1) 52 (Int32.toNatClampNeg (x9.2.1 51 2)) (p4)) 53 (Int32.toNatClampNeg ((wr (x9.2.1) 52 (Int32.toNatClampNeg (x9.2.1 51 2)) (p4)) 51 2)) (p5)) 51 2 : Int32) + (1)))) (hl1 := x9.2.2) rfl ?_ (fun _ _ _ => rfl)
      obtain rfl := Option.some.inj h
      exact EX.vret rfl rfl
  · refine ⟨fun e9 => absurd e9 c10, fun _ => ?_⟩
    show EX w0 ev 4 m_Guesses_tryGuess 59 [] [] (x9.2.1) (x9.2.2) (oV o)
    obtain rfl := Option.some.inj h
    exact EX.vret rfl rfl
def B_Guesses_listSingle_3 (N : Nat) (v4 : Int32) (hi : HI) (hl : HL) : Option ((Int32 × HI × HL) ⊕ (HI × HL)) :=
  if (((2 : Int32) * (hi 1 2)) : Int32) ≤ (v4 : Int32) then some (.inr (hi, hl)) else (f_Guesses_tryGuess N (v4) ((-4)) (hi) (hl)).bind fun z2 => some (.inl (v4 + 1, z2.2.1, z2.2.2))
set_option maxRecDepth 10000 in
set_option maxHeartbeats 4000000 in
theorem bB_Guesses_listSingle_3 (ev : EV) {N : Nat} {v4 : Int32} {hi : HI} {hl : HL} {z : (Int32 × HI × HL) ⊕ (HI × HL)} {OUT : Option Value × HI × HL} (h : B_Guesses_listSingle_3 N v4 hi hl = some z) (hk : Sum.elim (fun s => EX w0 ev 5 m_Guesses_listSingle 3 [(0, .ref 51), (1, .ref 1), (2, .ref 7), (3, .ref 47), (4, .int (s.1))] [] (s.2.1) (s.2.2) OUT) (fun x => EX w0 ev 5 m_Guesses_listSingle 31 [] [] (x.1) (x.2) OUT) z) : EX w0 ev 5 m_Guesses_listSingle 3 [(0, .ref 51), (1, .ref 1), (2, .ref 7), (3, .ref 47), (4, .int (v4))] [] (hi) (hl) OUT := by
  unfold B_Guesses_listSingle_3 at h
  refine EX.iload (x := v4) rfl (List.mem_of_getElem? (i := 4) rfl) ?_
  refine EX.iconst (v := 2) rfl rfl ?_
  refine EX.aload_n (x := 1) rfl (List.mem_of_getElem? (i := 1) rfl) ?_
  refine EX.go (i := .getfield 65) (len := 3) (pc1 := 10) (st1 := [.int (hi 1 2), .int (2), .int (v4)]) (hi1 := hi) (hl1 := hl) rfl ?_ (fun _ _ _ => rfl)
  refine EX.go (i := .imul) (len := 1) (pc1 := 11) (st1 := [.int (((2 : Int32) * (hi 1 2))), .int (v4)]) (hi1 := hi) (hl1 := hl) rfl ?_ (fun _ _ _ => rfl)
  rcases ite_some h with ⟨c1, h⟩ | ⟨c1, h⟩
  · refine EX.go (i := .if_icmp .ge 20) (len := 3) (pc1 := 31) (st1 := []) (hi1 := hi) (hl1 := hl) rfl ?_ (fun _ _ _ => if_pos c1)
    obtain rfl := Option.some.inj h
    have hk : EX w0 ev 5 m_Guesses_listSingle 31 [] [] (hi) (hl) OUT := hk
    exact EX.pick [] hk rfl
  · refine EX.go (i := .if_icmp .ge 20) (len := 3) (pc1 := 14) (st1 := []) (hi1 := hi) (hl1 := hl) rfl ?_ (fun _ _ _ => if_neg c1)
    refine EX.aload_n (x := 51) rfl (List.mem_of_getElem? (i := 0) rfl) ?_
    refine EX.aload_n (x := 1) rfl (List.mem_of_getElem? (i := 1) rfl) ?_
    refine EX.aload_n (x := 7) rfl (List.mem_of_getElem? (i := 2) rfl) ?_
    refine EX.aload_n (x := 47) rfl (List.mem_of_getElem? (i := 3) rfl) ?_
    refine EX.iload (x := v4) rfl (List.mem_of_getElem? (i := 4) rfl) ?_
    refine EX.bipush (v := (-4)) rfl rfl ?_
    obtain ⟨z2, hz2, h⟩ := bnd_some h
    refine EX.callV (b := 51) (as := [.ref 1, .ref 7, .ref 47, .int (v4), .int ((-4))]) (rest := []) (r := none) (hi1 := z2.2.1) (hl1 := z2.2.2) rfl rfl rfl rfl rfl rfl ((b_Guesses_tryGuess ev hz2).mono (by decide)) ?_
    show EX w0 ev 5 m_Guesses_listSingle 25 [(0, .ref 51), (1, .ref 1), (2, .ref 7), (3, .ref 47), (4, .int (v4))] [] (z2.2.1) (z2.2.2) OUT
    refine EX.iinc (x := v4) (v := v4 + 1) (req1 := [(4, .int (v4 + 1)), (0, .ref 51), (1, .ref 1), (2, .ref 7), (3, .ref 47)]) rfl rfl (List.mem_of_getElem? (i := 4) rfl) rfl rfl ?_
    refine EX.go (i := .goto (-25)) (len := 3) (pc1 := 3) (st1 := []) (hi1 := z2.2.1) (hl1 := z2.2.2) rfl ?_ (fun _ _ _ => rfl)
    obtain rfl := Option.some.inj h
    have hk : EX w0 ev 5 m_Guesses_listSingle 3 [(0, .ref 51), (1, .ref 1), (2, .ref 7), (3, .ref 47), (4, .int (v4 + 1))] [] (z2.2.1) (z2.2.2) OUT := hk
    exact EX.pick [1, 2, 3, 4, 0] hk rfl
def f_Guesses_listSingle (N : Nat) (hi : HI) (hl : HL) : Option (Unit × HI × HL) :=
  (lpN (fun s => B_Guesses_listSingle_3 N s.1 s.2.1 s.2.2) N (0, hi, hl)).bind fun x3 => some ((), x3.1, x3.2)
set_option maxRecDepth 10000 in
set_option maxHeartbeats 4000000 in
theorem b_Guesses_listSingle (ev : EV) {N : Nat} {hi : HI} {hl : HL} {o : Unit × HI × HL} (h : f_Guesses_listSingle N hi hl = some o) : EM w0 ev 6 m_Guesses_listSingle [.ref 51, .ref 1, .ref 7, .ref 47] hi hl (oV o) := by
  unfold f_Guesses_listSingle at h
  refine EM.of rfl ?_
  show EX w0 ev 5 m_Guesses_listSingle 0 [(0, .ref 51), (1, .ref 1), (2, .ref 7), (3, .ref 47)] [] (hi) (hl) (oV o)
  refine EX.iconst (v := 0) rfl rfl ?_
  refine EX.istore (req1 := [(4, .int (0)), (0, .ref 51), (1, .ref 1), (2, .ref 7), (3, .ref 47)]) rfl rfl rfl ?_
  obtain ⟨x3, hx3, h⟩ := bnd_some h
  refine EX.pick [1, 2, 3, 4, 0] ?_ rfl
  refine lp_sound (f := fun s => B_Guesses_listSingle_3 N s.1 s.2.1 s.2.2) (PS := fun s => EX w0 ev 5 m_Guesses_listSingle 3 [(0, .ref 51), (1, .ref 1), (2, .ref 7), (3, .ref 47), (4, .int (s.1))] [] (s.2.1) (s.2.2) (oV o)) (PX := fun x => EX w0 ev 5 m_Guesses_listSingle 31 [] [] (x.1) (x.2) (oV o)) ?_ N _ x3 hx3 ?_
  · exact fun s z hz hk => bB_Guesses_listSingle_3 ev hz hk
  show EX w0 ev 5 m_Guesses_listSingle 31 [] [] (x3.1) (x3.2) (oV o)
  obtain rfl := Option.some.inj h
  exact EX.vret rfl rfl
def J_Guesses_listDouble_53 (N : Nat) (v4 : Int32) (v5 : Int32) (hi : HI) (hl : HL) : Option ((Int32 × HI × HL) ⊕ (HI × HL)) :=
  some (.inl (v5 + 1, hi, hl))
set_option maxRecDepth 10000 in
set_option maxHeartbeats 4000000 in
theorem bJ_Guesses_listDouble_53 (ev : EV) {N : Nat} {v4 : Int32} {v5 : Int32} {hi : HI} {hl : HL} {z : (Int32 × HI × HL) ⊕ (HI × HL)} {OUT : Option Value × HI × HL} (h : J_Guesses_listDouble_53 N v4 v5 hi hl = some z) (hk : Sum.elim (fun s => EX w0 ev 5 m_Guesses_listDouble 20 [(0, .ref 51), (1, .ref 1), (2, .ref 7), (3, .ref 47), (4, .int (v4)), (5, .int (s.1))] [] (s.2.1) (s.2.2) OUT) (fun x => EX w0 ev 5 m_Guesses_listDouble 59 [(0, .ref 51), (1, .ref 1), (2, .ref 7), (3, .ref 47), (4, .int (v4))] [] (x.1) (x.2) OUT) z) : EX w0 ev 5 m_Guesses_listDouble 53 [(0, .ref 51), (1, .ref 1), (2, .ref 7), (3, .ref 47), (4, .int (v4)), (5, .int (v5))] [] (hi) (hl) OUT := by
  unfold J_Guesses_listDouble_53 at h
  refine EX.iinc (x := v5) (v := v5 + 1) (req1 := [(5, .int (v5 + 1)), (0, .ref 51), (1, .ref 1), (2, .ref 7), (3, .ref 47), (4, .int (v4))]) rfl rfl (List.mem_of_getElem? (i := 5) rfl) rfl rfl ?_
  refine EX.go (i := .goto (-36)) (len := 3) (pc1 := 20) (st1 := []) (hi1 := hi) (hl1 := hl) rfl ?_ (fun _ _ _ => rfl)
  obtain rfl := Option.some.inj h
  have hk : EX w0 ev 5 m_Guesses_listDouble 20 [(0, .ref 51), (1, .ref 1), (2, .ref 7), (3, .ref 47), (4, .int (v4)), (5, .int (v5 + 1))] [] (hi) (hl) OUT := hk
  exact EX.pick [1, 2, 3, 4, 5, 0] hk rfl
def B_Guesses_listDouble_20 (N : Nat) (v4 : Int32) (v5 : Int32) (hi : HI) (hl : HL) : Option ((Int32 × HI × HL) ⊕ (HI × HL)) :=
  if (((2 : Int32) * (hi 1 2)) : Int32) ≤ (v5 : Int32) then some (.inr (hi, hl)) else if (((v4 : Int32) / (2)) : Int32) = (((v5 : Int32) / (2)) : Int32) then J_Guesses_listDouble_53 N (v4) (v5) (hi) (hl) else (f_Guesses_tryGuess N (v4) (v5) (hi) (hl)).bind fun z4 => J_Guesses_listDouble_53 N (v4) (v5) (z4.2.1) (z4.2.2)
set_option maxRecDepth 10000 in
set_option maxHeartbeats 4000000 in
theorem bB_Guesses_listDouble_20 (ev : EV) {N : Nat} {v4 : Int32} {v5 : Int32} {hi : HI} {hl : HL} {z : (Int32 × HI × HL) ⊕ (HI × HL)} {OUT : Option Value × HI × HL} (h : B_Guesses_listDouble_20 N v4 v5 hi hl = some z) (hk : Sum.elim (fun s => EX w0 ev 5 m_Guesses_listDouble 20 [(0, .ref 51), (1, .ref 1), (2, .ref 7), (3, .ref 47), (4, .int (v4)), (5, .int (s.1))] [] (s.2.1) (s.2.2) OUT) (fun x => EX w0 ev 5 m_Guesses_listDouble 59 [(0, .ref 51), (1, .ref 1), (2, .ref 7), (3, .ref 47), (4, .int (v4))] [] (x.1) (x.2) OUT) z) : EX w0 ev 5 m_Guesses_listDouble 20 [(0, .ref 51), (1, .ref 1), (2, .ref 7), (3, .ref 47), (4, .int (v4)), (5, .int (v5))] [] (hi) (hl) OUT := by
  unfold B_Guesses_listDouble_20 at h
  refine EX.iload (x := v5) rfl (List.mem_of_getElem? (i := 5) rfl) ?_
  refine EX.iconst (v := 2) rfl rfl ?_
  refine EX.aload_n (x := 1) rfl (List.mem_of_getElem? (i := 1) rfl) ?_
  refine EX.go (i := .getfield 65) (len := 3) (pc1 := 27) (st1 := [.int (hi 1 2), .int (2), .int (v5)]) (hi1 := hi) (hl1 := hl) rfl ?_ (fun _ _ _ => rfl)
  refine EX.go (i := .imul) (len := 1) (pc1 := 28) (st1 := [.int (((2 : Int32) * (hi 1 2))), .int (v5)]) (hi1 := hi) (hl1 := hl) rfl ?_ (fun _ _ _ => rfl)
  rcases ite_some h with ⟨c2, h⟩ | ⟨c2, h⟩
  · refine EX.go (i := .if_icmp .ge 31) (len := 3) (pc1 := 59) (st1 := []) (hi1 := hi) (hl1 := hl) rfl ?_ (fun _ _ _ => if_pos c2)
    obtain rfl := Option.some.inj h
    have hk : EX w0 ev 5 m_Guesses_listDouble 59 [(0, .ref 51), (1, .ref 1), (2, .ref 7), (3, .ref 47), (4, .int (v4))] [] (hi) (hl) OUT := hk
    exact EX.pick [0, 1, 2, 3, 4] hk rfl
  · refine EX.go (i := .if_icmp .ge 31) (len := 3) (pc1 := 31) (st1 := []) (hi1 := hi) (hl1 := hl) rfl ?_ (fun _ _ _ => if_neg c2)
    refine EX.iload (x := v4) rfl (List.mem_of_getElem? (i := 4) rfl) ?_
    refine EX.iconst (v := 2) rfl rfl ?_
    refine EX.go (i := .idiv) (len := 1) (pc1 := 35) (st1 := [.int (((v4 : Int32) / (2)))]) (hi1 := hi) (hl1 := hl) rfl ?_ (fun _ _ _ => rfl)
    refine EX.iload (x := v5) rfl (List.mem_of_getElem? (i := 5) rfl) ?_
    refine EX.iconst (v := 2) rfl rfl ?_
    refine EX.go (i := .idiv) (len := 1) (pc1 := 39) (st1 := [.int (((v5 : Int32) / (2))), .int (((v4 : Int32) / (2)))]) (hi1 := hi) (hl1 := hl) rfl ?_ (fun _ _ _ => rfl)
    rcases ite_some h with ⟨c3, h⟩ | ⟨c3, h⟩
    · refine EX.go (i := .if_icmp .eq 14) (len := 3) (pc1 := 53) (st1 := []) (hi1 := hi) (hl1 := hl) rfl ?_ (fun _ _ _ => if_pos c3)
      refine EX.pick [0, 1, 2, 3, 4, 5] ?_ rfl
      exact bJ_Guesses_listDouble_53 ev h hk
    · refine EX.go (i := .if_icmp .eq 14) (len := 3) (pc1 := 42) (st1 := []) (hi1 := hi) (hl1 := hl) rfl ?_ (fun _ _ _ => if_neg c3)
      refine EX.aload_n (x := 51) rfl (List.mem_of_getElem? (i := 0) rfl) ?_
      refine EX.aload_n (x := 1) rfl (List.mem_of_getElem? (i := 1) rfl) ?_
      refine EX.aload_n (x := 7) rfl (List.mem_of_getElem? (i := 2) rfl) ?_
      refine EX.aload_n (x := 47) rfl (List.mem_of_getElem? (i := 3) rfl) ?_
      refine EX.iload (x := v4) rfl (List.mem_of_getElem? (i := 4) rfl) ?_
      refine EX.iload (x := v5) rfl (List.mem_of_getElem? (i := 5) rfl) ?_
      obtain ⟨z4, hz4, h⟩ := bnd_some h
      refine EX.callV (b := 51) (as := [.ref 1, .ref 7, .ref 47, .int (v4), .int (v5)]) (rest := []) (r := none) (hi1 := z4.2.1) (hl1 := z4.2.2) rfl rfl rfl rfl rfl rfl ((b_Guesses_tryGuess ev hz4).mono (by decide)) ?_
      show EX w0 ev 5 m_Guesses_listDouble 53 [(0, .ref 51), (1, .ref 1), (2, .ref 7), (3, .ref 47), (4, .int (v4)), (5, .int (v5))] [] (z4.2.1) (z4.2.2) OUT
      refine EX.pick [0, 1, 2, 3, 4, 5] ?_ rfl
      exact bJ_Guesses_listDouble_53 ev h hk
def B_Guesses_listDouble_3 (N : Nat) (v4 : Int32) (hi : HI) (hl : HL) : Option ((Int32 × HI × HL) ⊕ (HI × HL)) :=
  if (((2 : Int32) * (hi 1 2)) : Int32) ≤ (v4 : Int32) then some (.inr (hi, hl)) else (lpN (fun s => B_Guesses_listDouble_20 N (v4) s.1 s.2.1 s.2.2) N ((v4 + (1)), hi, hl)).bind fun x5 => some (.inl (v4 + 1, x5.1, x5.2))
set_option maxRecDepth 10000 in
set_option maxHeartbeats 4000000 in
theorem bB_Guesses_listDouble_3 (ev : EV) {N : Nat} {v4 : Int32} {hi : HI} {hl : HL} {z : (Int32 × HI × HL) ⊕ (HI × HL)} {OUT : Option Value × HI × HL} (h : B_Guesses_listDouble_3 N v4 hi hl = some z) (hk : Sum.elim (fun s => EX w0 ev 5 m_Guesses_listDouble 3 [(0, .ref 51), (1, .ref 1), (2, .ref 7), (3, .ref 47), (4, .int (s.1))] [] (s.2.1) (s.2.2) OUT) (fun x => EX w0 ev 5 m_Guesses_listDouble 65 [] [] (x.1) (x.2) OUT) z) : EX w0 ev 5 m_Guesses_listDouble 3 [(0, .ref 51), (1, .ref 1), (2, .ref 7), (3, .ref 47), (4, .int (v4))] [] (hi) (hl) OUT := by
  unfold B_Guesses_listDouble_3 at h
  refine EX.iload (x := v4) rfl (List.mem_of_getElem? (i := 4) rfl) ?_
  refine EX.iconst (v := 2) rfl rfl ?_
  refine EX.aload_n (x := 1) rfl (List.mem_of_getElem? (i := 1) rfl) ?_
  refine EX.go (i := .getfield 65) (len := 3) (pc1 := 10) (st1 := [.int (hi 1 2), .int (2), .int (v4)]) (hi1 := hi) (hl1 := hl) rfl ?_ (fun _ _ _ => rfl)
  refine EX.go (i := .imul) (len := 1) (pc1 := 11) (st1 := [.int (((2 : Int32) * (hi 1 2))), .int (v4)]) (hi1 := hi) (hl1 := hl) rfl ?_ (fun _ _ _ => rfl)
  rcases ite_some h with ⟨c1, h⟩ | ⟨c1, h⟩
  · refine EX.go (i := .if_icmp .ge 54) (len := 3) (pc1 := 65) (st1 := []) (hi1 := hi) (hl1 := hl) rfl ?_ (fun _ _ _ => if_pos c1)
    obtain rfl := Option.some.inj h
    have hk : EX w0 ev 5 m_Guesses_listDouble 65 [] [] (hi) (hl) OUT := hk
    exact EX.pick [] hk rfl
  · refine EX.go (i := .if_icmp .ge 54) (len := 3) (pc1 := 14) (st1 := []) (hi1 := hi) (hl1 := hl) rfl ?_ (fun _ _ _ => if_neg c1)
    refine EX.iload (x := v4) rfl (List.mem_of_getElem? (i := 4) rfl) ?_
    refine EX.iconst (v := 1) rfl rfl ?_
    refine EX.go (i := .iadd) (len := 1) (pc1 := 18) (st1 := [.int ((v4 + (1)))]) (hi1 := hi) (hl1 := hl) rfl ?_ (fun _ _ _ => rfl)
    refine EX.istore (req1 := [(5, .int ((v4 + (1)))), (0, .ref 51), (1, .ref 1), (2, .ref 7), (3, .ref 47), (4, .int (v4))]) rfl rfl rfl ?_
    obtain ⟨x5, hx5, h⟩ := bnd_some h
    refine EX.pick [1, 2, 3, 4, 5, 0] ?_ rfl
    refine lp_sound (f := fun s => B_Guesses_listDouble_20 N (v4) s.1 s.2.1 s.2.2) (PS := fun s => EX w0 ev 5 m_Guesses_listDouble 20 [(0, .ref 51), (1, .ref 1), (2, .ref 7), (3, .ref 47), (4, .int (v4)), (5, .int (s.1))] [] (s.2.1) (s.2.2) OUT) (PX := fun x => EX w0 ev 5 m_Guesses_listDouble 59 [(0, .ref 51), (1, .ref 1), (2, .ref 7), (3, .ref 47), (4, .int (v4))] [] (x.1) (x.2) OUT) ?_ N _ x5 hx5 ?_
    · exact fun s z hz hk => bB_Guesses_listDouble_20 ev hz hk
    show EX w0 ev 5 m_Guesses_listDouble 59 [(0, .ref 51), (1, .ref 1), (2, .ref 7), (3, .ref 47), (4, .int (v4))] [] (x5.1) (x5.2) OUT
    refine EX.iinc (x := v4) (v := v4 + 1) (req1 := [(4, .int (v4 + 1)), (0, .ref 51), (1, .ref 1), (2, .ref 7), (3, .ref 47)]) rfl rfl (List.mem_of_getElem? (i := 4) rfl) rfl rfl ?_
    refine EX.go (i := .goto (-59)) (len := 3) (pc1 := 3) (st1 := []) (hi1 := x5.1) (hl1 := x5.2) rfl ?_ (fun _ _ _ => rfl)
    obtain rfl := Option.some.inj h
    have hk : EX w0 ev 5 m_Guesses_listDouble 3 [(0, .ref 51), (1, .ref 1), (2, .ref 7), (3, .ref 47), (4, .int (v4 + 1))] [] (x5.1) (x5.2) OUT := hk
    exact EX.pick [1, 2, 3, 4, 0] hk rfl
def f_Guesses_listDouble (N : Nat) (hi : HI) (hl : HL) : Option (Unit × HI × HL) :=
  (lpN (fun s => B_Guesses_listDouble_3 N s.1 s.2.1 s.2.2) N (0, hi, hl)).bind fun x6 => some ((), x6.1, x6.2)
set_option maxRecDepth 10000 in
set_option maxHeartbeats 4000000 in
theorem b_Guesses_listDouble (ev : EV) {N : Nat} {hi : HI} {hl : HL} {o : Unit × HI × HL} (h : f_Guesses_listDouble N hi hl = some o) : EM w0 ev 6 m_Guesses_listDouble [.ref 51, .ref 1, .ref 7, .ref 47] hi hl (oV o) := by
  unfold f_Guesses_listDouble at h
  refine EM.of rfl ?_
  show EX w0 ev 5 m_Guesses_listDouble 0 [(0, .ref 51), (1, .ref 1), (2, .ref 7), (3, .ref 47)] [] (hi) (hl) (oV o)
  refine EX.iconst (v := 0) rfl rfl ?_
  refine EX.istore (req1 := [(4, .int (0)), (0, .ref 51), (1, .ref 1), (2, .ref 7), (3, .ref 47)]) rfl rfl rfl ?_
  obtain ⟨x6, hx6, h⟩ := bnd_some h
  refine EX.pick [1, 2, 3, 4, 0] ?_ rfl
  refine lp_sound (f := fun s => B_Guesses_listDouble_3 N s.1 s.2.1 s.2.2) (PS := fun s => EX w0 ev 5 m_Guesses_listDouble 3 [(0, .ref 51), (1, .ref 1), (2, .ref 7), (3, .ref 47), (4, .int (s.1))] [] (s.2.1) (s.2.2) (oV o)) (PX := fun x => EX w0 ev 5 m_Guesses_listDouble 65 [] [] (x.1) (x.2) (oV o)) ?_ N _ x6 hx6 ?_
  · exact fun s z hz hk => bB_Guesses_listDouble_3 ev hz hk
  show EX w0 ev 5 m_Guesses_listDouble 65 [] [] (x6.1) (x6.2) (oV o)
  obtain rfl := Option.some.inj h
  exact EX.vret rfl rfl
def J_Guesses_list_72 (N : Nat) (hi : HI) (hl : HL) : Option (Unit × HI × HL) :=
  if (hi 51 2 : Int32) = 0 then some ((), wr (hi) 51 1 ((-4)), hl) else some ((), hi, hl)
set_option maxRecDepth 10000 in
set_option maxHeartbeats 4000000 in
theorem bJ_Guesses_list_72 (ev : EV) {N : Nat} {hi : HI} {hl : HL} {o : Unit × HI × HL} (h : J_Guesses_list_72 N hi hl = some o) : EX w0 ev 6 m_Guesses_list 72 [(0, .ref 51)] [] (hi) (hl) (oV o) := by
  unfold J_Guesses_list_72 at h
  refine EX.aload_n (x := 51) rfl (List.mem_of_getElem? (i := 0) rfl) ?_
  refine EX.go (i := .getfield 47) (len := 3) (pc1 := 76) (st1 := [.int (hi 51 2)]) (hi1 := hi) (hl1 := hl) rfl ?_ (fun _ _ _ => rfl)
  rcases ite_some h with ⟨c7, h⟩ | ⟨c7, h⟩
  · refine EX.go (i := .ifCond .ne 9) (len := 3) (pc1 := 79) (st1 := []) (hi1 := hi) (hl1 := hl) rfl ?_ (fun _ _ _ => if_pos c7)
    refine EX.aload_n (x := 51) rfl (List.mem_of_getElem? (i := 0) rfl) ?_
    refine EX.bipush (v := (-4)) rfl rfl ?_
    refine EX.go (i := .putfield 51) (len := 3) (pc1 := 85) (st1 := []) (hi1 := wr (hi) 51 1 ((-4))) (hl1 := hl) rfl ?_ (fun _ _ _ => rfl)
    obtain rfl := Option.some.inj h
    exact EX.vret rfl rfl
  · refine EX.go (i := .ifCond .ne 9) (len := 3) (pc1 := 85) (st1 := []) (hi1 := hi) (hl1 := hl) rfl ?_ (fun _ _ _ => if_neg c7)
    obtain rfl := Option.some.inj h
    exact EX.vret rfl rfl
def J_Guesses_list_53 (N : Nat) (hi : HI) (hl : HL) : Option (Unit × HI × HL) :=
  if (hi 51 2 : Int32) = 0 then (f_Guesses_listDouble N (wr (hi) 51 1 (2)) (hl)).bind fun z6 => J_Guesses_list_72 N (z6.2.1) (z6.2.2) else J_Guesses_list_72 N (hi) (hl)
set_option maxRecDepth 10000 in
set_option maxHeartbeats 4000000 in
theorem bJ_Guesses_list_53 (ev : EV) {N : Nat} {hi : HI} {hl : HL} {o : Unit × HI × HL} (h : J_Guesses_list_53 N hi hl = some o) : EX w0 ev 6 m_Guesses_list 53 [(0, .ref 51), (1, .ref 1), (2, .ref 7), (3, .ref 47)] [] (hi) (hl) (oV o) := by
  unfold J_Guesses_list_53 at h
  refine EX.aload_n (x := 51) rfl (List.mem_of_getElem? (i := 0) rfl) ?_
  refine EX.go (i := .getfield 47) (len := 3) (pc1 := 57) (st1 := [.int (hi 51 2)]) (hi1 := hi) (hl1 := hl) rfl ?_ (fun _ _ _ => rfl)
  rcases ite_some h with ⟨c5, h⟩ | ⟨c5, h⟩
  · refine EX.go (i := .ifCond .ne 15) (len := 3) (pc1 := 60) (st1 := []) (hi1 := hi) (hl1 := hl) rfl ?_ (fun _ _ _ => if_pos c5)
    refine EX.aload_n (x := 51) rfl (List.mem_of_getElem? (i := 0) rfl) ?_
    refine EX.iconst (v := 2) rfl rfl ?_
    refine EX.go (i := .putfield 51) (len := 3) (pc1 := 65) (st1 := []) (hi1 := wr (hi) 51 1 (2)) (hl1 := hl) rfl ?_ (fun _ _ _ => rfl)
    refine EX.aload_n (x := 51) rfl (List.mem_of_getElem? (i := 0) rfl) ?_
    refine EX.aload_n (x := 1) rfl (List.mem_of_getElem? (i := 1) rfl) ?_
    refine EX.aload_n (x := 7) rfl (List.mem_of_getElem? (i := 2) rfl) ?_
    refine EX.aload_n (x := 47) rfl (List.mem_of_getElem? (i := 3) rfl) ?_
    obtain ⟨z6, hz6, h⟩ := bnd_some h
    refine EX.callV (b := 51) (as := [.ref 1, .ref 7, .ref 47]) (rest := []) (r := none) (hi1 := z6.2.1) (hl1 := z6.2.2) rfl rfl rfl rfl rfl rfl ((b_Guesses_listDouble ev hz6).mono (by decide)) ?_
    show EX w0 ev 6 m_Guesses_list 72 [(0, .ref 51), (1, .ref 1), (2, .ref 7), (3, .ref 47)] [] (z6.2.1) (z6.2.2) (oV o)
    refine EX.pick [0] ?_ rfl
    exact bJ_Guesses_list_72 ev h
  · refine EX.go (i := .ifCond .ne 15) (len := 3) (pc1 := 72) (st1 := []) (hi1 := hi) (hl1 := hl) rfl ?_ (fun _ _ _ => if_neg c5)
    refine EX.pick [0] ?_ rfl
    exact bJ_Guesses_list_72 ev h
def f_Guesses_list (N : Nat) (hi : HI) (hl : HL) : Option (Unit × HI × HL) :=
  if (hi 51 0 : Int32) = 0 then (f_Guesses_tryGuess N ((-4)) ((-4)) (wr (wr (wr (hi) 51 0 (1)) 51 2 (0)) 51 1 (0)) (hl)).bind fun z2 => if (z2.2.1 51 2 : Int32) = 0 then (f_Guesses_listSingle N (wr (z2.2.1) 51 1 (1)) (z2.2.2)).bind fun z4 => J_Guesses_list_53 N (z4.2.1) (z4.2.2) else J_Guesses_list_53 N (z2.2.1) (z2.2.2) else some ((), hi, hl)
set_option maxRecDepth 10000 in
set_option maxHeartbeats 4000000 in
theorem b_Guesses_list (ev : EV) {N : Nat} {hi : HI} {hl : HL} {o : Unit × HI × HL} (h : f_Guesses_list N hi hl = some o) : EM w0 ev 7 m_Guesses_list [.ref 51, .ref 1, .ref 7, .ref 47] hi hl (oV o) := by
  unfold f_Guesses_list at h
  refine EM.of rfl ?_
  show EX w0 ev 6 m_Guesses_list 0 [(0, .ref 51), (1, .ref 1), (2, .ref 7), (3, .ref 47)] [] (hi) (hl) (oV o)
  refine EX.aload_n (x := 51) rfl (List.mem_of_getElem? (i := 0) rfl) ?_
  refine EX.go (i := .getfield 24) (len := 3) (pc1 := 4) (st1 := [.int (hi 51 0)]) (hi1 := hi) (hl1 := hl) rfl ?_ (fun _ _ _ => rfl)
  rcases ite_some h with ⟨c1, h⟩ | ⟨c1, h⟩
  · refine EX.go (i := .ifCond .eq 4) (len := 3) (pc1 := 8) (st1 := []) (hi1 := hi) (hl1 := hl) rfl ?_ (fun _ _ _ => if_pos c1)
    refine EX.aload_n (x := 51) rfl (List.mem_of_getElem? (i := 0) rfl) ?_
    refine EX.iconst (v := 1) rfl rfl ?_
    refine EX.go (i := .putfield 24) (len := 3) (pc1 := 13) (st1 := []) (hi1 := wr (hi) 51 0 (1)) (hl1 := hl) rfl ?_ (fun _ _ _ => rfl)
    refine EX.aload_n (x := 51) rfl (List.mem_of_getElem? (i := 0) rfl) ?_
    refine EX.iconst (v := 0) rfl rfl ?_
    refine EX.go (i := .putfield 47) (len := 3) (pc1 := 18) (st1 := []) (hi1 := wr (wr (hi) 51 0 (1)) 51 2 (0)) (hl1 := hl) rfl ?_ (fun _ _ _ => rfl)
    refine EX.aload_n (x := 51) rfl (List.mem_of_getElem? (i := 0) rfl) ?_
    refine EX.iconst (v := 0) rfl rfl ?_
    refine EX.go (i := .putfield 51) (len := 3) (pc1 := 23) (st1 := []) (hi1 := wr (wr (wr (hi) 51 0 (1)) 51 2 (0)) 51 1 (0)) (hl1 := hl) rfl ?_ (fun _ _ _ => rfl)
    refine EX.aload_n (x := 51) rfl (List.mem_of_getElem? (i := 0) rfl) ?_
    refine EX.aload_n (x := 1) rfl (List.mem_of_getElem? (i := 1) rfl) ?_
    refine EX.aload_n (x := 7) rfl (List.mem_of_getElem? (i := 2) rfl) ?_
    refine EX.aload_n (x := 47) rfl (List.mem_of_getElem? (i := 3) rfl) ?_
    refine EX.bipush (v := (-4)) rfl rfl ?_
    refine EX.bipush (v := (-4)) rfl rfl ?_
    obtain ⟨z2, hz2, h⟩ := bnd_some h
    refine EX.callV (b := 51) (as := [.ref 1, .ref 7, .ref 47, .int ((-4)), .int ((-4))]) (rest := []) (r := none) (hi1 := z2.2.1) (hl1 := z2.2.2) rfl rfl rfl rfl rfl rfl ((b_Guesses_tryGuess ev hz2).mono (by decide)) ?_
    show EX w0 ev 6 m_Guesses_list 34 [(0, .ref 51), (1, .ref 1), (2, .ref 7), (3, .ref 47)] [] (z2.2.1) (z2.2.2) (oV o)
    refine EX.aload_n (x := 51) rfl (List.mem_of_getElem? (i := 0) rfl) ?_
    refine EX.go (i := .getfield 47) (len := 3) (pc1 := 38) (st1 := [.int (z2.2.1 51 2)]) (hi1 := z2.2.1) (hl1 := z2.2.2) rfl ?_ (fun _ _ _ => rfl)
    rcases ite_some h with ⟨c3, h⟩ | ⟨c3, h⟩
    · refine EX.go (i := .ifCond .ne 15) (len := 3) (pc1 := 41) (st1 := []) (hi1 := z2.2.1) (hl1 := z2.2.2) rfl ?_ (fun _ _ _ => if_pos c3)
      refine EX.aload_n (x := 51) rfl (List.mem_of_getElem? (i := 0) rfl) ?_
      refine EX.iconst (v := 1) rfl rfl ?_
      refine EX.go (i := .putfield 51) (len := 3) (pc1 := 46) (st1 := []) (hi1 := wr (z2.2.1) 51 1 (1)) (hl1 := z2.2.2) rfl ?_ (fun _ _ _ => rfl)
      refine EX.aload_n (x := 51) rfl (List.mem_of_getElem? (i := 0) rfl) ?_
      refine EX.aload_n (x := 1) rfl (List.mem_of_getElem? (i := 1) rfl) ?_
      refine EX.aload_n (x := 7) rfl (List.mem_of_getElem? (i := 2) rfl) ?_
      refine EX.aload_n (x := 47) rfl (List.mem_of_getElem? (i := 3) rfl) ?_
      obtain ⟨z4, hz4, h⟩ := bnd_some h
      refine EX.callV (b := 51) (as := [.ref 1, .ref 7, .ref 47]) (rest := []) (r := none) (hi1 := z4.2.1) (hl1 := z4.2.2) rfl rfl rfl rfl rfl rfl ((b_Guesses_listSingle ev hz4).mono (by decide)) ?_
      show EX w0 ev 6 m_Guesses_list 53 [(0, .ref 51), (1, .ref 1), (2, .ref 7), (3, .ref 47)] [] (z4.2.1) (z4.2.2) (oV o)
      refine EX.pick [0, 1, 2, 3] ?_ rfl
      exact bJ_Guesses_list_53 ev h
    · refine EX.go (i := .ifCond .ne 15) (len := 3) (pc1 := 53) (st1 := []) (hi1 := z2.2.1) (hl1 := z2.2.2) rfl ?_ (fun _ _ _ => if_neg c3)
      refine EX.pick [0, 1, 2, 3] ?_ rfl
      exact bJ_Guesses_list_53 ev h
  · refine EX.go (i := .ifCond .eq 4) (len := 3) (pc1 := 7) (st1 := []) (hi1 := hi) (hl1 := hl) rfl ?_ (fun _ _ _ => if_neg c1)
    obtain rfl := Option.some.inj h
    exact EX.vret rfl rfl
def B_Guesses_changesLine_2 (N : Nat) (v3 : Int32) (hi : HI) (hl : HL) : Option ((Int32 × HI × HL) ⊕ (Nat × HI × HL)) :=
  if (hi 47 0 : Int32) ≤ (v3 : Int32) then some (.inr (0, hi, hl)) else if (v3 : Int32) < 0 ∨ 12 ≤ Int32.toNatClampNeg (v3) then none else (f_Ways_solve N (hi 48 (Int32.toNatClampNeg (v3))) (hi) (hl)).bind fun z3 => if (v3 : Int32) < 0 ∨ 12 ≤ Int32.toNatClampNeg (v3) then none else if (z3.2.1 7 1 : Int32) = (z3.2.1 55 (Int32.toNatClampNeg (v3)) : Int32) then some (.inl (v3 + 1, z3.2.1, z3.2.2)) else some (.inr (1, z3.2.1, z3.2.2))
set_option maxRecDepth 10000 in
set_option maxHeartbeats 4000000 in
theorem bB_Guesses_changesLine_2 (ev : EV) {N : Nat} {v3 : Int32} {hi : HI} {hl : HL} {z : (Int32 × HI × HL) ⊕ (Nat × HI × HL)} {OUT : Option Value × HI × HL} (h : B_Guesses_changesLine_2 N v3 hi hl = some z) (hk : Sum.elim (fun s => EX w0 ev 4 m_Guesses_changesLine 2 [(0, .ref 51), (1, .ref 7), (2, .ref 47), (3, .int (s.1))] [] (s.2.1) (s.2.2) OUT) (fun x => (x.1 = 0 → EX w0 ev 4 m_Guesses_changesLine 41 [] [] (x.2.1) (x.2.2) OUT) ∧ (x.1 = 1 → EX w0 ev 4 m_Guesses_changesLine 33 [] [] (x.2.1) (x.2.2) OUT)) z) : EX w0 ev 4 m_Guesses_changesLine 2 [(0, .ref 51), (1, .ref 7), (2, .ref 47), (3, .int (v3))] [] (hi) (hl) OUT := by
  unfold B_Guesses_changesLine_2 at h
  refine EX.iload_n (x := v3) rfl (List.mem_of_getElem? (i := 3) rfl) ?_
  refine EX.aload_n (x := 47) rfl (List.mem_of_getElem? (i := 2) rfl) ?_
  refine EX.go (i := .getfield 74) (len := 3) (pc1 := 7) (st1 := [.int (hi 47 0), .int (v3)]) (hi1 := hi) (hl1 := hl) rfl ?_ (fun _ _ _ => rfl)
  rcases ite_some h with ⟨c1, h⟩ | ⟨c1, h⟩
  · refine EX.go (i := .if_icmp .ge 34) (len := 3) (pc1 := 41) (st1 := []) (hi1 := hi) (hl1 := hl) rfl ?_ (fun _ _ _ => if_pos c1)
    obtain rfl := Option.some.inj h
    have hk := hk.1 rfl
    have hk : EX w0 ev 4 m_Guesses_changesLine 41 [] [] (hi) (hl) OUT := hk
    exact EX.pick [] hk rfl
  · refine EX.go (i := .if_icmp .ge 34) (len := 3) (pc1 := 10) (st1 := []) (hi1 := hi) (hl1 := hl) rfl ?_ (fun _ _ _ => if_neg c1)
    refine EX.aload_n (x := 7) rfl (List.mem_of_getElem? (i := 1) rfl) ?_
    refine EX.aload_n (x := 47) rfl (List.mem_of_getElem? (i := 2) rfl) ?_
    refine EX.go (i := .getfield 82) (len := 3) (pc1 := 15) (st1 := [.ref 48, .ref 7]) (hi1 := hi) (hl1 := hl) rfl ?_ (fun _ _ _ => rfl)
    refine EX.iload_n (x := v3) rfl (List.mem_of_getElem? (i := 3) rfl) ?_
    obtain ⟨g2, h⟩ := grd_some h
    refine EX.iaload rfl rfl g2 ?_
    obtain ⟨z3, hz3, h⟩ := bnd_some h
    refine EX.callV (b := 7) (as := [.int (hi 48 (Int32.toNatClampNeg (v3)))]) (rest := []) (r := none) (hi1 := z3.2.1) (hl1 := z3.2.2) rfl rfl rfl rfl rfl rfl ((b_Ways_solve ev hz3).mono (by decide)) ?_
    show EX w0 ev 4 m_Guesses_changesLine 20 [(0, .ref 51), (1, .ref 7), (2, .ref 47), (3, .int (v3))] [] (z3.2.1) (z3.2.2) OUT
    refine EX.aload_n (x := 7) rfl (List.mem_of_getElem? (i := 1) rfl) ?_
    refine EX.go (i := .getfield 88) (len := 3) (pc1 := 24) (st1 := [.int (z3.2.1 7 1)]) (hi1 := z3.2.1) (hl1 := z3.2.2) rfl ?_ (fun _ _ _ => rfl)
    refine EX.aload_n (x := 51) rfl (List.mem_of_getElem? (i := 0) rfl) ?_
    refine EX.go (i := .getfield 21) (len := 3) (pc1 := 28) (st1 := [.ref 55, .int (z3.2.1 7 1)]) (hi1 := z3.2.1) (hl1 := z3.2.2) rfl ?_ (fun _ _ _ => rfl)
    refine EX.iload_n (x := v3) rfl (List.mem_of_getElem? (i := 3) rfl) ?_
    obtain ⟨g4, h⟩ := grd_some h
    refine EX.iaload rfl rfl g4 ?_
    rcases ite_some h with ⟨c5, h⟩ | ⟨c5, h⟩
    · refine EX.go (i := .if_icmp .eq 5) (len := 3) (pc1 := 35) (st1 := []) (hi1 := z3.2.1) (hl1 := z3.2.2) rfl ?_ (fun _ _ _ => if_pos c5)
      refine EX.iinc (x := v3) (v := v3 + 1) (req1 := [(3, .int (v3 + 1)), (0, .ref 51), (1, .ref 7), (2, .ref 47)]) rfl rfl (List.mem_of_getElem? (i := 3) rfl) rfl rfl ?_
      refine EX.go (i := .goto (-36)) (len := 3) (pc1 := 2) (st1 := []) (hi1 := z3.2.1) (hl1 := z3.2.2) rfl ?_ (fun _ _ _ => rfl)
      obtain rfl := Option.some.inj h
      have hk : EX w0 ev 4 m_Guesses_changesLine 2 [(0, .ref 51), (1, .ref 7), (2, .ref 47), (3, .int (v3 + 1))] [] (z3.2.1) (z3.2.2) OUT := hk
      exact EX.pick [1, 2, 3, 0] hk rfl
    · refine EX.go (i := .if_icmp .eq 5) (len := 3) (pc1 := 33) (st1 := []) (hi1 := z3.2.1) (hl1 := z3.2.2) rfl ?_ (fun _ _ _ => if_neg c5)
      obtain rfl := Option.some.inj h
      have hk := hk.2 rfl
      have hk : EX w0 ev 4 m_Guesses_changesLine 33 [] [] (z3.2.1) (z3.2.2) OUT := hk
      exact EX.pick [] hk rfl
def f_Guesses_changesLine (N : Nat) (hi : HI) (hl : HL) : Option (Int32 × HI × HL) :=
  (lpN (fun s => B_Guesses_changesLine_2 N s.1 s.2.1 s.2.2) N (0, hi, hl)).bind fun x6 => if x6.1 = 0 then some (0, x6.2.1, x6.2.2) else some (1, x6.2.1, x6.2.2)
set_option maxRecDepth 10000 in
set_option maxHeartbeats 4000000 in
theorem b_Guesses_changesLine (ev : EV) {N : Nat} {hi : HI} {hl : HL} {o : Int32 × HI × HL} (h : f_Guesses_changesLine N hi hl = some o) : EM w0 ev 5 m_Guesses_changesLine [.ref 51, .ref 7, .ref 47] hi hl (oI o) := by
  unfold f_Guesses_changesLine at h
  refine EM.of rfl ?_
  show EX w0 ev 4 m_Guesses_changesLine 0 [(0, .ref 51), (1, .ref 7), (2, .ref 47)] [] (hi) (hl) (oI o)
  refine EX.iconst (v := 0) rfl rfl ?_
  refine EX.istore_n (req1 := [(3, .int (0)), (0, .ref 51), (1, .ref 7), (2, .ref 47)]) rfl rfl rfl ?_
  obtain ⟨x6, hx6, h⟩ := bnd_some h
  refine EX.pick [1, 2, 3, 0] ?_ rfl
  refine lp_sound (f := fun s => B_Guesses_changesLine_2 N s.1 s.2.1 s.2.2) (PS := fun s => EX w0 ev 4 m_Guesses_changesLine 2 [(0, .ref 51), (1, .ref 7), (2, .ref 47), (3, .int (s.1))] [] (s.2.1) (s.2.2) (oI o)) (PX := fun x => (x.1 = 0 → EX w0 ev 4 m_Guesses_changesLine 41 [] [] (x.2.1) (x.2.2) (oI o)) ∧ (x.1 = 1 → EX w0 ev 4 m_Guesses_changesLine 33 [] [] (x.2.1) (x.2.2) (oI o))) ?_ N _ x6 hx6 ?_
  · exact fun s z hz hk => bB_Guesses_changesLine_2 ev hz hk
  rcases ite_some h with ⟨c7, h⟩ | ⟨c7, h⟩
  · refine ⟨fun _ => ?_, fun e9 => absurd (c7.symm.trans e9) (by decide)⟩
    show EX w0 ev 4 m_Guesses_changesLine 41 [] [] (x6.2.1) (x6.2.2) (oI o)
    refine EX.iconst (v := 0) rfl rfl ?_
    obtain rfl := Option.some.inj h
    exact EX.zret rfl rfl (Or.inl rfl)
  · refine ⟨fun e9 => absurd e9 c7, fun _ => ?_⟩
    show EX w0 ev 4 m_Guesses_changesLine 33 [] [] (x6.2.1) (x6.2.2) (oI o)
    refine EX.iconst (v := 1) rfl rfl ?_
    obtain rfl := Option.some.inj h
    exact EX.zret rfl rfl (Or.inr rfl)
def B_Guesses_weigh_37 (N : Nat) (v4 : Int32) (hi : HI) (hl : HL) : Option ((Int32 × HI × HL) ⊕ (HI × HL)) :=
  if (hi 47 0 : Int32) ≤ (v4 : Int32) then some (.inr (hi, hl)) else if (v4 : Int32) < 0 ∨ 12 ≤ Int32.toNatClampNeg (v4) then none else (f_Ways_solve N (hi 48 (Int32.toNatClampNeg (v4))) (hi) (hl)).bind fun z5 => if (v4 : Int32) < 0 ∨ 12 ≤ Int32.toNatClampNeg (v4) then none else some (.inl (v4 + 1, wr (z5.2.1) 55 (Int32.toNatClampNeg (v4)) (z5.2.1 7 1), z5.2.2))
set_option maxRecDepth 10000 in
set_option maxHeartbeats 4000000 in
theorem bB_Guesses_weigh_37 (ev : EV) {N : Nat} {v4 : Int32} {hi : HI} {hl : HL} {z : (Int32 × HI × HL) ⊕ (HI × HL)} {OUT : Option Value × HI × HL} (h : B_Guesses_weigh_37 N v4 hi hl = some z) (hk : Sum.elim (fun s => EX w0 ev 5 m_Guesses_weigh 37 [(0, .ref 51), (1, .ref 1), (2, .ref 7), (3, .ref 47), (4, .int (s.1))] [] (s.2.1) (s.2.2) OUT) (fun x => EX w0 ev 5 m_Guesses_weigh 74 [(0, .ref 51), (1, .ref 1), (2, .ref 7), (3, .ref 47)] [] (x.1) (x.2) OUT) z) : EX w0 ev 5 m_Guesses_weigh 37 [(0, .ref 51), (1, .ref 1), (2, .ref 7), (3, .ref 47), (4, .int (v4))] [] (hi) (hl) OUT := by
  unfold B_Guesses_weigh_37 at h
  refine EX.iload (x := v4) rfl (List.mem_of_getElem? (i := 4) rfl) ?_
  refine EX.aload_n (x := 47) rfl (List.mem_of_getElem? (i := 3) rfl) ?_
  refine EX.go (i := .getfield 74) (len := 3) (pc1 := 43) (st1 := [.int (hi 47 0), .int (v4)]) (hi1 := hi) (hl1 := hl) rfl ?_ (fun _ _ _ => rfl)
  rcases ite_some h with ⟨c3, h⟩ | ⟨c3, h⟩
  · refine EX.go (i := .if_icmp .ge 31) (len := 3) (pc1 := 74) (st1 := []) (hi1 := hi) (hl1 := hl) rfl ?_ (fun _ _ _ => if_pos c3)
    obtain rfl := Option.some.inj h
    have hk : EX w0 ev 5 m_Guesses_weigh 74 [(0, .ref 51), (1, .ref 1), (2, .ref 7), (3, .ref 47)] [] (hi) (hl) OUT := hk
    exact EX.pick [0, 1, 2, 3] hk rfl
  · refine EX.go (i := .if_icmp .ge 31) (len := 3) (pc1 := 46) (st1 := []) (hi1 := hi) (hl1 := hl) rfl ?_ (fun _ _ _ => if_neg c3)
    refine EX.aload_n (x := 7) rfl (List.mem_of_getElem? (i := 2) rfl) ?_
    refine EX.aload_n (x := 47) rfl (List.mem_of_getElem? (i := 3) rfl) ?_
    refine EX.go (i := .getfield 82) (len := 3) (pc1 := 51) (st1 := [.ref 48, .ref 7]) (hi1 := hi) (hl1 := hl) rfl ?_ (fun _ _ _ => rfl)
    refine EX.iload (x := v4) rfl (List.mem_of_getElem? (i := 4) rfl) ?_
    obtain ⟨g4, h⟩ := grd_some h
    refine EX.iaload rfl rfl g4 ?_
    obtain ⟨z5, hz5, h⟩ := bnd_some h
    refine EX.callV (b := 7) (as := [.int (hi 48 (Int32.toNatClampNeg (v4)))]) (rest := []) (r := none) (hi1 := z5.2.1) (hl1 := z5.2.2) rfl rfl rfl rfl rfl rfl ((b_Ways_solve ev hz5).mono (by decide)) ?_
    show EX w0 ev 5 m_Guesses_weigh 57 [(0, .ref 51), (1, .ref 1), (2, .ref 7), (3, .ref 47), (4, .int (v4))] [] (z5.2.1) (z5.2.2) OUT
    refine EX.aload_n (x := 51) rfl (List.mem_of_getElem? (i := 0) rfl) ?_
    refine EX.go (i := .getfield 21) (len := 3) (pc1 := 61) (st1 := [.ref 55]) (hi1 := z5.2.1) (hl1 := z5.2.2) rfl ?_ (fun _ _ _ => rfl)
    refine EX.iload (x := v4) rfl (List.mem_of_getElem? (i := 4) rfl) ?_
    refine EX.aload_n (x := 7) rfl (List.mem_of_getElem? (i := 2) rfl) ?_
    refine EX.go (i := .getfield 88) (len := 3) (pc1 := 67) (st1 := [.int (z5.2.1 7 1), .int (v4), .ref 55]) (hi1 := z5.2.1) (hl1 := z5.2.2) rfl ?_ (fun _ _ _ => rfl)
    obtain ⟨g6, h⟩ := grd_some h
    refine EX.iastore rfl rfl g6 ?_
    refine EX.iinc (x := v4) (v := v4 + 1) (req1 := [(4, .int (v4 + 1)), (0, .ref 51), (1, .ref 1), (2, .ref 7), (3, .ref 47)]) rfl rfl (List.mem_of_getElem? (i := 4) rfl) rfl rfl ?_
    refine EX.go (i := .goto (-34)) (len := 3) (pc1 := 37) (st1 := []) (hi1 := wr (z5.2.1) 55 (Int32.toNatClampNeg (v4)) (z5.2.1 7 1)) (hl1 := z5.2.2) rfl ?_ (fun _ _ _ => rfl)
    obtain rfl := Option.some.inj h
    have hk : EX w0 ev 5 m_Guesses_weigh 37 [(0, .ref 51), (1, .ref 1), (2, .ref 7), (3, .ref 47), (4, .int (v4 + 1))] [] (wr (z5.2.1) 55 (Int32.toNatClampNeg (v4)) (z5.2.1 7 1)) (z5.2.2) OUT := hk
    exact EX.pick [1, 2, 3, 4, 0] hk rfl
def J_Guesses_weigh_135 (N : Nat) (v4 : Int32) (hi : HI) (hl : HL) : Option ((Int32 × HI × HL) ⊕ (HI × HL)) :=
  some (.inl (v4 + 1, hi, hl))
set_option maxRecDepth 10000 in
set_option maxHeartbeats 4000000 in
theorem bJ_Guesses_weigh_135 (ev : EV) {N : Nat} {v4 : Int32} {hi : HI} {hl : HL} {z : (Int32 × HI × HL) ⊕ (HI × HL)} {OUT : Option Value × HI × HL} (h : J_Guesses_weigh_135 N v4 hi hl = some z) (hk : Sum.elim (fun s => EX w0 ev 5 m_Guesses_weigh 77 [(0, .ref 51), (1, .ref 1), (2, .ref 7), (3, .ref 47), (4, .int (s.1))] [] (s.2.1) (s.2.2) OUT) (fun x => EX w0 ev 5 m_Guesses_weigh 141 [] [] (x.1) (x.2) OUT) z) : EX w0 ev 5 m_Guesses_weigh 135 [(0, .ref 51), (1, .ref 1), (2, .ref 7), (3, .ref 47), (4, .int (v4))] [] (hi) (hl) OUT := by
  unfold J_Guesses_weigh_135 at h
  refine EX.iinc (x := v4) (v := v4 + 1) (req1 := [(4, .int (v4 + 1)), (0, .ref 51), (1, .ref 1), (2, .ref 7), (3, .ref 47)]) rfl rfl (List.mem_of_getElem? (i := 4) rfl) rfl rfl ?_
  refine EX.go (i := .goto (-61)) (len := 3) (pc1 := 77) (st1 := []) (hi1 := hi) (hl1 := hl) rfl ?_ (fun _ _ _ => rfl)
  obtain rfl := Option.some.inj h
  have hk : EX w0 ev 5 m_Guesses_weigh 77 [(0, .ref 51), (1, .ref 1), (2, .ref 7), (3, .ref 47), (4, .int (v4 + 1))] [] (hi) (hl) OUT := hk
  exact EX.pick [1, 2, 3, 4, 0] hk rfl
def B_Guesses_weigh_77 (N : Nat) (v4 : Int32) (hi : HI) (hl : HL) : Option ((Int32 × HI × HL) ⊕ (HI × HL)) :=
  if (((2 : Int32) * (hi 1 2)) : Int32) ≤ (v4 : Int32) then some (.inr (hi, hl)) else (f_Guesses_suppose N (v4) ((-4)) (hi) (hl)).bind fun z9 => (f_Guesses_changesLine N (z9.2.1) (z9.2.2)).bind fun z10 => if (z10.1 : Int32) = 0 then if (z10.2.1 51 7 : Int32) = ((-4) : Int32) then J_Guesses_weigh_135 N (v4) (wr (z10.2.1) 51 7 (v4)) (z10.2.2) else J_Guesses_weigh_135 N (v4) (z10.2.1) (z10.2.2) else J_Guesses_weigh_135 N (v4) (wr (z10.2.1) 51 6 (((z10.2.1 51 6 : Int32) + (1)))) (z10.2.2)
set_option maxRecDepth 10000 in
set_option maxHeartbeats 4000000 in
theorem bB_Guesses_weigh_77 (ev : EV) {N : Nat} {v4 : Int32} {hi : HI} {hl : HL} {z : (Int32 × HI × HL) ⊕ (HI × HL)} {OUT : Option Value × HI × HL} (h : B_Guesses_weigh_77 N v4 hi hl = some z) (hk : Sum.elim (fun s => EX w0 ev 5 m_Guesses_weigh 77 [(0, .ref 51), (1, .ref 1), (2, .ref 7), (3, .ref 47), (4, .int (s.1))] [] (s.2.1) (s.2.2) OUT) (fun x => EX w0 ev 5 m_Guesses_weigh 141 [] [] (x.1) (x.2) OUT) z) : EX w0 ev 5 m_Guesses_weigh 77 [(0, .ref 51), (1, .ref 1), (2, .ref 7), (3, .ref 47), (4, .int (v4))] [] (hi) (hl) OUT := by
  unfold B_Guesses_weigh_77 at h
  refine EX.iload (x := v4) rfl (List.mem_of_getElem? (i := 4) rfl) ?_
  refine EX.iconst (v := 2) rfl rfl ?_
  refine EX.aload_n (x := 1) rfl (List.mem_of_getElem? (i := 1) rfl) ?_
  refine EX.go (i := .getfield 65) (len := 3) (pc1 := 84) (st1 := [.int (hi 1 2), .int (2), .int (v4)]) (hi1 := hi) (hl1 := hl) rfl ?_ (fun _ _ _ => rfl)
  refine EX.go (i := .imul) (len := 1) (pc1 := 85) (st1 := [.int (((2 : Int32) * (hi 1 2))), .int (v4)]) (hi1 := hi) (hl1 := hl) rfl ?_ (fun _ _ _ => rfl)
  rcases ite_some h with ⟨c8, h⟩ | ⟨c8, h⟩
  · refine EX.go (i := .if_icmp .ge 56) (len := 3) (pc1 := 141) (st1 := []) (hi1 := hi) (hl1 := hl) rfl ?_ (fun _ _ _ => if_pos c8)
    obtain rfl := Option.some.inj h
    have hk : EX w0 ev 5 m_Guesses_weigh 141 [] [] (hi) (hl) OUT := hk
    exact EX.pick [] hk rfl
  · refine EX.go (i := .if_icmp .ge 56) (len := 3) (pc1 := 88) (st1 := []) (hi1 := hi) (hl1 := hl) rfl ?_ (fun _ _ _ => if_neg c8)
    refine EX.aload_n (x := 51) rfl (List.mem_of_getElem? (i := 0) rfl) ?_
    refine EX.aload_n (x := 1) rfl (List.mem_of_getElem? (i := 1) rfl) ?_
    refine EX.aload_n (x := 7) rfl (List.mem_of_getElem? (i := 2) rfl) ?_
    refine EX.iload (x := v4) rfl (List.mem_of_getElem? (i := 4) rfl) ?_
    refine EX.bipush (v := (-4)) rfl rfl ?_
    obtain ⟨z9, hz9, h⟩ := bnd_some h
    refine EX.callV (b := 51) (as := [.ref 1, .ref 7, .int (v4), .int ((-4))]) (rest := []) (r := none) (hi1 := z9.2.1) (hl1 := z9.2.2) rfl rfl rfl rfl rfl rfl ((b_Guesses_suppose ev hz9).mono (by decide)) ?_
    show EX w0 ev 5 m_Guesses_weigh 98 [(0, .ref 51), (1, .ref 1), (2, .ref 7), (3, .ref 47), (4, .int (v4))] [] (z9.2.1) (z9.2.2) OUT
    refine EX.aload_n (x := 51) rfl (List.mem_of_getElem? (i := 0) rfl) ?_
    refine EX.aload_n (x := 7) rfl (List.mem_of_getElem? (i := 2) rfl) ?_
    refine EX.aload_n (x := 47) rfl (List.mem_of_getElem? (i := 3) rfl) ?_
    obtain ⟨z10, hz10, h⟩ := bnd_some h
    refine EX.callV (b := 51) (as := [.ref 7, .ref 47]) (rest := []) (r := some (.int (z10.1))) (hi1 := z10.2.1) (hl1 := z10.2.2) rfl rfl rfl rfl rfl rfl ((b_Guesses_changesLine ev hz10).mono (by decide)) ?_
    show EX w0 ev 5 m_Guesses_weigh 104 [(0, .ref 51), (1, .ref 1), (2, .ref 7), (3, .ref 47), (4, .int (v4))] [.int (z10.1)] (z10.2.1) (z10.2.2) OUT
    rcases ite_some h with ⟨c11, h⟩ | ⟨c11, h⟩
    · refine EX.go (i := .ifCond .eq 16) (len := 3) (pc1 := 120) (st1 := []) (hi1 := z10.2.1) (hl1 := z10.2.2) rfl ?_ (fun _ _ _ => if_pos c11)
      refine EX.aload_n (x := 51) rfl (List.mem_of_getElem? (i := 0) rfl) ?_
      refine EX.go (i := .getfield 94) (len := 3) (pc1 := 124) (st1 := [.int (z10.2.1 51 7)]) (hi1 := z10.2.1) (hl1 := z10.2.2) rfl ?_ (fun _ _ _ => rfl)
      refine EX.bipush (v := (-4)) rfl rfl ?_
      rcases ite_some h with ⟨c12, h⟩ | ⟨c12, h⟩
      · refine EX.go (i := .if_icmp .ne 9) (len := 3) (pc1 := 129) (st1 := []) (hi1 := z10.2.1) (hl1 := z10.2.2) rfl ?_ (fun _ _ _ => if_pos c12)
        refine EX.aload_n (x := 51) rfl (List.mem_of_getElem? (i := 0) rfl) ?_
        refine EX.iload (x := v4) rfl (List.mem_of_getElem? (i := 4) rfl) ?_
        refine EX.go (i := .putfield 94) (len := 3) (pc1 := 135) (st1 := []) (hi1 := wr (z10.2.1) 51 7 (v4)) (hl1 := z10.2.2) rfl ?_ (fun _ _ _ => rfl)
        refine EX.pick [0, 1, 2, 3, 4] ?_ rfl
        exact bJ_Guesses_weigh_135 ev h hk
      · refine EX.go (i := .if_icmp .ne 9) (len := 3) (pc1 := 135) (st1 := []) (hi1 := z10.2.1) (hl1 := z10.2.2) rfl ?_ (fun _ _ _ => if_neg c12)
        refine EX.pick [0, 1, 2, 3, 4] ?_ rfl
        exact bJ_Guesses_weigh_135 ev h hk
    · refine EX.go (i := .ifCond .eq 16) (len := 3) (pc1 := 107) (st1 := []) (hi1 := z10.2.1) (hl1 := z10.2.2) rfl ?_ (fun _ _ _ => if_neg c11)
      refine EX.aload_n (x := 51) rfl (List.mem_of_getElem? (i := 0) rfl) ?_
      refine EX.go (i := .dup) (len := 1) (pc1 := 109) (st1 := [.ref 51, .ref 51]) (hi1 := z10.2.1) (hl1 := z10.2.2) rfl ?_ (fun _ _ _ => rfl)
      refine EX.go (i := .getfield 91) (len := 3) (pc1 := 112) (st1 := [.int (z10.2.1 51 6), .ref 51]) (hi1 := z10.2.1) (hl1 := z10.2.2) rfl ?_ (fun _ _ _ => rfl)
      refine EX.iconst (v := 1) rfl rfl ?_
      refine EX.go (i := .iadd) (len := 1) (pc1 := 114) (st1 := [.int (((z10.2.1 51 6 : Int32) + (1))), .ref 51]) (hi1 := z10.2.1) (hl1 := z10.2.2) rfl ?_ (fun _ _ _ => rfl)
      refine EX.go (i := .putfield 91) (len := 3) (pc1 := 117) (st1 := []) (hi1 := wr (z10.2.1) 51 6 (((z10.2.1 51 6 : Int32) + (1)))) (hl1 := z10.2.2) rfl ?_ (fun _ _ _ => rfl)
      refine EX.go (i := .goto 18) (len := 3) (pc1 := 135) (st1 := []) (hi1 := wr (z10.2.1) 51 6 (((z10.2.1 51 6 : Int32) + (1)))) (hl1 := z10.2.2) rfl ?_ (fun _ _ _ => rfl)
      refine EX.pick [0, 1, 2, 3, 4] ?_ rfl
      exact bJ_Guesses_weigh_135 ev h hk
def f_Guesses_weigh (N : Nat) (hi : HI) (hl : HL) : Option (Unit × HI × HL) :=
  if (hi 51 5 : Int32) = 0 then (f_Guesses_suppose N ((-4)) ((-4)) (wr (wr (wr (hi) 51 5 (1)) 51 6 (0)) 51 7 ((-4))) (hl)).bind fun z2 => (lpN (fun s => B_Guesses_weigh_37 N s.1 s.2.1 s.2.2) N (0, z2.2.1, z2.2.2)).bind fun x7 => (lpN (fun s => B_Guesses_weigh_77 N s.1 s.2.1 s.2.2) N (0, x7.1, x7.2)).bind fun x13 => some ((), x13.1, x13.2) else some ((), hi, hl)
set_option maxRecDepth 10000 in
set_option maxHeartbeats 4000000 in
theorem b_Guesses_weigh (ev : EV) {N : Nat} {hi : HI} {hl : HL} {o : Unit × HI × HL} (h : f_Guesses_weigh N hi hl = some o) : EM w0 ev 6 m_Guesses_weigh [.ref 51, .ref 1, .ref 7, .ref 47] hi hl (oV o) := by
  unfold f_Guesses_weigh at h
  refine EM.of rfl ?_
  show EX w0 ev 5 m_Guesses_weigh 0 [(0, .ref 51), (1, .ref 1), (2, .ref 7), (3, .ref 47)] [] (hi) (hl) (oV o)
  refine EX.aload_n (x := 51) rfl (List.mem_of_getElem? (i := 0) rfl) ?_
  refine EX.go (i := .getfield 28) (len := 3) (pc1 := 4) (st1 := [.int (hi 51 5)]) (hi1 := hi) (hl1 := hl) rfl ?_ (fun _ _ _ => rfl)
  rcases ite_some h with ⟨c1, h⟩ | ⟨c1, h⟩
  · refine EX.go (i := .ifCond .eq 4) (len := 3) (pc1 := 8) (st1 := []) (hi1 := hi) (hl1 := hl) rfl ?_ (fun _ _ _ => if_pos c1)
    refine EX.aload_n (x := 51) rfl (List.mem_of_getElem? (i := 0) rfl) ?_
    refine EX.iconst (v := 1) rfl rfl ?_
    refine EX.go (i := .putfield 28) (len := 3) (pc1 := 13) (st1 := []) (hi1 := wr (hi) 51 5 (1)) (hl1 := hl) rfl ?_ (fun _ _ _ => rfl)
    refine EX.aload_n (x := 51) rfl (List.mem_of_getElem? (i := 0) rfl) ?_
    refine EX.iconst (v := 0) rfl rfl ?_
    refine EX.go (i := .putfield 91) (len := 3) (pc1 := 18) (st1 := []) (hi1 := wr (wr (hi) 51 5 (1)) 51 6 (0)) (hl1 := hl) rfl ?_ (fun _ _ _ => rfl)
    refine EX.aload_n (x := 51) rfl (List.mem_of_getElem? (i := 0) rfl) ?_
    refine EX.bipush (v := (-4)) rfl rfl ?_
    refine EX.go (i := .putfield 94) (len := 3) (pc1 := 24) (st1 := []) (hi1 := wr (wr (wr (hi) 51 5 (1)) 51 6 (0)) 51 7 ((-4))) (hl1 := hl) rfl ?_ (fun _ _ _ => rfl)
    refine EX.aload_n (x := 51) rfl (List.mem_of_getElem? (i := 0) rfl) ?_
    refine EX.aload_n (x := 1) rfl (List.mem_of_getElem? (i := 1) rfl) ?_
    refine EX.aload_n (x := 7) rfl (List.mem_of_getElem? (i := 2) rfl) ?_
    refine EX.bipush (v := (-4)) rfl rfl ?_
    refine EX.bipush (v := (-4)) rfl rfl ?_
    obtain ⟨z2, hz2, h⟩ := bnd_some h
    refine EX.callV (b := 51) (as := [.ref 1, .ref 7, .int ((-4)), .int ((-4))]) (rest := []) (r := none) (hi1 := z2.2.1) (hl1 := z2.2.2) rfl rfl rfl rfl rfl rfl ((b_Guesses_suppose ev hz2).mono (by decide)) ?_
    show EX w0 ev 5 m_Guesses_weigh 34 [(0, .ref 51), (1, .ref 1), (2, .ref 7), (3, .ref 47)] [] (z2.2.1) (z2.2.2) (oV o)
    refine EX.iconst (v := 0) rfl rfl ?_
    refine EX.istore (req1 := [(4, .int (0)), (0, .ref 51), (1, .ref 1), (2, .ref 7), (3, .ref 47)]) rfl rfl rfl ?_
    obtain ⟨x7, hx7, h⟩ := bnd_some h
    refine EX.pick [1, 2, 3, 4, 0] ?_ rfl
    refine lp_sound (f := fun s => B_Guesses_weigh_37 N s.1 s.2.1 s.2.2) (PS := fun s => EX w0 ev 5 m_Guesses_weigh 37 [(0, .ref 51), (1, .ref 1), (2, .ref 7), (3, .ref 47), (4, .int (s.1))] [] (s.2.1) (s.2.2) (oV o)) (PX := fun x => EX w0 ev 5 m_Guesses_weigh 74 [(0, .ref 51), (1, .ref 1), (2, .ref 7), (3, .ref 47)] [] (x.1) (x.2) (oV o)) ?_ N _ x7 hx7 ?_
    · exact fun s z hz hk => bB_Guesses_weigh_37 ev hz hk
    show EX w0 ev 5 m_Guesses_weigh 74 [(0, .ref 51), (1, .ref 1), (2, .ref 7), (3, .ref 47)] [] (x7.1) (x7.2) (oV o)
    refine EX.iconst (v := 0) rfl rfl ?_
    refine EX.istore (req1 := [(4, .int (0)), (0, .ref 51), (1, .ref 1), (2, .ref 7), (3, .ref 47)]) rfl rfl rfl ?_
    obtain ⟨x13, hx13, h⟩ := bnd_some h
    refine EX.pick [1, 2, 3, 4, 0] ?_ rfl
    refine lp_sound (f := fun s => B_Guesses_weigh_77 N s.1 s.2.1 s.2.2) (PS := fun s => EX w0 ev 5 m_Guesses_weigh 77 [(0, .ref 51), (1, .ref 1), (2, .ref 7), (3, .ref 47), (4, .int (s.1))] [] (s.2.1) (s.2.2) (oV o)) (PX := fun x => EX w0 ev 5 m_Guesses_weigh 141 [] [] (x.1) (x.2) (oV o)) ?_ N _ x13 hx13 ?_
    · exact fun s z hz hk => bB_Guesses_weigh_77 ev hz hk
    show EX w0 ev 5 m_Guesses_weigh 141 [] [] (x13.1) (x13.2) (oV o)
    obtain rfl := Option.some.inj h
    exact EX.vret rfl rfl
  · refine EX.go (i := .ifCond .eq 4) (len := 3) (pc1 := 7) (st1 := []) (hi1 := hi) (hl1 := hl) rfl ?_ (fun _ _ _ => if_neg c1)
    obtain rfl := Option.some.inj h
    exact EX.vret rfl rfl
