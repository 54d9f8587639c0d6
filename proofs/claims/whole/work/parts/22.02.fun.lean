/-! methods as functions -/
def B_Script_take_10 (N : Nat) (v2 : Int32) (hi : HI) (hl : HL) : Option ((Int32 × HI × HL) ⊕ (HI × HL)) :=
  if (hi 47 0 : Int32) ≤ (v2 : Int32) then some (.inr (hi, hl)) else if (v2 : Int32) < 0 ∨ 12 ≤ Int32.toNatClampNeg (v2) then none else if (v2 : Int32) < 0 ∨ 12 ≤ Int32.toNatClampNeg (v2) then none else if (v2 : Int32) < 0 ∨ 12 ≤ Int32.toNatClampNeg (v2) then none else if (v2 : Int32) < 0 ∨ 12 ≤ Int32.toNatClampNeg (v2) then none else if (v2 : Int32) < 0 ∨ 12 ≤ Int32.toNatClampNeg (v2) then none else some (.inl (v2 + 1, wr (wr (wr (hi) 48 (Int32.toNatClampNeg (v2)) (hi 44 (Int32.toNatClampNeg (v2)))) 49 (Int32.toNatClampNeg (v2)) ((wr (hi) 48 (Int32.toNatClampNeg (v2)) (hi 44 (Int32.toNatClampNeg (v2)))) 45 (Int32.toNatClampNeg (v2)))) 50 (Int32.toNatClampNeg (v2)) ((-4)), hl))
set_option maxRecDepth 10000 in
set_option maxHeartbeats 4000000 in
theorem bB_Script_take_10 (ev : EV) {N : Nat} {v2 : Int32} {hi : HI} {hl : HL} {z : (Int32 × HI × HL) ⊕ (HI × HL)} {OUT : Option Value × HI × HL} (h : B_Script_take_10 N v2 hi hl = some z) (hk : Sum.elim (fun s => EX w0 ev 0 m_Script_take 10 [(0, .ref 47), (1, .ref 43), (2, .int (s.1))] [] (s.2.1) (s.2.2) OUT) (fun x => EX w0 ev 0 m_Script_take 56 [] [] (x.1) (x.2) OUT) z) : EX w0 ev 0 m_Script_take 10 [(0, .ref 47), (1, .ref 43), (2, .int (v2))] [] (hi) (hl) OUT := by
  unfold B_Script_take_10 at h
  refine EX.iload_n (x := v2) rfl (List.mem_of_getElem? (i := 2) rfl) ?_
  refine EX.aload_n (x := 47) rfl (List.mem_of_getElem? (i := 0) rfl) ?_
  refine EX.go (i := .getfield 27) (len := 3) (pc1 := 15) (st1 := [.int (hi 47 0), .int (v2)]) (hi1 := hi) (hl1 := hl) rfl ?_ (fun _ _ _ => rfl)
  rcases ite_some h with ⟨c1, h⟩ | ⟨c1, h⟩
  · refine EX.go (i := .if_icmp .ge 41) (len := 3) (pc1 := 56) (st1 := []) (hi1 := hi) (hl1 := hl) rfl ?_ (fun _ _ _ => if_pos c1)
    obtain rfl := Option.some.inj h
    have hk : EX w0 ev 0 m_Script_take 56 [] [] (hi) (hl) OUT := hk
    exact EX.pick [] hk rfl
  · refine EX.go (i := .if_icmp .ge 41) (len := 3) (pc1 := 18) (st1 := []) (hi1 := hi) (hl1 := hl) rfl ?_ (fun _ _ _ => if_neg c1)
    refine EX.aload_n (x := 47) rfl (List.mem_of_getElem? (i := 0) rfl) ?_
    refine EX.go (i := .getfield 9) (len := 3) (pc1 := 22) (st1 := [.ref 48]) (hi1 := hi) (hl1 := hl) rfl ?_ (fun _ _ _ => rfl)
    refine EX.iload_n (x := v2) rfl (List.mem_of_getElem? (i := 2) rfl) ?_
    refine EX.aload_n (x := 43) rfl (List.mem_of_getElem? (i := 1) rfl) ?_
    refine EX.go (i := .getfield 28) (len := 3) (pc1 := 27) (st1 := [.ref 44, .int (v2), .ref 48]) (hi1 := hi) (hl1 := hl) rfl ?_ (fun _ _ _ => rfl)
    refine EX.iload_n (x := v2) rfl (List.mem_of_getElem? (i := 2) rfl) ?_
    obtain ⟨g2, h⟩ := grd_some h
    refine EX.iaload rfl rfl g2 ?_
    obtain ⟨g3, h⟩ := grd_some h
    refine EX.iastore rfl rfl g3 ?_
    refine EX.aload_n (x := 47) rfl (List.mem_of_getElem? (i := 0) rfl) ?_
    refine EX.go (i := .getfield 15) (len := 3) (pc1 := 34) (st1 := [.ref 49]) (hi1 := wr (hi) 48 (Int32.toNatClampNeg (v2)) (hi 44 (Int32.toNatClampNeg (v2)))) (hl1 := hl) rfl ?_ (fun _ _ _ => rfl)
    refine EX.iload_n (x := v2) rfl (List.mem_of_getElem? (i := 2) rfl) ?_
    refine EX.aload_n (x := 43) rfl (List.mem_of_getElem? (i := 1) rfl) ?_
    refine EX.go (i := .getfield 29) (len := 3) (pc1 := 39) (st1 := [.ref 45, .int (v2), .ref 49]) (hi1 := wr (hi) 48 (Int32.toNatClampNeg (v2)) (hi 44 (Int32.toNatClampNeg (v2)))) (hl1 := hl) rfl ?_ (fun _ _ _ => rfl)
    refine EX.iload_n (x := v2) rfl (List.mem_of_getElem? (i := 2) rfl) ?_
    obtain ⟨g4, h⟩ := grd_some h
    refine EX.iaload rfl rfl g4 ?_
    obtain ⟨g5, h⟩ := grd_some h
    refine EX.iastore rfl rfl g5 ?_
    refine EX.aload_n (x := 47) rfl (List.mem_of_getElem? (i := 0) rfl) ?_
    refine EX.go (i := .getfield 18) (len := 3) (pc1 := 46) (st1 := [.ref 50]) (hi1 := wr (wr (hi) 48 (Int32.toNatClampNeg (v2)) (hi 44 (Int32.toNatClampNeg (v2)))) 49 (Int32.toNatClampNeg (v2)) ((wr (hi) 48 (Int32.toNatClampNeg (v2)) (hi 44 (Int32.toNatClampNeg (v2)))) 45 (Int32.toNatClampNeg (v2)))) (hl1 := hl) rfl ?_ (fun _ _ _ => rfl)
    refine EX.iload_n (x := v2) rfl (List.mem_of_getElem? (i := 2) rfl) ?_
    refine EX.bipush (v := (-4)) rfl rfl ?_
    obtain ⟨g6, h⟩ := grd_some h
    refine EX.iastore rfl rfl g6 ?_
    refine EX.iinc (x := v2) (v := v2 + 1) (req1 := [(2, .int (v2 + 1)), (0, .ref 47), (1, .ref 43)]) rfl rfl (List.mem_of_getElem? (i := 2) rfl) rfl rfl ?_
    refine EX.go (i := .goto (-43)) (len := 3) (pc1 := 10) (st1 := []) (hi1 := wr (wr (wr (hi) 48 (Int32.toNatClampNeg (v2)) (hi 44 (Int32.toNatClampNeg (v2)))) 49 (Int32.toNatClampNeg (v2)) ((wr (hi) 48 (Int32.toNatClampNeg (v2)) (hi 44 (Int32.toNatClampNeg (v2)))) 45 (Int32.toNatClampNeg (v2)))) 50 (Int32.toNatClampNeg (v2)) ((-4))) (hl1 := hl) rfl ?_ (fun _ _ _ => rfl)
    obtain rfl := Option.some.inj h
    have hk : EX w0 ev 0 m_Script_take 10 [(0, .ref 47), (1, .ref 43), (2, .int (v2 + 1))] [] (wr (wr (wr (hi) 48 (Int32.toNatClampNeg (v2)) (hi 44 (Int32.toNatClampNeg (v2)))) 49 (Int32.toNatClampNeg (v2)) ((wr (hi) 48 (Int32.toNatClampNeg (v2)) (hi 44 (Int32.toNatClampNeg (v2)))) 45 (Int32.toNatClampNeg (v2)))) 50 (Int32.toNatClampNeg (v2)) ((-4))) (hl) OUT := hk
    exact EX.pick [1, 2, 0] hk rfl
def f_Script_take (N : Nat) (hi : HI) (hl : HL) : Option (Unit × HI × HL) :=
  (lpN (fun s => B_Script_take_10 N s.1 s.2.1 s.2.2) N (0, wr (hi) 47 0 (hi 43 3), hl)).bind fun x7 => some ((), x7.1, x7.2)
set_option maxRecDepth 10000 in
set_option maxHeartbeats 4000000 in
theorem b_Script_take (ev : EV) {N : Nat} {hi : HI} {hl : HL} {o : Unit × HI × HL} (h : f_Script_take N hi hl = some o) : EM w0 ev 1 m_Script_take [.ref 47, .ref 43] hi hl (oV o) := by
  unfold f_Script_take at h
  refine EM.of rfl ?_
  show EX w0 ev 0 m_Script_take 0 [(0, .ref 47), (1, .ref 43)] [] (hi) (hl) (oV o)
  refine EX.aload_n (x := 47) rfl (List.mem_of_getElem? (i := 0) rfl) ?_
  refine EX.aload_n (x := 43) rfl (List.mem_of_getElem? (i := 1) rfl) ?_
  refine EX.go (i := .getfield 21) (len := 3) (pc1 := 5) (st1 := [.int (hi 43 3), .ref 47]) (hi1 := hi) (hl1 := hl) rfl ?_ (fun _ _ _ => rfl)
  refine EX.go (i := .putfield 27) (len := 3) (pc1 := 8) (st1 := []) (hi1 := wr (hi) 47 0 (hi 43 3)) (hl1 := hl) rfl ?_ (fun _ _ _ => rfl)
  refine EX.iconst (v := 0) rfl rfl ?_
  refine EX.istore_n (req1 := [(2, .int (0)), (0, .ref 47), (1, .ref 43)]) rfl rfl rfl ?_
  obtain ⟨x7, hx7, h⟩ := bnd_some h
  refine EX.pick [1, 2, 0] ?_ rfl
  refine lp_sound (f := fun s => B_Script_take_10 N s.1 s.2.1 s.2.2) (PS := fun s => EX w0 ev 0 m_Script_take 10 [(0, .ref 47), (1, .ref 43), (2, .int (s.1))] [] (s.2.1) (s.2.2) (oV o)) (PX := fun x => EX w0 ev 0 m_Script_take 56 [] [] (x.1) (x.2) (oV o)) ?_ N _ x7 hx7 ?_
  · exact fun s z hz hk => bB_Script_take_10 ev hz hk
  show EX w0 ev 0 m_Script_take 56 [] [] (x7.1) (x7.2) (oV o)
  obtain rfl := Option.some.inj h
  exact EX.vret rfl rfl
def J_Script_isLine_16 (N : Nat) (hi : HI) (hl : HL) : Option (Int32 × HI × HL) :=
  some (0, hi, hl)
set_option maxRecDepth 10000 in
set_option maxHeartbeats 4000000 in
theorem bJ_Script_isLine_16 (ev : EV) {N : Nat} {hi : HI} {hl : HL} {o : Int32 × HI × HL} (h : J_Script_isLine_16 N hi hl = some o) : EX w0 ev 0 m_Script_isLine 16 [] [] (hi) (hl) (oI o) := by
  unfold J_Script_isLine_16 at h
  refine EX.iconst (v := 0) rfl rfl ?_
  obtain rfl := Option.some.inj h
  exact EX.zret rfl rfl (Or.inl rfl)
def f_Script_isLine (N : Nat) (p1 : Int32) (hi : HI) (hl : HL) : Option (Int32 × HI × HL) :=
  if (p1 : Int32) < 0 then J_Script_isLine_16 N (hi) (hl) else if (hi 47 0 : Int32) ≤ (p1 : Int32) then J_Script_isLine_16 N (hi) (hl) else some (1, hi, hl)
set_option maxRecDepth 10000 in
set_option maxHeartbeats 4000000 in
theorem b_Script_isLine (ev : EV) {N : Nat} {p1 : Int32} {hi : HI} {hl : HL} {o : Int32 × HI × HL} (h : f_Script_isLine N p1 hi hl = some o) : EM w0 ev 1 m_Script_isLine [.ref 47, .int (p1)] hi hl (oI o) := by
  unfold f_Script_isLine at h
  refine EM.of rfl ?_
  show EX w0 ev 0 m_Script_isLine 0 [(0, .ref 47), (1, .int (p1))] [] (hi) (hl) (oI o)
  refine EX.iload_n (x := p1) rfl (List.mem_of_getElem? (i := 1) rfl) ?_
  rcases ite_some h with ⟨c1, h⟩ | ⟨c1, h⟩
  · refine EX.go (i := .ifCond .lt 15) (len := 3) (pc1 := 16) (st1 := []) (hi1 := hi) (hl1 := hl) rfl ?_ (fun _ _ _ => if_pos c1)
    refine EX.pick [] ?_ rfl
    exact bJ_Script_isLine_16 ev h
  · refine EX.go (i := .ifCond .lt 15) (len := 3) (pc1 := 4) (st1 := []) (hi1 := hi) (hl1 := hl) rfl ?_ (fun _ _ _ => if_neg c1)
    refine EX.iload_n (x := p1) rfl (List.mem_of_getElem? (i := 1) rfl) ?_
    refine EX.aload_n (x := 47) rfl (List.mem_of_getElem? (i := 0) rfl) ?_
    refine EX.go (i := .getfield 27) (len := 3) (pc1 := 9) (st1 := [.int (hi 47 0), .int (p1)]) (hi1 := hi) (hl1 := hl) rfl ?_ (fun _ _ _ => rfl)
    rcases ite_some h with ⟨c2, h⟩ | ⟨c2, h⟩
    · refine EX.go (i := .if_icmp .ge 7) (len := 3) (pc1 := 16) (st1 := []) (hi1 := hi) (hl1 := hl) rfl ?_ (fun _ _ _ => if_pos c2)
      refine EX.pick [] ?_ rfl
      exact bJ_Script_isLine_16 ev h
    · refine EX.go (i := .if_icmp .ge 7) (len := 3) (pc1 := 12) (st1 := []) (hi1 := hi) (hl1 := hl) rfl ?_ (fun _ _ _ => if_neg c2)
      refine EX.iconst (v := 1) rfl rfl ?_
      refine EX.go (i := .goto 4) (len := 3) (pc1 := 17) (st1 := [.int (1)]) (hi1 := hi) (hl1 := hl) rfl ?_ (fun _ _ _ => rfl)
      obtain rfl := Option.some.inj h
      exact EX.zret rfl rfl (Or.inr rfl)
def B_Script_ticksBefore_4 (N : Nat) (v1 : Int32) (v2 : Int32) (v3 : Int32) (hi : HI) (hl : HL) : Option ((Int32 × Int32 × HI × HL) ⊕ (Int32 × HI × HL)) :=
  if (v1 : Int32) ≤ (v3 : Int32) then some (.inr (v2, hi, hl)) else if (hi 47 0 : Int32) ≤ (v3 : Int32) then some (.inr (v2, hi, hl)) else if (v3 : Int32) < 0 ∨ 12 ≤ Int32.toNatClampNeg (v3) then none else some (.inl ((v2 + (hi 49 (Int32.toNatClampNeg (v3)))), v3 + 1, hi, hl))
set_option maxRecDepth 10000 in
set_option maxHeartbeats 4000000 in
theorem bB_Script_ticksBefore_4 (ev : EV) {N : Nat} {v1 : Int32} {v2 : Int32} {v3 : Int32} {hi : HI} {hl : HL} {z : (Int32 × Int32 × HI × HL) ⊕ (Int32 × HI × HL)} {OUT : Option Value × HI × HL} (h : B_Script_ticksBefore_4 N v1 v2 v3 hi hl = some z) (hk : Sum.elim (fun s => EX w0 ev 0 m_Script_ticksBefore 4 [(0, .ref 47), (1, .int (v1)), (2, .int (s.1)), (3, .int (s.2.1))] [] (s.2.2.1) (s.2.2.2) OUT) (fun x => EX w0 ev 0 m_Script_ticksBefore 32 [(2, .int (x.1))] [] (x.2.1) (x.2.2) OUT) z) : EX w0 ev 0 m_Script_ticksBefore 4 [(0, .ref 47), (1, .int (v1)), (2, .int (v2)), (3, .int (v3))] [] (hi) (hl) OUT := by
  unfold B_Script_ticksBefore_4 at h
  refine EX.iload_n (x := v3) rfl (List.mem_of_getElem? (i := 3) rfl) ?_
  refine EX.iload_n (x := v1) rfl (List.mem_of_getElem? (i := 1) rfl) ?_
  rcases ite_some h with ⟨c1, h⟩ | ⟨c1, h⟩
  · refine EX.go (i := .if_icmp .ge 26) (len := 3) (pc1 := 32) (st1 := []) (hi1 := hi) (hl1 := hl) rfl ?_ (fun _ _ _ => if_pos c1)
    obtain rfl := Option.some.inj h
    have hk : EX w0 ev 0 m_Script_ticksBefore 32 [(2, .int (v2))] [] (hi) (hl) OUT := hk
    exact EX.pick [2] hk rfl
  · refine EX.go (i := .if_icmp .ge 26) (len := 3) (pc1 := 9) (st1 := []) (hi1 := hi) (hl1 := hl) rfl ?_ (fun _ _ _ => if_neg c1)
    refine EX.iload_n (x := v3) rfl (List.mem_of_getElem? (i := 3) rfl) ?_
    refine EX.aload_n (x := 47) rfl (List.mem_of_getElem? (i := 0) rfl) ?_
    refine EX.go (i := .getfield 27) (len := 3) (pc1 := 14) (st1 := [.int (hi 47 0), .int (v3)]) (hi1 := hi) (hl1 := hl) rfl ?_ (fun _ _ _ => rfl)
    rcases ite_some h with ⟨c2, h⟩ | ⟨c2, h⟩
    · refine EX.go (i := .if_icmp .ge 18) (len := 3) (pc1 := 32) (st1 := []) (hi1 := hi) (hl1 := hl) rfl ?_ (fun _ _ _ => if_pos c2)
      obtain rfl := Option.some.inj h
      have hk : EX w0 ev 0 m_Script_ticksBefore 32 [(2, .int (v2))] [] (hi) (hl) OUT := hk
      exact EX.pick [2] hk rfl
    · refine EX.go (i := .if_icmp .ge 18) (len := 3) (pc1 := 17) (st1 := []) (hi1 := hi) (hl1 := hl) rfl ?_ (fun _ _ _ => if_neg c2)
      refine EX.iload_n (x := v2) rfl (List.mem_of_getElem? (i := 2) rfl) ?_
      refine EX.aload_n (x := 47) rfl (List.mem_of_getElem? (i := 0) rfl) ?_
      refine EX.go (i := .getfield 15) (len := 3) (pc1 := 22) (st1 := [.ref 49, .int (v2)]) (hi1 := hi) (hl1 := hl) rfl ?_ (fun _ _ _ => rfl)
      refine EX.iload_n (x := v3) rfl (List.mem_of_getElem? (i := 3) rfl) ?_
      obtain ⟨g3, h⟩ := grd_some h
      refine EX.iaload rfl rfl g3 ?_
      refine EX.go (i := .iadd) (len := 1) (pc1 := 25) (st1 := [.int ((v2 + (hi 49 (Int32.toNatClampNeg (v3)))))]) (hi1 := hi) (hl1 := hl) rfl ?_ (fun _ _ _ => rfl)
      refine EX.istore_n (req1 := [(2, .int ((v2 + (hi 49 (Int32.toNatClampNeg (v3)))))), (0, .ref 47), (1, .int (v1)), (3, .int (v3))]) rfl rfl rfl ?_
      refine EX.iinc (x := v3) (v := v3 + 1) (req1 := [(3, .int (v3 + 1)), (2, .int ((v2 + (hi 49 (Int32.toNatClampNeg (v3)))))), (0, .ref 47), (1, .int (v1))]) rfl rfl (List.mem_of_getElem? (i := 3) rfl) rfl rfl ?_
      refine EX.go (i := .goto (-25)) (len := 3) (pc1 := 4) (st1 := []) (hi1 := hi) (hl1 := hl) rfl ?_ (fun _ _ _ => rfl)
      obtain rfl := Option.some.inj h
      have hk : EX w0 ev 0 m_Script_ticksBefore 4 [(0, .ref 47), (1, .int (v1)), (2, .int ((v2 + (hi 49 (Int32.toNatClampNeg (v3)))))), (3, .int (v3 + 1))] [] (hi) (hl) OUT := hk
      exact EX.pick [2, 3, 1, 0] hk rfl
def f_Script_ticksBefore (N : Nat) (p1 : Int32) (hi : HI) (hl : HL) : Option (Int32 × HI × HL) :=
  (lpN (fun s => B_Script_ticksBefore_4 N (p1) s.1 s.2.1 s.2.2.1 s.2.2.2) N (0, 0, hi, hl)).bind fun x4 => some (x4.1, x4.2.1, x4.2.2)
set_option maxRecDepth 10000 in
set_option maxHeartbeats 4000000 in
theorem b_Script_ticksBefore (ev : EV) {N : Nat} {p1 : Int32} {hi : HI} {hl : HL} {o : Int32 × HI × HL} (h : f_Script_ticksBefore N p1 hi hl = some o) : EM w0 ev 1 m_Script_ticksBefore [.ref 47, .int (p1)] hi hl (oI o) := by
  unfold f_Script_ticksBefore at h
  refine EM.of rfl ?_
  show EX w0 ev 0 m_Script_ticksBefore 0 [(0, .ref 47), (1, .int (p1))] [] (hi) (hl) (oI o)
  refine EX.iconst (v := 0) rfl rfl ?_
  refine EX.istore_n (req1 := [(2, .int (0)), (0, .ref 47), (1, .int (p1))]) rfl rfl rfl ?_
  refine EX.iconst (v := 0) rfl rfl ?_
  refine EX.istore_n (req1 := [(3, .int (0)), (2, .int (0)), (0, .ref 47), (1, .int (p1))]) rfl rfl rfl ?_
  obtain ⟨x4, hx4, h⟩ := bnd_some h
  refine EX.pick [2, 3, 1, 0] ?_ rfl
  refine lp_sound (f := fun s => B_Script_ticksBefore_4 N (p1) s.1 s.2.1 s.2.2.1 s.2.2.2) (PS := fun s => EX w0 ev 0 m_Script_ticksBefore 4 [(0, .ref 47), (1, .int (p1)), (2, .int (s.1)), (3, .int (s.2.1))] [] (s.2.2.1) (s.2.2.2) (oI o)) (PX := fun x => EX w0 ev 0 m_Script_ticksBefore 32 [(2, .int (x.1))] [] (x.2.1) (x.2.2) (oI o)) ?_ N _ x4 hx4 ?_
  · exact fun s z hz hk => bB_Script_ticksBefore_4 ev hz hk
  show EX w0 ev 0 m_Script_ticksBefore 32 [(2, .int (x4.1))] [] (x4.2.1) (x4.2.2) (oI o)
  refine EX.iload_n (x := x4.1) rfl (List.mem_of_getElem? (i := 0) rfl) ?_
  obtain rfl := Option.some.inj h
  exact EX.iret rfl rfl
def B_Script_turnAt_4 (N : Nat) (v2 : Int32) (v3 : Int32) (hi : HI) (hl : HL) : Option ((Int32 × Int32 × HI × HL) ⊕ (Nat × Int32 × HI × HL)) :=
  if (hi 47 0 : Int32) ≤ (v3 : Int32) then some (.inr (0, v3, hi, hl)) else if (v3 : Int32) < 0 ∨ 12 ≤ Int32.toNatClampNeg (v3) then none else if (hi 49 (Int32.toNatClampNeg (v3)) : Int32) ≤ (v2 : Int32) then if (v3 : Int32) < 0 ∨ 12 ≤ Int32.toNatClampNeg (v3) then none else some (.inl ((v2 - (hi 49 (Int32.toNatClampNeg (v3)))), v3 + 1, hi, hl)) else some (.inr (1, v3, hi, hl))
set_option maxRecDepth 10000 in
set_option maxHeartbeats 4000000 in
theorem bB_Script_turnAt_4 (ev : EV) {N : Nat} {v2 : Int32} {v3 : Int32} {hi : HI} {hl : HL} {z : (Int32 × Int32 × HI × HL) ⊕ (Nat × Int32 × HI × HL)} {OUT : Option Value × HI × HL} (h : B_Script_turnAt_4 N v2 v3 hi hl = some z) (hk : Sum.elim (fun s => EX w0 ev 0 m_Script_turnAt 4 [(0, .ref 47), (2, .int (s.1)), (3, .int (s.2.1))] [] (s.2.2.1) (s.2.2.2) OUT) (fun x => (x.1 = 0 → EX w0 ev 0 m_Script_turnAt 44 [] [] (x.2.2.1) (x.2.2.2) OUT) ∧ (x.1 = 1 → EX w0 ev 0 m_Script_turnAt 22 [(0, .ref 47), (3, .int (x.2.1))] [] (x.2.2.1) (x.2.2.2) OUT)) z) : EX w0 ev 0 m_Script_turnAt 4 [(0, .ref 47), (2, .int (v2)), (3, .int (v3))] [] (hi) (hl) OUT := by
  unfold B_Script_turnAt_4 at h
  refine EX.iload_n (x := v3) rfl (List.mem_of_getElem? (i := 2) rfl) ?_
  refine EX.aload_n (x := 47) rfl (List.mem_of_getElem? (i := 0) rfl) ?_
  refine EX.go (i := .getfield 27) (len := 3) (pc1 := 9) (st1 := [.int (hi 47 0), .int (v3)]) (hi1 := hi) (hl1 := hl) rfl ?_ (fun _ _ _ => rfl)
  rcases ite_some h with ⟨c1, h⟩ | ⟨c1, h⟩
  · refine EX.go (i := .if_icmp .ge 35) (len := 3) (pc1 := 44) (st1 := []) (hi1 := hi) (hl1 := hl) rfl ?_ (fun _ _ _ => if_pos c1)
    obtain rfl := Option.some.inj h
    have hk := hk.1 rfl
    have hk : EX w0 ev 0 m_Script_turnAt 44 [] [] (hi) (hl) OUT := hk
    exact EX.pick [] hk rfl
  · refine EX.go (i := .if_icmp .ge 35) (len := 3) (pc1 := 12) (st1 := []) (hi1 := hi) (hl1 := hl) rfl ?_ (fun _ _ _ => if_neg c1)
    refine EX.iload_n (x := v2) rfl (List.mem_of_getElem? (i := 1) rfl) ?_
    refine EX.aload_n (x := 47) rfl (List.mem_of_getElem? (i := 0) rfl) ?_
    refine EX.go (i := .getfield 15) (len := 3) (pc1 := 17) (st1 := [.ref 49, .int (v2)]) (hi1 := hi) (hl1 := hl) rfl ?_ (fun _ _ _ => rfl)
    refine EX.iload_n (x := v3) rfl (List.mem_of_getElem? (i := 2) rfl) ?_
    obtain ⟨g2, h⟩ := grd_some h
    refine EX.iaload rfl rfl g2 ?_
    rcases ite_some h with ⟨c3, h⟩ | ⟨c3, h⟩
    · refine EX.go (i := .if_icmp .ge 10) (len := 3) (pc1 := 29) (st1 := []) (hi1 := hi) (hl1 := hl) rfl ?_ (fun _ _ _ => if_pos c3)
      refine EX.iload_n (x := v2) rfl (List.mem_of_getElem? (i := 1) rfl) ?_
      refine EX.aload_n (x := 47) rfl (List.mem_of_getElem? (i := 0) rfl) ?_
      refine EX.go (i := .getfield 15) (len := 3) (pc1 := 34) (st1 := [.ref 49, .int (v2)]) (hi1 := hi) (hl1 := hl) rfl ?_ (fun _ _ _ => rfl)
      refine EX.iload_n (x := v3) rfl (List.mem_of_getElem? (i := 2) rfl) ?_
      obtain ⟨g4, h⟩ := grd_some h
      refine EX.iaload rfl rfl g4 ?_
      refine EX.go (i := .isub) (len := 1) (pc1 := 37) (st1 := [.int ((v2 - (hi 49 (Int32.toNatClampNeg (v3)))))]) (hi1 := hi) (hl1 := hl) rfl ?_ (fun _ _ _ => rfl)
      refine EX.istore_n (req1 := [(2, .int ((v2 - (hi 49 (Int32.toNatClampNeg (v3)))))), (0, .ref 47), (3, .int (v3))]) rfl rfl rfl ?_
      refine EX.iinc (x := v3) (v := v3 + 1) (req1 := [(3, .int (v3 + 1)), (2, .int ((v2 - (hi 49 (Int32.toNatClampNeg (v3)))))), (0, .ref 47)]) rfl rfl (List.mem_of_getElem? (i := 2) rfl) rfl rfl ?_
      refine EX.go (i := .goto (-37)) (len := 3) (pc1 := 4) (st1 := []) (hi1 := hi) (hl1 := hl) rfl ?_ (fun _ _ _ => rfl)
      obtain rfl := Option.some.inj h
      have hk : EX w0 ev 0 m_Script_turnAt 4 [(0, .ref 47), (2, .int ((v2 - (hi 49 (Int32.toNatClampNeg (v3)))))), (3, .int (v3 + 1))] [] (hi) (hl) OUT := hk
      exact EX.pick [2, 1, 0] hk rfl
    · refine EX.go (i := .if_icmp .ge 10) (len := 3) (pc1 := 22) (st1 := []) (hi1 := hi) (hl1 := hl) rfl ?_ (fun _ _ _ => if_neg c3)
      obtain rfl := Option.some.inj h
      have hk := hk.2 rfl
      have hk : EX w0 ev 0 m_Script_turnAt 22 [(0, .ref 47), (3, .int (v3))] [] (hi) (hl) OUT := hk
      exact EX.pick [0, 2] hk rfl
def f_Script_turnAt (N : Nat) (p1 : Int32) (hi : HI) (hl : HL) : Option (Int32 × HI × HL) :=
  (lpN (fun s => B_Script_turnAt_4 N s.1 s.2.1 s.2.2.1 s.2.2.2) N (p1, 0, hi, hl)).bind fun x5 => if x5.1 = 0 then some (0, x5.2.2.1, x5.2.2.2) else if (x5.2.1 : Int32) < 0 ∨ 12 ≤ Int32.toNatClampNeg (x5.2.1) then none else some (x5.2.2.1 48 (Int32.toNatClampNeg (x5.2.1)), x5.2.2.1, x5.2.2.2)
set_option maxRecDepth 10000 in
set_option maxHeartbeats 4000000 in
theorem b_Script_turnAt (ev : EV) {N : Nat} {p1 : Int32} {hi : HI} {hl : HL} {o : Int32 × HI × HL} (h : f_Script_turnAt N p1 hi hl = some o) : EM w0 ev 1 m_Script_turnAt [.ref 47, .int (p1)] hi hl (oI o) := by
  unfold f_Script_turnAt at h
  refine EM.of rfl ?_
  show EX w0 ev 0 m_Script_turnAt 0 [(0, .ref 47), (1, .int (p1))] [] (hi) (hl) (oI o)
  refine EX.iload_n (x := p1) rfl (List.mem_of_getElem? (i := 1) rfl) ?_
  refine EX.istore_n (req1 := [(2, .int (p1)), (0, .ref 47), (1, .int (p1))]) rfl rfl rfl ?_
  refine EX.iconst (v := 0) rfl rfl ?_
  refine EX.istore_n (req1 := [(3, .int (0)), (2, .int (p1)), (0, .ref 47), (1, .int (p1))]) rfl rfl rfl ?_
  obtain ⟨x5, hx5, h⟩ := bnd_some h
  refine EX.pick [2, 1, 0] ?_ rfl
  refine lp_sound (f := fun s => B_Script_turnAt_4 N s.1 s.2.1 s.2.2.1 s.2.2.2) (PS := fun s => EX w0 ev 0 m_Script_turnAt 4 [(0, .ref 47), (2, .int (s.1)), (3, .int (s.2.1))] [] (s.2.2.1) (s.2.2.2) (oI o)) (PX := fun x => (x.1 = 0 → EX w0 ev 0 m_Script_turnAt 44 [] [] (x.2.2.1) (x.2.2.2) (oI o)) ∧ (x.1 = 1 → EX w0 ev 0 m_Script_turnAt 22 [(0, .ref 47), (3, .int (x.2.1))] [] (x.2.2.1) (x.2.2.2) (oI o))) ?_ N _ x5 hx5 ?_
  · exact fun s z hz hk => bB_Script_turnAt_4 ev hz hk
  rcases ite_some h with ⟨c6, h⟩ | ⟨c6, h⟩
  · refine ⟨fun _ => ?_, fun e9 => absurd (c6.symm.trans e9) (by decide)⟩
    show EX w0 ev 0 m_Script_turnAt 44 [] [] (x5.2.2.1) (x5.2.2.2) (oI o)
    refine EX.iconst (v := 0) rfl rfl ?_
    obtain rfl := Option.some.inj h
    exact EX.iret rfl rfl
  · refine ⟨fun e9 => absurd e9 c6, fun _ => ?_⟩
    show EX w0 ev 0 m_Script_turnAt 22 [(0, .ref 47), (3, .int (x5.2.1))] [] (x5.2.2.1) (x5.2.2.2) (oI o)
    refine EX.aload_n (x := 47) rfl (List.mem_of_getElem? (i := 0) rfl) ?_
    refine EX.go (i := .getfield 9) (len := 3) (pc1 := 26) (st1 := [.ref 48]) (hi1 := x5.2.2.1) (hl1 := x5.2.2.2) rfl ?_ (fun _ _ _ => rfl)
    refine EX.iload_n (x := x5.2.1) rfl (List.mem_of_getElem? (i := 1) rfl) ?_
    obtain ⟨g7, h⟩ := grd_some h
    refine EX.iaload rfl rfl g7 ?_
    obtain rfl := Option.some.inj h
    exact EX.iret rfl rfl
def J_Script_linesSeen_26 (N : Nat) (v1 : Int32) (v2 : Int32) (hi : HI) (hl : HL) : Option ((Int32 × Int32 × HI × HL) ⊕ (Int32 × HI × HL)) :=
  some (.inl (v1, v2 + 1, hi, hl))
set_option maxRecDepth 10000 in
set_option maxHeartbeats 4000000 in
theorem bJ_Script_linesSeen_26 (ev : EV) {N : Nat} {v1 : Int32} {v2 : Int32} {hi : HI} {hl : HL} {z : (Int32 × Int32 × HI × HL) ⊕ (Int32 × HI × HL)} {OUT : Option Value × HI × HL} (h : J_Script_linesSeen_26 N v1 v2 hi hl = some z) (hk : Sum.elim (fun s => EX w0 ev 0 m_Script_linesSeen 4 [(0, .ref 47), (1, .int (s.1)), (2, .int (s.2.1))] [] (s.2.2.1) (s.2.2.2) OUT) (fun x => EX w0 ev 0 m_Script_linesSeen 32 [(1, .int (x.1))] [] (x.2.1) (x.2.2) OUT) z) : EX w0 ev 0 m_Script_linesSeen 26 [(0, .ref 47), (1, .int (v1)), (2, .int (v2))] [] (hi) (hl) OUT := by
  unfold J_Script_linesSeen_26 at h
  refine EX.iinc (x := v2) (v := v2 + 1) (req1 := [(2, .int (v2 + 1)), (0, .ref 47), (1, .int (v1))]) rfl rfl (List.mem_of_getElem? (i := 2) rfl) rfl rfl ?_
  refine EX.go (i := .goto (-25)) (len := 3) (pc1 := 4) (st1 := []) (hi1 := hi) (hl1 := hl) rfl ?_ (fun _ _ _ => rfl)
  obtain rfl := Option.some.inj h
  have hk : EX w0 ev 0 m_Script_linesSeen 4 [(0, .ref 47), (1, .int (v1)), (2, .int (v2 + 1))] [] (hi) (hl) OUT := hk
  exact EX.pick [1, 2, 0] hk rfl
def B_Script_linesSeen_4 (N : Nat) (v1 : Int32) (v2 : Int32) (hi : HI) (hl : HL) : Option ((Int32 × Int32 × HI × HL) ⊕ (Int32 × HI × HL)) :=
  if (hi 47 0 : Int32) ≤ (v2 : Int32) then some (.inr (v1, hi, hl)) else if (v2 : Int32) < 0 ∨ 12 ≤ Int32.toNatClampNeg (v2) then none else if (hi 50 (Int32.toNatClampNeg (v2)) : Int32) = ((-4) : Int32) then J_Script_linesSeen_26 N (v1) (v2) (hi) (hl) else J_Script_linesSeen_26 N (v1 + 1) (v2) (hi) (hl)
set_option maxRecDepth 10000 in
set_option maxHeartbeats 4000000 in
theorem bB_Script_linesSeen_4 (ev : EV) {N : Nat} {v1 : Int32} {v2 : Int32} {hi : HI} {hl : HL} {z : (Int32 × Int32 × HI × HL) ⊕ (Int32 × HI × HL)} {OUT : Option Value × HI × HL} (h : B_Script_linesSeen_4 N v1 v2 hi hl = some z) (hk : Sum.elim (fun s => EX w0 ev 0 m_Script_linesSeen 4 [(0, .ref 47), (1, .int (s.1)), (2, .int (s.2.1))] [] (s.2.2.1) (s.2.2.2) OUT) (fun x => EX w0 ev 0 m_Script_linesSeen 32 [(1, .int (x.1))] [] (x.2.1) (x.2.2) OUT) z) : EX w0 ev 0 m_Script_linesSeen 4 [(0, .ref 47), (1, .int (v1)), (2, .int (v2))] [] (hi) (hl) OUT := by
  unfold B_Script_linesSeen_4 at h
  refine EX.iload_n (x := v2) rfl (List.mem_of_getElem? (i := 2) rfl) ?_
  refine EX.aload_n (x := 47) rfl (List.mem_of_getElem? (i := 0) rfl) ?_
  refine EX.go (i := .getfield 27) (len := 3) (pc1 := 9) (st1 := [.int (hi 47 0), .int (v2)]) (hi1 := hi) (hl1 := hl) rfl ?_ (fun _ _ _ => rfl)
  rcases ite_some h with ⟨c1, h⟩ | ⟨c1, h⟩
  · refine EX.go (i := .if_icmp .ge 23) (len := 3) (pc1 := 32) (st1 := []) (hi1 := hi) (hl1 := hl) rfl ?_ (fun _ _ _ => if_pos c1)
    obtain rfl := Option.some.inj h
    have hk : EX w0 ev 0 m_Script_linesSeen 32 [(1, .int (v1))] [] (hi) (hl) OUT := hk
    exact EX.pick [1] hk rfl
  · refine EX.go (i := .if_icmp .ge 23) (len := 3) (pc1 := 12) (st1 := []) (hi1 := hi) (hl1 := hl) rfl ?_ (fun _ _ _ => if_neg c1)
    refine EX.aload_n (x := 47) rfl (List.mem_of_getElem? (i := 0) rfl) ?_
    refine EX.go (i := .getfield 18) (len := 3) (pc1 := 16) (st1 := [.ref 50]) (hi1 := hi) (hl1 := hl) rfl ?_ (fun _ _ _ => rfl)
    refine EX.iload_n (x := v2) rfl (List.mem_of_getElem? (i := 2) rfl) ?_
    obtain ⟨g2, h⟩ := grd_some h
    refine EX.iaload rfl rfl g2 ?_
    refine EX.bipush (v := (-4)) rfl rfl ?_
    rcases ite_some h with ⟨c3, h⟩ | ⟨c3, h⟩
    · refine EX.go (i := .if_icmp .eq 6) (len := 3) (pc1 := 26) (st1 := []) (hi1 := hi) (hl1 := hl) rfl ?_ (fun _ _ _ => if_pos c3)
      refine EX.pick [0, 1, 2] ?_ rfl
      exact bJ_Script_linesSeen_26 ev h hk
    · refine EX.go (i := .if_icmp .eq 6) (len := 3) (pc1 := 23) (st1 := []) (hi1 := hi) (hl1 := hl) rfl ?_ (fun _ _ _ => if_neg c3)
      refine EX.iinc (x := v1) (v := v1 + 1) (req1 := [(1, .int (v1 + 1)), (0, .ref 47), (2, .int (v2))]) rfl rfl (List.mem_of_getElem? (i := 1) rfl) rfl rfl ?_
      refine EX.pick [1, 0, 2] ?_ rfl
      exact bJ_Script_linesSeen_26 ev h hk
def f_Script_linesSeen (N : Nat) (hi : HI) (hl : HL) : Option (Int32 × HI × HL) :=
  (lpN (fun s => B_Script_linesSeen_4 N s.1 s.2.1 s.2.2.1 s.2.2.2) N (0, 0, hi, hl)).bind fun x4 => some (x4.1, x4.2.1, x4.2.2)
set_option maxRecDepth 10000 in
set_option maxHeartbeats 4000000 in
theorem b_Script_linesSeen (ev : EV) {N : Nat} {hi : HI} {hl : HL} {o : Int32 × HI × HL} (h : f_Script_linesSeen N hi hl = some o) : EM w0 ev 1 m_Script_linesSeen [.ref 47] hi hl (oI o) := by
  unfold f_Script_linesSeen at h
  refine EM.of rfl ?_
  show EX w0 ev 0 m_Script_linesSeen 0 [(0, .ref 47)] [] (hi) (hl) (oI o)
  refine EX.iconst (v := 0) rfl rfl ?_
  refine EX.istore_n (req1 := [(1, .int (0)), (0, .ref 47)]) rfl rfl rfl ?_
  refine EX.iconst (v := 0) rfl rfl ?_
  refine EX.istore_n (req1 := [(2, .int (0)), (1, .int (0)), (0, .ref 47)]) rfl rfl rfl ?_
  obtain ⟨x4, hx4, h⟩ := bnd_some h
  refine EX.pick [2, 1, 0] ?_ rfl
  refine lp_sound (f := fun s => B_Script_linesSeen_4 N s.1 s.2.1 s.2.2.1 s.2.2.2) (PS := fun s => EX w0 ev 0 m_Script_linesSeen 4 [(0, .ref 47), (1, .int (s.1)), (2, .int (s.2.1))] [] (s.2.2.1) (s.2.2.2) (oI o)) (PX := fun x => EX w0 ev 0 m_Script_linesSeen 32 [(1, .int (x.1))] [] (x.2.1) (x.2.2) (oI o)) ?_ N _ x4 hx4 ?_
  · exact fun s z hz hk => bB_Script_linesSeen_4 ev hz hk
  show EX w0 ev 0 m_Script_linesSeen 32 [(1, .int (x4.1))] [] (x4.2.1) (x4.2.2) (oI o)
  refine EX.iload_n (x := x4.1) rfl (List.mem_of_getElem? (i := 0) rfl) ?_
  obtain rfl := Option.some.inj h
  exact EX.iret rfl rfl
def f_Sheet_renew (N : Nat) (p0 : Nat) (p1 : Int32) (p2 : Int32) (hi : HI) (hl : HL) : Option (Unit × HI × HL) :=
  if gS (p0) then (f_Arrays_fill_I N (p0 + 1) (0) (wr (wr (hi) (p0) 0 (p1)) (p0) 1 (p2)) (hl)).bind fun z1 => some ((), z1.2.1, z1.2.2) else none
set_option maxRecDepth 10000 in
set_option maxHeartbeats 4000000 in
theorem b_Sheet_renew (ev : EV) {N : Nat} {p0 : Nat} {p1 : Int32} {p2 : Int32} {hi : HI} {hl : HL} {o : Unit × HI × HL} (h : f_Sheet_renew N p0 p1 p2 hi hl = some o) : EM w0 ev 2 m_Sheet_renew [.ref (p0), .int (p1), .int (p2)] hi hl (oV o) := by
  unfold f_Sheet_renew at h
  refine EM.of rfl ?_
  show EX w0 ev 1 m_Sheet_renew 0 [(0, .ref (p0)), (1, .int (p1)), (2, .int (p2))] [] (hi) (hl) (oV o)
  refine EX.aload_n (x := p0) rfl (List.mem_of_getElem? (i := 0) rfl) ?_
  refine EX.iload_n (x := p1) rfl (List.mem_of_getElem? (i := 1) rfl) ?_
  obtain ⟨k_p0, h⟩ := grp_some h
  refine EX.putfieldV (k := 0) rfl rfl k_p0.1 rfl rfl (Or.inl rfl) ?_
  refine EX.aload_n (x := p0) rfl (List.mem_of_getElem? (i := 0) rfl) ?_
  refine EX.iload_n (x := p2) rfl (List.mem_of_getElem? (i := 2) rfl) ?_
  refine EX.putfieldV (k := 1) rfl rfl k_p0.1 rfl rfl (Or.inl rfl) ?_
  refine EX.aload_n (x := p0) rfl (List.mem_of_getElem? (i := 0) rfl) ?_
  refine EX.getfieldV (v := .ref (p0 + 1)) rfl rfl k_p0.1 rfl rfl ?_
  refine EX.iconst (v := 0) rfl rfl ?_
  obtain ⟨z1, hz1, h⟩ := bnd_some h
  refine EX.callS (as := [.ref (p0 + 1), .int (0)]) (rest := []) (r := none) (hi1 := z1.2.1) (hl1 := z1.2.2) rfl rfl rfl rfl rfl rfl ((b_Arrays_fill_I ev hz1).mono (by decide)) ?_
  show EX w0 ev 1 m_Sheet_renew 18 [(0, .ref (p0)), (1, .int (p1)), (2, .int (p2))] [] (z1.2.1) (z1.2.2) (oV o)
  obtain rfl := Option.some.inj h
  exact EX.vret rfl rfl
def J_Sheet_isCell_16 (N : Nat) (hi : HI) (hl : HL) : Option (Int32 × HI × HL) :=
  some (0, hi, hl)
set_option maxRecDepth 10000 in
set_option maxHeartbeats 4000000 in
theorem bJ_Sheet_isCell_16 (ev : EV) {N : Nat} {hi : HI} {hl : HL} {o : Int32 × HI × HL} (h : J_Sheet_isCell_16 N hi hl = some o) : EX w0 ev 0 m_Sheet_isCell 16 [] [] (hi) (hl) (oI o) := by
  unfold J_Sheet_isCell_16 at h
  refine EX.iconst (v := 0) rfl rfl ?_
  obtain rfl := Option.some.inj h
  exact EX.zret rfl rfl (Or.inl rfl)
def f_Sheet_isCell (N : Nat) (p0 : Nat) (p1 : Int32) (hi : HI) (hl : HL) : Option (Int32 × HI × HL) :=
  if (p1 : Int32) < 0 then J_Sheet_isCell_16 N (hi) (hl) else if gS (p0) then if (hi (p0) 1 : Int32) ≤ (p1 : Int32) then J_Sheet_isCell_16 N (hi) (hl) else some (1, hi, hl) else none
set_option maxRecDepth 10000 in
set_option maxHeartbeats 4000000 in
theorem b_Sheet_isCell (ev : EV) {N : Nat} {p0 : Nat} {p1 : Int32} {hi : HI} {hl : HL} {o : Int32 × HI × HL} (h : f_Sheet_isCell N p0 p1 hi hl = some o) : EM w0 ev 1 m_Sheet_isCell [.ref (p0), .int (p1)] hi hl (oI o) := by
  unfold f_Sheet_isCell at h
  refine EM.of rfl ?_
  show EX w0 ev 0 m_Sheet_isCell 0 [(0, .ref (p0)), (1, .int (p1))] [] (hi) (hl) (oI o)
  refine EX.iload_n (x := p1) rfl (List.mem_of_getElem? (i := 1) rfl) ?_
  rcases ite_some h with ⟨c1, h⟩ | ⟨c1, h⟩
  · refine EX.go (i := .ifCond .lt 15) (len := 3) (pc1 := 16) (st1 := []) (hi1 := hi) (hl1 := hl) rfl ?_ (fun _ _ _ => if_pos c1)
    refine EX.pick [] ?_ rfl
    exact bJ_Sheet_isCell_16 ev h
  · refine EX.go (i := .ifCond .lt 15) (len := 3) (pc1 := 4) (st1 := []) (hi1 := hi) (hl1 := hl) rfl ?_ (fun _ _ _ => if_neg c1)
    refine EX.iload_n (x := p1) rfl (List.mem_of_getElem? (i := 1) rfl) ?_
    refine EX.aload_n (x := p0) rfl (List.mem_of_getElem? (i := 0) rfl) ?_
    obtain ⟨k_p0, h⟩ := grp_some h
    refine EX.getfieldV (v := .int (hi (p0) 1)) rfl rfl k_p0.1 rfl rfl ?_
    rcases ite_some h with ⟨c2, h⟩ | ⟨c2, h⟩
    · refine EX.go (i := .if_icmp .ge 7) (len := 3) (pc1 := 16) (st1 := []) (hi1 := hi) (hl1 := hl) rfl ?_ (fun _ _ _ => if_pos c2)
      refine EX.pick [] ?_ rfl
      exact bJ_Sheet_isCell_16 ev h
    · refine EX.go (i := .if_icmp .ge 7) (len := 3) (pc1 := 12) (st1 := []) (hi1 := hi) (hl1 := hl) rfl ?_ (fun _ _ _ => if_neg c2)
      refine EX.iconst (v := 1) rfl rfl ?_
      refine EX.go (i := .goto 4) (len := 3) (pc1 := 17) (st1 := [.int (1)]) (hi1 := hi) (hl1 := hl) rfl ?_ (fun _ _ _ => rfl)
      obtain rfl := Option.some.inj h
      exact EX.zret rfl rfl (Or.inr rfl)
def f_Sheet_put (N : Nat) (p0 : Nat) (p1 : Int32) (p2 : Int32) (hi : HI) (hl : HL) : Option (Unit × HI × HL) :=
  if gS (p0) then if (hi (p0) 0 : Int32) = 0 then if (p1 : Int32) < 0 ∨ 40 ≤ Int32.toNatClampNeg (p1) then none else some ((), wr (hi) (p0 + 1) (Int32.toNatClampNeg (p1)) ((Int32.toInt8 (p2)).toInt32), hl) else if (hi (p0) 0 : Int32) = (1 : Int32) then if (p1 : Int32) < 0 ∨ 40 ≤ Int32.toNatClampNeg (p1) then none else some ((), wr (hi) (p0 + 1) (Int32.toNatClampNeg (p1)) ((Int32.toInt16 (p2)).toInt32), hl) else if (p1 : Int32) < 0 ∨ 40 ≤ Int32.toNatClampNeg (p1) then none else some ((), wr (hi) (p0 + 1) (Int32.toNatClampNeg (p1)) (p2), hl) else none
set_option maxRecDepth 10000 in
set_option maxHeartbeats 4000000 in
theorem b_Sheet_put (ev : EV) {N : Nat} {p0 : Nat} {p1 : Int32} {p2 : Int32} {hi : HI} {hl : HL} {o : Unit × HI × HL} (h : f_Sheet_put N p0 p1 p2 hi hl = some o) : EM w0 ev 1 m_Sheet_put [.ref (p0), .int (p1), .int (p2)] hi hl (oV o) := by
  unfold f_Sheet_put at h
  refine EM.of rfl ?_
  show EX w0 ev 0 m_Sheet_put 0 [(0, .ref (p0)), (1, .int (p1)), (2, .int (p2))] [] (hi) (hl) (oV o)
  refine EX.aload_n (x := p0) rfl (List.mem_of_getElem? (i := 0) rfl) ?_
  obtain ⟨k_p0, h⟩ := grp_some h
  refine EX.getfieldV (v := .ref (p0 + 1)) rfl rfl k_p0.1 rfl rfl ?_
  refine EX.iload_n (x := p1) rfl (List.mem_of_getElem? (i := 1) rfl) ?_
  refine EX.aload_n (x := p0) rfl (List.mem_of_getElem? (i := 0) rfl) ?_
  refine EX.getfieldV (v := .int (hi (p0) 0)) rfl rfl k_p0.1 rfl rfl ?_
  rcases ite_some h with ⟨c1, h⟩ | ⟨c1, h⟩
  · refine EX.go (i := .ifCond .ne 8) (len := 3) (pc1 := 12) (st1 := [.int (p1), .ref (p0 + 1)]) (hi1 := hi) (hl1 := hl) rfl ?_ (fun _ _ _ => if_pos c1)
    refine EX.iload_n (x := p2) rfl (List.mem_of_getElem? (i := 2) rfl) ?_
    refine EX.go (i := .i2b) (len := 1) (pc1 := 14) (st1 := [.int ((Int32.toInt8 (p2)).toInt32), .int (p1), .ref (p0 + 1)]) (hi1 := hi) (hl1 := hl) rfl ?_ (fun _ _ _ => rfl)
    refine EX.go (i := .goto 17) (len := 3) (pc1 := 31) (st1 := [.int ((Int32.toInt8 (p2)).toInt32), .int (p1), .ref (p0 + 1)]) (hi1 := hi) (hl1 := hl) rfl ?_ (fun _ _ _ => rfl)
    obtain ⟨g2, h⟩ := grd_some h
    refine EX.iastore rfl k_p0.2 g2 ?_
    obtain rfl := Option.some.inj h
    exact EX.vret rfl rfl
  · refine EX.go (i := .ifCond .ne 8) (len := 3) (pc1 := 17) (st1 := [.int (p1), .ref (p0 + 1)]) (hi1 := hi) (hl1 := hl) rfl ?_ (fun _ _ _ => if_neg c1)
    refine EX.aload_n (x := p0) rfl (List.mem_of_getElem? (i := 0) rfl) ?_
    refine EX.getfieldV (v := .int (hi (p0) 0)) rfl rfl k_p0.1 rfl rfl ?_
    refine EX.iconst (v := 1) rfl rfl ?_
    rcases ite_some h with ⟨c3, h⟩ | ⟨c3, h⟩
    · refine EX.go (i := .if_icmp .ne 8) (len := 3) (pc1 := 25) (st1 := [.int (p1), .ref (p0 + 1)]) (hi1 := hi) (hl1 := hl) rfl ?_ (fun _ _ _ => if_pos c3)
      refine EX.iload_n (x := p2) rfl (List.mem_of_getElem? (i := 2) rfl) ?_
      refine EX.go (i := .i2s) (len := 1) (pc1 := 27) (st1 := [.int ((Int32.toInt16 (p2)).toInt32), .int (p1), .ref (p0 + 1)]) (hi1 := hi) (hl1 := hl) rfl ?_ (fun _ _ _ => rfl)
      refine EX.go (i := .goto 4) (len := 3) (pc1 := 31) (st1 := [.int ((Int32.toInt16 (p2)).toInt32), .int (p1), .ref (p0 + 1)]) (hi1 := hi) (hl1 := hl) rfl ?_ (fun _ _ _ => rfl)
      obtain ⟨g4, h⟩ := grd_some h
      refine EX.iastore rfl k_p0.2 g4 ?_
      obtain rfl := Option.some.inj h
      exact EX.vret rfl rfl
    · refine EX.go (i := .if_icmp .ne 8) (len := 3) (pc1 := 30) (st1 := [.int (p1), .ref (p0 + 1)]) (hi1 := hi) (hl1 := hl) rfl ?_ (fun _ _ _ => if_neg c3)
      refine EX.iload_n (x := p2) rfl (List.mem_of_getElem? (i := 2) rfl) ?_
      obtain ⟨g5, h⟩ := grd_some h
      refine EX.iastore rfl k_p0.2 g5 ?_
      obtain rfl := Option.some.inj h
      exact EX.vret rfl rfl
def B_Tape_append_2 (N : Nat) (v1 : Int64) (v3 : Int32) (hi : HI) (hl : HL) : Option ((Int32 × HI × HL) ⊕ (HI × HL)) :=
  if (8 : Int32) ≤ (v3 : Int32) then some (.inr (hi, hl)) else if (hi 43 0 : Int32) < 0 ∨ 200 ≤ Int32.toNatClampNeg (hi 43 0) then none else some (.inl (v3 + 1, wr (wr (hi) 46 (Int32.toNatClampNeg (hi 43 0)) (Int32.toInt8 ((Int32.toInt8 ((Int64.toInt32 (((Int64.toUInt64 v1 >>> ((Int32.toInt64 (((56 : Int32) - (((8 : Int32) * v3))))).toUInt64 &&& Int64.toUInt64 63)).toInt64))))).toInt32)).toInt32) 43 0 ((((wr (hi) 46 (Int32.toNatClampNeg (hi 43 0)) (Int32.toInt8 ((Int32.toInt8 ((Int64.toInt32 (((Int64.toUInt64 v1 >>> ((Int32.toInt64 (((56 : Int32) - (((8 : Int32) * v3))))).toUInt64 &&& Int64.toUInt64 63)).toInt64))))).toInt32)).toInt32) 43 0 : Int32) + (1))), hl))
set_option maxRecDepth 10000 in
set_option maxHeartbeats 4000000 in
theorem bB_Tape_append_2 (ev : EV) {N : Nat} {v1 : Int64} {v3 : Int32} {hi : HI} {hl : HL} {z : (Int32 × HI × HL) ⊕ (HI × HL)} {OUT : Option Value × HI × HL} (h : B_Tape_append_2 N v1 v3 hi hl = some z) (hk : Sum.elim (fun s => EX w0 ev 0 m_Tape_append 2 [(0, .ref 43), (1, .long (v1)), (3, .int (s.1))] [] (s.2.1) (s.2.2) OUT) (fun x => EX w0 ev 0 m_Tape_append 44 [] [] (x.1) (x.2) OUT) z) : EX w0 ev 0 m_Tape_append 2 [(0, .ref 43), (1, .long (v1)), (3, .int (v3))] [] (hi) (hl) OUT := by
  unfold B_Tape_append_2 at h
  refine EX.iload_n (x := v3) rfl (List.mem_of_getElem? (i := 2) rfl) ?_
  refine EX.bipush (v := 8) rfl rfl ?_
  rcases ite_some h with ⟨c1, h⟩ | ⟨c1, h⟩
  · refine EX.go (i := .if_icmp .ge 39) (len := 3) (pc1 := 44) (st1 := []) (hi1 := hi) (hl1 := hl) rfl ?_ (fun _ _ _ => if_pos c1)
    obtain rfl := Option.some.inj h
    have hk : EX w0 ev 0 m_Tape_append 44 [] [] (hi) (hl) OUT := hk
    exact EX.pick [] hk rfl
  · refine EX.go (i := .if_icmp .ge 39) (len := 3) (pc1 := 8) (st1 := []) (hi1 := hi) (hl1 := hl) rfl ?_ (fun _ _ _ => if_neg c1)
    refine EX.aload_n (x := 43) rfl (List.mem_of_getElem? (i := 0) rfl) ?_
    refine EX.go (i := .getfield 18) (len := 3) (pc1 := 12) (st1 := [.ref 46]) (hi1 := hi) (hl1 := hl) rfl ?_ (fun _ _ _ => rfl)
    refine EX.aload_n (x := 43) rfl (List.mem_of_getElem? (i := 0) rfl) ?_
    refine EX.go (i := .getfield 22) (len := 3) (pc1 := 16) (st1 := [.int (hi 43 0), .ref 46]) (hi1 := hi) (hl1 := hl) rfl ?_ (fun _ _ _ => rfl)
    refine EX.lload_n (x := v1) rfl (List.mem_of_getElem? (i := 1) rfl) ?_
    refine EX.bipush (v := 56) rfl rfl ?_
    refine EX.bipush (v := 8) rfl rfl ?_
    refine EX.iload_n (x := v3) rfl (List.mem_of_getElem? (i := 2) rfl) ?_
    refine EX.go (i := .imul) (len := 1) (pc1 := 23) (st1 := [.int (((8 : Int32) * v3)), .int (56), .long (v1), .int (hi 43 0), .ref 46]) (hi1 := hi) (hl1 := hl) rfl ?_ (fun _ _ _ => rfl)
    refine EX.go (i := .isub) (len := 1) (pc1 := 24) (st1 := [.int (((56 : Int32) - (((8 : Int32) * v3)))), .long (v1), .int (hi 43 0), .ref 46]) (hi1 := hi) (hl1 := hl) rfl ?_ (fun _ _ _ => rfl)
    refine EX.go (i := .lushr) (len := 1) (pc1 := 25) (st1 := [.long (((Int64.toUInt64 v1 >>> ((Int32.toInt64 (((56 : Int32) - (((8 : Int32) * v3))))).toUInt64 &&& Int64.toUInt64 63)).toInt64)), .int (hi 43 0), .ref 46]) (hi1 := hi) (hl1 := hl) rfl ?_ (fun _ _ _ => rfl)
    refine EX.go (i := .l2i) (len := 1) (pc1 := 26) (st1 := [.int ((Int64.toInt32 (((Int64.toUInt64 v1 >>> ((Int32.toInt64 (((56 : Int32) - (((8 : Int32) * v3))))).toUInt64 &&& Int64.toUInt64 63)).toInt64)))), .int (hi 43 0), .ref 46]) (hi1 := hi) (hl1 := hl) rfl ?_ (fun _ _ _ => rfl)
    refine EX.go (i := .i2b) (len := 1) (pc1 := 27) (st1 := [.int ((Int32.toInt8 ((Int64.toInt32 (((Int64.toUInt64 v1 >>> ((Int32.toInt64 (((56 : Int32) - (((8 : Int32) * v3))))).toUInt64 &&& Int64.toUInt64 63)).toInt64))))).toInt32), .int (hi 43 0), .ref 46]) (hi1 := hi) (hl1 := hl) rfl ?_ (fun _ _ _ => rfl)
    obtain ⟨g2, h⟩ := grd_some h
    refine EX.bastore rfl rfl g2 ?_
    refine EX.aload_n (x := 43) rfl (List.mem_of_getElem? (i := 0) rfl) ?_
    refine EX.go (i := .dup) (len := 1) (pc1 := 30) (st1 := [.ref 43, .ref 43]) (hi1 := wr (hi) 46 (Int32.toNatClampNeg (hi 43 0)) (Int32.toInt8 ((Int32.toInt8 ((Int64.toInt32 (((Int64.toUInt64 v1 >>> ((Int32.toInt64 (((56 : Int32) - (((8 : Int32) * v3))))).toUInt64 &&& Int64.toUInt64 63)).toInt64))))).toInt32)).toInt32) (hl1 := hl) rfl ?_ (fun _ _ _ => rfl)
    refine EX.go (i := .getfield 22) (len := 3) (pc1 := 33) (st1 := [.int ((wr (hi) 46 (Int32.toNatClampNeg (hi 43 0)) (Int32.toInt8 ((Int32.toInt8 ((Int64.toInt32 (((Int64.toUInt64 v1 >>> ((Int32.toInt64 (((56 : Int32) - (((8 : Int32) * v3))))).toUInt64 &&& Int64.toUInt64 63)).toInt64))))).toInt32)).toInt32) 43 0), .ref 43]) (hi1 := wr (hi) 46 (Int32.toNatClampNeg (hi 43 0)) (Int32.toInt8 ((Int32.toInt8 ((Int64.toInt32 (((Int64.toUInt64 v1 >>> ((Int32.toInt64 (((56 : Int32) - (((8 : Int32) * v3))))).toUInt64 &&& Int64.toUInt64 63)).toInt64))))).toInt32)).toInt32) (hl1 := hl) rfl ?_ (fun _ _ _ => rfl)
    refine EX.iconst (v := 1) rfl rfl ?_
    refine EX.go (i := .iadd) (len := 1) (pc1 := 35) (st1 := [.int ((((wr (hi) 46 (Int32.toNatClampNeg (hi 43 0)) (Int32.toInt8 ((Int32.toInt8 ((Int64.toInt32 (((Int64.toUInt64 v1 >>> ((Int32.toInt64 (((56 : Int32) - (((8 : Int32) * v3))))).toUInt64 &&& Int64.toUInt64 63)).toInt64))))).toInt32)).toInt32) 43 0 : Int32) + (1))), .ref 43]) (hi1 := wr (hi) 46 (Int32.toNatClampNeg (hi 43 0)) (Int32.toInt8 ((Int32.toInt8 ((Int64.toInt32 (((Int64.toUInt64 v1 >>> ((Int32.toInt64 (((56 : Int32) - (((8 : Int32) * v3))))).toUInt64 &&& Int64.toUInt64 63)).toInt64))))).toInt32)).toInt32) (hl1 := hl) rfl ?_ (fun _ _ _ => rfl)
    refine EX.go (i := .putfield 22) (len := 3) (pc1 := 38) (st1 := []) (hi1 := wr (wr (hi) 46 (Int32.toNatClampNeg (hi 43 0)) (Int32.toInt8 ((Int32.toInt8 ((Int64.toInt32 (((Int64.toUInt64 v1 >>> ((Int32.toInt64 (((56 : Int32) - (((8 : Int32) * v3))))).toUInt64 &&& Int64.toUInt64 63)).toInt64))))).toInt32)).toInt32) 43 0 ((((wr (hi) 46 (Int32.toNatClampNeg (hi 43 0)) (Int32.toInt8 ((Int32.toInt8 ((Int64.toInt32 (((Int64.toUInt64 v1 >>> ((Int32.toInt64 (((56 : Int32) - (((8 : Int32) * v3))))).toUInt64 &&& Int64.toUInt64 63)).toInt64))))).toInt32)).toInt32) 43 0 : Int32) + (1)))) (hl1 := hl) rfl ?_ (fun _ _ _ => rfl)
    refine EX.iinc (x := v3) (v := v3 + 1) (req1 := [(3, .int (v3 + 1)), (0, .ref 43), (1, .long (v1))]) rfl rfl (List.mem_of_getElem? (i := 2) rfl) rfl rfl ?_
    refine EX.go (i := .goto (-39)) (len := 3) (pc1 := 2) (st1 := []) (hi1 := wr (wr (hi) 46 (Int32.toNatClampNeg (hi 43 0)) (Int32.toInt8 ((Int32.toInt8 ((Int64.toInt32 (((Int64.toUInt64 v1 >>> ((Int32.toInt64 (((56 : Int32) - (((8 : Int32) * v3))))).toUInt64 &&& Int64.toUInt64 63)).toInt64))))).toInt32)).toInt32) 43 0 ((((wr (hi) 46 (Int32.toNatClampNeg (hi 43 0)) (Int32.toInt8 ((Int32.toInt8 ((Int64.toInt32 (((Int64.toUInt64 v1 >>> ((Int32.toInt64 (((56 : Int32) - (((8 : Int32) * v3))))).toUInt64 &&& Int64.toUInt64 63)).toInt64))))).toInt32)).toInt32) 43 0 : Int32) + (1)))) (hl1 := hl) rfl ?_ (fun _ _ _ => rfl)
    obtain rfl := Option.some.inj h
    have hk : EX w0 ev 0 m_Tape_append 2 [(0, .ref 43), (1, .long (v1)), (3, .int (v3 + 1))] [] (wr (wr (hi) 46 (Int32.toNatClampNeg (hi 43 0)) (Int32.toInt8 ((Int32.toInt8 ((Int64.toInt32 (((Int64.toUInt64 v1 >>> ((Int32.toInt64 (((56 : Int32) - (((8 : Int32) * v3))))).toUInt64 &&& Int64.toUInt64 63)).toInt64))))).toInt32)).toInt32) 43 0 ((((wr (hi) 46 (Int32.toNatClampNeg (hi 43 0)) (Int32.toInt8 ((Int32.toInt8 ((Int64.toInt32 (((Int64.toUInt64 v1 >>> ((Int32.toInt64 (((56 : Int32) - (((8 : Int32) * v3))))).toUInt64 &&& Int64.toUInt64 63)).toInt64))))).toInt32)).toInt32) 43 0 : Int32) + (1)))) (hl) OUT := hk
    exact EX.pick [1, 2, 0] hk rfl
def f_Tape_append (N : Nat) (p1 : Int64) (hi : HI) (hl : HL) : Option (Unit × HI × HL) :=
  (lpN (fun s => B_Tape_append_2 N (p1) s.1 s.2.1 s.2.2) N (0, hi, hl)).bind fun x3 => some ((), x3.1, x3.2)
set_option maxRecDepth 10000 in
set_option maxHeartbeats 4000000 in
theorem b_Tape_append (ev : EV) {N : Nat} {p1 : Int64} {hi : HI} {hl : HL} {o : Unit × HI × HL} (h : f_Tape_append N p1 hi hl = some o) : EM w0 ev 1 m_Tape_append [.ref 43, .long (p1)] hi hl (oV o) := by
  unfold f_Tape_append at h
  refine EM.of rfl ?_
  show EX w0 ev 0 m_Tape_append 0 [(0, .ref 43), (1, .long (p1))] [] (hi) (hl) (oV o)
  refine EX.iconst (v := 0) rfl rfl ?_
  refine EX.istore_n (req1 := [(3, .int (0)), (0, .ref 43), (1, .long (p1))]) rfl rfl rfl ?_
  obtain ⟨x3, hx3, h⟩ := bnd_some h
  refine EX.pick [1, 2, 0] ?_ rfl
  refine lp_sound (f := fun s => B_Tape_append_2 N (p1) s.1 s.2.1 s.2.2) (PS := fun s => EX w0 ev 0 m_Tape_append 2 [(0, .ref 43), (1, .long (p1)), (3, .int (s.1))] [] (s.2.1) (s.2.2) (oV o)) (PX := fun x => EX w0 ev 0 m_Tape_append 44 [] [] (x.1) (x.2) (oV o)) ?_ N _ x3 hx3 ?_
  · exact fun s z hz hk => bB_Tape_append_2 ev hz hk
  show EX w0 ev 0 m_Tape_append 44 [] [] (x3.1) (x3.2) (oV o)
  obtain rfl := Option.some.inj h
  exact EX.vret rfl rfl
def B_Tape_behindRun_3 (N : Nat) (v2 : Int32) (v3 : Int32) (v4 : Int32) (hi : HI) (hl : HL) : Option ((Int32 × HI × HL) ⊕ (Int32 × HI × HL)) :=
  if (hi 43 0 : Int32) ≤ (v4 : Int32) then some (.inr (v4, hi, hl)) else if (v4 : Int32) < 0 ∨ 200 ≤ Int32.toNatClampNeg (v4) then none else if (hi 46 (Int32.toNatClampNeg (v4)) : Int32) < (v2 : Int32) then some (.inr (v4, hi, hl)) else if (v4 : Int32) < 0 ∨ 200 ≤ Int32.toNatClampNeg (v4) then none else if (v3 : Int32) < (hi 46 (Int32.toNatClampNeg (v4)) : Int32) then some (.inr (v4, hi, hl)) else some (.inl (v4 + 1, hi, hl))
set_option maxRecDepth 10000 in
set_option maxHeartbeats 4000000 in
theorem bB_Tape_behindRun_3 (ev : EV) {N : Nat} {v2 : Int32} {v3 : Int32} {v4 : Int32} {hi : HI} {hl : HL} {z : (Int32 × HI × HL) ⊕ (Int32 × HI × HL)} {OUT : Option Value × HI × HL} (h : B_Tape_behindRun_3 N v2 v3 v4 hi hl = some z) (hk : Sum.elim (fun s => EX w0 ev 0 m_Tape_behindRun 3 [(0, .ref 43), (2, .int (v2)), (3, .int (v3)), (4, .int (s.1))] [] (s.2.1) (s.2.2) OUT) (fun x => EX w0 ev 0 m_Tape_behindRun 40 [(4, .int (x.1))] [] (x.2.1) (x.2.2) OUT) z) : EX w0 ev 0 m_Tape_behindRun 3 [(0, .ref 43), (2, .int (v2)), (3, .int (v3)), (4, .int (v4))] [] (hi) (hl) OUT := by
  unfold B_Tape_behindRun_3 at h
  refine EX.iload (x := v4) rfl (List.mem_of_getElem? (i := 3) rfl) ?_
  refine EX.aload_n (x := 43) rfl (List.mem_of_getElem? (i := 0) rfl) ?_
  refine EX.go (i := .getfield 22) (len := 3) (pc1 := 9) (st1 := [.int (hi 43 0), .int (v4)]) (hi1 := hi) (hl1 := hl) rfl ?_ (fun _ _ _ => rfl)
  rcases ite_some h with ⟨c1, h⟩ | ⟨c1, h⟩
  · refine EX.go (i := .if_icmp .ge 31) (len := 3) (pc1 := 40) (st1 := []) (hi1 := hi) (hl1 := hl) rfl ?_ (fun _ _ _ => if_pos c1)
    obtain rfl := Option.some.inj h
    have hk : EX w0 ev 0 m_Tape_behindRun 40 [(4, .int (v4))] [] (hi) (hl) OUT := hk
    exact EX.pick [3] hk rfl
  · refine EX.go (i := .if_icmp .ge 31) (len := 3) (pc1 := 12) (st1 := []) (hi1 := hi) (hl1 := hl) rfl ?_ (fun _ _ _ => if_neg c1)
    refine EX.aload_n (x := 43) rfl (List.mem_of_getElem? (i := 0) rfl) ?_
    refine EX.go (i := .getfield 18) (len := 3) (pc1 := 16) (st1 := [.ref 46]) (hi1 := hi) (hl1 := hl) rfl ?_ (fun _ _ _ => rfl)
    refine EX.iload (x := v4) rfl (List.mem_of_getElem? (i := 3) rfl) ?_
    obtain ⟨g2, h⟩ := grd_some h
    refine EX.baload rfl rfl g2 ?_
    refine EX.iload_n (x := v2) rfl (List.mem_of_getElem? (i := 1) rfl) ?_
    rcases ite_some h with ⟨c3, h⟩ | ⟨c3, h⟩
    · refine EX.go (i := .if_icmp .lt 20) (len := 3) (pc1 := 40) (st1 := []) (hi1 := hi) (hl1 := hl) rfl ?_ (fun _ _ _ => if_pos c3)
      obtain rfl := Option.some.inj h
      have hk : EX w0 ev 0 m_Tape_behindRun 40 [(4, .int (v4))] [] (hi) (hl) OUT := hk
      exact EX.pick [3] hk rfl
    · refine EX.go (i := .if_icmp .lt 20) (len := 3) (pc1 := 23) (st1 := []) (hi1 := hi) (hl1 := hl) rfl ?_ (fun _ _ _ => if_neg c3)
      refine EX.aload_n (x := 43) rfl (List.mem_of_getElem? (i := 0) rfl) ?_
      refine EX.go (i := .getfield 18) (len := 3) (pc1 := 27) (st1 := [.ref 46]) (hi1 := hi) (hl1 := hl) rfl ?_ (fun _ _ _ => rfl)
      refine EX.iload (x := v4) rfl (List.mem_of_getElem? (i := 3) rfl) ?_
      obtain ⟨g4, h⟩ := grd_some h
      refine EX.baload rfl rfl g4 ?_
      refine EX.iload_n (x := v3) rfl (List.mem_of_getElem? (i := 2) rfl) ?_
      rcases ite_some h with ⟨c5, h⟩ | ⟨c5, h⟩
      · refine EX.go (i := .if_icmp .gt 9) (len := 3) (pc1 := 40) (st1 := []) (hi1 := hi) (hl1 := hl) rfl ?_ (fun _ _ _ => if_pos c5)
        obtain rfl := Option.some.inj h
        have hk : EX w0 ev 0 m_Tape_behindRun 40 [(4, .int (v4))] [] (hi) (hl) OUT := hk
        exact EX.pick [3] hk rfl
      · refine EX.go (i := .if_icmp .gt 9) (len := 3) (pc1 := 34) (st1 := []) (hi1 := hi) (hl1 := hl) rfl ?_ (fun _ _ _ => if_neg c5)
        refine EX.iinc (x := v4) (v := v4 + 1) (req1 := [(4, .int (v4 + 1)), (0, .ref 43), (2, .int (v2)), (3, .int (v3))]) rfl rfl (List.mem_of_getElem? (i := 3) rfl) rfl rfl ?_
        refine EX.go (i := .goto (-34)) (len := 3) (pc1 := 3) (st1 := []) (hi1 := hi) (hl1 := hl) rfl ?_ (fun _ _ _ => rfl)
        obtain rfl := Option.some.inj h
        have hk : EX w0 ev 0 m_Tape_behindRun 3 [(0, .ref 43), (2, .int (v2)), (3, .int (v3)), (4, .int (v4 + 1))] [] (hi) (hl) OUT := hk
        exact EX.pick [1, 2, 3, 0] hk rfl
def f_Tape_behindRun (N : Nat) (p1 : Int32) (p2 : Int32) (p3 : Int32) (hi : HI) (hl : HL) : Option (Int32 × HI × HL) :=
  (lpN (fun s => B_Tape_behindRun_3 N (p2) (p3) s.1 s.2.1 s.2.2) N (p1, hi, hl)).bind fun x6 => some (x6.1, x6.2.1, x6.2.2)
set_option maxRecDepth 10000 in
set_option maxHeartbeats 4000000 in
theorem b_Tape_behindRun (ev : EV) {N : Nat} {p1 : Int32} {p2 : Int32} {p3 : Int32} {hi : HI} {hl : HL} {o : Int32 × HI × HL} (h : f_Tape_behindRun N p1 p2 p3 hi hl = some o) : EM w0 ev 1 m_Tape_behindRun [.ref 43, .int (p1), .int (p2), .int (p3)] hi hl (oI o) := by
  unfold f_Tape_behindRun at h
  refine EM.of rfl ?_
  show EX w0 ev 0 m_Tape_behindRun 0 [(0, .ref 43), (1, .int (p1)), (2, .int (p2)), (3, .int (p3))] [] (hi) (hl) (oI o)
  refine EX.iload_n (x := p1) rfl (List.mem_of_getElem? (i := 1) rfl) ?_
  refine EX.istore (req1 := [(4, .int (p1)), (0, .ref 43), (1, .int (p1)), (2, .int (p2)), (3, .int (p3))]) rfl rfl rfl ?_
  obtain ⟨x6, hx6, h⟩ := bnd_some h
  refine EX.pick [1, 3, 4, 0] ?_ rfl
  refine lp_sound (f := fun s => B_Tape_behindRun_3 N (p2) (p3) s.1 s.2.1 s.2.2) (PS := fun s => EX w0 ev 0 m_Tape_behindRun 3 [(0, .ref 43), (2, .int (p2)), (3, .int (p3)), (4, .int (s.1))] [] (s.2.1) (s.2.2) (oI o)) (PX := fun x => EX w0 ev 0 m_Tape_behindRun 40 [(4, .int (x.1))] [] (x.2.1) (x.2.2) (oI o)) ?_ N _ x6 hx6 ?_
  · exact fun s z hz hk => bB_Tape_behindRun_3 ev hz hk
  show EX w0 ev 0 m_Tape_behindRun 40 [(4, .int (x6.1))] [] (x6.2.1) (x6.2.2) (oI o)
  refine EX.iload (x := x6.1) rfl (List.mem_of_getElem? (i := 0) rfl) ?_
  obtain rfl := Option.some.inj h
  exact EX.iret rfl rfl
def f_Tape_refuse (N : Nat) (p1 : Int32) (hi : HI) (hl : HL) : Option (Int32 × HI × HL) :=
  some (0, wr (wr (hi) 43 1 (p1)) 43 2 ((wr (hi) 43 1 (p1)) 43 9), hl)
set_option maxRecDepth 10000 in
set_option maxHeartbeats 4000000 in
theorem b_Tape_refuse (ev : EV) {N : Nat} {p1 : Int32} {hi : HI} {hl : HL} {o : Int32 × HI × HL} (h : f_Tape_refuse N p1 hi hl = some o) : EM w0 ev 1 m_Tape_refuse [.ref 43, .int (p1)] hi hl (oI o) := by
  unfold f_Tape_refuse at h
  refine EM.of rfl ?_
  show EX w0 ev 0 m_Tape_refuse 0 [(0, .ref 43), (1, .int (p1))] [] (hi) (hl) (oI o)
  refine EX.aload_n (x := 43) rfl (List.mem_of_getElem? (i := 0) rfl) ?_
  refine EX.iload_n (x := p1) rfl (List.mem_of_getElem? (i := 1) rfl) ?_
  refine EX.go (i := .putfield 29) (len := 3) (pc1 := 5) (st1 := []) (hi1 := wr (hi) 43 1 (p1)) (hl1 := hl) rfl ?_ (fun _ _ _ => rfl)
  refine EX.aload_n (x := 43) rfl (List.mem_of_getElem? (i := 0) rfl) ?_
  refine EX.aload_n (x := 43) rfl (List.mem_of_getElem? (i := 0) rfl) ?_
  refine EX.go (i := .getfield 80) (len := 3) (pc1 := 10) (st1 := [.int ((wr (hi) 43 1 (p1)) 43 9), .ref 43]) (hi1 := wr (hi) 43 1 (p1)) (hl1 := hl) rfl ?_ (fun _ _ _ => rfl)
  refine EX.go (i := .putfield 32) (len := 3) (pc1 := 13) (st1 := []) (hi1 := wr (wr (hi) 43 1 (p1)) 43 2 ((wr (hi) 43 1 (p1)) 43 9)) (hl1 := hl) rfl ?_ (fun _ _ _ => rfl)
  refine EX.iconst (v := 0) rfl rfl ?_
  obtain rfl := Option.some.inj h
  exact EX.zret rfl rfl (Or.inl rfl)
def f_String_coder_s0 (N : Nat) (hi : HI) (hl : HL) : Option (Int32 × HI × HL) :=
  if (Int32.toInt8 (0)).toInt32 = 0 then some (0, hi, hl) else none
set_option maxRecDepth 10000 in
set_option maxHeartbeats 4000000 in
theorem b_String_coder_s0 (ev : EV) {N : Nat} {hi : HI} {hl : HL} {o : Int32 × HI × HL} (h : f_String_coder_s0 N hi hl = some o) : EM w0 ev 1 m_String_coder [.ref 1000002] hi hl (oI o) := by
  unfold f_String_coder_s0 at h
  refine EM.of rfl ?_
  show EX w0 ev 0 m_String_coder 0 [(0, .ref 1000002)] [] (hi) (hl) (oI o)
  refine EX.go (i := .getstatic 38) (len := 3) (pc1 := 3) (st1 := [.int (1)]) (hi1 := hi) (hl1 := hl) rfl ?_ (fun _ _ _ => rfl)
  refine EX.go (i := .ifCond .eq 10) (len := 3) (pc1 := 6) (st1 := []) (hi1 := hi) (hl1 := hl) rfl ?_ (fun _ _ _ => rfl)
  refine EX.aload_n (x := 1000002) rfl (List.mem_of_getElem? (i := 0) rfl) ?_
  refine EX.go (i := .getfield 15) (len := 3) (pc1 := 10) (st1 := [.int (0)]) (hi1 := hi) (hl1 := hl) rfl ?_ (fun _ _ _ => rfl)
  refine EX.go (i := .goto 4) (len := 3) (pc1 := 14) (st1 := [.int (0)]) (hi1 := hi) (hl1 := hl) rfl ?_ (fun _ _ _ => rfl)
  obtain ⟨g1, h⟩ := grp_some h
  obtain rfl := Option.some.inj h
  exact EX.bret rfl rfl g1
def f_String_length_s0 (N : Nat) (hi : HI) (hl : HL) : Option (Int32 × HI × HL) :=
  (f_String_coder_s0 N (hi) (hl)).bind fun z1 => some (((4 : Int32) >>> ((z1.1) &&& 31)), z1.2.1, z1.2.2)
set_option maxRecDepth 10000 in
set_option maxHeartbeats 4000000 in
theorem b_String_length_s0 (ev : EV) {N : Nat} {hi : HI} {hl : HL} {o : Int32 × HI × HL} (h : f_String_length_s0 N hi hl = some o) : EM w0 ev 2 m_String_length [.ref 1000002] hi hl (oI o) := by
  unfold f_String_length_s0 at h
  refine EM.of rfl ?_
  show EX w0 ev 1 m_String_length 0 [(0, .ref 1000002)] [] (hi) (hl) (oI o)
  refine EX.aload_n (x := 1000002) rfl (List.mem_of_getElem? (i := 0) rfl) ?_
  refine EX.go (i := .getfield 9) (len := 3) (pc1 := 4) (st1 := [.ref 1000006]) (hi1 := hi) (hl1 := hl) rfl ?_ (fun _ _ _ => rfl)
  refine EX.go (i := .arraylength) (len := 1) (pc1 := 5) (st1 := [.int (4)]) (hi1 := hi) (hl1 := hl) rfl ?_ (fun _ _ _ => rfl)
  refine EX.aload_n (x := 1000002) rfl (List.mem_of_getElem? (i := 0) rfl) ?_
  obtain ⟨z1, hz1, h⟩ := bnd_some h
  refine EX.callV (b := 1000002) (as := []) (rest := [.int (4)]) (r := some (.int (z1.1))) (hi1 := z1.2.1) (hl1 := z1.2.2) rfl rfl rfl rfl rfl rfl ((b_String_coder_s0 ev hz1).mono (by decide)) ?_
  show EX w0 ev 1 m_String_length 9 [(0, .ref 1000002)] [.int (z1.1), .int (4)] (z1.2.1) (z1.2.2) (oI o)
  refine EX.go (i := .ishr) (len := 1) (pc1 := 10) (st1 := [.int (((4 : Int32) >>> ((z1.1) &&& 31)))]) (hi1 := z1.2.1) (hl1 := z1.2.2) rfl ?_ (fun _ _ _ => rfl)
  obtain rfl := Option.some.inj h
  exact EX.iret rfl rfl
def f_String_isLatin1_s0 (N : Nat) (hi : HI) (hl : HL) : Option (Int32 × HI × HL) :=
  some (1, hi, hl)
set_option maxRecDepth 10000 in
set_option maxHeartbeats 4000000 in
theorem b_String_isLatin1_s0 (ev : EV) {N : Nat} {hi : HI} {hl : HL} {o : Int32 × HI × HL} (h : f_String_isLatin1_s0 N hi hl = some o) : EM w0 ev 1 m_String_isLatin1 [.ref 1000002] hi hl (oI o) := by
  unfold f_String_isLatin1_s0 at h
  refine EM.of rfl ?_
  show EX w0 ev 0 m_String_isLatin1 0 [(0, .ref 1000002)] [] (hi) (hl) (oI o)
  refine EX.go (i := .getstatic 38) (len := 3) (pc1 := 3) (st1 := [.int (1)]) (hi1 := hi) (hl1 := hl) rfl ?_ (fun _ _ _ => rfl)
  refine EX.go (i := .ifCond .eq 14) (len := 3) (pc1 := 6) (st1 := []) (hi1 := hi) (hl1 := hl) rfl ?_ (fun _ _ _ => rfl)
  refine EX.aload_n (x := 1000002) rfl (List.mem_of_getElem? (i := 0) rfl) ?_
  refine EX.go (i := .getfield 15) (len := 3) (pc1 := 10) (st1 := [.int (0)]) (hi1 := hi) (hl1 := hl) rfl ?_ (fun _ _ _ => rfl)
  refine EX.go (i := .ifCond .ne 7) (len := 3) (pc1 := 13) (st1 := []) (hi1 := hi) (hl1 := hl) rfl ?_ (fun _ _ _ => rfl)
  refine EX.iconst (v := 1) rfl rfl ?_
  refine EX.go (i := .goto 4) (len := 3) (pc1 := 18) (st1 := [.int (1)]) (hi1 := hi) (hl1 := hl) rfl ?_ (fun _ _ _ => rfl)
  obtain rfl := Option.some.inj h
  exact EX.zret rfl rfl (Or.inr rfl)
def J_Preconditions_checkIndex_9 (N : Nat) (v0 : Int32) (v1 : Int32) (hi : HI) (hl : HL) : Option (Int32 × HI × HL) :=
  none
set_option maxRecDepth 10000 in
set_option maxHeartbeats 4000000 in
theorem bJ_Preconditions_checkIndex_9 (ev : EV) {N : Nat} {v0 : Int32} {v1 : Int32} {hi : HI} {hl : HL} {o : Int32 × HI × HL} (h : J_Preconditions_checkIndex_9 N v0 v1 hi hl = some o) : EX w0 ev 0 m_Preconditions_checkIndex 9 [(0, .int (v0)), (1, .int (v1)), (2, .ref 1000012)] [] (hi) (hl) (oI o) := by
  unfold J_Preconditions_checkIndex_9 at h
  refine EX.aload_n (x := 1000012) rfl (List.mem_of_getElem? (i := 2) rfl) ?_
  refine EX.iload_n (x := v0) rfl (List.mem_of_getElem? (i := 0) rfl) ?_
  refine EX.iload_n (x := v1) rfl (List.mem_of_getElem? (i := 1) rfl) ?_
  cases h
def f_Preconditions_checkIndex (N : Nat) (p0 : Int32) (p1 : Int32) (hi : HI) (hl : HL) : Option (Int32 × HI × HL) :=
  if (p0 : Int32) < 0 then J_Preconditions_checkIndex_9 N (p0) (p1) (hi) (hl) else if (p0 : Int32) < (p1 : Int32) then some (p0, hi, hl) else J_Preconditions_checkIndex_9 N (p0) (p1) (hi) (hl)
set_option maxRecDepth 10000 in
set_option maxHeartbeats 4000000 in
theorem b_Preconditions_checkIndex (ev : EV) {N : Nat} {p0 : Int32} {p1 : Int32} {hi : HI} {hl : HL} {o : Int32 × HI × HL} (h : f_Preconditions_checkIndex N p0 p1 hi hl = some o) : EM w0 ev 1 m_Preconditions_checkIndex [.int (p0), .int (p1), .ref 1000012] hi hl (oI o) := by
  unfold f_Preconditions_checkIndex at h
  refine EM.of rfl ?_
  show EX w0 ev 0 m_Preconditions_checkIndex 0 [(0, .int (p0)), (1, .int (p1)), (2, .ref 1000012)] [] (hi) (hl) (oI o)
  refine EX.iload_n (x := p0) rfl (List.mem_of_getElem? (i := 0) rfl) ?_
  rcases ite_some h with ⟨c1, h⟩ | ⟨c1, h⟩
  · refine EX.go (i := .ifCond .lt 8) (len := 3) (pc1 := 9) (st1 := []) (hi1 := hi) (hl1 := hl) rfl ?_ (fun _ _ _ => if_pos c1)
    refine EX.pick [0, 1, 2] ?_ rfl
    exact bJ_Preconditions_checkIndex_9 ev h
  · refine EX.go (i := .ifCond .lt 8) (len := 3) (pc1 := 4) (st1 := []) (hi1 := hi) (hl1 := hl) rfl ?_ (fun _ _ _ => if_neg c1)
    refine EX.iload_n (x := p0) rfl (List.mem_of_getElem? (i := 0) rfl) ?_
    refine EX.iload_n (x := p1) rfl (List.mem_of_getElem? (i := 1) rfl) ?_
    rcases ite_some h with ⟨c2, h⟩ | ⟨c2, h⟩
    · refine EX.go (i := .if_icmp .lt 10) (len := 3) (pc1 := 16) (st1 := []) (hi1 := hi) (hl1 := hl) rfl ?_ (fun _ _ _ => if_pos c2)
      refine EX.iload_n (x := p0) rfl (List.mem_of_getElem? (i := 0) rfl) ?_
      obtain rfl := Option.some.inj h
      exact EX.iret rfl rfl
    · refine EX.go (i := .if_icmp .lt 10) (len := 3) (pc1 := 9) (st1 := []) (hi1 := hi) (hl1 := hl) rfl ?_ (fun _ _ _ => if_neg c2)
      refine EX.pick [0, 1, 2] ?_ rfl
      exact bJ_Preconditions_checkIndex_9 ev h
def f_String_checkIndex (N : Nat) (p0 : Int32) (p1 : Int32) (hi : HI) (hl : HL) : Option (Unit × HI × HL) :=
  (f_Preconditions_checkIndex N (p0) (p1) (hi) (hl)).bind fun z1 => some ((), z1.2.1, z1.2.2)
set_option maxRecDepth 10000 in
set_option maxHeartbeats 4000000 in
theorem b_String_checkIndex (ev : EV) {N : Nat} {p0 : Int32} {p1 : Int32} {hi : HI} {hl : HL} {o : Unit × HI × HL} (h : f_String_checkIndex N p0 p1 hi hl = some o) : EM w0 ev 2 m_String_checkIndex [.int (p0), .int (p1)] hi hl (oV o) := by
  unfold f_String_checkIndex at h
  refine EM.of rfl ?_
  show EX w0 ev 1 m_String_checkIndex 0 [(0, .int (p0)), (1, .int (p1))] [] (hi) (hl) (oV o)
  refine EX.iload_n (x := p0) rfl (List.mem_of_getElem? (i := 0) rfl) ?_
  refine EX.iload_n (x := p1) rfl (List.mem_of_getElem? (i := 1) rfl) ?_
  refine EX.go (i := .getstatic 1053) (len := 3) (pc1 := 5) (st1 := [.ref 1000012, .int (p1), .int (p0)]) (hi1 := hi) (hl1 := hl) rfl ?_ (fun _ _ _ => rfl)
  obtain ⟨z1, hz1, h⟩ := bnd_some h
  refine EX.callS (as := [.int (p0), .int (p1), .ref 1000012]) (rest := []) (r := some (.int (z1.1))) (hi1 := z1.2.1) (hl1 := z1.2.2) rfl rfl rfl rfl rfl rfl ((b_Preconditions_checkIndex ev hz1).mono (by decide)) ?_
  show EX w0 ev 1 m_String_checkIndex 8 [(0, .int (p0)), (1, .int (p1))] [.int (z1.1)] (z1.2.1) (z1.2.2) (oV o)
  refine EX.go (i := .pop) (len := 1) (pc1 := 9) (st1 := []) (hi1 := z1.2.1) (hl1 := z1.2.2) rfl ?_ (fun _ _ _ => rfl)
  obtain rfl := Option.some.inj h
  exact EX.vret rfl rfl
def f_StringLatin1_charAt_s0 (N : Nat) (p1 : Int32) (hi : HI) (hl : HL) : Option (Int32 × HI × HL) :=
  (f_String_checkIndex N (p1) (4) (hi) (hl)).bind fun z1 => if (p1 : Int32) < 0 ∨ 4 ≤ Int32.toNatClampNeg (p1) then none else if (Int32.toUInt32 (((Int32.toUInt32 (((((strT.getD 0 []).getD (p1).toNatClampNeg 0) : Int32) &&& (255)))) % 65536).toInt32)).toUInt16.toUInt32.toInt32 = ((Int32.toUInt32 (((((strT.getD 0 []).getD (p1).toNatClampNeg 0) : Int32) &&& (255)))) % 65536).toInt32 then some (((Int32.toUInt32 (((((strT.getD 0 []).getD (p1).toNatClampNeg 0) : Int32) &&& (255)))) % 65536).toInt32, z1.2.1, z1.2.2) else none
set_option maxRecDepth 10000 in
set_option maxHeartbeats 4000000 in
theorem b_StringLatin1_charAt_s0 (ev : EV) {N : Nat} {p1 : Int32} {hi : HI} {hl : HL} {o : Int32 × HI × HL} (h : f_StringLatin1_charAt_s0 N p1 hi hl = some o) : EM w0 ev 3 m_StringLatin1_charAt [.ref 1000006, .int (p1)] hi hl (oI o) := by
  unfold f_StringLatin1_charAt_s0 at h
  refine EM.of rfl ?_
  show EX w0 ev 2 m_StringLatin1_charAt 0 [(0, .ref 1000006), (1, .int (p1))] [] (hi) (hl) (oI o)
  refine EX.iload_n (x := p1) rfl (List.mem_of_getElem? (i := 1) rfl) ?_
  refine EX.aload_n (x := 1000006) rfl (List.mem_of_getElem? (i := 0) rfl) ?_
  refine EX.go (i := .arraylength) (len := 1) (pc1 := 3) (st1 := [.int (4), .int (p1)]) (hi1 := hi) (hl1 := hl) rfl ?_ (fun _ _ _ => rfl)
  obtain ⟨z1, hz1, h⟩ := bnd_some h
  refine EX.callS (as := [.int (p1), .int (4)]) (rest := []) (r := none) (hi1 := z1.2.1) (hl1 := z1.2.2) rfl rfl rfl rfl rfl rfl ((b_String_checkIndex ev hz1).mono (by decide)) ?_
  show EX w0 ev 2 m_StringLatin1_charAt 6 [(0, .ref 1000006), (1, .int (p1))] [] (z1.2.1) (z1.2.2) (oI o)
  refine EX.aload_n (x := 1000006) rfl (List.mem_of_getElem? (i := 0) rfl) ?_
  refine EX.iload_n (x := p1) rfl (List.mem_of_getElem? (i := 1) rfl) ?_
  obtain ⟨g2, h⟩ := grd_some h
  refine EX.baloadR (v := .int (((strT.getD 0 []).getD (p1).toNatClampNeg 0))) rfl rfl rfl g2 rfl ?_
  refine EX.sipush (v := 255) rfl rfl ?_
  refine EX.go (i := .iand) (len := 1) (pc1 := 13) (st1 := [.int (((((strT.getD 0 []).getD (p1).toNatClampNeg 0) : Int32) &&& (255)))]) (hi1 := z1.2.1) (hl1 := z1.2.2) rfl ?_ (fun _ _ _ => rfl)
  refine EX.go (i := .i2c) (len := 1) (pc1 := 14) (st1 := [.int (((Int32.toUInt32 (((((strT.getD 0 []).getD (p1).toNatClampNeg 0) : Int32) &&& (255)))) % 65536).toInt32)]) (hi1 := z1.2.1) (hl1 := z1.2.2) rfl ?_ (fun _ _ _ => rfl)
  obtain ⟨g3, h⟩ := grp_some h
  obtain rfl := Option.some.inj h
  exact EX.cret rfl rfl g3
def f_String_charAt_s0 (N : Nat) (p1 : Int32) (hi : HI) (hl : HL) : Option (Int32 × HI × HL) :=
  (f_String_isLatin1_s0 N (hi) (hl)).bind fun z1 => if (z1.1 : Int32) = 0 then none else (f_StringLatin1_charAt_s0 N (p1) (z1.2.1) (z1.2.2)).bind fun z3 => if (Int32.toUInt32 (z3.1)).toUInt16.toUInt32.toInt32 = z3.1 then some (z3.1, z3.2.1, z3.2.2) else none
set_option maxRecDepth 10000 in
set_option maxHeartbeats 4000000 in
theorem b_String_charAt_s0 (ev : EV) {N : Nat} {p1 : Int32} {hi : HI} {hl : HL} {o : Int32 × HI × HL} (h : f_String_charAt_s0 N p1 hi hl = some o) : EM w0 ev 4 m_String_charAt [.ref 1000002, .int (p1)] hi hl (oI o) := by
  unfold f_String_charAt_s0 at h
  refine EM.of rfl ?_
  show EX w0 ev 3 m_String_charAt 0 [(0, .ref 1000002), (1, .int (p1))] [] (hi) (hl) (oI o)
  refine EX.aload_n (x := 1000002) rfl (List.mem_of_getElem? (i := 0) rfl) ?_
  obtain ⟨z1, hz1, h⟩ := bnd_some h
  refine EX.callV (b := 1000002) (as := []) (rest := []) (r := some (.int (z1.1))) (hi1 := z1.2.1) (hl1 := z1.2.2) rfl rfl rfl rfl rfl rfl ((b_String_isLatin1_s0 ev hz1).mono (by decide)) ?_
  show EX w0 ev 3 m_String_charAt 4 [(0, .ref 1000002), (1, .int (p1))] [.int (z1.1)] (z1.2.1) (z1.2.2) (oI o)
  rcases ite_some h with ⟨c2, h⟩ | ⟨c2, h⟩
  · refine EX.go (i := .ifCond .eq 12) (len := 3) (pc1 := 16) (st1 := []) (hi1 := z1.2.1) (hl1 := z1.2.2) rfl ?_ (fun _ _ _ => if_pos c2)
    refine EX.aload_n (x := 1000002) rfl (List.mem_of_getElem? (i := 0) rfl) ?_
    refine EX.go (i := .getfield 9) (len := 3) (pc1 := 20) (st1 := [.ref 1000006]) (hi1 := z1.2.1) (hl1 := z1.2.2) rfl ?_ (fun _ _ _ => rfl)
    refine EX.iload_n (x := p1) rfl (List.mem_of_getElem? (i := 1) rfl) ?_
    cases h
  · refine EX.go (i := .ifCond .eq 12) (len := 3) (pc1 := 7) (st1 := []) (hi1 := z1.2.1) (hl1 := z1.2.2) rfl ?_ (fun _ _ _ => if_neg c2)
    refine EX.aload_n (x := 1000002) rfl (List.mem_of_getElem? (i := 0) rfl) ?_
    refine EX.go (i := .getfield 9) (len := 3) (pc1 := 11) (st1 := [.ref 1000006]) (hi1 := z1.2.1) (hl1 := z1.2.2) rfl ?_ (fun _ _ _ => rfl)
    refine EX.iload_n (x := p1) rfl (List.mem_of_getElem? (i := 1) rfl) ?_
    obtain ⟨z3, hz3, h⟩ := bnd_some h
    refine EX.callS (as := [.ref 1000006, .int (p1)]) (rest := []) (r := some (.int (z3.1))) (hi1 := z3.2.1) (hl1 := z3.2.2) rfl rfl rfl rfl rfl rfl ((b_StringLatin1_charAt_s0 ev hz3).mono (by decide)) ?_
    show EX w0 ev 3 m_String_charAt 15 [(0, .ref 1000002), (1, .int (p1))] [.int (z3.1)] (z3.2.1) (z3.2.2) (oI o)
    obtain ⟨g4, h⟩ := grp_some h
    obtain rfl := Option.some.inj h
    exact EX.cret rfl rfl g4
def B_Tape_spells_s0_20 (N : Nat) (v2 : Int32) (hi : HI) (hl : HL) : Option ((Int32 × HI × HL) ⊕ (Nat × HI × HL)) :=
  (f_String_length_s0 N (hi) (hl)).bind fun z3 => if (z3.1 : Int32) ≤ (v2 : Int32) then some (.inr (0, z3.2.1, z3.2.2)) else if (((z3.2.1 43 9 : Int32) + v2) : Int32) < 0 ∨ 200 ≤ Int32.toNatClampNeg (((z3.2.1 43 9 : Int32) + v2)) then none else (f_String_charAt_s0 N (v2) (z3.2.1) (z3.2.2)).bind fun z6 => if (z3.2.1 46 (Int32.toNatClampNeg (((z3.2.1 43 9 : Int32) + v2))) : Int32) = (z6.1 : Int32) then some (.inl (v2 + 1, z6.2.1, z6.2.2)) else some (.inr (1, z6.2.1, z6.2.2))
set_option maxRecDepth 10000 in
set_option maxHeartbeats 4000000 in
theorem bB_Tape_spells_s0_20 (ev : EV) {N : Nat} {v2 : Int32} {hi : HI} {hl : HL} {z : (Int32 × HI × HL) ⊕ (Nat × HI × HL)} {OUT : Option Value × HI × HL} (h : B_Tape_spells_s0_20 N v2 hi hl = some z) (hk : Sum.elim (fun s => EX w0 ev 4 m_Tape_spells 20 [(0, .ref 43), (1, .ref 1000002), (2, .int (s.1))] [] (s.2.1) (s.2.2) OUT) (fun x => (x.1 = 0 → EX w0 ev 4 m_Tape_spells 55 [] [] (x.2.1) (x.2.2) OUT) ∧ (x.1 = 1 → EX w0 ev 4 m_Tape_spells 47 [] [] (x.2.1) (x.2.2) OUT)) z) : EX w0 ev 4 m_Tape_spells 20 [(0, .ref 43), (1, .ref 1000002), (2, .int (v2))] [] (hi) (hl) OUT := by
  unfold B_Tape_spells_s0_20 at h
  refine EX.iload_n (x := v2) rfl (List.mem_of_getElem? (i := 2) rfl) ?_
  refine EX.aload_n (x := 1000002) rfl (List.mem_of_getElem? (i := 1) rfl) ?_
  obtain ⟨z3, hz3, h⟩ := bnd_some h
  refine EX.callV (b := 1000002) (as := []) (rest := [.int (v2)]) (r := some (.int (z3.1))) (hi1 := z3.2.1) (hl1 := z3.2.2) rfl rfl rfl rfl rfl rfl ((b_String_length_s0 ev hz3).mono (by decide)) ?_
  show EX w0 ev 4 m_Tape_spells 25 [(0, .ref 43), (1, .ref 1000002), (2, .int (v2))] [.int (z3.1), .int (v2)] (z3.2.1) (z3.2.2) OUT
  rcases ite_some h with ⟨c4, h⟩ | ⟨c4, h⟩
  · refine EX.go (i := .if_icmp .ge 30) (len := 3) (pc1 := 55) (st1 := []) (hi1 := z3.2.1) (hl1 := z3.2.2) rfl ?_ (fun _ _ _ => if_pos c4)
    obtain rfl := Option.some.inj h
    have hk := hk.1 rfl
    have hk : EX w0 ev 4 m_Tape_spells 55 [] [] (z3.2.1) (z3.2.2) OUT := hk
    exact EX.pick [] hk rfl
  · refine EX.go (i := .if_icmp .ge 30) (len := 3) (pc1 := 28) (st1 := []) (hi1 := z3.2.1) (hl1 := z3.2.2) rfl ?_ (fun _ _ _ => if_neg c4)
    refine EX.aload_n (x := 43) rfl (List.mem_of_getElem? (i := 0) rfl) ?_
    refine EX.go (i := .getfield 18) (len := 3) (pc1 := 32) (st1 := [.ref 46]) (hi1 := z3.2.1) (hl1 := z3.2.2) rfl ?_ (fun _ _ _ => rfl)
    refine EX.aload_n (x := 43) rfl (List.mem_of_getElem? (i := 0) rfl) ?_
    refine EX.go (i := .getfield 80) (len := 3) (pc1 := 36) (st1 := [.int (z3.2.1 43 9), .ref 46]) (hi1 := z3.2.1) (hl1 := z3.2.2) rfl ?_ (fun _ _ _ => rfl)
    refine EX.iload_n (x := v2) rfl (List.mem_of_getElem? (i := 2) rfl) ?_
    refine EX.go (i := .iadd) (len := 1) (pc1 := 38) (st1 := [.int (((z3.2.1 43 9 : Int32) + v2)), .ref 46]) (hi1 := z3.2.1) (hl1 := z3.2.2) rfl ?_ (fun _ _ _ => rfl)
    obtain ⟨g5, h⟩ := grd_some h
    refine EX.baload rfl rfl g5 ?_
    refine EX.aload_n (x := 1000002) rfl (List.mem_of_getElem? (i := 1) rfl) ?_
    refine EX.iload_n (x := v2) rfl (List.mem_of_getElem? (i := 2) rfl) ?_
    obtain ⟨z6, hz6, h⟩ := bnd_some h
    refine EX.callV (b := 1000002) (as := [.int (v2)]) (rest := [.int (z3.2.1 46 (Int32.toNatClampNeg (((z3.2.1 43 9 : Int32) + v2))))]) (r := some (.int (z6.1))) (hi1 := z6.2.1) (hl1 := z6.2.2) rfl rfl rfl rfl rfl rfl ((b_String_charAt_s0 ev hz6).mono (by decide)) ?_
    show EX w0 ev 4 m_Tape_spells 44 [(0, .ref 43), (1, .ref 1000002), (2, .int (v2))] [.int (z6.1), .int (z3.2.1 46 (Int32.toNatClampNeg (((z3.2.1 43 9 : Int32) + v2))))] (z6.2.1) (z6.2.2) OUT
    rcases ite_some h with ⟨c7, h⟩ | ⟨c7, h⟩
    · refine EX.go (i := .if_icmp .eq 5) (len := 3) (pc1 := 49) (st1 := []) (hi1 := z6.2.1) (hl1 := z6.2.2) rfl ?_ (fun _ _ _ => if_pos c7)
      refine EX.iinc (x := v2) (v := v2 + 1) (req1 := [(2, .int (v2 + 1)), (0, .ref 43), (1, .ref 1000002)]) rfl rfl (List.mem_of_getElem? (i := 2) rfl) rfl rfl ?_
      refine EX.go (i := .goto (-32)) (len := 3) (pc1 := 20) (st1 := []) (hi1 := z6.2.1) (hl1 := z6.2.2) rfl ?_ (fun _ _ _ => rfl)
      obtain rfl := Option.some.inj h
      have hk : EX w0 ev 4 m_Tape_spells 20 [(0, .ref 43), (1, .ref 1000002), (2, .int (v2 + 1))] [] (z6.2.1) (z6.2.2) OUT := hk
      exact EX.pick [1, 2, 0] hk rfl
    · refine EX.go (i := .if_icmp .eq 5) (len := 3) (pc1 := 47) (st1 := []) (hi1 := z6.2.1) (hl1 := z6.2.2) rfl ?_ (fun _ _ _ => if_neg c7)
      obtain rfl := Option.some.inj h
      have hk := hk.2 rfl
      have hk : EX w0 ev 4 m_Tape_spells 47 [] [] (z6.2.1) (z6.2.2) OUT := hk
      exact EX.pick [] hk rfl
def f_Tape_spells_s0 (N : Nat) (hi : HI) (hl : HL) : Option (Int32 × HI × HL) :=
  (f_String_length_s0 N (hi) (hl)).bind fun z1 => if (((hi 43 10 : Int32) - (hi 43 9)) : Int32) = (z1.1 : Int32) then (lpN (fun s => B_Tape_spells_s0_20 N s.1 s.2.1 s.2.2) N (0, z1.2.1, z1.2.2)).bind fun x8 => if x8.1 = 0 then some (1, x8.2.1, x8.2.2) else some (0, x8.2.1, x8.2.2) else some (0, z1.2.1, z1.2.2)
set_option maxRecDepth 10000 in
set_option maxHeartbeats 4000000 in
theorem b_Tape_spells_s0 (ev : EV) {N : Nat} {hi : HI} {hl : HL} {o : Int32 × HI × HL} (h : f_Tape_spells_s0 N hi hl = some o) : EM w0 ev 5 m_Tape_spells [.ref 43, .ref 1000002] hi hl (oI o) := by
  unfold f_Tape_spells_s0 at h
  refine EM.of rfl ?_
  show EX w0 ev 4 m_Tape_spells 0 [(0, .ref 43), (1, .ref 1000002)] [] (hi) (hl) (oI o)
  refine EX.aload_n (x := 43) rfl (List.mem_of_getElem? (i := 0) rfl) ?_
  refine EX.go (i := .getfield 38) (len := 3) (pc1 := 4) (st1 := [.int (hi 43 10)]) (hi1 := hi) (hl1 := hl) rfl ?_ (fun _ _ _ => rfl)
  refine EX.aload_n (x := 43) rfl (List.mem_of_getElem? (i := 0) rfl) ?_
  refine EX.go (i := .getfield 80) (len := 3) (pc1 := 8) (st1 := [.int (hi 43 9), .int (hi 43 10)]) (hi1 := hi) (hl1 := hl) rfl ?_ (fun _ _ _ => rfl)
  refine EX.go (i := .isub) (len := 1) (pc1 := 9) (st1 := [.int (((hi 43 10 : Int32) - (hi 43 9)))]) (hi1 := hi) (hl1 := hl) rfl ?_ (fun _ _ _ => rfl)
  refine EX.aload_n (x := 1000002) rfl (List.mem_of_getElem? (i := 1) rfl) ?_
  obtain ⟨z1, hz1, h⟩ := bnd_some h
  refine EX.callV (b := 1000002) (as := []) (rest := [.int (((hi 43 10 : Int32) - (hi 43 9)))]) (r := some (.int (z1.1))) (hi1 := z1.2.1) (hl1 := z1.2.2) rfl rfl rfl rfl rfl rfl ((b_String_length_s0 ev hz1).mono (by decide)) ?_
  show EX w0 ev 4 m_Tape_spells 13 [(0, .ref 43), (1, .ref 1000002)] [.int (z1.1), .int (((hi 43 10 : Int32) - (hi 43 9)))] (z1.2.1) (z1.2.2) (oI o)
  rcases ite_some h with ⟨c2, h⟩ | ⟨c2, h⟩
  · refine EX.go (i := .if_icmp .eq 5) (len := 3) (pc1 := 18) (st1 := []) (hi1 := z1.2.1) (hl1 := z1.2.2) rfl ?_ (fun _ _ _ => if_pos c2)
    refine EX.iconst (v := 0) rfl rfl ?_
    refine EX.istore_n (req1 := [(2, .int (0)), (0, .ref 43), (1, .ref 1000002)]) rfl rfl rfl ?_
    obtain ⟨x8, hx8, h⟩ := bnd_some h
    refine EX.pick [1, 2, 0] ?_ rfl
    refine lp_sound (f := fun s => B_Tape_spells_s0_20 N s.1 s.2.1 s.2.2) (PS := fun s => EX w0 ev 4 m_Tape_spells 20 [(0, .ref 43), (1, .ref 1000002), (2, .int (s.1))] [] (s.2.1) (s.2.2) (oI o)) (PX := fun x => (x.1 = 0 → EX w0 ev 4 m_Tape_spells 55 [] [] (x.2.1) (x.2.2) (oI o)) ∧ (x.1 = 1 → EX w0 ev 4 m_Tape_spells 47 [] [] (x.2.1) (x.2.2) (oI o))) ?_ N _ x8 hx8 ?_
    · exact fun s z hz hk => bB_Tape_spells_s0_20 ev hz hk
    rcases ite_some h with ⟨c9, h⟩ | ⟨c9, h⟩
    · refine ⟨fun _ => ?_, fun e9 => absurd (c9.symm.trans e9) (by decide)⟩
      show EX w0 ev 4 m_Tape_spells 55 [] [] (x8.2.1) (x8.2.2) (oI o)
      refine EX.iconst (v := 1) rfl rfl ?_
      obtain rfl := Option.some.inj h
      exact EX.zret rfl rfl (Or.inr rfl)
    · refine ⟨fun e9 => absurd e9 c9, fun _ => ?_⟩
      show EX w0 ev 4 m_Tape_spells 47 [] [] (x8.2.1) (x8.2.2) (oI o)
      refine EX.iconst (v := 0) rfl rfl ?_
      obtain rfl := Option.some.inj h
      exact EX.zret rfl rfl (Or.inl rfl)
  · refine EX.go (i := .if_icmp .eq 5) (len := 3) (pc1 := 16) (st1 := []) (hi1 := z1.2.1) (hl1 := z1.2.2) rfl ?_ (fun _ _ _ => if_neg c2)
    refine EX.iconst (v := 0) rfl rfl ?_
    obtain rfl := Option.some.inj h
    exact EX.zret rfl rfl (Or.inl rfl)
def f_String_coder_s1 (N : Nat) (hi : HI) (hl : HL) : Option (Int32 × HI × HL) :=
  if (Int32.toInt8 (0)).toInt32 = 0 then some (0, hi, hl) else none
set_option maxRecDepth 10000 in
set_option maxHeartbeats 4000000 in
theorem b_String_coder_s1 (ev : EV) {N : Nat} {hi : HI} {hl : HL} {o : Int32 × HI × HL} (h : f_String_coder_s1 N hi hl = some o) : EM w0 ev 1 m_String_coder [.ref 1000003] hi hl (oI o) := by
  unfold f_String_coder_s1 at h
  refine EM.of rfl ?_
  show EX w0 ev 0 m_String_coder 0 [(0, .ref 1000003)] [] (hi) (hl) (oI o)
  refine EX.go (i := .getstatic 38) (len := 3) (pc1 := 3) (st1 := [.int (1)]) (hi1 := hi) (hl1 := hl) rfl ?_ (fun _ _ _ => rfl)
  refine EX.go (i := .ifCond .eq 10) (len := 3) (pc1 := 6) (st1 := []) (hi1 := hi) (hl1 := hl) rfl ?_ (fun _ _ _ => rfl)
  refine EX.aload_n (x := 1000003) rfl (List.mem_of_getElem? (i := 0) rfl) ?_
  refine EX.go (i := .getfield 15) (len := 3) (pc1 := 10) (st1 := [.int (0)]) (hi1 := hi) (hl1 := hl) rfl ?_ (fun _ _ _ => rfl)
  refine EX.go (i := .goto 4) (len := 3) (pc1 := 14) (st1 := [.int (0)]) (hi1 := hi) (hl1 := hl) rfl ?_ (fun _ _ _ => rfl)
  obtain ⟨g1, h⟩ := grp_some h
  obtain rfl := Option.some.inj h
  exact EX.bret rfl rfl g1
def f_String_length_s1 (N : Nat) (hi : HI) (hl : HL) : Option (Int32 × HI × HL) :=
  (f_String_coder_s1 N (hi) (hl)).bind fun z1 => some (((3 : Int32) >>> ((z1.1) &&& 31)), z1.2.1, z1.2.2)
set_option maxRecDepth 10000 in
set_option maxHeartbeats 4000000 in
theorem b_String_length_s1 (ev : EV) {N : Nat} {hi : HI} {hl : HL} {o : Int32 × HI × HL} (h : f_String_length_s1 N hi hl = some o) : EM w0 ev 2 m_String_length [.ref 1000003] hi hl (oI o) := by
  unfold f_String_length_s1 at h
  refine EM.of rfl ?_
  show EX w0 ev 1 m_String_length 0 [(0, .ref 1000003)] [] (hi) (hl) (oI o)
  refine EX.aload_n (x := 1000003) rfl (List.mem_of_getElem? (i := 0) rfl) ?_
  refine EX.go (i := .getfield 9) (len := 3) (pc1 := 4) (st1 := [.ref 1000007]) (hi1 := hi) (hl1 := hl) rfl ?_ (fun _ _ _ => rfl)
  refine EX.go (i := .arraylength) (len := 1) (pc1 := 5) (st1 := [.int (3)]) (hi1 := hi) (hl1 := hl) rfl ?_ (fun _ _ _ => rfl)
  refine EX.aload_n (x := 1000003) rfl (List.mem_of_getElem? (i := 0) rfl) ?_
  obtain ⟨z1, hz1, h⟩ := bnd_some h
  refine EX.callV (b := 1000003) (as := []) (rest := [.int (3)]) (r := some (.int (z1.1))) (hi1 := z1.2.1) (hl1 := z1.2.2) rfl rfl rfl rfl rfl rfl ((b_String_coder_s1 ev hz1).mono (by decide)) ?_
  show EX w0 ev 1 m_String_length 9 [(0, .ref 1000003)] [.int (z1.1), .int (3)] (z1.2.1) (z1.2.2) (oI o)
  refine EX.go (i := .ishr) (len := 1) (pc1 := 10) (st1 := [.int (((3 : Int32) >>> ((z1.1) &&& 31)))]) (hi1 := z1.2.1) (hl1 := z1.2.2) rfl ?_ (fun _ _ _ => rfl)
  obtain rfl := Option.some.inj h
  exact EX.iret rfl rfl
def f_String_isLatin1_s1 (N : Nat) (hi : HI) (hl : HL) : Option (Int32 × HI × HL) :=
  some (1, hi, hl)
set_option maxRecDepth 10000 in
set_option maxHeartbeats 4000000 in
theorem b_String_isLatin1_s1 (ev : EV) {N : Nat} {hi : HI} {hl : HL} {o : Int32 × HI × HL} (h : f_String_isLatin1_s1 N hi hl = some o) : EM w0 ev 1 m_String_isLatin1 [.ref 1000003] hi hl (oI o) := by
  unfold f_String_isLatin1_s1 at h
  refine EM.of rfl ?_
  show EX w0 ev 0 m_String_isLatin1 0 [(0, .ref 1000003)] [] (hi) (hl) (oI o)
  refine EX.go (i := .getstatic 38) (len := 3) (pc1 := 3) (st1 := [.int (1)]) (hi1 := hi) (hl1 := hl) rfl ?_ (fun _ _ _ => rfl)
  refine EX.go (i := .ifCond .eq 14) (len := 3) (pc1 := 6) (st1 := []) (hi1 := hi) (hl1 := hl) rfl ?_ (fun _ _ _ => rfl)
  refine EX.aload_n (x := 1000003) rfl (List.mem_of_getElem? (i := 0) rfl) ?_
  refine EX.go (i := .getfield 15) (len := 3) (pc1 := 10) (st1 := [.int (0)]) (hi1 := hi) (hl1 := hl) rfl ?_ (fun _ _ _ => rfl)
  refine EX.go (i := .ifCond .ne 7) (len := 3) (pc1 := 13) (st1 := []) (hi1 := hi) (hl1 := hl) rfl ?_ (fun _ _ _ => rfl)
  refine EX.iconst (v := 1) rfl rfl ?_
  refine EX.go (i := .goto 4) (len := 3) (pc1 := 18) (st1 := [.int (1)]) (hi1 := hi) (hl1 := hl) rfl ?_ (fun _ _ _ => rfl)
  obtain rfl := Option.some.inj h
  exact EX.zret rfl rfl (Or.inr rfl)
def f_StringLatin1_charAt_s1 (N : Nat) (p1 : Int32) (hi : HI) (hl : HL) : Option (Int32 × HI × HL) :=
  (f_String_checkIndex N (p1) (3) (hi) (hl)).bind fun z1 => if (p1 : Int32) < 0 ∨ 3 ≤ Int32.toNatClampNeg (p1) then none else if (Int32.toUInt32 (((Int32.toUInt32 (((((strT.getD 1 []).getD (p1).toNatClampNeg 0) : Int32) &&& (255)))) % 65536).toInt32)).toUInt16.toUInt32.toInt32 = ((Int32.toUInt32 (((((strT.getD 1 []).getD (p1).toNatClampNeg 0) : Int32) &&& (255)))) % 65536).toInt32 then some (((Int32.toUInt32 (((((strT.getD 1 []).getD (p1).toNatClampNeg 0) : Int32) &&& (255)))) % 65536).toInt32, z1.2.1, z1.2.2) else none
set_option maxRecDepth 10000 in
set_option maxHeartbeats 4000000 in
theorem b_StringLatin1_charAt_s1 (ev : EV) {N : Nat} {p1 : Int32} {hi : HI} {hl : HL} {o : Int32 × HI × HL} (h : f_StringLatin1_charAt_s1 N p1 hi hl = some o) : EM w0 ev 3 m_StringLatin1_charAt [.ref 1000007, .int (p1)] hi hl (oI o) := by
  unfold f_StringLatin1_charAt_s1 at h
  refine EM.of rfl ?_
  show EX w0 ev 2 m_StringLatin1_charAt 0 [(0, .ref 1000007), (1, .int (p1))] [] (hi) (hl) (oI o)
  refine EX.iload_n (x := p1) rfl (List.mem_of_getElem? (i := 1) rfl) ?_
  refine EX.aload_n (x := 1000007) rfl (List.mem_of_getElem? (i := 0) rfl) ?_
  refine EX.go (i := .arraylength) (len := 1) (pc1 := 3) (st1 := [.int (3), .int (p1)]) (hi1 := hi) (hl1 := hl) rfl ?_ (fun _ _ _ => rfl)
  obtain ⟨z1, hz1, h⟩ := bnd_some h
  refine EX.callS (as := [.int (p1), .int (3)]) (rest := []) (r := none) (hi1 := z1.2.1) (hl1 := z1.2.2) rfl rfl rfl rfl rfl rfl ((b_String_checkIndex ev hz1).mono (by decide)) ?_
  show EX w0 ev 2 m_StringLatin1_charAt 6 [(0, .ref 1000007), (1, .int (p1))] [] (z1.2.1) (z1.2.2) (oI o)
  refine EX.aload_n (x := 1000007) rfl (List.mem_of_getElem? (i := 0) rfl) ?_
  refine EX.iload_n (x := p1) rfl (List.mem_of_getElem? (i := 1) rfl) ?_
  obtain ⟨g2, h⟩ := grd_some h
  refine EX.baloadR (v := .int (((strT.getD 1 []).getD (p1).toNatClampNeg 0))) rfl rfl rfl g2 rfl ?_
  refine EX.sipush (v := 255) rfl rfl ?_
  refine EX.go (i := .iand) (len := 1) (pc1 := 13) (st1 := [.int (((((strT.getD 1 []).getD (p1).toNatClampNeg 0) : Int32) &&& (255)))]) (hi1 := z1.2.1) (hl1 := z1.2.2) rfl ?_ (fun _ _ _ => rfl)
  refine EX.go (i := .i2c) (len := 1) (pc1 := 14) (st1 := [.int (((Int32.toUInt32 (((((strT.getD 1 []).getD (p1).toNatClampNeg 0) : Int32) &&& (255)))) % 65536).toInt32)]) (hi1 := z1.2.1) (hl1 := z1.2.2) rfl ?_ (fun _ _ _ => rfl)
  obtain ⟨g3, h⟩ := grp_some h
  obtain rfl := Option.some.inj h
  exact EX.cret rfl rfl g3
def f_String_charAt_s1 (N : Nat) (p1 : Int32) (hi : HI) (hl : HL) : Option (Int32 × HI × HL) :=
  (f_String_isLatin1_s1 N (hi) (hl)).bind fun z1 => if (z1.1 : Int32) = 0 then none else (f_StringLatin1_charAt_s1 N (p1) (z1.2.1) (z1.2.2)).bind fun z3 => if (Int32.toUInt32 (z3.1)).toUInt16.toUInt32.toInt32 = z3.1 then some (z3.1, z3.2.1, z3.2.2) else none
set_option maxRecDepth 10000 in
set_option maxHeartbeats 4000000 in
theorem b_String_charAt_s1 (ev : EV) {N : Nat} {p1 : Int32} {hi : HI} {hl : HL} {o : Int32 × HI × HL} (h : f_String_charAt_s1 N p1 hi hl = some o) : EM w0 ev 4 m_String_charAt [.ref 1000003, .int (p1)] hi hl (oI o) := by
  unfold f_String_charAt_s1 at h
  refine EM.of rfl ?_
  show EX w0 ev 3 m_String_charAt 0 [(0, .ref 1000003), (1, .int (p1))] [] (hi) (hl) (oI o)
  refine EX.aload_n (x := 1000003) rfl (List.mem_of_getElem? (i := 0) rfl) ?_
  obtain ⟨z1, hz1, h⟩ := bnd_some h
  refine EX.callV (b := 1000003) (as := []) (rest := []) (r := some (.int (z1.1))) (hi1 := z1.2.1) (hl1 := z1.2.2) rfl rfl rfl rfl rfl rfl ((b_String_isLatin1_s1 ev hz1).mono (by decide)) ?_
  show EX w0 ev 3 m_String_charAt 4 [(0, .ref 1000003), (1, .int (p1))] [.int (z1.1)] (z1.2.1) (z1.2.2) (oI o)
  rcases ite_some h with ⟨c2, h⟩ | ⟨c2, h⟩
  · refine EX.go (i := .ifCond .eq 12) (len := 3) (pc1 := 16) (st1 := []) (hi1 := z1.2.1) (hl1 := z1.2.2) rfl ?_ (fun _ _ _ => if_pos c2)
    refine EX.aload_n (x := 1000003) rfl (List.mem_of_getElem? (i := 0) rfl) ?_
    refine EX.go (i := .getfield 9) (len := 3) (pc1 := 20) (st1 := [.ref 1000007]) (hi1 := z1.2.1) (hl1 := z1.2.2) rfl ?_ (fun _ _ _ => rfl)
    refine EX.iload_n (x := p1) rfl (List.mem_of_getElem? (i := 1) rfl) ?_
    cases h
  · refine EX.go (i := .ifCond .eq 12) (len := 3) (pc1 := 7) (st1 := []) (hi1 := z1.2.1) (hl1 := z1.2.2) rfl ?_ (fun _ _ _ => if_neg c2)
    refine EX.aload_n (x := 1000003) rfl (List.mem_of_getElem? (i := 0) rfl) ?_
    refine EX.go (i := .getfield 9) (len := 3) (pc1 := 11) (st1 := [.ref 1000007]) (hi1 := z1.2.1) (hl1 := z1.2.2) rfl ?_ (fun _ _ _ => rfl)
    refine EX.iload_n (x := p1) rfl (List.mem_of_getElem? (i := 1) rfl) ?_
    obtain ⟨z3, hz3, h⟩ := bnd_some h
    refine EX.callS (as := [.ref 1000007, .int (p1)]) (rest := []) (r := some (.int (z3.1))) (hi1 := z3.2.1) (hl1 := z3.2.2) rfl rfl rfl rfl rfl rfl ((b_StringLatin1_charAt_s1 ev hz3).mono (by decide)) ?_
    show EX w0 ev 3 m_String_charAt 15 [(0, .ref 1000003), (1, .int (p1))] [.int (z3.1)] (z3.2.1) (z3.2.2) (oI o)
    obtain ⟨g4, h⟩ := grp_some h
    obtain rfl := Option.some.inj h
    exact EX.cret rfl rfl g4
def B_Tape_spells_s1_20 (N : Nat) (v2 : Int32) (hi : HI) (hl : HL) : Option ((Int32 × HI × HL) ⊕ (Nat × HI × HL)) :=
  (f_String_length_s1 N (hi) (hl)).bind fun z3 => if (z3.1 : Int32) ≤ (v2 : Int32) then some (.inr (0, z3.2.1, z3.2.2)) else if (((z3.2.1 43 9 : Int32) + v2) : Int32) < 0 ∨ 200 ≤ Int32.toNatClampNeg (((z3.2.1 43 9 : Int32) + v2)) then none else (f_String_charAt_s1 N (v2) (z3.2.1) (z3.2.2)).bind fun z6 => if (z3.2.1 46 (Int32.toNatClampNeg (((z3.2.1 43 9 : Int32) + v2))) : Int32) = (z6.1 : Int32) then some (.inl (v2 + 1, z6.2.1, z6.2.2)) else some (.inr (1, z6.2.1, z6.2.2))
set_option maxRecDepth 10000 in
set_option maxHeartbeats 4000000 in
theorem bB_Tape_spells_s1_20 (ev : EV) {N : Nat} {v2 : Int32} {hi : HI} {hl : HL} {z : (Int32 × HI × HL) ⊕ (Nat × HI × HL)} {OUT : Option Value × HI × HL} (h : B_Tape_spells_s1_20 N v2 hi hl = some z) (hk : Sum.elim (fun s => EX w0 ev 4 m_Tape_spells 20 [(0, .ref 43), (1, .ref 1000003), (2, .int (s.1))] [] (s.2.1) (s.2.2) OUT) (fun x => (x.1 = 0 → EX w0 ev 4 m_Tape_spells 55 [] [] (x.2.1) (x.2.2) OUT) ∧ (x.1 = 1 → EX w0 ev 4 m_Tape_spells 47 [] [] (x.2.1) (x.2.2) OUT)) z) : EX w0 ev 4 m_Tape_spells 20 [(0, .ref 43), (1, .ref 1000003), (2, .int (v2))] [] (hi) (hl) OUT := by
  unfold B_Tape_spells_s1_20 at h
  refine EX.iload_n (x := v2) rfl (List.mem_of_getElem? (i := 2) rfl) ?_
  refine EX.aload_n (x := 1000003) rfl (List.mem_of_getElem? (i := 1) rfl) ?_
  obtain ⟨z3, hz3, h⟩ := bnd_some h
  refine EX.callV (b := 1000003) (as := []) (rest := [.int (v2)]) (r := some (.int (z3.1))) (hi1 := z3.2.1) (hl1 := z3.2.2) rfl rfl rfl rfl rfl rfl ((b_String_length_s1 ev hz3).mono (by decide)) ?_
  show EX w0 ev 4 m_Tape_spells 25 [(0, .ref 43), (1, .ref 1000003), (2, .int (v2))] [.int (z3.1), .int (v2)] (z3.2.1) (z3.2.2) OUT
  rcases ite_some h with ⟨c4, h⟩ | ⟨c4, h⟩
  · refine EX.go (i := .if_icmp .ge 30) (len := 3) (pc1 := 55) (st1 := []) (hi1 := z3.2.1) (hl1 := z3.2.2) rfl ?_ (fun _ _ _ => if_pos c4)
    obtain rfl := Option.some.inj h
    have hk := hk.1 rfl
    have hk : EX w0 ev 4 m_Tape_spells 55 [] [] (z3.2.1) (z3.2.2) OUT := hk
    exact EX.pick [] hk rfl
  · refine EX.go (i := .if_icmp .ge 30) (len := 3) (pc1 := 28) (st1 := []) (hi1 := z3.2.1) (hl1 := z3.2.2) rfl ?_ (fun _ _ _ => if_neg c4)
    refine EX.aload_n (x := 43) rfl (List.mem_of_getElem? (i := 0) rfl) ?_
    refine EX.go (i := .getfield 18) (len := 3) (pc1 := 32) (st1 := [.ref 46]) (hi1 := z3.2.1) (hl1 := z3.2.2) rfl ?_ (fun _ _ _ => rfl)
    refine EX.aload_n (x := 43) rfl (List.mem_of_getElem? (i := 0) rfl) ?_
    refine EX.go (i := .getfield 80) (len := 3) (pc1 := 36) (st1 := [.int (z3.2.1 43 9), .ref 46]) (hi1 := z3.2.1) (hl1 := z3.2.2) rfl ?_ (fun _ _ _ => rfl)
    refine EX.iload_n (x := v2) rfl (List.mem_of_getElem? (i := 2) rfl) ?_
    refine EX.go (i := .iadd) (len := 1) (pc1 := 38) (st1 := [.int (((z3.2.1 43 9 : Int32) + v2)), .ref 46]) (hi1 := z3.2.1) (hl1 := z3.2.2) rfl ?_ (fun _ _ _ => rfl)
    obtain ⟨g5, h⟩ := grd_some h
    refine EX.baload rfl rfl g5 ?_
    refine EX.aload_n (x := 1000003) rfl (List.mem_of_getElem? (i := 1) rfl) ?_
    refine EX.iload_n (x := v2) rfl (List.mem_of_getElem? (i := 2) rfl) ?_
    obtain ⟨z6, hz6, h⟩ := bnd_some h
    refine EX.callV (b := 1000003) (as := [.int (v2)]) (rest := [.int (z3.2.1 46 (Int32.toNatClampNeg (((z3.2.1 43 9 : Int32) + v2))))]) (r := some (.int (z6.1))) (hi1 := z6.2.1) (hl1 := z6.2.2) rfl rfl rfl rfl rfl rfl ((b_String_charAt_s1 ev hz6).mono (by decide)) ?_
    show EX w0 ev 4 m_Tape_spells 44 [(0, .ref 43), (1, .ref 1000003), (2, .int (v2))] [.int (z6.1), .int (z3.2.1 46 (Int32.toNatClampNeg (((z3.2.1 43 9 : Int32) + v2))))] (z6.2.1) (z6.2.2) OUT
    rcases ite_some h with ⟨c7, h⟩ | ⟨c7, h⟩
    · refine EX.go (i := .if_icmp .eq 5) (len := 3) (pc1 := 49) (st1 := []) (hi1 := z6.2.1) (hl1 := z6.2.2) rfl ?_ (fun _ _ _ => if_pos c7)
      refine EX.iinc (x := v2) (v := v2 + 1) (req1 := [(2, .int (v2 + 1)), (0, .ref 43), (1, .ref 1000003)]) rfl rfl (List.mem_of_getElem? (i := 2) rfl) rfl rfl ?_
      refine EX.go (i := .goto (-32)) (len := 3) (pc1 := 20) (st1 := []) (hi1 := z6.2.1) (hl1 := z6.2.2) rfl ?_ (fun _ _ _ => rfl)
      obtain rfl := Option.some.inj h
      have hk : EX w0 ev 4 m_Tape_spells 20 [(0, .ref 43), (1, .ref 1000003), (2, .int (v2 + 1))] [] (z6.2.1) (z6.2.2) OUT := hk
      exact EX.pick [1, 2, 0] hk rfl
    · refine EX.go (i := .if_icmp .eq 5) (len := 3) (pc1 := 47) (st1 := []) (hi1 := z6.2.1) (hl1 := z6.2.2) rfl ?_ (fun _ _ _ => if_neg c7)
      obtain rfl := Option.some.inj h
      have hk := hk.2 rfl
      have hk : EX w0 ev 4 m_Tape_spells 47 [] [] (z6.2.1) (z6.2.2) OUT := hk
      exact EX.pick [] hk rfl
def f_Tape_spells_s1 (N : Nat) (hi : HI) (hl : HL) : Option (Int32 × HI × HL) :=
  (f_String_length_s1 N (hi) (hl)).bind fun z1 => if (((hi 43 10 : Int32) - (hi 43 9)) : Int32) = (z1.1 : Int32) then (lpN (fun s => B_Tape_spells_s1_20 N s.1 s.2.1 s.2.2) N (0, z1.2.1, z1.2.2)).bind fun x8 => if x8.1 = 0 then some (1, x8.2.1, x8.2.2) else some (0, x8.2.1, x8.2.2) else some (0, z1.2.1, z1.2.2)
set_option maxRecDepth 10000 in
set_option maxHeartbeats 4000000 in
theorem b_Tape_spells_s1 (ev : EV) {N : Nat} {hi : HI} {hl : HL} {o : Int32 × HI × HL} (h : f_Tape_spells_s1 N hi hl = some o) : EM w0 ev 5 m_Tape_spells [.ref 43, .ref 1000003] hi hl (oI o) := by
  unfold f_Tape_spells_s1 at h
  refine EM.of rfl ?_
  show EX w0 ev 4 m_Tape_spells 0 [(0, .ref 43), (1, .ref 1000003)] [] (hi) (hl) (oI o)
  refine EX.aload_n (x := 43) rfl (List.mem_of_getElem? (i := 0) rfl) ?_
  refine EX.go (i := .getfield 38) (len := 3) (pc1 := 4) (st1 := [.int (hi 43 10)]) (hi1 := hi) (hl1 := hl) rfl ?_ (fun _ _ _ => rfl)
  refine EX.aload_n (x := 43) rfl (List.mem_of_getElem? (i := 0) rfl) ?_
  refine EX.go (i := .getfield 80) (len := 3) (pc1 := 8) (st1 := [.int (hi 43 9), .int (hi 43 10)]) (hi1 := hi) (hl1 := hl) rfl ?_ (fun _ _ _ => rfl)
  refine EX.go (i := .isub) (len := 1) (pc1 := 9) (st1 := [.int (((hi 43 10 : Int32) - (hi 43 9)))]) (hi1 := hi) (hl1 := hl) rfl ?_ (fun _ _ _ => rfl)
  refine EX.aload_n (x := 1000003) rfl (List.mem_of_getElem? (i := 1) rfl) ?_
  obtain ⟨z1, hz1, h⟩ := bnd_some h
  refine EX.callV (b := 1000003) (as := []) (rest := [.int (((hi 43 10 : Int32) - (hi 43 9)))]) (r := some (.int (z1.1))) (hi1 := z1.2.1) (hl1 := z1.2.2) rfl rfl rfl rfl rfl rfl ((b_String_length_s1 ev hz1).mono (by decide)) ?_
  show EX w0 ev 4 m_Tape_spells 13 [(0, .ref 43), (1, .ref 1000003)] [.int (z1.1), .int (((hi 43 10 : Int32) - (hi 43 9)))] (z1.2.1) (z1.2.2) (oI o)
  rcases ite_some h with ⟨c2, h⟩ | ⟨c2, h⟩
  · refine EX.go (i := .if_icmp .eq 5) (len := 3) (pc1 := 18) (st1 := []) (hi1 := z1.2.1) (hl1 := z1.2.2) rfl ?_ (fun _ _ _ => if_pos c2)
    refine EX.iconst (v := 0) rfl rfl ?_
    refine EX.istore_n (req1 := [(2, .int (0)), (0, .ref 43), (1, .ref 1000003)]) rfl rfl rfl ?_
    obtain ⟨x8, hx8, h⟩ := bnd_some h
    refine EX.pick [1, 2, 0] ?_ rfl
    refine lp_sound (f := fun s => B_Tape_spells_s1_20 N s.1 s.2.1 s.2.2) (PS := fun s => EX w0 ev 4 m_Tape_spells 20 [(0, .ref 43), (1, .ref 1000003), (2, .int (s.1))] [] (s.2.1) (s.2.2) (oI o)) (PX := fun x => (x.1 = 0 → EX w0 ev 4 m_Tape_spells 55 [] [] (x.2.1) (x.2.2) (oI o)) ∧ (x.1 = 1 → EX w0 ev 4 m_Tape_spells 47 [] [] (x.2.1) (x.2.2) (oI o))) ?_ N _ x8 hx8 ?_
    · exact fun s z hz hk => bB_Tape_spells_s1_20 ev hz hk
    rcases ite_some h with ⟨c9, h⟩ | ⟨c9, h⟩
    · refine ⟨fun _ => ?_, fun e9 => absurd (c9.symm.trans e9) (by decide)⟩
      show EX w0 ev 4 m_Tape_spells 55 [] [] (x8.2.1) (x8.2.2) (oI o)
      refine EX.iconst (v := 1) rfl rfl ?_
      obtain rfl := Option.some.inj h
      exact EX.zret rfl rfl (Or.inr rfl)
    · refine ⟨fun e9 => absurd e9 c9, fun _ => ?_⟩
      show EX w0 ev 4 m_Tape_spells 47 [] [] (x8.2.1) (x8.2.2) (oI o)
      refine EX.iconst (v := 0) rfl rfl ?_
      obtain rfl := Option.some.inj h
      exact EX.zret rfl rfl (Or.inl rfl)
  · refine EX.go (i := .if_icmp .eq 5) (len := 3) (pc1 := 16) (st1 := []) (hi1 := z1.2.1) (hl1 := z1.2.2) rfl ?_ (fun _ _ _ => if_neg c2)
    refine EX.iconst (v := 0) rfl rfl ?_
    obtain rfl := Option.some.inj h
    exact EX.zret rfl rfl (Or.inl rfl)
def f_String_coder_s2 (N : Nat) (hi : HI) (hl : HL) : Option (Int32 × HI × HL) :=
  if (Int32.toInt8 (0)).toInt32 = 0 then some (0, hi, hl) else none
set_option maxRecDepth 10000 in
set_option maxHeartbeats 4000000 in
theorem b_String_coder_s2 (ev : EV) {N : Nat} {hi : HI} {hl : HL} {o : Int32 × HI × HL} (h : f_String_coder_s2 N hi hl = some o) : EM w0 ev 1 m_String_coder [.ref 1000004] hi hl (oI o) := by
  unfold f_String_coder_s2 at h
  refine EM.of rfl ?_
  show EX w0 ev 0 m_String_coder 0 [(0, .ref 1000004)] [] (hi) (hl) (oI o)
  refine EX.go (i := .getstatic 38) (len := 3) (pc1 := 3) (st1 := [.int (1)]) (hi1 := hi) (hl1 := hl) rfl ?_ (fun _ _ _ => rfl)
  refine EX.go (i := .ifCond .eq 10) (len := 3) (pc1 := 6) (st1 := []) (hi1 := hi) (hl1 := hl) rfl ?_ (fun _ _ _ => rfl)
  refine EX.aload_n (x := 1000004) rfl (List.mem_of_getElem? (i := 0) rfl) ?_
  refine EX.go (i := .getfield 15) (len := 3) (pc1 := 10) (st1 := [.int (0)]) (hi1 := hi) (hl1 := hl) rfl ?_ (fun _ _ _ => rfl)
  refine EX.go (i := .goto 4) (len := 3) (pc1 := 14) (st1 := [.int (0)]) (hi1 := hi) (hl1 := hl) rfl ?_ (fun _ _ _ => rfl)
  obtain ⟨g1, h⟩ := grp_some h
  obtain rfl := Option.some.inj h
  exact EX.bret rfl rfl g1
def f_String_length_s2 (N : Nat) (hi : HI) (hl : HL) : Option (Int32 × HI × HL) :=
  (f_String_coder_s2 N (hi) (hl)).bind fun z1 => some (((3 : Int32) >>> ((z1.1) &&& 31)), z1.2.1, z1.2.2)
set_option maxRecDepth 10000 in
set_option maxHeartbeats 4000000 in
theorem b_String_length_s2 (ev : EV) {N : Nat} {hi : HI} {hl : HL} {o : Int32 × HI × HL} (h : f_String_length_s2 N hi hl = some o) : EM w0 ev 2 m_String_length [.ref 1000004] hi hl (oI o) := by
  unfold f_String_length_s2 at h
  refine EM.of rfl ?_
  show EX w0 ev 1 m_String_length 0 [(0, .ref 1000004)] [] (hi) (hl) (oI o)
  refine EX.aload_n (x := 1000004) rfl (List.mem_of_getElem? (i := 0) rfl) ?_
  refine EX.go (i := .getfield 9) (len := 3) (pc1 := 4) (st1 := [.ref 1000008]) (hi1 := hi) (hl1 := hl) rfl ?_ (fun _ _ _ => rfl)
  refine EX.go (i := .arraylength) (len := 1) (pc1 := 5) (st1 := [.int (3)]) (hi1 := hi) (hl1 := hl) rfl ?_ (fun _ _ _ => rfl)
  refine EX.aload_n (x := 1000004) rfl (List.mem_of_getElem? (i := 0) rfl) ?_
  obtain ⟨z1, hz1, h⟩ := bnd_some h
  refine EX.callV (b := 1000004) (as := []) (rest := [.int (3)]) (r := some (.int (z1.1))) (hi1 := z1.2.1) (hl1 := z1.2.2) rfl rfl rfl rfl rfl rfl ((b_String_coder_s2 ev hz1).mono (by decide)) ?_
  show EX w0 ev 1 m_String_length 9 [(0, .ref 1000004)] [.int (z1.1), .int (3)] (z1.2.1) (z1.2.2) (oI o)
  refine EX.go (i := .ishr) (len := 1) (pc1 := 10) (st1 := [.int (((3 : Int32) >>> ((z1.1) &&& 31)))]) (hi1 := z1.2.1) (hl1 := z1.2.2) rfl ?_ (fun _ _ _ => rfl)
  obtain rfl := Option.some.inj h
  exact EX.iret rfl rfl
def f_String_isLatin1_s2 (N : Nat) (hi : HI) (hl : HL) : Option (Int32 × HI × HL) :=
  some (1, hi, hl)
set_option maxRecDepth 10000 in
set_option maxHeartbeats 4000000 in
theorem b_String_isLatin1_s2 (ev : EV) {N : Nat} {hi : HI} {hl : HL} {o : Int32 × HI × HL} (h : f_String_isLatin1_s2 N hi hl = some o) : EM w0 ev 1 m_String_isLatin1 [.ref 1000004] hi hl (oI o) := by
  unfold f_String_isLatin1_s2 at h
  refine EM.of rfl ?_
  show EX w0 ev 0 m_String_isLatin1 0 [(0, .ref 1000004)] [] (hi) (hl) (oI o)
  refine EX.go (i := .getstatic 38) (len := 3) (pc1 := 3) (st1 := [.int (1)]) (hi1 := hi) (hl1 := hl) rfl ?_ (fun _ _ _ => rfl)
  refine EX.go (i := .ifCond .eq 14) (len := 3) (pc1 := 6) (st1 := []) (hi1 := hi) (hl1 := hl) rfl ?_ (fun _ _ _ => rfl)
  refine EX.aload_n (x := 1000004) rfl (List.mem_of_getElem? (i := 0) rfl) ?_
  refine EX.go (i := .getfield 15) (len := 3) (pc1 := 10) (st1 := [.int (0)]) (hi1 := hi) (hl1 := hl) rfl ?_ (fun _ _ _ => rfl)
  refine EX.go (i := .ifCond .ne 7) (len := 3) (pc1 := 13) (st1 := []) (hi1 := hi) (hl1 := hl) rfl ?_ (fun _ _ _ => rfl)
  refine EX.iconst (v := 1) rfl rfl ?_
  refine EX.go (i := .goto 4) (len := 3) (pc1 := 18) (st1 := [.int (1)]) (hi1 := hi) (hl1 := hl) rfl ?_ (fun _ _ _ => rfl)
  obtain rfl := Option.some.inj h
  exact EX.zret rfl rfl (Or.inr rfl)
def f_StringLatin1_charAt_s2 (N : Nat) (p1 : Int32) (hi : HI) (hl : HL) : Option (Int32 × HI × HL) :=
  (f_String_checkIndex N (p1) (3) (hi) (hl)).bind fun z1 => if (p1 : Int32) < 0 ∨ 3 ≤ Int32.toNatClampNeg (p1) then none else if (Int32.toUInt32 (((Int32.toUInt32 (((((strT.getD 2 []).getD (p1).toNatClampNeg 0) : Int32) &&& (255)))) % 65536).toInt32)).toUInt16.toUInt32.toInt32 = ((Int32.toUInt32 (((((strT.getD 2 []).getD (p1).toNatClampNeg 0) : Int32) &&& (255)))) % 65536).toInt32 then some (((Int32.toUInt32 (((((strT.getD 2 []).getD (p1).toNatClampNeg 0) : Int32) &&& (255)))) % 65536).toInt32, z1.2.1, z1.2.2) else none
set_option maxRecDepth 10000 in
set_option maxHeartbeats 4000000 in
theorem b_StringLatin1_charAt_s2 (ev : EV) {N : Nat} {p1 : Int32} {hi : HI} {hl : HL} {o : Int32 × HI × HL} (h : f_StringLatin1_charAt_s2 N p1 hi hl = some o) : EM w0 ev 3 m_StringLatin1_charAt [.ref 1000008, .int (p1)] hi hl (oI o) := by
  unfold f_StringLatin1_charAt_s2 at h
  refine EM.of rfl ?_
  show EX w0 ev 2 m_StringLatin1_charAt 0 [(0, .ref 1000008), (1, .int (p1))] [] (hi) (hl) (oI o)
  refine EX.iload_n (x := p1) rfl (List.mem_of_getElem? (i := 1) rfl) ?_
  refine EX.aload_n (x := 1000008) rfl (List.mem_of_getElem? (i := 0) rfl) ?_
  refine EX.go (i := .arraylength) (len := 1) (pc1 := 3) (st1 := [.int (3), .int (p1)]) (hi1 := hi) (hl1 := hl) rfl ?_ (fun _ _ _ => rfl)
  obtain ⟨z1, hz1, h⟩ := bnd_some h
  refine EX.callS (as := [.int (p1), .int (3)]) (rest := []) (r := none) (hi1 := z1.2.1) (hl1 := z1.2.2) rfl rfl rfl rfl rfl rfl ((b_String_checkIndex ev hz1).mono (by decide)) ?_
  show EX w0 ev 2 m_StringLatin1_charAt 6 [(0, .ref 1000008), (1, .int (p1))] [] (z1.2.1) (z1.2.2) (oI o)
  refine EX.aload_n (x := 1000008) rfl (List.mem_of_getElem? (i := 0) rfl) ?_
  refine EX.iload_n (x := p1) rfl (List.mem_of_getElem? (i := 1) rfl) ?_
  obtain ⟨g2, h⟩ := grd_some h
  refine EX.baloadR (v := .int (((strT.getD 2 []).getD (p1).toNatClampNeg 0))) rfl rfl rfl g2 rfl ?_
  refine EX.sipush (v := 255) rfl rfl ?_
  refine EX.go (i := .iand) (len := 1) (pc1 := 13) (st1 := [.int (((((strT.getD 2 []).getD (p1).toNatClampNeg 0) : Int32) &&& (255)))]) (hi1 := z1.2.1) (hl1 := z1.2.2) rfl ?_ (fun _ _ _ => rfl)
  refine EX.go (i := .i2c) (len := 1) (pc1 := 14) (st1 := [.int (((Int32.toUInt32 (((((strT.getD 2 []).getD (p1).toNatClampNeg 0) : Int32) &&& (255)))) % 65536).toInt32)]) (hi1 := z1.2.1) (hl1 := z1.2.2) rfl ?_ (fun _ _ _ => rfl)
  obtain ⟨g3, h⟩ := grp_some h
  obtain rfl := Option.some.inj h
  exact EX.cret rfl rfl g3
def f_String_charAt_s2 (N : Nat) (p1 : Int32) (hi : HI) (hl : HL) : Option (Int32 × HI × HL) :=
  (f_String_isLatin1_s2 N (hi) (hl)).bind fun z1 => if (z1.1 : Int32) = 0 then none else (f_StringLatin1_charAt_s2 N (p1) (z1.2.1) (z1.2.2)).bind fun z3 => if (Int32.toUInt32 (z3.1)).toUInt16.toUInt32.toInt32 = z3.1 then some (z3.1, z3.2.1, z3.2.2) else none
set_option maxRecDepth 10000 in
set_option maxHeartbeats 4000000 in
theorem b_String_charAt_s2 (ev : EV) {N : Nat} {p1 : Int32} {hi : HI} {hl : HL} {o : Int32 × HI × HL} (h : f_String_charAt_s2 N p1 hi hl = some o) : EM w0 ev 4 m_String_charAt [.ref 1000004, .int (p1)] hi hl (oI o) := by
  unfold f_String_charAt_s2 at h
  refine EM.of rfl ?_
  show EX w0 ev 3 m_String_charAt 0 [(0, .ref 1000004), (1, .int (p1))] [] (hi) (hl) (oI o)
  refine EX.aload_n (x := 1000004) rfl (List.mem_of_getElem? (i := 0) rfl) ?_
  obtain ⟨z1, hz1, h⟩ := bnd_some h
  refine EX.callV (b := 1000004) (as := []) (rest := []) (r := some (.int (z1.1))) (hi1 := z1.2.1) (hl1 := z1.2.2) rfl rfl rfl rfl rfl rfl ((b_String_isLatin1_s2 ev hz1).mono (by decide)) ?_
  show EX w0 ev 3 m_String_charAt 4 [(0, .ref 1000004), (1, .int (p1))] [.int (z1.1)] (z1.2.1) (z1.2.2) (oI o)
  rcases ite_some h with ⟨c2, h⟩ | ⟨c2, h⟩
  · refine EX.go (i := .ifCond .eq 12) (len := 3) (pc1 := 16) (st1 := []) (hi1 := z1.2.1) (hl1 := z1.2.2) rfl ?_ (fun _ _ _ => if_pos c2)
    refine EX.aload_n (x := 1000004) rfl (List.mem_of_getElem? (i := 0) rfl) ?_
    refine EX.go (i := .getfield 9) (len := 3) (pc1 := 20) (st1 := [.ref 1000008]) (hi1 := z1.2.1) (hl1 := z1.2.2) rfl ?_ (fun _ _ _ => rfl)
    refine EX.iload_n (x := p1) rfl (List.mem_of_getElem? (i := 1) rfl) ?_
    cases h
  · refine EX.go (i := .ifCond .eq 12) (len := 3) (pc1 := 7) (st1 := []) (hi1 := z1.2.1) (hl1 := z1.2.2) rfl ?_ (fun _ _ _ => if_neg c2)
    refine EX.aload_n (x := 1000004) rfl (List.mem_of_getElem? (i := 0) rfl) ?_
    refine EX.go (i := .getfield 9) (len := 3) (pc1 := 11) (st1 := [.ref 1000008]) (hi1 := z1.2.1) (hl1 := z1.2.2) rfl ?_ (fun _ _ _ => rfl)
    refine EX.iload_n (x := p1) rfl (List.mem_of_getElem? (i := 1) rfl) ?_
    obtain ⟨z3, hz3, h⟩ := bnd_some h
    refine EX.callS (as := [.ref 1000008, .int (p1)]) (rest := []) (r := some (.int (z3.1))) (hi1 := z3.2.1) (hl1 := z3.2.2) rfl rfl rfl rfl rfl rfl ((b_StringLatin1_charAt_s2 ev hz3).mono (by decide)) ?_
    show EX w0 ev 3 m_String_charAt 15 [(0, .ref 1000004), (1, .int (p1))] [.int (z3.1)] (z3.2.1) (z3.2.2) (oI o)
    obtain ⟨g4, h⟩ := grp_some h
    obtain rfl := Option.some.inj h
    exact EX.cret rfl rfl g4
def B_Tape_spells_s2_20 (N : Nat) (v2 : Int32) (hi : HI) (hl : HL) : Option ((Int32 × HI × HL) ⊕ (Nat × HI × HL)) :=
  (f_String_length_s2 N (hi) (hl)).bind fun z3 => if (z3.1 : Int32) ≤ (v2 : Int32) then some (.inr (0, z3.2.1, z3.2.2)) else if (((z3.2.1 43 9 : Int32) + v2) : Int32) < 0 ∨ 200 ≤ Int32.toNatClampNeg (((z3.2.1 43 9 : Int32) + v2)) then none else (f_String_charAt_s2 N (v2) (z3.2.1) (z3.2.2)).bind fun z6 => if (z3.2.1 46 (Int32.toNatClampNeg (((z3.2.1 43 9 : Int32) + v2))) : Int32) = (z6.1 : Int32) then some (.inl (v2 + 1, z6.2.1, z6.2.2)) else some (.inr (1, z6.2.1, z6.2.2))
set_option maxRecDepth 10000 in
set_option maxHeartbeats 4000000 in
theorem bB_Tape_spells_s2_20 (ev : EV) {N : Nat} {v2 : Int32} {hi : HI} {hl : HL} {z : (Int32 × HI × HL) ⊕ (Nat × HI × HL)} {OUT : Option Value × HI × HL} (h : B_Tape_spells_s2_20 N v2 hi hl = some z) (hk : Sum.elim (fun s => EX w0 ev 4 m_Tape_spells 20 [(0, .ref 43), (1, .ref 1000004), (2, .int (s.1))] [] (s.2.1) (s.2.2) OUT) (fun x => (x.1 = 0 → EX w0 ev 4 m_Tape_spells 55 [] [] (x.2.1) (x.2.2) OUT) ∧ (x.1 = 1 → EX w0 ev 4 m_Tape_spells 47 [] [] (x.2.1) (x.2.2) OUT)) z) : EX w0 ev 4 m_Tape_spells 20 [(0, .ref 43), (1, .ref 1000004), (2, .int (v2))] [] (hi) (hl) OUT := by
  unfold B_Tape_spells_s2_20 at h
  refine EX.iload_n (x := v2) rfl (List.mem_of_getElem? (i := 2) rfl) ?_
  refine EX.aload_n (x := 1000004) rfl (List.mem_of_getElem? (i := 1) rfl) ?_
  obtain ⟨z3, hz3, h⟩ := bnd_some h
  refine EX.callV (b := 1000004) (as := []) (rest := [.int (v2)]) (r := some (.int (z3.1))) (hi1 := z3.2.1) (hl1 := z3.2.2) rfl rfl rfl rfl rfl rfl ((b_String_length_s2 ev hz3).mono (by decide)) ?_
  show EX w0 ev 4 m_Tape_spells 25 [(0, .ref 43), (1, .ref 1000004), (2, .int (v2))] [.int (z3.1), .int (v2)] (z3.2.1) (z3.2.2) OUT
  rcases ite_some h with ⟨c4, h⟩ | ⟨c4, h⟩
  · refine EX.go (i := .if_icmp .ge 30) (len := 3) (pc1 := 55) (st1 := []) (hi1 := z3.2.1) (hl1 := z3.2.2) rfl ?_ (fun _ _ _ => if_pos c4)
    obtain rfl := Option.some.inj h
    have hk := hk.1 rfl
    have hk : EX w0 ev 4 m_Tape_spells 55 [] [] (z3.2.1) (z3.2.2) OUT := hk
    exact EX.pick [] hk rfl
  · refine EX.go (i := .if_icmp .ge 30) (len := 3) (pc1 := 28) (st1 := []) (hi1 := z3.2.1) (hl1 := z3.2.2) rfl ?_ (fun _ _ _ => if_neg c4)
    refine EX.aload_n (x := 43) rfl (List.mem_of_getElem? (i := 0) rfl) ?_
    refine EX.go (i := .getfield 18) (len := 3) (pc1 := 32) (st1 := [.ref 46]) (hi1 := z3.2.1) (hl1 := z3.2.2) rfl ?_ (fun _ _ _ => rfl)
    refine EX.aload_n (x := 43) rfl (List.mem_of_getElem? (i := 0) rfl) ?_
    refine EX.go (i := .getfield 80) (len := 3) (pc1 := 36) (st1 := [.int (z3.2.1 43 9), .ref 46]) (hi1 := z3.2.1) (hl1 := z3.2.2) rfl ?_ (fun _ _ _ => rfl)
    refine EX.iload_n (x := v2) rfl (List.mem_of_getElem? (i := 2) rfl) ?_
    refine EX.go (i := .iadd) (len := 1) (pc1 := 38) (st1 := [.int (((z3.2.1 43 9 : Int32) + v2)), .ref 46]) (hi1 := z3.2.1) (hl1 := z3.2.2) rfl ?_ (fun _ _ _ => rfl)
    obtain ⟨g5, h⟩ := grd_some h
    refine EX.baload rfl rfl g5 ?_
    refine EX.aload_n (x := 1000004) rfl (List.mem_of_getElem? (i := 1) rfl) ?_
    refine EX.iload_n (x := v2) rfl (List.mem_of_getElem? (i := 2) rfl) ?_
    obtain ⟨z6, hz6, h⟩ := bnd_some h
    refine EX.callV (b := 1000004) (as := [.int (v2)]) (rest := [.int (z3.2.1 46 (Int32.toNatClampNeg (((z3.2.1 43 9 : Int32) + v2))))]) (r := some (.int (z6.1))) (hi1 := z6.2.1) (hl1 := z6.2.2) rfl rfl rfl rfl rfl rfl ((b_String_charAt_s2 ev hz6).mono (by decide)) ?_
    show EX w0 ev 4 m_Tape_spells 44 [(0, .ref 43), (1, .ref 1000004), (2, .int (v2))] [.int (z6.1), .int (z3.2.1 46 (Int32.toNatClampNeg (((z3.2.1 43 9 : Int32) + v2))))] (z6.2.1) (z6.2.2) OUT
    rcases ite_some h with ⟨c7, h⟩ | ⟨c7, h⟩
    · refine EX.go (i := .if_icmp .eq 5) (len := 3) (pc1 := 49) (st1 := []) (hi1 := z6.2.1) (hl1 := z6.2.2) rfl ?_ (fun _ _ _ => if_pos c7)
      refine EX.iinc (x := v2) (v := v2 + 1) (req1 := [(2, .int (v2 + 1)), (0, .ref 43), (1, .ref 1000004)]) rfl rfl (List.mem_of_getElem? (i := 2) rfl) rfl rfl ?_
      refine EX.go (i := .goto (-32)) (len := 3) (pc1 := 20) (st1 := []) (hi1 := z6.2.1) (hl1 := z6.2.2) rfl ?_ (fun _ _ _ => rfl)
      obtain rfl := Option.some.inj h
      have hk : EX w0 ev 4 m_Tape_spells 20 [(0, .ref 43), (1, .ref 1000004), (2, .int (v2 + 1))] [] (z6.2.1) (z6.2.2) OUT := hk
      exact EX.pick [1, 2, 0] hk rfl
    · refine EX.go (i := .if_icmp .eq 5) (len := 3) (pc1 := 47) (st1 := []) (hi1 := z6.2.1) (hl1 := z6.2.2) rfl ?_ (fun _ _ _ => if_neg c7)
      obtain rfl := Option.some.inj h
      have hk := hk.2 rfl
      have hk : EX w0 ev 4 m_Tape_spells 47 [] [] (z6.2.1) (z6.2.2) OUT := hk
      exact EX.pick [] hk rfl
def f_Tape_spells_s2 (N : Nat) (hi : HI) (hl : HL) : Option (Int32 × HI × HL) :=
  (f_String_length_s2 N (hi) (hl)).bind fun z1 => if (((hi 43 10 : Int32) - (hi 43 9)) : Int32) = (z1.1 : Int32) then (lpN (fun s => B_Tape_spells_s2_20 N s.1 s.2.1 s.2.2) N (0, z1.2.1, z1.2.2)).bind fun x8 => if x8.1 = 0 then some (1, x8.2.1, x8.2.2) else some (0, x8.2.1, x8.2.2) else some (0, z1.2.1, z1.2.2)
set_option maxRecDepth 10000 in
set_option maxHeartbeats 4000000 in
theorem b_Tape_spells_s2 (ev : EV) {N : Nat} {hi : HI} {hl : HL} {o : Int32 × HI × HL} (h : f_Tape_spells_s2 N hi hl = some o) : EM w0 ev 5 m_Tape_spells [.ref 43, .ref 1000004] hi hl (oI o) := by
  unfold f_Tape_spells_s2 at h
  refine EM.of rfl ?_
  show EX w0 ev 4 m_Tape_spells 0 [(0, .ref 43), (1, .ref 1000004)] [] (hi) (hl) (oI o)
  refine EX.aload_n (x := 43) rfl (List.mem_of_getElem? (i := 0) rfl) ?_
  refine EX.go (i := .getfield 38) (len := 3) (pc1 := 4) (st1 := [.int (hi 43 10)]) (hi1 := hi) (hl1 := hl) rfl ?_ (fun _ _ _ => rfl)
  refine EX.aload_n (x := 43) rfl (List.mem_of_getElem? (i := 0) rfl) ?_
  refine EX.go (i := .getfield 80) (len := 3) (pc1 := 8) (st1 := [.int (hi 43 9), .int (hi 43 10)]) (hi1 := hi) (hl1 := hl) rfl ?_ (fun _ _ _ => rfl)
  refine EX.go (i := .isub) (len := 1) (pc1 := 9) (st1 := [.int (((hi 43 10 : Int32) - (hi 43 9)))]) (hi1 := hi) (hl1 := hl) rfl ?_ (fun _ _ _ => rfl)
  refine EX.aload_n (x := 1000004) rfl (List.mem_of_getElem? (i := 1) rfl) ?_
  obtain ⟨z1, hz1, h⟩ := bnd_some h
  refine EX.callV (b := 1000004) (as := []) (rest := [.int (((hi 43 10 : Int32) - (hi 43 9)))]) (r := some (.int (z1.1))) (hi1 := z1.2.1) (hl1 := z1.2.2) rfl rfl rfl rfl rfl rfl ((b_String_length_s2 ev hz1).mono (by decide)) ?_
  show EX w0 ev 4 m_Tape_spells 13 [(0, .ref 43), (1, .ref 1000004)] [.int (z1.1), .int (((hi 43 10 : Int32) - (hi 43 9)))] (z1.2.1) (z1.2.2) (oI o)
  rcases ite_some h with ⟨c2, h⟩ | ⟨c2, h⟩
  · refine EX.go (i := .if_icmp .eq 5) (len := 3) (pc1 := 18) (st1 := []) (hi1 := z1.2.1) (hl1 := z1.2.2) rfl ?_ (fun _ _ _ => if_pos c2)
    refine EX.iconst (v := 0) rfl rfl ?_
    refine EX.istore_n (req1 := [(2, .int (0)), (0, .ref 43), (1, .ref 1000004)]) rfl rfl rfl ?_
    obtain ⟨x8, hx8, h⟩ := bnd_some h
    refine EX.pick [1, 2, 0] ?_ rfl
    refine lp_sound (f := fun s => B_Tape_spells_s2_20 N s.1 s.2.1 s.2.2) (PS := fun s => EX w0 ev 4 m_Tape_spells 20 [(0, .ref 43), (1, .ref 1000004), (2, .int (s.1))] [] (s.2.1) (s.2.2) (oI o)) (PX := fun x => (x.1 = 0 → EX w0 ev 4 m_Tape_spells 55 [] [] (x.2.1) (x.2.2) (oI o)) ∧ (x.1 = 1 → EX w0 ev 4 m_Tape_spells 47 [] [] (x.2.1) (x.2.2) (oI o))) ?_ N _ x8 hx8 ?_
    · exact fun s z hz hk => bB_Tape_spells_s2_20 ev hz hk
    rcases ite_some h with ⟨c9, h⟩ | ⟨c9, h⟩
    · refine ⟨fun _ => ?_, fun e9 => absurd (c9.symm.trans e9) (by decide)⟩
      show EX w0 ev 4 m_Tape_spells 55 [] [] (x8.2.1) (x8.2.2) (oI o)
      refine EX.iconst (v := 1) rfl rfl ?_
      obtain rfl := Option.some.inj h
      exact EX.zret rfl rfl (Or.inr rfl)
    · refine ⟨fun e9 => absurd e9 c9, fun _ => ?_⟩
      show EX w0 ev 4 m_Tape_spells 47 [] [] (x8.2.1) (x8.2.2) (oI o)
      refine EX.iconst (v := 0) rfl rfl ?_
      obtain rfl := Option.some.inj h
      exact EX.zret rfl rfl (Or.inl rfl)
  · refine EX.go (i := .if_icmp .eq 5) (len := 3) (pc1 := 16) (st1 := []) (hi1 := z1.2.1) (hl1 := z1.2.2) rfl ?_ (fun _ _ _ => if_neg c2)
    refine EX.iconst (v := 0) rfl rfl ?_
    obtain rfl := Option.some.inj h
    exact EX.zret rfl rfl (Or.inl rfl)
def f_String_coder_s3 (N : Nat) (hi : HI) (hl : HL) : Option (Int32 × HI × HL) :=
  if (Int32.toInt8 (0)).toInt32 = 0 then some (0, hi, hl) else none
set_option maxRecDepth 10000 in
set_option maxHeartbeats 4000000 in
theorem b_String_coder_s3 (ev : EV) {N : Nat} {hi : HI} {hl : HL} {o : Int32 × HI × HL} (h : f_String_coder_s3 N hi hl = some o) : EM w0 ev 1 m_String_coder [.ref 1000005] hi hl (oI o) := by
  unfold f_String_coder_s3 at h
  refine EM.of rfl ?_
  show EX w0 ev 0 m_String_coder 0 [(0, .ref 1000005)] [] (hi) (hl) (oI o)
  refine EX.go (i := .getstatic 38) (len := 3) (pc1 := 3) (st1 := [.int (1)]) (hi1 := hi) (hl1 := hl) rfl ?_ (fun _ _ _ => rfl)
  refine EX.go (i := .ifCond .eq 10) (len := 3) (pc1 := 6) (st1 := []) (hi1 := hi) (hl1 := hl) rfl ?_ (fun _ _ _ => rfl)
  refine EX.aload_n (x := 1000005) rfl (List.mem_of_getElem? (i := 0) rfl) ?_
  refine EX.go (i := .getfield 15) (len := 3) (pc1 := 10) (st1 := [.int (0)]) (hi1 := hi) (hl1 := hl) rfl ?_ (fun _ _ _ => rfl)
  refine EX.go (i := .goto 4) (len := 3) (pc1 := 14) (st1 := [.int (0)]) (hi1 := hi) (hl1 := hl) rfl ?_ (fun _ _ _ => rfl)
  obtain ⟨g1, h⟩ := grp_some h
  obtain rfl := Option.some.inj h
  exact EX.bret rfl rfl g1
def f_String_length_s3 (N : Nat) (hi : HI) (hl : HL) : Option (Int32 × HI × HL) :=
  (f_String_coder_s3 N (hi) (hl)).bind fun z1 => some (((4 : Int32) >>> ((z1.1) &&& 31)), z1.2.1, z1.2.2)
set_option maxRecDepth 10000 in
set_option maxHeartbeats 4000000 in
theorem b_String_length_s3 (ev : EV) {N : Nat} {hi : HI} {hl : HL} {o : Int32 × HI × HL} (h : f_String_length_s3 N hi hl = some o) : EM w0 ev 2 m_String_length [.ref 1000005] hi hl (oI o) := by
  unfold f_String_length_s3 at h
  refine EM.of rfl ?_
  show EX w0 ev 1 m_String_length 0 [(0, .ref 1000005)] [] (hi) (hl) (oI o)
  refine EX.aload_n (x := 1000005) rfl (List.mem_of_getElem? (i := 0) rfl) ?_
  refine EX.go (i := .getfield 9) (len := 3) (pc1 := 4) (st1 := [.ref 1000009]) (hi1 := hi) (hl1 := hl) rfl ?_ (fun _ _ _ => rfl)
  refine EX.go (i := .arraylength) (len := 1) (pc1 := 5) (st1 := [.int (4)]) (hi1 := hi) (hl1 := hl) rfl ?_ (fun _ _ _ => rfl)
  refine EX.aload_n (x := 1000005) rfl (List.mem_of_getElem? (i := 0) rfl) ?_
  obtain ⟨z1, hz1, h⟩ := bnd_some h
  refine EX.callV (b := 1000005) (as := []) (rest := [.int (4)]) (r := some (.int (z1.1))) (hi1 := z1.2.1) (hl1 := z1.2.2) rfl rfl rfl rfl rfl rfl ((b_String_coder_s3 ev hz1).mono (by decide)) ?_
  show EX w0 ev 1 m_String_length 9 [(0, .ref 1000005)] [.int (z1.1), .int (4)] (z1.2.1) (z1.2.2) (oI o)
  refine EX.go (i := .ishr) (len := 1) (pc1 := 10) (st1 := [.int (((4 : Int32) >>> ((z1.1) &&& 31)))]) (hi1 := z1.2.1) (hl1 := z1.2.2) rfl ?_ (fun _ _ _ => rfl)
  obtain rfl := Option.some.inj h
  exact EX.iret rfl rfl
def f_String_isLatin1_s3 (N : Nat) (hi : HI) (hl : HL) : Option (Int32 × HI × HL) :=
  some (1, hi, hl)
set_option maxRecDepth 10000 in
set_option maxHeartbeats 4000000 in
theorem b_String_isLatin1_s3 (ev : EV) {N : Nat} {hi : HI} {hl : HL} {o : Int32 × HI × HL} (h : f_String_isLatin1_s3 N hi hl = some o) : EM w0 ev 1 m_String_isLatin1 [.ref 1000005] hi hl (oI o) := by
  unfold f_String_isLatin1_s3 at h
  refine EM.of rfl ?_
  show EX w0 ev 0 m_String_isLatin1 0 [(0, .ref 1000005)] [] (hi) (hl) (oI o)
  refine EX.go (i := .getstatic 38) (len := 3) (pc1 := 3) (st1 := [.int (1)]) (hi1 := hi) (hl1 := hl) rfl ?_ (fun _ _ _ => rfl)
  refine EX.go (i := .ifCond .eq 14) (len := 3) (pc1 := 6) (st1 := []) (hi1 := hi) (hl1 := hl) rfl ?_ (fun _ _ _ => rfl)
  refine EX.aload_n (x := 1000005) rfl (List.mem_of_getElem? (i := 0) rfl) ?_
  refine EX.go (i := .getfield 15) (len := 3) (pc1 := 10) (st1 := [.int (0)]) (hi1 := hi) (hl1 := hl) rfl ?_ (fun _ _ _ => rfl)
  refine EX.go (i := .ifCond .ne 7) (len := 3) (pc1 := 13) (st1 := []) (hi1 := hi) (hl1 := hl) rfl ?_ (fun _ _ _ => rfl)
  refine EX.iconst (v := 1) rfl rfl ?_
  refine EX.go (i := .goto 4) (len := 3) (pc1 := 18) (st1 := [.int (1)]) (hi1 := hi) (hl1 := hl) rfl ?_ (fun _ _ _ => rfl)
  obtain rfl := Option.some.inj h
  exact EX.zret rfl rfl (Or.inr rfl)
def f_StringLatin1_charAt_s3 (N : Nat) (p1 : Int32) (hi : HI) (hl : HL) : Option (Int32 × HI × HL) :=
  (f_String_checkIndex N (p1) (4) (hi) (hl)).bind fun z1 => if (p1 : Int32) < 0 ∨ 4 ≤ Int32.toNatClampNeg (p1) then none else if (Int32.toUInt32 (((Int32.toUInt32 (((((strT.getD 3 []).getD (p1).toNatClampNeg 0) : Int32) &&& (255)))) % 65536).toInt32)).toUInt16.toUInt32.toInt32 = ((Int32.toUInt32 (((((strT.getD 3 []).getD (p1).toNatClampNeg 0) : Int32) &&& (255)))) % 65536).toInt32 then some (((Int32.toUInt32 (((((strT.getD 3 []).getD (p1).toNatClampNeg 0) : Int32) &&& (255)))) % 65536).toInt32, z1.2.1, z1.2.2) else none
set_option maxRecDepth 10000 in
set_option maxHeartbeats 4000000 in
theorem b_StringLatin1_charAt_s3 (ev : EV) {N : Nat} {p1 : Int32} {hi : HI} {hl : HL} {o : Int32 × HI × HL} (h : f_StringLatin1_charAt_s3 N p1 hi hl = some o) : EM w0 ev 3 m_StringLatin1_charAt [.ref 1000009, .int (p1)] hi hl (oI o) := by
  unfold f_StringLatin1_charAt_s3 at h
  refine EM.of rfl ?_
  show EX w0 ev 2 m_StringLatin1_charAt 0 [(0, .ref 1000009), (1, .int (p1))] [] (hi) (hl) (oI o)
  refine EX.iload_n (x := p1) rfl (List.mem_of_getElem? (i := 1) rfl) ?_
  refine EX.aload_n (x := 1000009) rfl (List.mem_of_getElem? (i := 0) rfl) ?_
  refine EX.go (i := .arraylength) (len := 1) (pc1 := 3) (st1 := [.int (4), .int (p1)]) (hi1 := hi) (hl1 := hl) rfl ?_ (fun _ _ _ => rfl)
  obtain ⟨z1, hz1, h⟩ := bnd_some h
  refine EX.callS (as := [.int (p1), .int (4)]) (rest := []) (r := none) (hi1 := z1.2.1) (hl1 := z1.2.2) rfl rfl rfl rfl rfl rfl ((b_String_checkIndex ev hz1).mono (by decide)) ?_
  show EX w0 ev 2 m_StringLatin1_charAt 6 [(0, .ref 1000009), (1, .int (p1))] [] (z1.2.1) (z1.2.2) (oI o)
  refine EX.aload_n (x := 1000009) rfl (List.mem_of_getElem? (i := 0) rfl) ?_
  refine EX.iload_n (x := p1) rfl (List.mem_of_getElem? (i := 1) rfl) ?_
  obtain ⟨g2, h⟩ := grd_some h
  refine EX.baloadR (v := .int (((strT.getD 3 []).getD (p1).toNatClampNeg 0))) rfl rfl rfl g2 rfl ?_
  refine EX.sipush (v := 255) rfl rfl ?_
  refine EX.go (i := .iand) (len := 1) (pc1 := 13) (st1 := [.int (((((strT.getD 3 []).getD (p1).toNatClampNeg 0) : Int32) &&& (255)))]) (hi1 := z1.2.1) (hl1 := z1.2.2) rfl ?_ (fun _ _ _ => rfl)
  refine EX.go (i := .i2c) (len := 1) (pc1 := 14) (st1 := [.int (((Int32.toUInt32 (((((strT.getD 3 []).getD (p1).toNatClampNeg 0) : Int32) &&& (255)))) % 65536).toInt32)]) (hi1 := z1.2.1) (hl1 := z1.2.2) rfl ?_ (fun _ _ _ => rfl)
  obtain ⟨g3, h⟩ := grp_some h
  obtain rfl := Option.some.inj h
  exact EX.cret rfl rfl g3
def f_String_charAt_s3 (N : Nat) (p1 : Int32) (hi : HI) (hl : HL) : Option (Int32 × HI × HL) :=
  (f_String_isLatin1_s3 N (hi) (hl)).bind fun z1 => if (z1.1 : Int32) = 0 then none else (f_StringLatin1_charAt_s3 N (p1) (z1.2.1) (z1.2.2)).bind fun z3 => if (Int32.toUInt32 (z3.1)).toUInt16.toUInt32.toInt32 = z3.1 then some (z3.1, z3.2.1, z3.2.2) else none
set_option maxRecDepth 10000 in
set_option maxHeartbeats 4000000 in
theorem b_String_charAt_s3 (ev : EV) {N : Nat} {p1 : Int32} {hi : HI} {hl : HL} {o : Int32 × HI × HL} (h : f_String_charAt_s3 N p1 hi hl = some o) : EM w0 ev 4 m_String_charAt [.ref 1000005, .int (p1)] hi hl (oI o) := by
  unfold f_String_charAt_s3 at h
  refine EM.of rfl ?_
  show EX w0 ev 3 m_String_charAt 0 [(0, .ref 1000005), (1, .int (p1))] [] (hi) (hl) (oI o)
  refine EX.aload_n (x := 1000005) rfl (List.mem_of_getElem? (i := 0) rfl) ?_
  obtain ⟨z1, hz1, h⟩ := bnd_some h
  refine EX.callV (b := 1000005) (as := []) (rest := []) (r := some (.int (z1.1))) (hi1 := z1.2.1) (hl1 := z1.2.2) rfl rfl rfl rfl rfl rfl ((b_String_isLatin1_s3 ev hz1).mono (by decide)) ?_
  show EX w0 ev 3 m_String_charAt 4 [(0, .ref 1000005), (1, .int (p1))] [.int (z1.1)] (z1.2.1) (z1.2.2) (oI o)
  rcases ite_some h with ⟨c2, h⟩ | ⟨c2, h⟩
  · refine EX.go (i := .ifCond .eq 12) (len := 3) (pc1 := 16) (st1 := []) (hi1 := z1.2.1) (hl1 := z1.2.2) rfl ?_ (fun _ _ _ => if_pos c2)
    refine EX.aload_n (x := 1000005) rfl (List.mem_of_getElem? (i := 0) rfl) ?_
    refine EX.go (i := .getfield 9) (len := 3) (pc1 := 20) (st1 := [.ref 1000009]) (hi1 := z1.2.1) (hl1 := z1.2.2) rfl ?_ (fun _ _ _ => rfl)
    refine EX.iload_n (x := p1) rfl (List.mem_of_getElem? (i := 1) rfl) ?_
    cases h
  · refine EX.go (i := .ifCond .eq 12) (len := 3) (pc1 := 7) (st1 := []) (hi1 := z1.2.1) (hl1 := z1.2.2) rfl ?_ (fun _ _ _ => if_neg c2)
    refine EX.aload_n (x := 1000005) rfl (List.mem_of_getElem? (i := 0) rfl) ?_
    refine EX.go (i := .getfield 9) (len := 3) (pc1 := 11) (st1 := [.ref 1000009]) (hi1 := z1.2.1) (hl1 := z1.2.2) rfl ?_ (fun _ _ _ => rfl)
    refine EX.iload_n (x := p1) rfl (List.mem_of_getElem? (i := 1) rfl) ?_
    obtain ⟨z3, hz3, h⟩ := bnd_some h
    refine EX.callS (as := [.ref 1000009, .int (p1)]) (rest := []) (r := some (.int (z3.1))) (hi1 := z3.2.1) (hl1 := z3.2.2) rfl rfl rfl rfl rfl rfl ((b_StringLatin1_charAt_s3 ev hz3).mono (by decide)) ?_
    show EX w0 ev 3 m_String_charAt 15 [(0, .ref 1000005), (1, .int (p1))] [.int (z3.1)] (z3.2.1) (z3.2.2) (oI o)
    obtain ⟨g4, h⟩ := grp_some h
    obtain rfl := Option.some.inj h
    exact EX.cret rfl rfl g4
def B_Tape_spells_s3_20 (N : Nat) (v2 : Int32) (hi : HI) (hl : HL) : Option ((Int32 × HI × HL) ⊕ (Nat × HI × HL)) :=
  (f_String_length_s3 N (hi) (hl)).bind fun z3 => if (z3.1 : Int32) ≤ (v2 : Int32) then some (.inr (0, z3.2.1, z3.2.2)) else if (((z3.2.1 43 9 : Int32) + v2) : Int32) < 0 ∨ 200 ≤ Int32.toNatClampNeg (((z3.2.1 43 9 : Int32) + v2)) then none else (f_String_charAt_s3 N (v2) (z3.2.1) (z3.2.2)).bind fun z6 => if (z3.2.1 46 (Int32.toNatClampNeg (((z3.2.1 43 9 : Int32) + v2))) : Int32) = (z6.1 : Int32) then some (.inl (v2 + 1, z6.2.1, z6.2.2)) else some (.inr (1, z6.2.1, z6.2.2))
set_option maxRecDepth 10000 in
set_option maxHeartbeats 4000000 in
theorem bB_Tape_spells_s3_20 (ev : EV) {N : Nat} {v2 : Int32} {hi : HI} {hl : HL} {z : (Int32 × HI × HL) ⊕ (Nat × HI × HL)} {OUT : Option Value × HI × HL} (h : B_Tape_spells_s3_20 N v2 hi hl = some z) (hk : Sum.elim (fun s => EX w0 ev 4 m_Tape_spells 20 [(0, .ref 43), (1, .ref 1000005), (2, .int (s.1))] [] (s.2.1) (s.2.2) OUT) (fun x => (x.1 = 0 → EX w0 ev 4 m_Tape_spells 55 [] [] (x.2.1) (x.2.2) OUT) ∧ (x.1 = 1 → EX w0 ev 4 m_Tape_spells 47 [] [] (x.2.1) (x.2.2) OUT)) z) : EX w0 ev 4 m_Tape_spells 20 [(0, .ref 43), (1, .ref 1000005), (2, .int (v2))] [] (hi) (hl) OUT := by
  unfold B_Tape_spells_s3_20 at h
  refine EX.iload_n (x := v2) rfl (List.mem_of_getElem? (i := 2) rfl) ?_
  refine EX.aload_n (x := 1000005) rfl (List.mem_of_getElem? (i := 1) rfl) ?_
  obtain ⟨z3, hz3, h⟩ := bnd_some h
  refine EX.callV (b := 1000005) (as := []) (rest := [.int (v2)]) (r := some (.int (z3.1))) (hi1 := z3.2.1) (hl1 := z3.2.2) rfl rfl rfl rfl rfl rfl ((b_String_length_s3 ev hz3).mono (by decide)) ?_
  show EX w0 ev 4 m_Tape_spells 25 [(0, .ref 43), (1, .ref 1000005), (2, .int (v2))] [.int (z3.1), .int (v2)] (z3.2.1) (z3.2.2) OUT
  rcases ite_some h with ⟨c4, h⟩ | ⟨c4, h⟩
  · refine EX.go (i := .if_icmp .ge 30) (len := 3) (pc1 := 55) (st1 := []) (hi1 := z3.2.1) (hl1 := z3.2.2) rfl ?_ (fun _ _ _ => if_pos c4)
    obtain rfl := Option.some.inj h
    have hk := hk.1 rfl
    have hk : EX w0 ev 4 m_Tape_spells 55 [] [] (z3.2.1) (z3.2.2) OUT := hk
    exact EX.pick [] hk rfl
  · refine EX.go (i := .if_icmp .ge 30) (len := 3) (pc1 := 28) (st1 := []) (hi1 := z3.2.1) (hl1 := z3.2.2) rfl ?_ (fun _ _ _ => if_neg c4)
    refine EX.aload_n (x := 43) rfl (List.mem_of_getElem? (i := 0) rfl) ?_
    refine EX.go (i := .getfield 18) (len := 3) (pc1 := 32) (st1 := [.ref 46]) (hi1 := z3.2.1) (hl1 := z3.2.2) rfl ?_ (fun _ _ _ => rfl)
    refine EX.aload_n (x := 43) rfl (List.mem_of_getElem? (i := 0) rfl) ?_
    refine EX.go (i := .getfield 80) (len := 3) (pc1 := 36) (st1 := [.int (z3.2.1 43 9), .ref 46]) (hi1 := z3.2.1) (hl1 := z3.2.2) rfl ?_ (fun _ _ _ => rfl)
    refine EX.iload_n (x := v2) rfl (List.mem_of_getElem? (i := 2) rfl) ?_
    refine EX.go (i := .iadd) (len := 1) (pc1 := 38) (st1 := [.int (((z3.2.1 43 9 : Int32) + v2)), .ref 46]) (hi1 := z3.2.1) (hl1 := z3.2.2) rfl ?_ (fun _ _ _ => rfl)
    obtain ⟨g5, h⟩ := grd_some h
    refine EX.baload rfl rfl g5 ?_
    refine EX.aload_n (x := 1000005) rfl (List.mem_of_getElem? (i := 1) rfl) ?_
    refine EX.iload_n (x := v2) rfl (List.mem_of_getElem? (i := 2) rfl) ?_
    obtain ⟨z6, hz6, h⟩ := bnd_some h
    refine EX.callV (b := 1000005) (as := [.int (v2)]) (rest := [.int (z3.2.1 46 (Int32.toNatClampNeg (((z3.2.1 43 9 : Int32) + v2))))]) (r := some (.int (z6.1))) (hi1 := z6.2.1) (hl1 := z6.2.2) rfl rfl rfl rfl rfl rfl ((b_String_charAt_s3 ev hz6).mono (by decide)) ?_
    show EX w0 ev 4 m_Tape_spells 44 [(0, .ref 43), (1, .ref 1000005), (2, .int (v2))] [.int (z6.1), .int (z3.2.1 46 (Int32.toNatClampNeg (((z3.2.1 43 9 : Int32) + v2))))] (z6.2.1) (z6.2.2) OUT
    rcases ite_some h with ⟨c7, h⟩ | ⟨c7, h⟩
    · refine EX.go (i := .if_icmp .eq 5) (len := 3) (pc1 := 49) (st1 := []) (hi1 := z6.2.1) (hl1 := z6.2.2) rfl ?_ (fun _ _ _ => if_pos c7)
      refine EX.iinc (x := v2) (v := v2 + 1) (req1 := [(2, .int (v2 + 1)), (0, .ref 43), (1, .ref 1000005)]) rfl rfl (List.mem_of_getElem? (i := 2) rfl) rfl rfl ?_
      refine EX.go (i := .goto (-32)) (len := 3) (pc1 := 20) (st1 := []) (hi1 := z6.2.1) (hl1 := z6.2.2) rfl ?_ (fun _ _ _ => rfl)
      obtain rfl := Option.some.inj h
      have hk : EX w0 ev 4 m_Tape_spells 20 [(0, .ref 43), (1, .ref 1000005), (2, .int (v2 + 1))] [] (z6.2.1) (z6.2.2) OUT := hk
      exact EX.pick [1, 2, 0] hk rfl
    · refine EX.go (i := .if_icmp .eq 5) (len := 3) (pc1 := 47) (st1 := []) (hi1 := z6.2.1) (hl1 := z6.2.2) rfl ?_ (fun _ _ _ => if_neg c7)
      obtain rfl := Option.some.inj h
      have hk := hk.2 rfl
      have hk : EX w0 ev 4 m_Tape_spells 47 [] [] (z6.2.1) (z6.2.2) OUT := hk
      exact EX.pick [] hk rfl
def f_Tape_spells_s3 (N : Nat) (hi : HI) (hl : HL) : Option (Int32 × HI × HL) :=
  (f_String_length_s3 N (hi) (hl)).bind fun z1 => if (((hi 43 10 : Int32) - (hi 43 9)) : Int32) = (z1.1 : Int32) then (lpN (fun s => B_Tape_spells_s3_20 N s.1 s.2.1 s.2.2) N (0, z1.2.1, z1.2.2)).bind fun x8 => if x8.1 = 0 then some (1, x8.2.1, x8.2.2) else some (0, x8.2.1, x8.2.2) else some (0, z1.2.1, z1.2.2)
set_option maxRecDepth 10000 in
set_option maxHeartbeats 4000000 in
theorem b_Tape_spells_s3 (ev : EV) {N : Nat} {hi : HI} {hl : HL} {o : Int32 × HI × HL} (h : f_Tape_spells_s3 N hi hl = some o) : EM w0 ev 5 m_Tape_spells [.ref 43, .ref 1000005] hi hl (oI o) := by
  unfold f_Tape_spells_s3 at h
  refine EM.of rfl ?_
  show EX w0 ev 4 m_Tape_spells 0 [(0, .ref 43), (1, .ref 1000005)] [] (hi) (hl) (oI o)
  refine EX.aload_n (x := 43) rfl (List.mem_of_getElem? (i := 0) rfl) ?_
  refine EX.go (i := .getfield 38) (len := 3) (pc1 := 4) (st1 := [.int (hi 43 10)]) (hi1 := hi) (hl1 := hl) rfl ?_ (fun _ _ _ => rfl)
  refine EX.aload_n (x := 43) rfl (List.mem_of_getElem? (i := 0) rfl) ?_
  refine EX.go (i := .getfield 80) (len := 3) (pc1 := 8) (st1 := [.int (hi 43 9), .int (hi 43 10)]) (hi1 := hi) (hl1 := hl) rfl ?_ (fun _ _ _ => rfl)
  refine EX.go (i := .isub) (len := 1) (pc1 := 9) (st1 := [.int (((hi 43 10 : Int32) - (hi 43 9)))]) (hi1 := hi) (hl1 := hl) rfl ?_ (fun _ _ _ => rfl)
  refine EX.aload_n (x := 1000005) rfl (List.mem_of_getElem? (i := 1) rfl) ?_
  obtain ⟨z1, hz1, h⟩ := bnd_some h
  refine EX.callV (b := 1000005) (as := []) (rest := [.int (((hi 43 10 : Int32) - (hi 43 9)))]) (r := some (.int (z1.1))) (hi1 := z1.2.1) (hl1 := z1.2.2) rfl rfl rfl rfl rfl rfl ((b_String_length_s3 ev hz1).mono (by decide)) ?_
  show EX w0 ev 4 m_Tape_spells 13 [(0, .ref 43), (1, .ref 1000005)] [.int (z1.1), .int (((hi 43 10 : Int32) - (hi 43 9)))] (z1.2.1) (z1.2.2) (oI o)
  rcases ite_some h with ⟨c2, h⟩ | ⟨c2, h⟩
  · refine EX.go (i := .if_icmp .eq 5) (len := 3) (pc1 := 18) (st1 := []) (hi1 := z1.2.1) (hl1 := z1.2.2) rfl ?_ (fun _ _ _ => if_pos c2)
    refine EX.iconst (v := 0) rfl rfl ?_
    refine EX.istore_n (req1 := [(2, .int (0)), (0, .ref 43), (1, .ref 1000005)]) rfl rfl rfl ?_
    obtain ⟨x8, hx8, h⟩ := bnd_some h
    refine EX.pick [1, 2, 0] ?_ rfl
    refine lp_sound (f := fun s => B_Tape_spells_s3_20 N s.1 s.2.1 s.2.2) (PS := fun s => EX w0 ev 4 m_Tape_spells 20 [(0, .ref 43), (1, .ref 1000005), (2, .int (s.1))] [] (s.2.1) (s.2.2) (oI o)) (PX := fun x => (x.1 = 0 → EX w0 ev 4 m_Tape_spells 55 [] [] (x.2.1) (x.2.2) (oI o)) ∧ (x.1 = 1 → EX w0 ev 4 m_Tape_spells 47 [] [] (x.2.1) (x.2.2) (oI o))) ?_ N _ x8 hx8 ?_
    · exact fun s z hz hk => bB_Tape_spells_s3_20 ev hz hk
    rcases ite_some h with ⟨c9, h⟩ | ⟨c9, h⟩
    · refine ⟨fun _ => ?_, fun e9 => absurd (c9.symm.trans e9) (by decide)⟩
      show EX w0 ev 4 m_Tape_spells 55 [] [] (x8.2.1) (x8.2.2) (oI o)
      refine EX.iconst (v := 1) rfl rfl ?_
      obtain rfl := Option.some.inj h
      exact EX.zret rfl rfl (Or.inr rfl)
    · refine ⟨fun e9 => absurd e9 c9, fun _ => ?_⟩
      show EX w0 ev 4 m_Tape_spells 47 [] [] (x8.2.1) (x8.2.2) (oI o)
      refine EX.iconst (v := 0) rfl rfl ?_
      obtain rfl := Option.some.inj h
      exact EX.zret rfl rfl (Or.inl rfl)
  · refine EX.go (i := .if_icmp .eq 5) (len := 3) (pc1 := 16) (st1 := []) (hi1 := z1.2.1) (hl1 := z1.2.2) rfl ?_ (fun _ _ _ => if_neg c2)
    refine EX.iconst (v := 0) rfl rfl ?_
    obtain rfl := Option.some.inj h
    exact EX.zret rfl rfl (Or.inl rfl)
def J_Tape_readName_92 (N : Nat) (hi : HI) (hl : HL) : Option (Int32 × HI × HL) :=
  some (1, hi, hl)
set_option maxRecDepth 10000 in
set_option maxHeartbeats 4000000 in
theorem bJ_Tape_readName_92 (ev : EV) {N : Nat} {hi : HI} {hl : HL} {o : Int32 × HI × HL} (h : J_Tape_readName_92 N hi hl = some o) : EX w0 ev 5 m_Tape_readName 92 [] [] (hi) (hl) (oI o) := by
  unfold J_Tape_readName_92 at h
  refine EX.iconst (v := 1) rfl rfl ?_
  refine EX.go (i := .goto 4) (len := 3) (pc1 := 97) (st1 := [.int (1)]) (hi1 := hi) (hl1 := hl) rfl ?_ (fun _ _ _ => rfl)
  obtain rfl := Option.some.inj h
  exact EX.zret rfl rfl (Or.inr rfl)
def J_Tape_readName_72 (N : Nat) (s0 : Int32) (hi : HI) (hl : HL) : Option (Int32 × HI × HL) :=
  if ((wr (hi) 43 8 (s0)) 43 8 : Int32) = (7 : Int32) then (f_Tape_refuse N (1) (wr (hi) 43 8 (s0)) (hl)).bind fun z11 => if (z11.1 : Int32) = 0 then some (0, z11.2.1, z11.2.2) else J_Tape_readName_92 N (z11.2.1) (z11.2.2) else J_Tape_readName_92 N (wr (hi) 43 8 (s0)) (hl)
set_option maxRecDepth 10000 in
set_option maxHeartbeats 4000000 in
theorem bJ_Tape_readName_72 (ev : EV) {N : Nat} {s0 : Int32} {hi : HI} {hl : HL} {o : Int32 × HI × HL} (h : J_Tape_readName_72 N s0 hi hl = some o) : EX w0 ev 5 m_Tape_readName 72 [(0, .ref 43)] [.int (s0), .ref 43] (hi) (hl) (oI o) := by
  unfold J_Tape_readName_72 at h
  refine EX.go (i := .putfield 45) (len := 3) (pc1 := 75) (st1 := []) (hi1 := wr (hi) 43 8 (s0)) (hl1 := hl) rfl ?_ (fun _ _ _ => rfl)
  refine EX.aload_n (x := 43) rfl (List.mem_of_getElem? (i := 0) rfl) ?_
  refine EX.go (i := .getfield 45) (len := 3) (pc1 := 79) (st1 := [.int ((wr (hi) 43 8 (s0)) 43 8)]) (hi1 := wr (hi) 43 8 (s0)) (hl1 := hl) rfl ?_ (fun _ _ _ => rfl)
  refine EX.bipush (v := 7) rfl rfl ?_
  rcases ite_some h with ⟨c10, h⟩ | ⟨c10, h⟩
  · refine EX.go (i := .if_icmp .ne 11) (len := 3) (pc1 := 84) (st1 := []) (hi1 := wr (hi) 43 8 (s0)) (hl1 := hl) rfl ?_ (fun _ _ _ => if_pos c10)
    refine EX.aload_n (x := 43) rfl (List.mem_of_getElem? (i := 0) rfl) ?_
    refine EX.iconst (v := 1) rfl rfl ?_
    obtain ⟨z11, hz11, h⟩ := bnd_some h
    refine EX.callV (b := 43) (as := [.int (1)]) (rest := []) (r := some (.int (z11.1))) (hi1 := z11.2.1) (hl1 := z11.2.2) rfl rfl rfl rfl rfl rfl ((b_Tape_refuse ev hz11).mono (by decide)) ?_
    show EX w0 ev 5 m_Tape_readName 89 [(0, .ref 43)] [.int (z11.1)] (z11.2.1) (z11.2.2) (oI o)
    rcases ite_some h with ⟨c12, h⟩ | ⟨c12, h⟩
    · refine EX.go (i := .ifCond .eq 7) (len := 3) (pc1 := 96) (st1 := []) (hi1 := z11.2.1) (hl1 := z11.2.2) rfl ?_ (fun _ _ _ => if_pos c12)
      refine EX.iconst (v := 0) rfl rfl ?_
      obtain rfl := Option.some.inj h
      exact EX.zret rfl rfl (Or.inl rfl)
    · refine EX.go (i := .ifCond .eq 7) (len := 3) (pc1 := 92) (st1 := []) (hi1 := z11.2.1) (hl1 := z11.2.2) rfl ?_ (fun _ _ _ => if_neg c12)
      refine EX.pick [] ?_ rfl
      exact bJ_Tape_readName_92 ev h
  · refine EX.go (i := .if_icmp .ne 11) (len := 3) (pc1 := 92) (st1 := []) (hi1 := wr (hi) 43 8 (s0)) (hl1 := hl) rfl ?_ (fun _ _ _ => if_neg c10)
    refine EX.pick [] ?_ rfl
    exact bJ_Tape_readName_92 ev h
def f_Tape_readName (N : Nat) (hi : HI) (hl : HL) : Option (Int32 × HI × HL) :=
  (f_Tape_behindRun N (hi 43 9) (97) (122) (hi) (hl)).bind fun z1 => (f_Tape_spells_s0 N (wr (z1.2.1) 43 10 (z1.1)) (z1.2.2)).bind fun z2 => if (z2.1 : Int32) = 0 then (f_Tape_spells_s1 N (z2.2.1) (z2.2.2)).bind fun z4 => if (z4.1 : Int32) = 0 then (f_Tape_spells_s2 N (z4.2.1) (z4.2.2)).bind fun z6 => if (z6.1 : Int32) = 0 then (f_Tape_spells_s3 N (z6.2.1) (z6.2.2)).bind fun z8 => if (z8.1 : Int32) = 0 then J_Tape_readName_72 N (7) (z8.2.1) (z8.2.2) else J_Tape_readName_72 N (6) (z8.2.1) (z8.2.2) else J_Tape_readName_72 N (5) (z6.2.1) (z6.2.2) else J_Tape_readName_72 N (4) (z4.2.1) (z4.2.2) else J_Tape_readName_72 N (3) (z2.2.1) (z2.2.2)
set_option maxRecDepth 10000 in
set_option maxHeartbeats 4000000 in
theorem b_Tape_readName (ev : EV) {N : Nat} {hi : HI} {hl : HL} {o : Int32 × HI × HL} (h : f_Tape_readName N hi hl = some o) : EM w0 ev 6 m_Tape_readName [.ref 43] hi hl (oI o) := by
  unfold f_Tape_readName at h
  refine EM.of rfl ?_
  show EX w0 ev 5 m_Tape_readName 0 [(0, .ref 43)] [] (hi) (hl) (oI o)
  refine EX.aload_n (x := 43) rfl (List.mem_of_getElem? (i := 0) rfl) ?_
  refine EX.aload_n (x := 43) rfl (List.mem_of_getElem? (i := 0) rfl) ?_
  refine EX.aload_n (x := 43) rfl (List.mem_of_getElem? (i := 0) rfl) ?_
  refine EX.go (i := .getfield 80) (len := 3) (pc1 := 6) (st1 := [.int (hi 43 9), .ref 43, .ref 43]) (hi1 := hi) (hl1 := hl) rfl ?_ (fun _ _ _ => rfl)
  refine EX.bipush (v := 97) rfl rfl ?_
  refine EX.bipush (v := 122) rfl rfl ?_
  obtain ⟨z1, hz1, h⟩ := bnd_some h
  refine EX.callV (b := 43) (as := [.int (hi 43 9), .int (97), .int (122)]) (rest := [.ref 43]) (r := some (.int (z1.1))) (hi1 := z1.2.1) (hl1 := z1.2.2) rfl rfl rfl rfl rfl rfl ((b_Tape_behindRun ev hz1).mono (by decide)) ?_
  show EX w0 ev 5 m_Tape_readName 13 [(0, .ref 43)] [.int (z1.1), .ref 43] (z1.2.1) (z1.2.2) (oI o)
  refine EX.go (i := .putfield 38) (len := 3) (pc1 := 16) (st1 := []) (hi1 := wr (z1.2.1) 43 10 (z1.1)) (hl1 := z1.2.2) rfl ?_ (fun _ _ _ => rfl)
  refine EX.aload_n (x := 43) rfl (List.mem_of_getElem? (i := 0) rfl) ?_
  refine EX.aload_n (x := 43) rfl (List.mem_of_getElem? (i := 0) rfl) ?_
  refine EX.go (i := .ldc 93) (len := 2) (pc1 := 20) (st1 := [.ref 1000002, .ref 43, .ref 43]) (hi1 := wr (z1.2.1) 43 10 (z1.1)) (hl1 := z1.2.2) rfl ?_ (fun _ _ _ => rfl)
  obtain ⟨z2, hz2, h⟩ := bnd_some h
  refine EX.callV (b := 43) (as := [.ref 1000002]) (rest := [.ref 43]) (r := some (.int (z2.1))) (hi1 := z2.2.1) (hl1 := z2.2.2) rfl rfl rfl rfl rfl rfl ((b_Tape_spells_s0 ev hz2).mono (by decide)) ?_
  show EX w0 ev 5 m_Tape_readName 23 [(0, .ref 43)] [.int (z2.1), .ref 43] (z2.2.1) (z2.2.2) (oI o)
  rcases ite_some h with ⟨c3, h⟩ | ⟨c3, h⟩
  · refine EX.go (i := .ifCond .eq 7) (len := 3) (pc1 := 30) (st1 := [.ref 43]) (hi1 := z2.2.1) (hl1 := z2.2.2) rfl ?_ (fun _ _ _ => if_pos c3)
    refine EX.aload_n (x := 43) rfl (List.mem_of_getElem? (i := 0) rfl) ?_
    refine EX.go (i := .ldc 99) (len := 2) (pc1 := 33) (st1 := [.ref 1000003, .ref 43, .ref 43]) (hi1 := z2.2.1) (hl1 := z2.2.2) rfl ?_ (fun _ _ _ => rfl)
    obtain ⟨z4, hz4, h⟩ := bnd_some h
    refine EX.callV (b := 43) (as := [.ref 1000003]) (rest := [.ref 43]) (r := some (.int (z4.1))) (hi1 := z4.2.1) (hl1 := z4.2.2) rfl rfl rfl rfl rfl rfl ((b_Tape_spells_s1 ev hz4).mono (by decide)) ?_
    show EX w0 ev 5 m_Tape_readName 36 [(0, .ref 43)] [.int (z4.1), .ref 43] (z4.2.1) (z4.2.2) (oI o)
    rcases ite_some h with ⟨c5, h⟩ | ⟨c5, h⟩
    · refine EX.go (i := .ifCond .eq 7) (len := 3) (pc1 := 43) (st1 := [.ref 43]) (hi1 := z4.2.1) (hl1 := z4.2.2) rfl ?_ (fun _ _ _ => if_pos c5)
      refine EX.aload_n (x := 43) rfl (List.mem_of_getElem? (i := 0) rfl) ?_
      refine EX.go (i := .ldc 101) (len := 2) (pc1 := 46) (st1 := [.ref 1000004, .ref 43, .ref 43]) (hi1 := z4.2.1) (hl1 := z4.2.2) rfl ?_ (fun _ _ _ => rfl)
      obtain ⟨z6, hz6, h⟩ := bnd_some h
      refine EX.callV (b := 43) (as := [.ref 1000004]) (rest := [.ref 43]) (r := some (.int (z6.1))) (hi1 := z6.2.1) (hl1 := z6.2.2) rfl rfl rfl rfl rfl rfl ((b_Tape_spells_s2 ev hz6).mono (by decide)) ?_
      show EX w0 ev 5 m_Tape_readName 49 [(0, .ref 43)] [.int (z6.1), .ref 43] (z6.2.1) (z6.2.2) (oI o)
      rcases ite_some h with ⟨c7, h⟩ | ⟨c7, h⟩
      · refine EX.go (i := .ifCond .eq 7) (len := 3) (pc1 := 56) (st1 := [.ref 43]) (hi1 := z6.2.1) (hl1 := z6.2.2) rfl ?_ (fun _ _ _ => if_pos c7)
        refine EX.aload_n (x := 43) rfl (List.mem_of_getElem? (i := 0) rfl) ?_
        refine EX.go (i := .ldc 103) (len := 2) (pc1 := 59) (st1 := [.ref 1000005, .ref 43, .ref 43]) (hi1 := z6.2.1) (hl1 := z6.2.2) rfl ?_ (fun _ _ _ => rfl)
        obtain ⟨z8, hz8, h⟩ := bnd_some h
        refine EX.callV (b := 43) (as := [.ref 1000005]) (rest := [.ref 43]) (r := some (.int (z8.1))) (hi1 := z8.2.1) (hl1 := z8.2.2) rfl rfl rfl rfl rfl rfl ((b_Tape_spells_s3 ev hz8).mono (by decide)) ?_
        show EX w0 ev 5 m_Tape_readName 62 [(0, .ref 43)] [.int (z8.1), .ref 43] (z8.2.1) (z8.2.2) (oI o)
        rcases ite_some h with ⟨c9, h⟩ | ⟨c9, h⟩
        · refine EX.go (i := .ifCond .eq 8) (len := 3) (pc1 := 70) (st1 := [.ref 43]) (hi1 := z8.2.1) (hl1 := z8.2.2) rfl ?_ (fun _ _ _ => if_pos c9)
          refine EX.bipush (v := 7) rfl rfl ?_
          refine EX.pick [0] ?_ rfl
          exact bJ_Tape_readName_72 ev h
        · refine EX.go (i := .ifCond .eq 8) (len := 3) (pc1 := 65) (st1 := [.ref 43]) (hi1 := z8.2.1) (hl1 := z8.2.2) rfl ?_ (fun _ _ _ => if_neg c9)
          refine EX.bipush (v := 6) rfl rfl ?_
          refine EX.go (i := .goto 5) (len := 3) (pc1 := 72) (st1 := [.int (6), .ref 43]) (hi1 := z8.2.1) (hl1 := z8.2.2) rfl ?_ (fun _ _ _ => rfl)
          refine EX.pick [0] ?_ rfl
          exact bJ_Tape_readName_72 ev h
      · refine EX.go (i := .ifCond .eq 7) (len := 3) (pc1 := 52) (st1 := [.ref 43]) (hi1 := z6.2.1) (hl1 := z6.2.2) rfl ?_ (fun _ _ _ => if_neg c7)
        refine EX.iconst (v := 5) rfl rfl ?_
        refine EX.go (i := .goto 19) (len := 3) (pc1 := 72) (st1 := [.int (5), .ref 43]) (hi1 := z6.2.1) (hl1 := z6.2.2) rfl ?_ (fun _ _ _ => rfl)
        refine EX.pick [0] ?_ rfl
        exact bJ_Tape_readName_72 ev h
    · refine EX.go (i := .ifCond .eq 7) (len := 3) (pc1 := 39) (st1 := [.ref 43]) (hi1 := z4.2.1) (hl1 := z4.2.2) rfl ?_ (fun _ _ _ => if_neg c5)
      refine EX.iconst (v := 4) rfl rfl ?_
      refine EX.go (i := .goto 32) (len := 3) (pc1 := 72) (st1 := [.int (4), .ref 43]) (hi1 := z4.2.1) (hl1 := z4.2.2) rfl ?_ (fun _ _ _ => rfl)
      refine EX.pick [0] ?_ rfl
      exact bJ_Tape_readName_72 ev h
  · refine EX.go (i := .ifCond .eq 7) (len := 3) (pc1 := 26) (st1 := [.ref 43]) (hi1 := z2.2.1) (hl1 := z2.2.2) rfl ?_ (fun _ _ _ => if_neg c3)
    refine EX.iconst (v := 3) rfl rfl ?_
    refine EX.go (i := .goto 45) (len := 3) (pc1 := 72) (st1 := [.int (3), .ref 43]) (hi1 := z2.2.1) (hl1 := z2.2.2) rfl ?_ (fun _ _ _ => rfl)
    refine EX.pick [0] ?_ rfl
    exact bJ_Tape_readName_72 ev h
def B_Tape_readNumber_50 (N : Nat) (v1 : Int32) (hi : HI) (hl : HL) : Option ((Int32 × HI × HL) ⊕ (HI × HL)) :=
  if (hi 43 10 : Int32) ≤ (v1 : Int32) then some (.inr (hi, hl)) else if (v1 : Int32) < 0 ∨ 200 ≤ Int32.toNatClampNeg (v1) then none else some (.inl (v1 + 1, wr (hi) 43 11 (((((((hi 43 11 : Int32) * (10)) : Int32) + (hi 46 (Int32.toNatClampNeg (v1)))) : Int32) - (48))), hl))
set_option maxRecDepth 10000 in
set_option maxHeartbeats 4000000 in
theorem bB_Tape_readNumber_50 (ev : EV) {N : Nat} {v1 : Int32} {hi : HI} {hl : HL} {z : (Int32 × HI × HL) ⊕ (HI × HL)} {OUT : Option Value × HI × HL} (h : B_Tape_readNumber_50 N v1 hi hl = some z) (hk : Sum.elim (fun s => EX w0 ev 1 m_Tape_readNumber 50 [(0, .ref 43), (1, .int (s.1))] [] (s.2.1) (s.2.2) OUT) (fun x => EX w0 ev 1 m_Tape_readNumber 85 [] [] (x.1) (x.2) OUT) z) : EX w0 ev 1 m_Tape_readNumber 50 [(0, .ref 43), (1, .int (v1))] [] (hi) (hl) OUT := by
  unfold B_Tape_readNumber_50 at h
  refine EX.iload_n (x := v1) rfl (List.mem_of_getElem? (i := 1) rfl) ?_
  refine EX.aload_n (x := 43) rfl (List.mem_of_getElem? (i := 0) rfl) ?_
  refine EX.go (i := .getfield 38) (len := 3) (pc1 := 55) (st1 := [.int (hi 43 10), .int (v1)]) (hi1 := hi) (hl1 := hl) rfl ?_ (fun _ _ _ => rfl)
  rcases ite_some h with ⟨c3, h⟩ | ⟨c3, h⟩
  · refine EX.go (i := .if_icmp .ge 30) (len := 3) (pc1 := 85) (st1 := []) (hi1 := hi) (hl1 := hl) rfl ?_ (fun _ _ _ => if_pos c3)
    obtain rfl := Option.some.inj h
    have hk : EX w0 ev 1 m_Tape_readNumber 85 [] [] (hi) (hl) OUT := hk
    exact EX.pick [] hk rfl
  · refine EX.go (i := .if_icmp .ge 30) (len := 3) (pc1 := 58) (st1 := []) (hi1 := hi) (hl1 := hl) rfl ?_ (fun _ _ _ => if_neg c3)
    refine EX.aload_n (x := 43) rfl (List.mem_of_getElem? (i := 0) rfl) ?_
    refine EX.aload_n (x := 43) rfl (List.mem_of_getElem? (i := 0) rfl) ?_
    refine EX.go (i := .getfield 74) (len := 3) (pc1 := 63) (st1 := [.int (hi 43 11), .ref 43]) (hi1 := hi) (hl1 := hl) rfl ?_ (fun _ _ _ => rfl)
    refine EX.bipush (v := 10) rfl rfl ?_
    refine EX.go (i := .imul) (len := 1) (pc1 := 66) (st1 := [.int (((hi 43 11 : Int32) * (10))), .ref 43]) (hi1 := hi) (hl1 := hl) rfl ?_ (fun _ _ _ => rfl)
    refine EX.aload_n (x := 43) rfl (List.mem_of_getElem? (i := 0) rfl) ?_
    refine EX.go (i := .getfield 18) (len := 3) (pc1 := 70) (st1 := [.ref 46, .int (((hi 43 11 : Int32) * (10))), .ref 43]) (hi1 := hi) (hl1 := hl) rfl ?_ (fun _ _ _ => rfl)
    refine EX.iload_n (x := v1) rfl (List.mem_of_getElem? (i := 1) rfl) ?_
    obtain ⟨g4, h⟩ := grd_some h
    refine EX.baload rfl rfl g4 ?_
    refine EX.go (i := .iadd) (len := 1) (pc1 := 73) (st1 := [.int (((((hi 43 11 : Int32) * (10)) : Int32) + (hi 46 (Int32.toNatClampNeg (v1))))), .ref 43]) (hi1 := hi) (hl1 := hl) rfl ?_ (fun _ _ _ => rfl)
    refine EX.bipush (v := 48) rfl rfl ?_
    refine EX.go (i := .isub) (len := 1) (pc1 := 76) (st1 := [.int (((((((hi 43 11 : Int32) * (10)) : Int32) + (hi 46 (Int32.toNatClampNeg (v1)))) : Int32) - (48))), .ref 43]) (hi1 := hi) (hl1 := hl) rfl ?_ (fun _ _ _ => rfl)
    refine EX.go (i := .putfield 74) (len := 3) (pc1 := 79) (st1 := []) (hi1 := wr (hi) 43 11 (((((((hi 43 11 : Int32) * (10)) : Int32) + (hi 46 (Int32.toNatClampNeg (v1)))) : Int32) - (48)))) (hl1 := hl) rfl ?_ (fun _ _ _ => rfl)
    refine EX.iinc (x := v1) (v := v1 + 1) (req1 := [(1, .int (v1 + 1)), (0, .ref 43)]) rfl rfl (List.mem_of_getElem? (i := 1) rfl) rfl rfl ?_
    refine EX.go (i := .goto (-32)) (len := 3) (pc1 := 50) (st1 := []) (hi1 := wr (hi) 43 11 (((((((hi 43 11 : Int32) * (10)) : Int32) + (hi 46 (Int32.toNatClampNeg (v1)))) : Int32) - (48)))) (hl1 := hl) rfl ?_ (fun _ _ _ => rfl)
    obtain rfl := Option.some.inj h
    have hk : EX w0 ev 1 m_Tape_readNumber 50 [(0, .ref 43), (1, .int (v1 + 1))] [] (wr (hi) 43 11 (((((((hi 43 11 : Int32) * (10)) : Int32) + (hi 46 (Int32.toNatClampNeg (v1)))) : Int32) - (48)))) (hl) OUT := hk
    exact EX.pick [1, 0] hk rfl
def f_Tape_readNumber (N : Nat) (hi : HI) (hl : HL) : Option (Int32 × HI × HL) :=
  (f_Tape_behindRun N (hi 43 9) (48) (57) (hi) (hl)).bind fun z1 => if ((((wr (z1.2.1) 43 10 (z1.1)) 43 10 : Int32) - ((wr (z1.2.1) 43 10 (z1.1)) 43 9)) : Int32) ≤ (2 : Int32) then (lpN (fun s => B_Tape_readNumber_50 N s.1 s.2.1 s.2.2) N ((wr (wr (wr (z1.2.1) 43 10 (z1.1)) 43 8 (1)) 43 11 (0)) 43 9, wr (wr (wr (z1.2.1) 43 10 (z1.1)) 43 8 (1)) 43 11 (0), z1.2.2)).bind fun x5 => some (1, x5.1, x5.2) else (f_Tape_refuse N (1) (wr (z1.2.1) 43 10 (z1.1)) (z1.2.2)).bind fun z6 => if (z6.1 : Int32) = 0 ∨ (z6.1 : Int32) = 1 then some (z6.1, z6.2.1, z6.2.2) else none
set_option maxRecDepth 10000 in
set_option maxHeartbeats 4000000 in
theorem b_Tape_readNumber (ev : EV) {N : Nat} {hi : HI} {hl : HL} {o : Int32 × HI × HL} (h : f_Tape_readNumber N hi hl = some o) : EM w0 ev 2 m_Tape_readNumber [.ref 43] hi hl (oI o) := by
  unfold f_Tape_readNumber at h
  refine EM.of rfl ?_
  show EX w0 ev 1 m_Tape_readNumber 0 [(0, .ref 43)] [] (hi) (hl) (oI o)
  refine EX.aload_n (x := 43) rfl (List.mem_of_getElem? (i := 0) rfl) ?_
  refine EX.aload_n (x := 43) rfl (List.mem_of_getElem? (i := 0) rfl) ?_
  refine EX.aload_n (x := 43) rfl (List.mem_of_getElem? (i := 0) rfl) ?_
  refine EX.go (i := .getfield 80) (len := 3) (pc1 := 6) (st1 := [.int (hi 43 9), .ref 43, .ref 43]) (hi1 := hi) (hl1 := hl) rfl ?_ (fun _ _ _ => rfl)
  refine EX.bipush (v := 48) rfl rfl ?_
  refine EX.bipush (v := 57) rfl rfl ?_
  obtain ⟨z1, hz1, h⟩ := bnd_some h
  refine EX.callV (b := 43) (as := [.int (hi 43 9), .int (48), .int (57)]) (rest := [.ref 43]) (r := some (.int (z1.1))) (hi1 := z1.2.1) (hl1 := z1.2.2) rfl rfl rfl rfl rfl rfl ((b_Tape_behindRun ev hz1).mono (by decide)) ?_
  show EX w0 ev 1 m_Tape_readNumber 13 [(0, .ref 43)] [.int (z1.1), .ref 43] (z1.2.1) (z1.2.2) (oI o)
  refine EX.go (i := .putfield 38) (len := 3) (pc1 := 16) (st1 := []) (hi1 := wr (z1.2.1) 43 10 (z1.1)) (hl1 := z1.2.2) rfl ?_ (fun _ _ _ => rfl)
  refine EX.aload_n (x := 43) rfl (List.mem_of_getElem? (i := 0) rfl) ?_
  refine EX.go (i := .getfield 38) (len := 3) (pc1 := 20) (st1 := [.int ((wr (z1.2.1) 43 10 (z1.1)) 43 10)]) (hi1 := wr (z1.2.1) 43 10 (z1.1)) (hl1 := z1.2.2) rfl ?_ (fun _ _ _ => rfl)
  refine EX.aload_n (x := 43) rfl (List.mem_of_getElem? (i := 0) rfl) ?_
  refine EX.go (i := .getfield 80) (len := 3) (pc1 := 24) (st1 := [.int ((wr (z1.2.1) 43 10 (z1.1)) 43 9), .int ((wr (z1.2.1) 43 10 (z1.1)) 43 10)]) (hi1 := wr (z1.2.1) 43 10 (z1.1)) (hl1 := z1.2.2) rfl ?_ (fun _ _ _ => rfl)
  refine EX.go (i := .isub) (len := 1) (pc1 := 25) (st1 := [.int ((((wr (z1.2.1) 43 10 (z1.1)) 43 10 : Int32) - ((wr (z1.2.1) 43 10 (z1.1)) 43 9)))]) (hi1 := wr (z1.2.1) 43 10 (z1.1)) (hl1 := z1.2.2) rfl ?_ (fun _ _ _ => rfl)
  refine EX.iconst (v := 2) rfl rfl ?_
  rcases ite_some h with ⟨c2, h⟩ | ⟨c2, h⟩
  · refine EX.go (i := .if_icmp .le 9) (len := 3) (pc1 := 35) (st1 := []) (hi1 := wr (z1.2.1) 43 10 (z1.1)) (hl1 := z1.2.2) rfl ?_ (fun _ _ _ => if_pos c2)
    refine EX.aload_n (x := 43) rfl (List.mem_of_getElem? (i := 0) rfl) ?_
    refine EX.iconst (v := 1) rfl rfl ?_
    refine EX.go (i := .putfield 45) (len := 3) (pc1 := 40) (st1 := []) (hi1 := wr (wr (z1.2.1) 43 10 (z1.1)) 43 8 (1)) (hl1 := z1.2.2) rfl ?_ (fun _ _ _ => rfl)
    refine EX.aload_n (x := 43) rfl (List.mem_of_getElem? (i := 0) rfl) ?_
    refine EX.iconst (v := 0) rfl rfl ?_
    refine EX.go (i := .putfield 74) (len := 3) (pc1 := 45) (st1 := []) (hi1 := wr (wr (wr (z1.2.1) 43 10 (z1.1)) 43 8 (1)) 43 11 (0)) (hl1 := z1.2.2) rfl ?_ (fun _ _ _ => rfl)
    refine EX.aload_n (x := 43) rfl (List.mem_of_getElem? (i := 0) rfl) ?_
    refine EX.go (i := .getfield 80) (len := 3) (pc1 := 49) (st1 := [.int ((wr (wr (wr (z1.2.1) 43 10 (z1.1)) 43 8 (1)) 43 11 (0)) 43 9)]) (hi1 := wr (wr (wr (z1.2.1) 43 10 (z1.1)) 43 8 (1)) 43 11 (0)) (hl1 := z1.2.2) rfl ?_ (fun _ _ _ => rfl)
    refine EX.istore_n (req1 := [(1, .int ((wr (wr (wr (z1.2.1) 43 10 (z1.1)) 43 8 (1)) 43 11 (0)) 43 9)), (0, .ref 43)]) rfl rfl rfl ?_
    obtain ⟨x5, hx5, h⟩ := bnd_some h
    refine EX.pick [1, 0] ?_ rfl
    refine lp_sound (f := fun s => B_Tape_readNumber_50 N s.1 s.2.1 s.2.2) (PS := fun s => EX w0 ev 1 m_Tape_readNumber 50 [(0, .ref 43), (1, .int (s.1))] [] (s.2.1) (s.2.2) (oI o)) (PX := fun x => EX w0 ev 1 m_Tape_readNumber 85 [] [] (x.1) (x.2) (oI o)) ?_ N _ x5 hx5 ?_
    · exact fun s z hz hk => bB_Tape_readNumber_50 ev hz hk
    show EX w0 ev 1 m_Tape_readNumber 85 [] [] (x5.1) (x5.2) (oI o)
    refine EX.iconst (v := 1) rfl rfl ?_
    obtain rfl := Option.some.inj h
    exact EX.zret rfl rfl (Or.inr rfl)
  · refine EX.go (i := .if_icmp .le 9) (len := 3) (pc1 := 29) (st1 := []) (hi1 := wr (z1.2.1) 43 10 (z1.1)) (hl1 := z1.2.2) rfl ?_ (fun _ _ _ => if_neg c2)
    refine EX.aload_n (x := 43) rfl (List.mem_of_getElem? (i := 0) rfl) ?_
    refine EX.iconst (v := 1) rfl rfl ?_
    obtain ⟨z6, hz6, h⟩ := bnd_some h
    refine EX.callV (b := 43) (as := [.int (1)]) (rest := []) (r := some (.int (z6.1))) (hi1 := z6.2.1) (hl1 := z6.2.2) rfl rfl rfl rfl rfl rfl ((b_Tape_refuse ev hz6).mono (by decide)) ?_
    show EX w0 ev 1 m_Tape_readNumber 34 [(0, .ref 43)] [.int (z6.1)] (z6.2.1) (z6.2.2) (oI o)
    obtain ⟨g7, h⟩ := grp_some h
    obtain rfl := Option.some.inj h
    exact EX.zret rfl rfl g7
def J_Tape_next_103 (N : Nat) (hi : HI) (hl : HL) : Option (Int32 × HI × HL) :=
  (f_Tape_refuse N (1) (hi) (hl)).bind fun z7 => if (z7.1 : Int32) = 0 ∨ (z7.1 : Int32) = 1 then some (z7.1, z7.2.1, z7.2.2) else none
set_option maxRecDepth 10000 in
set_option maxHeartbeats 4000000 in
theorem bJ_Tape_next_103 (ev : EV) {N : Nat} {hi : HI} {hl : HL} {o : Int32 × HI × HL} (h : J_Tape_next_103 N hi hl = some o) : EX w0 ev 6 m_Tape_next 103 [(0, .ref 43)] [] (hi) (hl) (oI o) := by
  unfold J_Tape_next_103 at h
  refine EX.aload_n (x := 43) rfl (List.mem_of_getElem? (i := 0) rfl) ?_
  refine EX.iconst (v := 1) rfl rfl ?_
  obtain ⟨z7, hz7, h⟩ := bnd_some h
  refine EX.callV (b := 43) (as := [.int (1)]) (rest := []) (r := some (.int (z7.1))) (hi1 := z7.2.1) (hl1 := z7.2.2) rfl rfl rfl rfl rfl rfl ((b_Tape_refuse ev hz7).mono (by decide)) ?_
  show EX w0 ev 6 m_Tape_next 108 [(0, .ref 43)] [.int (z7.1)] (z7.2.1) (z7.2.2) (oI o)
  obtain ⟨g8, h⟩ := grp_some h
  obtain rfl := Option.some.inj h
  exact EX.zret rfl rfl g8
def J_Tape_next_84 (N : Nat) (v1 : Int32) (hi : HI) (hl : HL) : Option (Int32 × HI × HL) :=
  if (v1 : Int32) < (97 : Int32) then J_Tape_next_103 N (hi) (hl) else if (122 : Int32) < (v1 : Int32) then J_Tape_next_103 N (hi) (hl) else (f_Tape_readName N (hi) (hl)).bind fun z10 => if (z10.1 : Int32) = 0 ∨ (z10.1 : Int32) = 1 then some (z10.1, z10.2.1, z10.2.2) else none
set_option maxRecDepth 10000 in
set_option maxHeartbeats 4000000 in
theorem bJ_Tape_next_84 (ev : EV) {N : Nat} {v1 : Int32} {hi : HI} {hl : HL} {o : Int32 × HI × HL} (h : J_Tape_next_84 N v1 hi hl = some o) : EX w0 ev 6 m_Tape_next 84 [(0, .ref 43), (1, .int (v1))] [] (hi) (hl) (oI o) := by
  unfold J_Tape_next_84 at h
  refine EX.iload_n (x := v1) rfl (List.mem_of_getElem? (i := 1) rfl) ?_
  refine EX.bipush (v := 97) rfl rfl ?_
  rcases ite_some h with ⟨c6, h⟩ | ⟨c6, h⟩
  · refine EX.go (i := .if_icmp .lt 16) (len := 3) (pc1 := 103) (st1 := []) (hi1 := hi) (hl1 := hl) rfl ?_ (fun _ _ _ => if_pos c6)
    refine EX.pick [0] ?_ rfl
    exact bJ_Tape_next_103 ev h
  · refine EX.go (i := .if_icmp .lt 16) (len := 3) (pc1 := 90) (st1 := []) (hi1 := hi) (hl1 := hl) rfl ?_ (fun _ _ _ => if_neg c6)
    refine EX.iload_n (x := v1) rfl (List.mem_of_getElem? (i := 1) rfl) ?_
    refine EX.bipush (v := 122) rfl rfl ?_
    rcases ite_some h with ⟨c9, h⟩ | ⟨c9, h⟩
    · refine EX.go (i := .if_icmp .gt 10) (len := 3) (pc1 := 103) (st1 := []) (hi1 := hi) (hl1 := hl) rfl ?_ (fun _ _ _ => if_pos c9)
      refine EX.pick [0] ?_ rfl
      exact bJ_Tape_next_103 ev h
    · refine EX.go (i := .if_icmp .gt 10) (len := 3) (pc1 := 96) (st1 := []) (hi1 := hi) (hl1 := hl) rfl ?_ (fun _ _ _ => if_neg c9)
      refine EX.aload_n (x := 43) rfl (List.mem_of_getElem? (i := 0) rfl) ?_
      obtain ⟨z10, hz10, h⟩ := bnd_some h
      refine EX.callV (b := 43) (as := []) (rest := []) (r := some (.int (z10.1))) (hi1 := z10.2.1) (hl1 := z10.2.2) rfl rfl rfl rfl rfl rfl ((b_Tape_readName ev hz10).mono (by decide)) ?_
      show EX w0 ev 6 m_Tape_next 100 [(0, .ref 43), (1, .int (v1))] [.int (z10.1)] (z10.2.1) (z10.2.2) (oI o)
      refine EX.go (i := .goto 8) (len := 3) (pc1 := 108) (st1 := [.int (z10.1)]) (hi1 := z10.2.1) (hl1 := z10.2.2) rfl ?_ (fun _ _ _ => rfl)
      obtain ⟨g11, h⟩ := grp_some h
      obtain rfl := Option.some.inj h
      exact EX.zret rfl rfl g11
def f_Tape_next (N : Nat) (hi : HI) (hl : HL) : Option (Int32 × HI × HL) :=
  (f_Tape_behindRun N (hi 43 10) (32) (32) (hi) (hl)).bind fun z1 => if ((wr (z1.2.1) 43 9 (z1.1)) 43 9 : Int32) < ((wr (z1.2.1) 43 9 (z1.1)) 43 0 : Int32) then if ((wr (z1.2.1) 43 9 (z1.1)) 43 9 : Int32) < 0 ∨ 200 ≤ Int32.toNatClampNeg ((wr (z1.2.1) 43 9 (z1.1)) 43 9) then none else if ((wr (z1.2.1) 43 9 (z1.1)) 46 (Int32.toNatClampNeg ((wr (z1.2.1) 43 9 (z1.1)) 43 9)) : Int32) = (59 : Int32) then some (1, wr (wr (wr (z1.2.1) 43 9 (z1.1)) 43 10 ((((wr (z1.2.1) 43 9 (z1.1)) 43 9 : Int32) + (1)))) 43 8 (2), z1.2.2) else if ((wr (z1.2.1) 43 9 (z1.1)) 46 (Int32.toNatClampNeg ((wr (z1.2.1) 43 9 (z1.1)) 43 9)) : Int32) < (48 : Int32) then J_Tape_next_84 N ((wr (z1.2.1) 43 9 (z1.1)) 46 (Int32.toNatClampNeg ((wr (z1.2.1) 43 9 (z1.1)) 43 9))) (wr (z1.2.1) 43 9 (z1.1)) (z1.2.2) else if (57 : Int32) < ((wr (z1.2.1) 43 9 (z1.1)) 46 (Int32.toNatClampNeg ((wr (z1.2.1) 43 9 (z1.1)) 43 9)) : Int32) then J_Tape_next_84 N ((wr (z1.2.1) 43 9 (z1.1)) 46 (Int32.toNatClampNeg ((wr (z1.2.1) 43 9 (z1.1)) 43 9))) (wr (z1.2.1) 43 9 (z1.1)) (z1.2.2) else (f_Tape_readNumber N (wr (z1.2.1) 43 9 (z1.1)) (z1.2.2)).bind fun z13 => if (z13.1 : Int32) = 0 ∨ (z13.1 : Int32) = 1 then some (z13.1, z13.2.1, z13.2.2) else none else some (1, wr (wr (z1.2.1) 43 9 (z1.1)) 43 8 (0), z1.2.2)
set_option maxRecDepth 10000 in
set_option maxHeartbeats 4000000 in
theorem b_Tape_next (ev : EV) {N : Nat} {hi : HI} {hl : HL} {o : Int32 × HI × HL} (h : f_Tape_next N hi hl = some o) : EM w0 ev 7 m_Tape_next [.ref 43] hi hl (oI o) := by
  unfold f_Tape_next at h
  refine EM.of rfl ?_
  show EX w0 ev 6 m_Tape_next 0 [(0, .ref 43)] [] (hi) (hl) (oI o)
  refine EX.aload_n (x := 43) rfl (List.mem_of_getElem? (i := 0) rfl) ?_
  refine EX.aload_n (x := 43) rfl (List.mem_of_getElem? (i := 0) rfl) ?_
  refine EX.aload_n (x := 43) rfl (List.mem_of_getElem? (i := 0) rfl) ?_
  refine EX.go (i := .getfield 38) (len := 3) (pc1 := 6) (st1 := [.int (hi 43 10), .ref 43, .ref 43]) (hi1 := hi) (hl1 := hl) rfl ?_ (fun _ _ _ => rfl)
  refine EX.bipush (v := 32) rfl rfl ?_
  refine EX.bipush (v := 32) rfl rfl ?_
  obtain ⟨z1, hz1, h⟩ := bnd_some h
  refine EX.callV (b := 43) (as := [.int (hi 43 10), .int (32), .int (32)]) (rest := [.ref 43]) (r := some (.int (z1.1))) (hi1 := z1.2.1) (hl1 := z1.2.2) rfl rfl rfl rfl rfl rfl ((b_Tape_behindRun ev hz1).mono (by decide)) ?_
  show EX w0 ev 6 m_Tape_next 13 [(0, .ref 43)] [.int (z1.1), .ref 43] (z1.2.1) (z1.2.2) (oI o)
  refine EX.go (i := .putfield 80) (len := 3) (pc1 := 16) (st1 := []) (hi1 := wr (z1.2.1) 43 9 (z1.1)) (hl1 := z1.2.2) rfl ?_ (fun _ _ _ => rfl)
  refine EX.aload_n (x := 43) rfl (List.mem_of_getElem? (i := 0) rfl) ?_
  refine EX.go (i := .getfield 80) (len := 3) (pc1 := 20) (st1 := [.int ((wr (z1.2.1) 43 9 (z1.1)) 43 9)]) (hi1 := wr (z1.2.1) 43 9 (z1.1)) (hl1 := z1.2.2) rfl ?_ (fun _ _ _ => rfl)
  refine EX.aload_n (x := 43) rfl (List.mem_of_getElem? (i := 0) rfl) ?_
  refine EX.go (i := .getfield 22) (len := 3) (pc1 := 24) (st1 := [.int ((wr (z1.2.1) 43 9 (z1.1)) 43 0), .int ((wr (z1.2.1) 43 9 (z1.1)) 43 9)]) (hi1 := wr (z1.2.1) 43 9 (z1.1)) (hl1 := z1.2.2) rfl ?_ (fun _ _ _ => rfl)
  rcases ite_some h with ⟨c2, h⟩ | ⟨c2, h⟩
  · refine EX.go (i := .if_icmp .lt 10) (len := 3) (pc1 := 34) (st1 := []) (hi1 := wr (z1.2.1) 43 9 (z1.1)) (hl1 := z1.2.2) rfl ?_ (fun _ _ _ => if_pos c2)
    refine EX.aload_n (x := 43) rfl (List.mem_of_getElem? (i := 0) rfl) ?_
    refine EX.go (i := .getfield 18) (len := 3) (pc1 := 38) (st1 := [.ref 46]) (hi1 := wr (z1.2.1) 43 9 (z1.1)) (hl1 := z1.2.2) rfl ?_ (fun _ _ _ => rfl)
    refine EX.aload_n (x := 43) rfl (List.mem_of_getElem? (i := 0) rfl) ?_
    refine EX.go (i := .getfield 80) (len := 3) (pc1 := 42) (st1 := [.int ((wr (z1.2.1) 43 9 (z1.1)) 43 9), .ref 46]) (hi1 := wr (z1.2.1) 43 9 (z1.1)) (hl1 := z1.2.2) rfl ?_ (fun _ _ _ => rfl)
    obtain ⟨g3, h⟩ := grd_some h
    refine EX.baload rfl rfl g3 ?_
    refine EX.istore_n (req1 := [(1, .int ((wr (z1.2.1) 43 9 (z1.1)) 46 (Int32.toNatClampNeg ((wr (z1.2.1) 43 9 (z1.1)) 43 9)))), (0, .ref 43)]) rfl rfl rfl ?_
    refine EX.iload_n (x := (wr (z1.2.1) 43 9 (z1.1)) 46 (Int32.toNatClampNeg ((wr (z1.2.1) 43 9 (z1.1)) 43 9))) rfl (List.mem_of_getElem? (i := 0) rfl) ?_
    refine EX.bipush (v := 59) rfl rfl ?_
    rcases ite_some h with ⟨c4, h⟩ | ⟨c4, h⟩
    · refine EX.go (i := .if_icmp .ne 20) (len := 3) (pc1 := 50) (st1 := []) (hi1 := wr (z1.2.1) 43 9 (z1.1)) (hl1 := z1.2.2) rfl ?_ (fun _ _ _ => if_pos c4)
      refine EX.aload_n (x := 43) rfl (List.mem_of_getElem? (i := 1) rfl) ?_
      refine EX.aload_n (x := 43) rfl (List.mem_of_getElem? (i := 1) rfl) ?_
      refine EX.go (i := .getfield 80) (len := 3) (pc1 := 55) (st1 := [.int ((wr (z1.2.1) 43 9 (z1.1)) 43 9), .ref 43]) (hi1 := wr (z1.2.1) 43 9 (z1.1)) (hl1 := z1.2.2) rfl ?_ (fun _ _ _ => rfl)
      refine EX.iconst (v := 1) rfl rfl ?_
      refine EX.go (i := .iadd) (len := 1) (pc1 := 57) (st1 := [.int ((((wr (z1.2.1) 43 9 (z1.1)) 43 9 : Int32) + (1))), .ref 43]) (hi1 := wr (z1.2.1) 43 9 (z1.1)) (hl1 := z1.2.2) rfl ?_ (fun _ _ _ => rfl)
      refine EX.go (i := .putfield 38) (len := 3) (pc1 := 60) (st1 := []) (hi1 := wr (wr (z1.2.1) 43 9 (z1.1)) 43 10 ((((wr (z1.2.1) 43 9 (z1.1)) 43 9 : Int32) + (1)))) (hl1 := z1.2.2) rfl ?_ (fun _ _ _ => rfl)
      refine EX.aload_n (x := 43) rfl (List.mem_of_getElem? (i := 1) rfl) ?_
      refine EX.iconst (v := 2) rfl rfl ?_
      refine EX.go (i := .putfield 45) (len := 3) (pc1 := 65) (st1 := []) (hi1 := wr (wr (wr (z1.2.1) 43 9 (z1.1)) 43 10 ((((wr (z1.2.1) 43 9 (z1.1)) 43 9 : Int32) + (1)))) 43 8 (2)) (hl1 := z1.2.2) rfl ?_ (fun _ _ _ => rfl)
      refine EX.iconst (v := 1) rfl rfl ?_
      obtain rfl := Option.some.inj h
      exact EX.zret rfl rfl (Or.inr rfl)
    · refine EX.go (i := .if_icmp .ne 20) (len := 3) (pc1 := 67) (st1 := []) (hi1 := wr (z1.2.1) 43 9 (z1.1)) (hl1 := z1.2.2) rfl ?_ (fun _ _ _ => if_neg c4)
      refine EX.iload_n (x := (wr (z1.2.1) 43 9 (z1.1)) 46 (Int32.toNatClampNeg ((wr (z1.2.1) 43 9 (z1.1)) 43 9))) rfl (List.mem_of_getElem? (i := 0) rfl) ?_
      refine EX.bipush (v := 48) rfl rfl ?_
      rcases ite_some h with ⟨c5, h⟩ | ⟨c5, h⟩
      · refine EX.go (i := .if_icmp .lt 14) (len := 3) (pc1 := 84) (st1 := []) (hi1 := wr (z1.2.1) 43 9 (z1.1)) (hl1 := z1.2.2) rfl ?_ (fun _ _ _ => if_pos c5)
        refine EX.pick [1, 0] ?_ rfl
        exact bJ_Tape_next_84 ev h
      · refine EX.go (i := .if_icmp .lt 14) (len := 3) (pc1 := 73) (st1 := []) (hi1 := wr (z1.2.1) 43 9 (z1.1)) (hl1 := z1.2.2) rfl ?_ (fun _ _ _ => if_neg c5)
        refine EX.iload_n (x := (wr (z1.2.1) 43 9 (z1.1)) 46 (Int32.toNatClampNeg ((wr (z1.2.1) 43 9 (z1.1)) 43 9))) rfl (List.mem_of_getElem? (i := 0) rfl) ?_
        refine EX.bipush (v := 57) rfl rfl ?_
        rcases ite_some h with ⟨c12, h⟩ | ⟨c12, h⟩
        · refine EX.go (i := .if_icmp .gt 8) (len := 3) (pc1 := 84) (st1 := []) (hi1 := wr (z1.2.1) 43 9 (z1.1)) (hl1 := z1.2.2) rfl ?_ (fun _ _ _ => if_pos c12)
          refine EX.pick [1, 0] ?_ rfl
          exact bJ_Tape_next_84 ev h
        · refine EX.go (i := .if_icmp .gt 8) (len := 3) (pc1 := 79) (st1 := []) (hi1 := wr (z1.2.1) 43 9 (z1.1)) (hl1 := z1.2.2) rfl ?_ (fun _ _ _ => if_neg c12)
          refine EX.aload_n (x := 43) rfl (List.mem_of_getElem? (i := 1) rfl) ?_
          obtain ⟨z13, hz13, h⟩ := bnd_some h
          refine EX.callV (b := 43) (as := []) (rest := []) (r := some (.int (z13.1))) (hi1 := z13.2.1) (hl1 := z13.2.2) rfl rfl rfl rfl rfl rfl ((b_Tape_readNumber ev hz13).mono (by decide)) ?_
          show EX w0 ev 6 m_Tape_next 83 [(1, .int ((wr (z1.2.1) 43 9 (z1.1)) 46 (Int32.toNatClampNeg ((wr (z1.2.1) 43 9 (z1.1)) 43 9)))), (0, .ref 43)] [.int (z13.1)] (z13.2.1) (z13.2.2) (oI o)
          obtain ⟨g14, h⟩ := grp_some h
          obtain rfl := Option.some.inj h
          exact EX.zret rfl rfl g14
  · refine EX.go (i := .if_icmp .lt 10) (len := 3) (pc1 := 27) (st1 := []) (hi1 := wr (z1.2.1) 43 9 (z1.1)) (hl1 := z1.2.2) rfl ?_ (fun _ _ _ => if_neg c2)
    refine EX.aload_n (x := 43) rfl (List.mem_of_getElem? (i := 0) rfl) ?_
    refine EX.iconst (v := 0) rfl rfl ?_
    refine EX.go (i := .putfield 45) (len := 3) (pc1 := 32) (st1 := []) (hi1 := wr (wr (z1.2.1) 43 9 (z1.1)) 43 8 (0)) (hl1 := z1.2.2) rfl ?_ (fun _ _ _ => rfl)
    refine EX.iconst (v := 1) rfl rfl ?_
    obtain rfl := Option.some.inj h
    exact EX.zret rfl rfl (Or.inr rfl)
