/-! methods as functions -/
def J_Board_find_32 (N : Nat) (v1 : Int32) (v2 : Int32) (v3 : Int32) (hi : HI) (hl : HL) : Option ((Int32 × HI × HL) ⊕ (Nat × Int32 × HI × HL)) :=
  some (.inl (v3 + 1, hi, hl))
set_option maxRecDepth 10000 in
set_option maxHeartbeats 4000000 in
theorem bJ_Board_find_32 (ev : EV) {N : Nat} {v1 : Int32} {v2 : Int32} {v3 : Int32} {hi : HI} {hl : HL} {z : (Int32 × HI × HL) ⊕ (Nat × Int32 × HI × HL)} {OUT : Option Value × HI × HL} (h : J_Board_find_32 N v1 v2 v3 hi hl = some z) (hk : Sum.elim (fun s => EX ev 0 m_Board_find 2 [(0, .ref 1), (1, .int (v1)), (2, .int (v2)), (3, .int (s.1))] [] (s.2.1) (s.2.2) OUT) (fun x => (x.1 = 0 → EX ev 0 m_Board_find 38 [] [] (x.2.2.1) (x.2.2.2) OUT) ∧ (x.1 = 1 → EX ev 0 m_Board_find 30 [(3, .int (x.2.1))] [] (x.2.2.1) (x.2.2.2) OUT)) z) : EX ev 0 m_Board_find 32 [(0, .ref 1), (1, .int (v1)), (2, .int (v2)), (3, .int (v3))] [] (hi) (hl) OUT := by
  unfold J_Board_find_32 at h
  refine EX.iinc (x := v3) (v := v3 + 1) (req1 := [(3, .int (v3 + 1)), (0, .ref 1), (1, .int (v1)), (2, .int (v2))]) rfl rfl (List.mem_of_getElem? (i := 3) rfl) rfl rfl ?_
  refine EX.go (i := .goto (-33)) (len := 3) (pc1 := 2) (st1 := []) (hi1 := hi) (hl1 := hl) rfl ?_ (fun _ _ _ => rfl)
  cases h
  have hk : EX ev 0 m_Board_find 2 [(0, .ref 1), (1, .int (v1)), (2, .int (v2)), (3, .int (v3 + 1))] [] (hi) (hl) OUT := hk
  exact EX.pick [1, 2, 3, 0] hk rfl
def B_Board_find_2 (N : Nat) (v1 : Int32) (v2 : Int32) (v3 : Int32) (hi : HI) (hl : HL) : Option ((Int32 × HI × HL) ⊕ (Nat × Int32 × HI × HL)) :=
  if (hi 1 2 : Int32) ≤ (v3 : Int32) then some (.inr (0, v3, hi, hl)) else if (v3 : Int32) < 0 ∨ 16 ≤ Int32.toNatClampNeg (v3) then none else if (hi 2 (Int32.toNatClampNeg (v3)) : Int32) = (v1 : Int32) then if (v3 : Int32) < 0 ∨ 16 ≤ Int32.toNatClampNeg (v3) then none else if (hi 3 (Int32.toNatClampNeg (v3)) : Int32) = (v2 : Int32) then some (.inr (1, v3, hi, hl)) else J_Board_find_32 N (v1) (v2) (v3) (hi) (hl) else J_Board_find_32 N (v1) (v2) (v3) (hi) (hl)
set_option maxRecDepth 10000 in
set_option maxHeartbeats 4000000 in
theorem bB_Board_find_2 (ev : EV) {N : Nat} {v1 : Int32} {v2 : Int32} {v3 : Int32} {hi : HI} {hl : HL} {z : (Int32 × HI × HL) ⊕ (Nat × Int32 × HI × HL)} {OUT : Option Value × HI × HL} (h : B_Board_find_2 N v1 v2 v3 hi hl = some z) (hk : Sum.elim (fun s => EX ev 0 m_Board_find 2 [(0, .ref 1), (1, .int (v1)), (2, .int (v2)), (3, .int (s.1))] [] (s.2.1) (s.2.2) OUT) (fun x => (x.1 = 0 → EX ev 0 m_Board_find 38 [] [] (x.2.2.1) (x.2.2.2) OUT) ∧ (x.1 = 1 → EX ev 0 m_Board_find 30 [(3, .int (x.2.1))] [] (x.2.2.1) (x.2.2.2) OUT)) z) : EX ev 0 m_Board_find 2 [(0, .ref 1), (1, .int (v1)), (2, .int (v2)), (3, .int (v3))] [] (hi) (hl) OUT := by
  unfold B_Board_find_2 at h
  refine EX.iload_n (x := v3) rfl (List.mem_of_getElem? (i := 3) rfl) ?_
  refine EX.aload_n (x := 1) rfl (List.mem_of_getElem? (i := 0) rfl) ?_
  refine EX.go (i := .getfield 34) (len := 3) (pc1 := 7) (st1 := [.int (hi 1 2), .int (v3)]) (hi1 := hi) (hl1 := hl) rfl ?_ (fun _ _ _ => rfl)
  rcases ite_some h with ⟨c1, h⟩ | ⟨c1, h⟩
  · refine EX.go (i := .if_icmp .ge 31) (len := 3) (pc1 := 38) (st1 := []) (hi1 := hi) (hl1 := hl) rfl ?_ (fun _ _ _ => if_pos c1)
    cases h
    have hk := hk.1 rfl
    have hk : EX ev 0 m_Board_find 38 [] [] (hi) (hl) OUT := hk
    exact EX.pick [] hk rfl
  · refine EX.go (i := .if_icmp .ge 31) (len := 3) (pc1 := 10) (st1 := []) (hi1 := hi) (hl1 := hl) rfl ?_ (fun _ _ _ => if_neg c1)
    refine EX.aload_n (x := 1) rfl (List.mem_of_getElem? (i := 0) rfl) ?_
    refine EX.go (i := .getfield 18) (len := 3) (pc1 := 14) (st1 := [.ref 2]) (hi1 := hi) (hl1 := hl) rfl ?_ (fun _ _ _ => rfl)
    refine EX.iload_n (x := v3) rfl (List.mem_of_getElem? (i := 3) rfl) ?_
    obtain ⟨g2, h⟩ := grd_some h
    refine EX.iaload rfl rfl g2 ?_
    refine EX.iload_n (x := v1) rfl (List.mem_of_getElem? (i := 1) rfl) ?_
    rcases ite_some h with ⟨c3, h⟩ | ⟨c3, h⟩
    · refine EX.go (i := .if_icmp .ne 15) (len := 3) (pc1 := 20) (st1 := []) (hi1 := hi) (hl1 := hl) rfl ?_ (fun _ _ _ => if_pos c3)
      refine EX.aload_n (x := 1) rfl (List.mem_of_getElem? (i := 0) rfl) ?_
      refine EX.go (i := .getfield 22) (len := 3) (pc1 := 24) (st1 := [.ref 3]) (hi1 := hi) (hl1 := hl) rfl ?_ (fun _ _ _ => rfl)
      refine EX.iload_n (x := v3) rfl (List.mem_of_getElem? (i := 3) rfl) ?_
      obtain ⟨g4, h⟩ := grd_some h
      refine EX.iaload rfl rfl g4 ?_
      refine EX.iload_n (x := v2) rfl (List.mem_of_getElem? (i := 2) rfl) ?_
      rcases ite_some h with ⟨c5, h⟩ | ⟨c5, h⟩
      · refine EX.go (i := .if_icmp .ne 5) (len := 3) (pc1 := 30) (st1 := []) (hi1 := hi) (hl1 := hl) rfl ?_ (fun _ _ _ => if_pos c5)
        cases h
        have hk := hk.2 rfl
        have hk : EX ev 0 m_Board_find 30 [(3, .int (v3))] [] (hi) (hl) OUT := hk
        exact EX.pick [3] hk rfl
      · refine EX.go (i := .if_icmp .ne 5) (len := 3) (pc1 := 32) (st1 := []) (hi1 := hi) (hl1 := hl) rfl ?_ (fun _ _ _ => if_neg c5)
        refine EX.pick [0, 1, 2, 3] ?_ rfl
        exact bJ_Board_find_32 ev h hk
    · refine EX.go (i := .if_icmp .ne 15) (len := 3) (pc1 := 32) (st1 := []) (hi1 := hi) (hl1 := hl) rfl ?_ (fun _ _ _ => if_neg c3)
      refine EX.pick [0, 1, 2, 3] ?_ rfl
      exact bJ_Board_find_32 ev h hk
def f_Board_find (N : Nat) (p1 : Int32) (p2 : Int32) (hi : HI) (hl : HL) : Option (Int32 × HI × HL) :=
  (lpN (fun s => B_Board_find_2 N (p1) (p2) s.1 s.2.1 s.2.2) N (0, hi, hl)).bind fun x6 => if x6.1 = 0 then some ((-4), x6.2.2.1, x6.2.2.2) else some (x6.2.1, x6.2.2.1, x6.2.2.2)
set_option maxRecDepth 10000 in
set_option maxHeartbeats 4000000 in
theorem b_Board_find (ev : EV) {N : Nat} {p1 : Int32} {p2 : Int32} {hi : HI} {hl : HL} {o : Int32 × HI × HL} (h : f_Board_find N p1 p2 hi hl = some o) : EM ev 1 m_Board_find [.ref 1, .int (p1), .int (p2)] hi hl (oI o) := by
  unfold f_Board_find at h
  refine EM.of rfl ?_
  show EX ev 0 m_Board_find 0 [(0, .ref 1), (1, .int (p1)), (2, .int (p2))] [] (hi) (hl) (oI o)
  refine EX.iconst (v := 0) rfl rfl ?_
  refine EX.istore_n (req1 := [(3, .int (0)), (0, .ref 1), (1, .int (p1)), (2, .int (p2))]) rfl rfl rfl ?_
  obtain ⟨x6, hx6, h⟩ := bnd_some h
  refine EX.pick [1, 2, 3, 0] ?_ rfl
  refine lp_sound (PS := fun s => EX ev 0 m_Board_find 2 [(0, .ref 1), (1, .int (p1)), (2, .int (p2)), (3, .int (s.1))] [] (s.2.1) (s.2.2) (oI o)) (PX := fun x => (x.1 = 0 → EX ev 0 m_Board_find 38 [] [] (x.2.2.1) (x.2.2.2) (oI o)) ∧ (x.1 = 1 → EX ev 0 m_Board_find 30 [(3, .int (x.2.1))] [] (x.2.2.1) (x.2.2.2) (oI o))) (fun s z hz hk => bB_Board_find_2 ev hz hk) N _ x6 hx6 ?_
  rcases ite_some h with ⟨c7, h⟩ | ⟨c7, h⟩
  · refine ⟨fun _ => ?_, fun e9 => absurd (c7.symm.trans e9) (by decide)⟩
    show EX ev 0 m_Board_find 38 [] [] (x6.2.2.1) (x6.2.2.2) (oI o)
    refine EX.bipush (v := (-4)) rfl rfl ?_
    cases h
    exact EX.iret rfl rfl
  · refine ⟨fun e9 => absurd e9 c7, fun _ => ?_⟩
    show EX ev 0 m_Board_find 30 [(3, .int (x6.2.1))] [] (x6.2.2.1) (x6.2.2.2) (oI o)
    refine EX.iload_n (x := x6.2.1) rfl (List.mem_of_getElem? (i := 0) rfl) ?_
    cases h
    exact EX.iret rfl rfl
def B_MD_bits_4 (N : Nat) (v0 : Int32) (v1 : Int32) (v2 : Int32) (hi : HI) (hl : HL) : Option ((Int32 × Int32 × HI × HL) ⊕ (Int32 × HI × HL)) :=
  if (16 : Int32) ≤ (v2 : Int32) then some (.inr (v1, hi, hl)) else some (.inl ((v1 + ((((v0 >>> (v2 &&& 31)) : Int32) &&& (1)))), v2 + 1, hi, hl))
set_option maxRecDepth 10000 in
set_option maxHeartbeats 4000000 in
theorem bB_MD_bits_4 (ev : EV) {N : Nat} {v0 : Int32} {v1 : Int32} {v2 : Int32} {hi : HI} {hl : HL} {z : (Int32 × Int32 × HI × HL) ⊕ (Int32 × HI × HL)} {OUT : Option Value × HI × HL} (h : B_MD_bits_4 N v0 v1 v2 hi hl = some z) (hk : Sum.elim (fun s => EX ev 0 m_MD_bits 4 [(0, .int (v0)), (1, .int (s.1)), (2, .int (s.2.1))] [] (s.2.2.1) (s.2.2.2) OUT) (fun x => EX ev 0 m_MD_bits 24 [(1, .int (x.1))] [] (x.2.1) (x.2.2) OUT) z) : EX ev 0 m_MD_bits 4 [(0, .int (v0)), (1, .int (v1)), (2, .int (v2))] [] (hi) (hl) OUT := by
  unfold B_MD_bits_4 at h
  refine EX.iload_n (x := v2) rfl (List.mem_of_getElem? (i := 2) rfl) ?_
  refine EX.bipush (v := 16) rfl rfl ?_
  rcases ite_some h with ⟨c1, h⟩ | ⟨c1, h⟩
  · refine EX.go (i := .if_icmp .ge 17) (len := 3) (pc1 := 24) (st1 := []) (hi1 := hi) (hl1 := hl) rfl ?_ (fun _ _ _ => if_pos c1)
    cases h
    have hk : EX ev 0 m_MD_bits 24 [(1, .int (v1))] [] (hi) (hl) OUT := hk
    exact EX.pick [1] hk rfl
  · refine EX.go (i := .if_icmp .ge 17) (len := 3) (pc1 := 10) (st1 := []) (hi1 := hi) (hl1 := hl) rfl ?_ (fun _ _ _ => if_neg c1)
    refine EX.iload_n (x := v1) rfl (List.mem_of_getElem? (i := 1) rfl) ?_
    refine EX.iload_n (x := v0) rfl (List.mem_of_getElem? (i := 0) rfl) ?_
    refine EX.iload_n (x := v2) rfl (List.mem_of_getElem? (i := 2) rfl) ?_
    refine EX.go (i := .ishr) (len := 1) (pc1 := 14) (st1 := [.int ((v0 >>> (v2 &&& 31))), .int (v1)]) (hi1 := hi) (hl1 := hl) rfl ?_ (fun _ _ _ => rfl)
    refine EX.iconst (v := 1) rfl rfl ?_
    refine EX.go (i := .iand) (len := 1) (pc1 := 16) (st1 := [.int ((((v0 >>> (v2 &&& 31)) : Int32) &&& (1))), .int (v1)]) (hi1 := hi) (hl1 := hl) rfl ?_ (fun _ _ _ => rfl)
    refine EX.go (i := .iadd) (len := 1) (pc1 := 17) (st1 := [.int ((v1 + ((((v0 >>> (v2 &&& 31)) : Int32) &&& (1)))))]) (hi1 := hi) (hl1 := hl) rfl ?_ (fun _ _ _ => rfl)
    refine EX.istore_n (req1 := [(1, .int ((v1 + ((((v0 >>> (v2 &&& 31)) : Int32) &&& (1)))))), (0, .int (v0)), (2, .int (v2))]) rfl rfl rfl ?_
    refine EX.iinc (x := v2) (v := v2 + 1) (req1 := [(2, .int (v2 + 1)), (1, .int ((v1 + ((((v0 >>> (v2 &&& 31)) : Int32) &&& (1)))))), (0, .int (v0))]) rfl rfl (List.mem_of_getElem? (i := 2) rfl) rfl rfl ?_
    refine EX.go (i := .goto (-17)) (len := 3) (pc1 := 4) (st1 := []) (hi1 := hi) (hl1 := hl) rfl ?_ (fun _ _ _ => rfl)
    cases h
    have hk : EX ev 0 m_MD_bits 4 [(0, .int (v0)), (1, .int ((v1 + ((((v0 >>> (v2 &&& 31)) : Int32) &&& (1)))))), (2, .int (v2 + 1))] [] (hi) (hl) OUT := hk
    exact EX.pick [2, 1, 0] hk rfl
def f_MD_bits (N : Nat) (p0 : Int32) (hi : HI) (hl : HL) : Option (Int32 × HI × HL) :=
  (lpN (fun s => B_MD_bits_4 N (p0) s.1 s.2.1 s.2.2.1 s.2.2.2) N (0, 0, hi, hl)).bind fun x2 => some (x2.1, x2.2.1, x2.2.2)
set_option maxRecDepth 10000 in
set_option maxHeartbeats 4000000 in
theorem b_MD_bits (ev : EV) {N : Nat} {p0 : Int32} {hi : HI} {hl : HL} {o : Int32 × HI × HL} (h : f_MD_bits N p0 hi hl = some o) : EM ev 1 m_MD_bits [.int (p0)] hi hl (oI o) := by
  unfold f_MD_bits at h
  refine EM.of rfl ?_
  show EX ev 0 m_MD_bits 0 [(0, .int (p0))] [] (hi) (hl) (oI o)
  refine EX.iconst (v := 0) rfl rfl ?_
  refine EX.istore_n (req1 := [(1, .int (0)), (0, .int (p0))]) rfl rfl rfl ?_
  refine EX.iconst (v := 0) rfl rfl ?_
  refine EX.istore_n (req1 := [(2, .int (0)), (1, .int (0)), (0, .int (p0))]) rfl rfl rfl ?_
  obtain ⟨x2, hx2, h⟩ := bnd_some h
  refine EX.pick [2, 1, 0] ?_ rfl
  refine lp_sound (PS := fun s => EX ev 0 m_MD_bits 4 [(0, .int (p0)), (1, .int (s.1)), (2, .int (s.2.1))] [] (s.2.2.1) (s.2.2.2) (oI o)) (PX := fun x => EX ev 0 m_MD_bits 24 [(1, .int (x.1))] [] (x.2.1) (x.2.2) (oI o)) (fun s z hz hk => bB_MD_bits_4 ev hz hk) N _ x2 hx2 ?_
  show EX ev 0 m_MD_bits 24 [(1, .int (x2.1))] [] (x2.2.1) (x2.2.2) (oI o)
  refine EX.iload_n (x := x2.1) rfl (List.mem_of_getElem? (i := 0) rfl) ?_
  cases h
  exact EX.iret rfl rfl
def J_Board_isWire_16 (N : Nat) (hi : HI) (hl : HL) : Option (Int32 × HI × HL) :=
  some (0, hi, hl)
set_option maxRecDepth 10000 in
set_option maxHeartbeats 4000000 in
theorem bJ_Board_isWire_16 (ev : EV) {N : Nat} {hi : HI} {hl : HL} {o : Int32 × HI × HL} (h : J_Board_isWire_16 N hi hl = some o) : EX ev 0 m_Board_isWire 16 [] [] (hi) (hl) (oI o) := by
  unfold J_Board_isWire_16 at h
  refine EX.iconst (v := 0) rfl rfl ?_
  cases h
  exact EX.zret rfl rfl (Or.inl rfl)
def f_Board_isWire (N : Nat) (p1 : Int32) (hi : HI) (hl : HL) : Option (Int32 × HI × HL) :=
  if (p1 : Int32) < 0 then J_Board_isWire_16 N (hi) (hl) else if (hi 1 0 : Int32) ≤ (p1 : Int32) then J_Board_isWire_16 N (hi) (hl) else some (1, hi, hl)
set_option maxRecDepth 10000 in
set_option maxHeartbeats 4000000 in
theorem b_Board_isWire (ev : EV) {N : Nat} {p1 : Int32} {hi : HI} {hl : HL} {o : Int32 × HI × HL} (h : f_Board_isWire N p1 hi hl = some o) : EM ev 1 m_Board_isWire [.ref 1, .int (p1)] hi hl (oI o) := by
  unfold f_Board_isWire at h
  refine EM.of rfl ?_
  show EX ev 0 m_Board_isWire 0 [(0, .ref 1), (1, .int (p1))] [] (hi) (hl) (oI o)
  refine EX.iload_n (x := p1) rfl (List.mem_of_getElem? (i := 1) rfl) ?_
  rcases ite_some h with ⟨c1, h⟩ | ⟨c1, h⟩
  · refine EX.go (i := .ifCond .lt 15) (len := 3) (pc1 := 16) (st1 := []) (hi1 := hi) (hl1 := hl) rfl ?_ (fun _ _ _ => if_pos c1)
    refine EX.pick [] ?_ rfl
    exact bJ_Board_isWire_16 ev h
  · refine EX.go (i := .ifCond .lt 15) (len := 3) (pc1 := 4) (st1 := []) (hi1 := hi) (hl1 := hl) rfl ?_ (fun _ _ _ => if_neg c1)
    refine EX.iload_n (x := p1) rfl (List.mem_of_getElem? (i := 1) rfl) ?_
    refine EX.aload_n (x := 1) rfl (List.mem_of_getElem? (i := 0) rfl) ?_
    refine EX.go (i := .getfield 9) (len := 3) (pc1 := 9) (st1 := [.int (hi 1 0), .int (p1)]) (hi1 := hi) (hl1 := hl) rfl ?_ (fun _ _ _ => rfl)
    rcases ite_some h with ⟨c2, h⟩ | ⟨c2, h⟩
    · refine EX.go (i := .if_icmp .ge 7) (len := 3) (pc1 := 16) (st1 := []) (hi1 := hi) (hl1 := hl) rfl ?_ (fun _ _ _ => if_pos c2)
      refine EX.pick [] ?_ rfl
      exact bJ_Board_isWire_16 ev h
    · refine EX.go (i := .if_icmp .ge 7) (len := 3) (pc1 := 12) (st1 := []) (hi1 := hi) (hl1 := hl) rfl ?_ (fun _ _ _ => if_neg c2)
      refine EX.iconst (v := 1) rfl rfl ?_
      refine EX.go (i := .goto 4) (len := 3) (pc1 := 17) (st1 := [.int (1)]) (hi1 := hi) (hl1 := hl) rfl ?_ (fun _ _ _ => rfl)
      cases h
      exact EX.zret rfl rfl (Or.inr rfl)
def J_Board_isPair_25 (N : Nat) (hi : HI) (hl : HL) : Option (Int32 × HI × HL) :=
  some (0, hi, hl)
set_option maxRecDepth 10000 in
set_option maxHeartbeats 4000000 in
theorem bJ_Board_isPair_25 (ev : EV) {N : Nat} {hi : HI} {hl : HL} {o : Int32 × HI × HL} (h : J_Board_isPair_25 N hi hl = some o) : EX ev 1 m_Board_isPair 25 [] [] (hi) (hl) (oI o) := by
  unfold J_Board_isPair_25 at h
  refine EX.iconst (v := 0) rfl rfl ?_
  cases h
  exact EX.zret rfl rfl (Or.inl rfl)
def f_Board_isPair (N : Nat) (p1 : Int32) (p2 : Int32) (hi : HI) (hl : HL) : Option (Int32 × HI × HL) :=
  (f_Board_isWire N (p1) (hi) (hl)).bind fun z1 => if (z1.1 : Int32) = 0 then J_Board_isPair_25 N (z1.2.1) (z1.2.2) else (f_Board_isWire N (p2) (z1.2.1) (z1.2.2)).bind fun z3 => if (z3.1 : Int32) = 0 then J_Board_isPair_25 N (z3.2.1) (z3.2.2) else if (p1 : Int32) = (p2 : Int32) then J_Board_isPair_25 N (z3.2.1) (z3.2.2) else some (1, z3.2.1, z3.2.2)
set_option maxRecDepth 10000 in
set_option maxHeartbeats 4000000 in
theorem b_Board_isPair (ev : EV) {N : Nat} {p1 : Int32} {p2 : Int32} {hi : HI} {hl : HL} {o : Int32 × HI × HL} (h : f_Board_isPair N p1 p2 hi hl = some o) : EM ev 2 m_Board_isPair [.ref 1, .int (p1), .int (p2)] hi hl (oI o) := by
  unfold f_Board_isPair at h
  refine EM.of rfl ?_
  show EX ev 1 m_Board_isPair 0 [(0, .ref 1), (1, .int (p1)), (2, .int (p2))] [] (hi) (hl) (oI o)
  refine EX.aload_n (x := 1) rfl (List.mem_of_getElem? (i := 0) rfl) ?_
  refine EX.iload_n (x := p1) rfl (List.mem_of_getElem? (i := 1) rfl) ?_
  obtain ⟨z1, hz1, h⟩ := bnd_some h
  refine EX.callV (b := 1) (as := [.int (p1)]) (rest := []) (r := some (.int (z1.1))) (hi1 := z1.2.1) (hl1 := z1.2.2) rfl rfl rfl rfl rfl rfl ((b_Board_isWire ev hz1).mono (by decide)) ?_
  show EX ev 1 m_Board_isPair 5 [(0, .ref 1), (1, .int (p1)), (2, .int (p2))] [.int (z1.1)] (z1.2.1) (z1.2.2) (oI o)
  rcases ite_some h with ⟨c2, h⟩ | ⟨c2, h⟩
  · refine EX.go (i := .ifCond .eq 20) (len := 3) (pc1 := 25) (st1 := []) (hi1 := z1.2.1) (hl1 := z1.2.2) rfl ?_ (fun _ _ _ => if_pos c2)
    refine EX.pick [] ?_ rfl
    exact bJ_Board_isPair_25 ev h
  · refine EX.go (i := .ifCond .eq 20) (len := 3) (pc1 := 8) (st1 := []) (hi1 := z1.2.1) (hl1 := z1.2.2) rfl ?_ (fun _ _ _ => if_neg c2)
    refine EX.aload_n (x := 1) rfl (List.mem_of_getElem? (i := 0) rfl) ?_
    refine EX.iload_n (x := p2) rfl (List.mem_of_getElem? (i := 2) rfl) ?_
    obtain ⟨z3, hz3, h⟩ := bnd_some h
    refine EX.callV (b := 1) (as := [.int (p2)]) (rest := []) (r := some (.int (z3.1))) (hi1 := z3.2.1) (hl1 := z3.2.2) rfl rfl rfl rfl rfl rfl ((b_Board_isWire ev hz3).mono (by decide)) ?_
    show EX ev 1 m_Board_isPair 13 [(0, .ref 1), (1, .int (p1)), (2, .int (p2))] [.int (z3.1)] (z3.2.1) (z3.2.2) (oI o)
    rcases ite_some h with ⟨c4, h⟩ | ⟨c4, h⟩
    · refine EX.go (i := .ifCond .eq 12) (len := 3) (pc1 := 25) (st1 := []) (hi1 := z3.2.1) (hl1 := z3.2.2) rfl ?_ (fun _ _ _ => if_pos c4)
      refine EX.pick [] ?_ rfl
      exact bJ_Board_isPair_25 ev h
    · refine EX.go (i := .ifCond .eq 12) (len := 3) (pc1 := 16) (st1 := []) (hi1 := z3.2.1) (hl1 := z3.2.2) rfl ?_ (fun _ _ _ => if_neg c4)
      refine EX.iload_n (x := p1) rfl (List.mem_of_getElem? (i := 1) rfl) ?_
      refine EX.iload_n (x := p2) rfl (List.mem_of_getElem? (i := 2) rfl) ?_
      rcases ite_some h with ⟨c5, h⟩ | ⟨c5, h⟩
      · refine EX.go (i := .if_icmp .eq 7) (len := 3) (pc1 := 25) (st1 := []) (hi1 := z3.2.1) (hl1 := z3.2.2) rfl ?_ (fun _ _ _ => if_pos c5)
        refine EX.pick [] ?_ rfl
        exact bJ_Board_isPair_25 ev h
      · refine EX.go (i := .if_icmp .eq 7) (len := 3) (pc1 := 21) (st1 := []) (hi1 := z3.2.1) (hl1 := z3.2.2) rfl ?_ (fun _ _ _ => if_neg c5)
        refine EX.iconst (v := 1) rfl rfl ?_
        refine EX.go (i := .goto 4) (len := 3) (pc1 := 26) (st1 := [.int (1)]) (hi1 := z3.2.1) (hl1 := z3.2.2) rfl ?_ (fun _ _ _ => rfl)
        cases h
        exact EX.zret rfl rfl (Or.inr rfl)
