/-! more rows, and the guards of the cells whose numbers are variables -/
def lenW (a : Nat) : Nat := match w0L[a]? with
  | some (.inr (_, n), _) => n
  | _ => 0
abbrev gF (f : Nat) : Prop := w0L[f]? = some (.inl 1, [none, none, none, some (f + 1)]) ∧ w0L[f + 1]? = some (.inr (.int, 16), [])
abbrev gS (s : Nat) : Prop := w0L[s]? = some (.inl 6, [none, none, some (s + 1)]) ∧ w0L[s + 1]? = some (.inr (.int, 40), [])
abbrev gA16 (a : Nat) : Prop := w0L[a]? = some (.inr (.int, 16), [])
abbrev gA (a : Nat) : Prop := w0L[a]? = some (.inr (.int, lenW a), [])
theorem fr_at {i : Int32} (g : ¬ (i < 0 ∨ 8 ≤ i.toNatClampNeg)) : ([some 20, some 22, some 24, some 26, some 28, some 30, some 32, some 34] : List (Option Nat)).getD i.toNatClampNeg none = some (20 + 2 * i.toNatClampNeg) ∧ Nat.blt (20 + 2 * i.toNatClampNeg) 1000000 = true := by
  have h : i.toNatClampNeg < 8 := Nat.not_le.mp fun q => g (Or.inr q)
  generalize i.toNatClampNeg = j at h ⊢
  match j, h with
  | 0, _ => exact ⟨rfl, rfl⟩
  | 1, _ => exact ⟨rfl, rfl⟩
  | 2, _ => exact ⟨rfl, rfl⟩
  | 3, _ => exact ⟨rfl, rfl⟩
  | 4, _ => exact ⟨rfl, rfl⟩
  | 5, _ => exact ⟨rfl, rfl⟩
  | 6, _ => exact ⟨rfl, rfl⟩
  | 7, _ => exact ⟨rfl, rfl⟩
theorem sh_at {i : Int32} (g : ¬ (i < 0 ∨ 4 ≤ i.toNatClampNeg)) : ([some 57, some 59, some 61, some 63] : List (Option Nat)).getD i.toNatClampNeg none = some (57 + 2 * i.toNatClampNeg) ∧ Nat.blt (57 + 2 * i.toNatClampNeg) 1000000 = true := by
  have h : i.toNatClampNeg < 4 := Nat.not_le.mp fun q => g (Or.inr q)
  generalize i.toNatClampNeg = j at h ⊢
  match j, h with
  | 0, _ => exact ⟨rfl, rfl⟩
  | 1, _ => exact ⟨rfl, rfl⟩
  | 2, _ => exact ⟨rfl, rfl⟩
  | 3, _ => exact ⟨rfl, rfl⟩
theorem gS_in {s : Nat} {hi : HI} {hl : HL} (g : gS s) : isIn (hi, hl, w0) s 6 = true := by
  have h1 : (hi, hl, w0).2.2.1[s]? = some (.inl 6, [none, none, some (s + 1)]) := g.1
  unfold isIn
  rw [h1]
  rfl
theorem fv3 {c k : Nat} {row : Nat → Int32} {rs : List (Option Nat)} (hk : q_fk c k = 3) (g : row k = 42) : fv c k row rs = .ref 41 := by
  unfold fv
  rw [hk, g]
  rfl
section EXS
variable {w : WD} {ev : EV} {dd : Nat} {md : Mth} {pc : Nat} {req : LC} {st : List Value} {hi : HI} {hl : HL} {out : Option Value × HI × HL}
theorem EX.pick {req1 : LC} (ks : List Nat) (h : EX w ev dd md pc req1 st hi hl out) (hs : ks.filterMap (fun k => req[k]?) = req1) : EX w ev dd md pc req st hi hl out := by
  subst hs
  refine EX.sub h (fun q hq => ?_)
  obtain ⟨k, -, hk⟩ := List.mem_filterMap.mp hq
  exact List.mem_of_getElem? hk
theorem EX.tswI {i : Instr} {len pc1 : Nat} {x k : Int32} (h : q_at md pc = some (i, len)) (c : x = k) (hs : ∀ (l : LC) (call : Mth → List Value → SG → OT) (K : KT), stepI ev call md pc l (.int k :: st) (hi, hl, w) K i len = K pc1 l st (hi, hl, w)) (kk : EX w ev dd md pc1 req st hi hl out) : EX w ev dd md pc req (.int x :: st) hi hl out := by
  subst c
  exact EX.go h kk hs
theorem EX.tswO {df lo hh : Int} {offs : Array Int} {len pc1 : Nat} {x : Int32} (h : q_at md pc = some (.tableswitch df lo hh offs, len)) (ho : x.toInt < lo ∨ hh < x.toInt) (hn : (Nat.ble 1 len && decide (0 ≤ (pc : Int) + df)) = true) (ht : tgt pc df = pc1) (kk : EX w ev dd md pc1 req st hi hl out) : EX w ev dd md pc req (.int x :: st) hi hl out := by
  subst ht
  obtain ⟨n1, n2⟩ := Bool.and_eq_true_iff.mp hn
  refine EX.go h kk (fun l call K => ?_)
  show gd (Nat.ble 1 len) (if x.toInt < lo ∨ hh < x.toInt then jmp pc df (fun t => K t l st (hi, hl, w)) else _) = _
  rw [n1, if_pos ho]
  show gd (decide (0 ≤ (pc : Int) + df)) _ = _
  rw [n2]
  rfl
theorem EX.alenV {a n : Nat} {rs : List (Option Nat)} (h : q_at md pc = some (.arraylength, 1)) (hx : w.1[a]? = some (.inr (.int, n), rs)) (k : EX w ev dd md (pc + 1) req (.int (Int32.ofNat n) :: st) hi hl out) : EX w ev dd md pc req (.ref a :: st) hi hl out := by
  refine EX.go h k (fun l call K => ?_)
  have hx1 : (hi, hl, w).2.2.1[a]? = some (.inr (.int, n), rs) := hx
  have e1 : lenA ev (hi, hl, w) a = some n := by
    unfold lenA
    rw [hx1]
  show (match lenA ev (hi, hl, w) a with
      | some n => K (pc + 1) l (.int (Int32.ofNat n) :: st) (hi, hl, w)
      | none => none) = _
  rw [e1]
end EXS
