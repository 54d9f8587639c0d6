/-! the abstract machine: its state is what the ints, longs and references of the cells are, cell by cell (a cell is its number, in the order in which the cells are made) -/
abbrev HI : Type := Nat → Nat → Int32
abbrev HL : Type := Nat → Nat → Int64
abbrev TG : Type := Nat ⊕ (FieldType × Nat)
abbrev WD : Type := List (TG × List (Option Nat)) × Nat
abbrev SG : Type := HI × HL × WD
abbrev LC : Type := List (Nat × Value)
abbrev EV : Type := Nat × (Nat → Int32)
abbrev OT : Type := Option (Option Value × SG)
abbrev KT : Type := Nat → LC → List Value → SG → OT
def wr (h : HI) (a k : Nat) (v : Int32) : HI := va_up h a (upd (h a) k v)
def wrL (h : HL) (a k : Nat) (v : Int64) : HL := va_up h a (vp_updL (h a) k v)
def rv (r : Option Nat) : Value := match r with
  | none => .null
  | some b => .ref b
/-- what a field holds: class, place, the row of ints, the row of references -/
def fv (c k : Nat) (row : Nat → Int32) (rs : List (Option Nat)) : Value := match q_fk c k with
  | 0 => .int (row k)
  | 1 => .int (row k)
  | 2 => rv (rs.getD k none)
  | 3 => if row k = 0 then .null else .ref ((row k).toNatClampNeg - 1)
  | _ => .null
def powT : List Int32 := [1, 3, 9, 27, 81, 243, 729]
def withT : List Int64 := [-6148914691236517206, -3689348814741910324, -1085102592571150096, -71777214294589696, -281470681808896, -4294967296]
def strT : List (List Int32) := [[104, 105, 103, 104], [108, 111, 119], [102, 111, 114], [100, 97, 114, 107]]
/-- arrays that nobody writes: the powers, the words of bits, the letters of the four names, the script -/
def roT (ev : EV) : List (Nat × FieldType × Nat × (Nat → Value)) :=
  [(1000000, .int, 7, fun j => .int (powT.getD j 0)), (1000001, .long, 6, fun j => .long (withT.getD j 0)),
   (1000006, .byte, 4, fun j => .int ((strT.getD 0 []).getD j 0)), (1000007, .byte, 3, fun j => .int ((strT.getD 1 []).getD j 0)),
   (1000008, .byte, 3, fun j => .int ((strT.getD 2 []).getD j 0)), (1000009, .byte, 4, fun j => .int ((strT.getD 3 []).getD j 0)),
   (1000010, .int, ev.1, fun j => .int (ev.2 j))]
def gd (b : Bool) (x : OT) : OT := cond b x none
theorem gd_some {b : Bool} {x : OT} {o : Option Value × SG} (h : gd b x = some o) : b = true ∧ x = some o := by
  cases b with
  | true => exact ⟨rfl, h⟩
  | false => cases h
def lget : LC → Nat → Option Value
  | [], _ => none
  | (j, v) :: r, i => cond (Nat.beq j i) (some v) (lget r i)
def lset1 (l : LC) (i : Nat) (v : Value) : LC := (i, v) :: l.filter (fun q => !(q.1 == i) && !(q.1 + 1 == i && q.2.category == 2))
def lset2 (l : LC) (i : Nat) (v : Value) : LC := (i, v) :: l.filter (fun q => !(q.1 == i) && (!(q.1 == i + 1) && !(q.1 + 1 == i && q.2.category == 2)))
def elA (σ : SG) (ty : FieldType) (a j : Nat) (rs : List (Option Nat)) : Value := match ty with
  | .long => .long (σ.2.1 a j)
  | .object _ => rv (rs.getD j none)
  | _ => .int (σ.1 a j)
/-- an element of an array -/
def ldA (ev : EV) (σ : SG) (ty : FieldType) (a : Nat) (i : Int32) : Option Value := match σ.2.2.1[a]? with
  | some (.inr (t, n), rs) => if t = ty then (if i < 0 ∨ n ≤ i.toNatClampNeg then none else some (elA σ ty a i.toNatClampNeg rs)) else none
  | some (.inl _, _) => none
  | none => match q_lk (roT ev) a with
    | some (t, n, f) => if t = ty then (if i < 0 ∨ n ≤ i.toNatClampNeg then none else some (f i.toNatClampNeg)) else none
    | none => none
def lenA (ev : EV) (σ : SG) (a : Nat) : Option Nat := match σ.2.2.1[a]? with
  | some (.inr (.int, n), _) => some n
  | some (.inr (.long, n), _) => some n
  | some _ => none
  | none => match q_lk (roT ev) a with
    | some (_, n, _) => some n
    | none => none
/-- may an element of an array of this type be written here -/
def okA (σ : SG) (ty : FieldType) (a : Nat) (i : Int32) : Bool := match σ.2.2.1[a]? with
  | some (.inr (t, n), _) => if t = ty then (if i < 0 ∨ n ≤ i.toNatClampNeg then false else true) else false
  | _ => false
def isIn (σ : SG) (b c : Nat) : Bool := match σ.2.2.1[b]? with
  | some (.inl x, _) => Nat.beq x c
  | some (.inr _, _) => false
  | none => Nat.beq c 17 && (Nat.ble 1000002 b && Nat.ble b 1000005)
def catS (st : List Value) : Nat := (st.map fun v => v.category).sum
def szs (σ : SG) : Nat × Nat := (σ.2.2.1.length, σ.2.2.2)
def leS (x y : Nat × Nat) : Bool := Nat.ble x.1 y.1 && Nat.ble x.2 y.2
def callK (cr : OT) (σ : SG) (K : Option Value → SG → OT) : OT := match cr with
  | none => none
  | some (v, σ1) => match K v σ1 with
    | none => none
    | some (r, σ2) => gd (leS (szs σ) (szs σ1) && leS (szs σ1) (szs σ2)) (some (r, σ2))
def monK (σ : SG) (x : OT) : OT := match x with
  | none => none
  | some (r, σ2) => gd (leS (szs σ) (szs σ2)) (some (r, σ2))
def newK (σ : SG) (x : TG × List (Option Nat)) (n : Nat) (K : SG → OT) : OT :=
  gd (Nat.blt σ.2.2.1.length 1000000) (match K (va_up σ.1 σ.2.2.1.length (fun _ => 0), va_up σ.2.1 σ.2.2.1.length (fun _ => 0), (σ.2.2.1 ++ [x], σ.2.2.2 + n)) with
    | none => none
    | some (r, σ2) => gd (leS (σ.2.2.1.length + 1, σ.2.2.2 + n) (szs σ2)) (some (r, σ2)))
def tgt (pc : Nat) (off : Int) : Nat := ((pc : Int) + off).toNat
def jmp (pc : Nat) (off : Int) (K : Nat → OT) : OT := gd (decide (0 ≤ (pc : Int) + off)) (K (tgt pc off))
def retI (md : Mth) (v : Int32) (σ : SG) : OT := match q_r md with
  | some .int => some (some (.int v), σ)
  | some .boolean => if v = 0 ∨ v = 1 then some (some (.int v), σ) else none
  | some .byte => if v.toInt8.toInt32 = v then some (some (.int v), σ) else none
  | some .char => if v.toUInt32.toUInt16.toUInt32.toInt32 = v then some (some (.int v), σ) else none
  | _ => none
def putV (md : Mth) (σ : SG) (a c k : Nat) (rs : List (Option Nat)) (v : Value) (K : SG → OT) : OT :=
  gd (!(q_T c k).2.2.2 || (decide ((q_y md).name = "<init>") && Nat.beq (q_o md) c)) (match q_fk c k with
  | 0 => match v with
    | .int x => K (wr σ.1 a k x, σ.2)
    | _ => none
  | 1 => match v with
    | .int x => if x = 0 ∨ x = 1 then K (wr σ.1 a k x, σ.2) else none
    | _ => none
  | 2 => match v with
    | .ref b => gd (Nat.blt b 1000000 && Nat.blt k rs.length) (K (σ.1, σ.2.1, (σ.2.2.1.set a (.inl c, rs.set k (some b)), σ.2.2.2)))
    | _ => none
  | 3 => match v with
    | .ref b => gd (Nat.blt b 1000000) (K (wr σ.1 a k (Int32.ofNat (b + 1)), σ.2))
    | _ => none
  | _ => none)
def ldV (l : LC) (i : Nat) (K : Value → OT) : OT := match lget l i with
  | none => none
  | some v => K v
/-- one instruction; K goes on -/
def stepI (ev : EV) (call : Mth → List Value → SG → OT) (md : Mth) (pc : Nat) (l : LC) (st : List Value) (σ : SG) (K : KT) (i : Instr) (len : Nat) : OT :=
  match i with
  | .iconst n => gd (Nat.beq len 1) (K (pc + 1) l (.int (Int32.ofInt n) :: st) σ)
  | .bipush n => gd (Nat.beq len 2) (K (pc + 2) l (.int (Int8.ofInt n).toInt32 :: st) σ)
  | .sipush n => gd (Nat.beq len 3) (K (pc + 3) l (.int (Int16.ofInt n).toInt32 :: st) σ)
  | .lconst n => gd (Nat.beq len 1) (K (pc + 1) l (.long (Int64.ofNat (n : Nat)) :: st) σ)
  | .ldc j => gd (Nat.beq len 2) (match q_rk (q_o md) j with
    | some (.int z, _) => K (pc + 2) l (.int z :: st) σ
    | some (.ref a, _) => K (pc + 2) l (.ref a :: st) σ
    | _ => none)
  | .ldc_w j => gd (Nat.beq len 3) (match q_rk (q_o md) j with
    | some (.int z, _) => K (pc + 3) l (.int z :: st) σ
    | _ => none)
  | .ldc2_w j => gd (Nat.beq len 3) (match q_rk (q_o md) j with
    | some (.long z, _) => K (pc + 3) l (.long z :: st) σ
    | _ => none)
  | .iload j => gd (Nat.beq len 2) (ldV l j fun v => match v with
    | .int x => K (pc + 2) l (.int x :: st) σ
    | _ => none)
  | .iload_n j => gd (Nat.beq len 1) (ldV l (j : Nat) fun v => match v with
    | .int x => K (pc + 1) l (.int x :: st) σ
    | _ => none)
  | .lload j => gd (Nat.beq len 2) (ldV l j fun v => match v with
    | .long x => K (pc + 2) l (.long x :: st) σ
    | _ => none)
  | .lload_n j => gd (Nat.beq len 1) (ldV l (j : Nat) fun v => match v with
    | .long x => K (pc + 1) l (.long x :: st) σ
    | _ => none)
  | .aload j => gd (Nat.beq len 2) (ldV l j fun v => match v with
    | .ref x => K (pc + 2) l (.ref x :: st) σ
    | _ => none)
  | .aload_n j => gd (Nat.beq len 1) (ldV l (j : Nat) fun v => match v with
    | .ref x => K (pc + 1) l (.ref x :: st) σ
    | _ => none)
  | .istore j => gd (Nat.beq len 2 && Nat.blt j (q_L md)) (match st with
    | .int x :: r => K (pc + 2) (lset1 l j (.int x)) r σ
    | _ => none)
  | .istore_n j => gd (Nat.beq len 1 && Nat.blt (j : Nat) (q_L md)) (match st with
    | .int x :: r => K (pc + 1) (lset1 l (j : Nat) (.int x)) r σ
    | _ => none)
  | .lstore j => gd (Nat.beq len 2 && Nat.blt (j + 1) (q_L md)) (match st with
    | .long x :: r => K (pc + 2) (lset2 l j (.long x)) r σ
    | _ => none)
  | .lstore_n j => gd (Nat.beq len 1 && Nat.blt ((j : Nat) + 1) (q_L md)) (match st with
    | .long x :: r => K (pc + 1) (lset2 l (j : Nat) (.long x)) r σ
    | _ => none)
  | .astore j => gd (Nat.beq len 2 && Nat.blt j (q_L md)) (match st with
    | .ref x :: r => K (pc + 2) (lset1 l j (.ref x)) r σ
    | _ => none)
  | .astore_n j => gd (Nat.beq len 1 && Nat.blt (j : Nat) (q_L md)) (match st with
    | .ref x :: r => K (pc + 1) (lset1 l (j : Nat) (.ref x)) r σ
    | _ => none)
  | .iinc j n => gd (Nat.beq len 3 && Nat.blt j (q_L md)) (ldV l j fun v => match v with
    | .int x => K (pc + 3) (lset1 l j (.int (x + Int32.ofInt n))) st σ
    | _ => none)
  | .iadd => gd (Nat.beq len 1) (match st with
    | .int y :: .int x :: r => K (pc + 1) l (.int (x + y) :: r) σ
    | _ => none)
  | .isub => gd (Nat.beq len 1) (match st with
    | .int y :: .int x :: r => K (pc + 1) l (.int (x - y) :: r) σ
    | _ => none)
  | .imul => gd (Nat.beq len 1) (match st with
    | .int y :: .int x :: r => K (pc + 1) l (.int (x * y) :: r) σ
    | _ => none)
  | .iand => gd (Nat.beq len 1) (match st with
    | .int y :: .int x :: r => K (pc + 1) l (.int (x &&& y) :: r) σ
    | _ => none)
  | .ior => gd (Nat.beq len 1) (match st with
    | .int y :: .int x :: r => K (pc + 1) l (.int (x ||| y) :: r) σ
    | _ => none)
  | .ixor => gd (Nat.beq len 1) (match st with
    | .int y :: .int x :: r => K (pc + 1) l (.int (x ^^^ y) :: r) σ
    | _ => none)
  | .idiv => gd (Nat.beq len 1) (match st with
    | .int y :: .int x :: r => if y = 0 then none else K (pc + 1) l (.int (x / y) :: r) σ
    | _ => none)
  | .irem => gd (Nat.beq len 1) (match st with
    | .int y :: .int x :: r => if y = 0 then none else K (pc + 1) l (.int (x - x / y * y) :: r) σ
    | _ => none)
  | .ineg => gd (Nat.beq len 1) (match st with
    | .int x :: r => K (pc + 1) l (.int (-x) :: r) σ
    | _ => none)
  | .ishl => gd (Nat.beq len 1) (match st with
    | .int y :: .int x :: r => K (pc + 1) l (.int (x <<< (y &&& 31)) :: r) σ
    | _ => none)
  | .ishr => gd (Nat.beq len 1) (match st with
    | .int y :: .int x :: r => K (pc + 1) l (.int (x >>> (y &&& 31)) :: r) σ
    | _ => none)
  | .iushr => gd (Nat.beq len 1) (match st with
    | .int y :: .int x :: r => K (pc + 1) l (.int (x.toUInt32 >>> (y.toUInt32 &&& Int32.toUInt32 31)).toInt32 :: r) σ
    | _ => none)
  | .ladd => gd (Nat.beq len 1) (match st with
    | .long y :: .long x :: r => K (pc + 1) l (.long (x + y) :: r) σ
    | _ => none)
  | .lsub => gd (Nat.beq len 1) (match st with
    | .long y :: .long x :: r => K (pc + 1) l (.long (x - y) :: r) σ
    | _ => none)
  | .lmul => gd (Nat.beq len 1) (match st with
    | .long y :: .long x :: r => K (pc + 1) l (.long (x * y) :: r) σ
    | _ => none)
  | .land => gd (Nat.beq len 1) (match st with
    | .long y :: .long x :: r => K (pc + 1) l (.long (x &&& y) :: r) σ
    | _ => none)
  | .lor => gd (Nat.beq len 1) (match st with
    | .long y :: .long x :: r => K (pc + 1) l (.long (x ||| y) :: r) σ
    | _ => none)
  | .lxor => gd (Nat.beq len 1) (match st with
    | .long y :: .long x :: r => K (pc + 1) l (.long (x ^^^ y) :: r) σ
    | _ => none)
  | .ldiv => gd (Nat.beq len 1) (match st with
    | .long y :: .long x :: r => if y = 0 then none else K (pc + 1) l (.long (x / y) :: r) σ
    | _ => none)
  | .lrem => gd (Nat.beq len 1) (match st with
    | .long y :: .long x :: r => if y = 0 then none else K (pc + 1) l (.long (x - x / y * y) :: r) σ
    | _ => none)
  | .lshl => gd (Nat.beq len 1) (match st with
    | .int y :: .long x :: r => K (pc + 1) l (.long (x <<< (y.toInt64 &&& 63)) :: r) σ
    | _ => none)
  | .lshr => gd (Nat.beq len 1) (match st with
    | .int y :: .long x :: r => K (pc + 1) l (.long (x >>> (y.toInt64 &&& 63)) :: r) σ
    | _ => none)
  | .lushr => gd (Nat.beq len 1) (match st with
    | .int y :: .long x :: r => K (pc + 1) l (.long (x.toUInt64 >>> (y.toInt64.toUInt64 &&& Int64.toUInt64 63)).toInt64 :: r) σ
    | _ => none)
  | .lcmp => gd (Nat.beq len 1) (match st with
    | .long y :: .long x :: r => K (pc + 1) l (.int (lg_cmp x y) :: r) σ
    | _ => none)
  | .i2l => gd (Nat.beq len 1) (match st with
    | .int x :: r => K (pc + 1) l (.long x.toInt64 :: r) σ
    | _ => none)
  | .l2i => gd (Nat.beq len 1) (match st with
    | .long x :: r => K (pc + 1) l (.int x.toInt32 :: r) σ
    | _ => none)
  | .i2b => gd (Nat.beq len 1) (match st with
    | .int x :: r => K (pc + 1) l (.int x.toInt8.toInt32 :: r) σ
    | _ => none)
  | .i2s => gd (Nat.beq len 1) (match st with
    | .int x :: r => K (pc + 1) l (.int x.toInt16.toInt32 :: r) σ
    | _ => none)
  | .i2c => gd (Nat.beq len 1) (match st with
    | .int x :: r => K (pc + 1) l (.int (x.toUInt32 % 65536).toInt32 :: r) σ
    | _ => none)
  | .dup => gd (Nat.beq len 1) (match st with
    | v :: r => gd (Nat.beq v.category 1) (K (pc + 1) l (v :: v :: r) σ)
    | _ => none)
  | .pop => gd (Nat.beq len 1) (match st with
    | v :: r => gd (Nat.beq v.category 1) (K (pc + 1) l r σ)
    | _ => none)
  | .dup2 => gd (Nat.beq len 1) (match st with
    | v :: w :: r => gd (Nat.beq v.category 1 && Nat.beq w.category 1) (K (pc + 1) l (v :: w :: v :: w :: r) σ)
    | _ => none)
  | .ifCond cnd off => gd (Nat.beq len 3 && decide (0 ≤ (pc : Int) + off)) (match st with
    | .int x :: r => match cnd with
      | .eq => if x = 0 then K (tgt pc off) l r σ else K (pc + 3) l r σ
      | .ne => if x = 0 then K (pc + 3) l r σ else K (tgt pc off) l r σ
      | .lt => if x < 0 then K (tgt pc off) l r σ else K (pc + 3) l r σ
      | .ge => if 0 ≤ x then K (tgt pc off) l r σ else K (pc + 3) l r σ
      | .gt => if 0 < x then K (tgt pc off) l r σ else K (pc + 3) l r σ
      | .le => if x ≤ 0 then K (tgt pc off) l r σ else K (pc + 3) l r σ
    | _ => none)
  | .if_icmp cnd off => gd (Nat.beq len 3 && decide (0 ≤ (pc : Int) + off)) (match st with
    | .int y :: .int x :: r => match cnd with
      | .eq => if x = y then K (tgt pc off) l r σ else K (pc + 3) l r σ
      | .ne => if x = y then K (pc + 3) l r σ else K (tgt pc off) l r σ
      | .lt => if x < y then K (tgt pc off) l r σ else K (pc + 3) l r σ
      | .ge => if y ≤ x then K (tgt pc off) l r σ else K (pc + 3) l r σ
      | .gt => if y < x then K (tgt pc off) l r σ else K (pc + 3) l r σ
      | .le => if x ≤ y then K (tgt pc off) l r σ else K (pc + 3) l r σ
    | _ => none)
  | .goto off => gd (Nat.beq len 3) (jmp pc off (fun t => K t l st σ))
  | .tableswitch dflt lo hi offs => gd (Nat.ble 1 len) (match st with
    | .int x :: r => if x.toInt < lo ∨ hi < x.toInt then jmp pc dflt (fun t => K t l r σ) else (match offs[(x.toInt - lo).toNat]? with
      | some off => jmp pc off (fun t => K t l r σ)
      | none => none)
    | _ => none)
  | .getfield j => gd (Nat.beq len 3) (match q_rf (q_o md) j with
    | none => none
    | some (ci, k, _) => match st with
      | .ref a :: r => match σ.2.2.1[a]? with
        | some (.inl c, rs) => gd (Nat.beq c ci && Nat.blt ci 13) (K (pc + 3) l (fv ci k (σ.1 a) rs :: r) σ)
        | some (.inr _, _) => none
        | none => gd (Nat.beq ci 17 && (Nat.ble 1000002 a && Nat.ble a 1000005)) (K (pc + 3) l ((match k with
          | 0 => .int 0
          | _ => .ref (a + 4)) :: r) σ)
      | _ => none)
  | .putfield j => gd (Nat.beq len 3) (match q_rf (q_o md) j with
    | none => none
    | some (ci, k, _) => match st with
      | v :: .ref a :: r => match σ.2.2.1[a]? with
        | some (.inl c, rs) => gd (Nat.beq c ci && Nat.blt ci 13) (putV md σ a ci k rs v (fun σ1 => K (pc + 3) l r σ1))
        | _ => none
      | _ => none)
  | .getstatic j => gd (Nat.beq len 3) (match q_rs (q_o md) j with
    | none => none
    | some (k, _, _) => K (pc + 3) l ((match k with
      | 11 => .int 1
      | _ => .ref (1000000 + k)) :: st) σ)
  | .arraylength => gd (Nat.beq len 1) (match st with
    | .ref a :: r => match lenA ev σ a with
      | some n => K (pc + 1) l (.int (Int32.ofNat n) :: r) σ
      | none => none
    | _ => none)
  | .iaload => gd (Nat.beq len 1) (match st with
    | .int i :: .ref a :: r => match ldA ev σ .int a i with
      | some v => K (pc + 1) l (v :: r) σ
      | none => none
    | _ => none)
  | .laload => gd (Nat.beq len 1) (match st with
    | .int i :: .ref a :: r => match ldA ev σ .long a i with
      | some v => K (pc + 1) l (v :: r) σ
      | none => none
    | _ => none)
  | .aaload => gd (Nat.beq len 1) (match st with
    | .int i :: .ref a :: r => match ldA ev σ (.object "LampWires$Frame") a i with
      | some (.ref b) => gd (Nat.blt b 1000000) (K (pc + 1) l (.ref b :: r) σ)
      | _ => match ldA ev σ (.object "LampWires$Sheet") a i with
        | some (.ref b) => gd (Nat.blt b 1000000) (K (pc + 1) l (.ref b :: r) σ)
        | _ => none
    | _ => none)
  | .baload => gd (Nat.beq len 1) (match st with
    | .int i :: .ref a :: r => match ldA ev σ .byte a i with
      | some v => K (pc + 1) l (v :: r) σ
      | none => match ldA ev σ .boolean a i with
        | some v => K (pc + 1) l (v :: r) σ
        | none => none
    | _ => none)
  | .iastore => gd (Nat.beq len 1) (match st with
    | .int x :: .int i :: .ref a :: r => gd (okA σ .int a i) (K (pc + 1) l r (wr σ.1 a i.toNatClampNeg x, σ.2))
    | _ => none)
  | .lastore => gd (Nat.beq len 1) (match st with
    | .long x :: .int i :: .ref a :: r => gd (okA σ .long a i) (K (pc + 1) l r (σ.1, wrL σ.2.1 a i.toNatClampNeg x, σ.2.2))
    | _ => none)
  | .bastore => gd (Nat.beq len 1) (match st with
    | .int x :: .int i :: .ref a :: r => cond (okA σ .byte a i) (K (pc + 1) l r (wr σ.1 a i.toNatClampNeg x.toInt8.toInt32, σ.2))
        (gd (okA σ .boolean a i) (K (pc + 1) l r (wr σ.1 a i.toNatClampNeg (x &&& 1), σ.2)))
    | _ => none)
  | .aastore => gd (Nat.beq len 1) (match st with
    | .ref b :: .int i :: .ref a :: r => match σ.2.2.1[a]? with
      | some (.inr (.object C, n), rs) => match σ.2.2.1[b]? with
        | some (.inl c, _) => gd (decide (q_cn c = C) && ((Nat.beq c 1 || Nat.beq c 6) && Nat.blt i.toNatClampNeg rs.length)) (if i < 0 ∨ n ≤ i.toNatClampNeg then none else K (pc + 1) l r (σ.1, σ.2.1, (σ.2.2.1.set a (.inr (.object C, n), rs.set i.toNatClampNeg (some b)), σ.2.2.2)))
        | _ => none
      | _ => none
    | _ => none)
  | .new j => gd (Nat.beq len 3) (match q_rc (q_o md) j with
    | none => none
    | some (ci, _) => newK σ (.inl ci, List.replicate (q_N ci) none) (q_N ci) (fun σ1 => K (pc + 3) l (.ref σ.2.2.1.length :: st) σ1))
  | .newarray ty => gd (Nat.beq len 2) (match st with
    | .int n :: r => if n < 0 then none else gd (Nat.ble (n.toNatClampNeg * 8) 536870912 && (decide (newarray.typeOf ty = .int) || (decide (newarray.typeOf ty = .byte) || (decide (newarray.typeOf ty = .boolean) || decide (newarray.typeOf ty = .long)))))
        (newK σ (.inr (newarray.typeOf ty, n.toNatClampNeg), []) n.toNatClampNeg (fun σ1 => K (pc + 2) l (.ref σ.2.2.1.length :: r) σ1))
    | _ => none)
  | .anewarray j => gd (Nat.beq len 3) (match q_rc (q_o md) j with
    | none => none
    | some (ci, _) => match st with
      | .int n :: r => if n < 0 then none else gd (Nat.ble (n.toNatClampNeg * 4) 536870912 && (Nat.beq ci 1 || Nat.beq ci 6))
          (newK σ (.inr (.object (q_cn ci), n.toNatClampNeg), List.replicate n.toNatClampNeg none) n.toNatClampNeg (fun σ1 => K (pc + 3) l (.ref σ.2.2.1.length :: r) σ1))
      | _ => none)
  | .invokevirtual j => gd (Nat.beq len 3) (match q_rm (q_o md) j with
    | none => none
    | some (k, na, cm, _) => match st.drop na with
      | .ref b :: r => gd (Nat.beq k 0 && (isIn σ b (q_o cm) && Nat.ble (catS r) 8)) (callK (call cm (.ref b :: (st.take na).reverse) σ) σ (fun v σ1 => K (pc + 3) l (v.toList ++ r) σ1))
      | _ => none)
  | .invokestatic j => gd (Nat.beq len 3) (match q_rm (q_o md) j with
    | some (k, na, cm, _) => gd (Nat.beq k 1 && (Nat.ble na st.length && Nat.ble (catS (st.drop na)) 8)) (callK (call cm (st.take na).reverse σ) σ (fun v σ1 => K (pc + 3) l (v.toList ++ st.drop na) σ1))
    | none => match q_ro (q_o md) j with
      | some (1, _) => match st with
        | .int n :: .int dp :: .ref a :: .int sp :: .ref a0 :: r =>
          gd (decide (a ≠ a0) && (Nat.ble (catS r) 8 && (okA σ .int a0 0 && okA σ .int a 0))) (if n < 0 ∨ dp < 0 ∨ sp < 0 then none else
            match lenA ev σ a0, lenA ev σ a with
            | some n0, some n1 => if sp.toNatClampNeg + n.toNatClampNeg ≤ n0 ∧ dp.toNatClampNeg + n.toNatClampNeg ≤ n1 then K (pc + 3) l r (va_up σ.1 a (va_cpy (σ.1 a0) (σ.1 a) sp.toNatClampNeg dp.toNatClampNeg n.toNatClampNeg), σ.2) else none
            | _, _ => none)
        | _ => none
      | some (2, _) => match st with
        | .int y :: .int x :: r => gd (Nat.ble (catS r) 8) (monK σ (K (pc + 3) l (.int (if x < y then y else x) :: r) σ))
        | _ => none
      | some (3, _) => match st with
        | .int y :: .int x :: r => gd (Nat.ble (catS r) 8) (monK σ (K (pc + 3) l (.int (if y < x then y else x) :: r) σ))
        | _ => none
      | some (4, _) => match st with
        | .int x :: r => gd (Nat.ble (catS r) 8) (monK σ (K (pc + 3) l (.int (if 0 ≤ x then x else 0 - x) :: r) σ))
        | _ => none
      | _ => none)
  | .invokespecial j => gd (Nat.beq len 3) (match q_rm (q_o md) j with
    | some (k, na, cm, _) => match st.drop na with
      | .ref b :: r => gd (Nat.ble 2 k && (Nat.ble k 3 && (Nat.ble (catS r) 8 && Nat.blt b 1000000))) (callK (call cm (.ref b :: (st.take na).reverse) σ) σ (fun v σ1 => K (pc + 3) l (v.toList ++ r) σ1))
      | _ => none
    | none => match q_ro (q_o md) j with
      | some (0, _) => match st with
        | .ref a :: r => gd (Nat.ble (catS r) 8 && Nat.blt a 1000000) (K (pc + 3) l r σ)
        | _ => none
      | _ => none)
  | .ireturn => gd (Nat.beq len 1) (match st with
    | [.int v] => retI md v σ
    | _ => none)
  | .lreturn => gd (Nat.beq len 1) (match st with
    | [.long v] => match q_r md with
      | some .long => some (some (.long v), σ)
      | _ => none
    | _ => none)
  | .areturn => gd (Nat.beq len 1) (match st with
    | [.ref a] => match q_r md with
      | some (.object _) => gd (Nat.blt a 1000000) (some (some (.ref a), σ))
      | _ => none
    | _ => none)
  | .return_ => gd (Nat.beq len 1) (match st with
    | [] => match q_r md with
      | none => some (none, σ)
      | _ => none
    | _ => none)
  | _ => none
def runF (ev : EV) (call : Mth → List Value → SG → OT) (md : Mth) : Nat → KT
  | 0, _, _, _, _ => none
  | n + 1, pc, l, st, σ => match q_at md pc with
    | none => none
    | some (i, len) => stepI ev call md pc l st σ (runF ev call md n) i len
def runD (ev : EV) (N : Nat) : Nat → Mth → List Value → SG → OT
  | 0, _, _, _ => none
  | d + 1, md, args, σ => gd (Nat.ble (catS args) (q_L md)) (runF ev (runD ev N d) md N 0 (lv_args 0 args) [] σ)
