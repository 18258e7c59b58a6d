/-! THE ENGINE: an abstract machine over named cells. A value is an int, or a name (kind, place); kind 0 is null. What it does, the machine does (part 03). -/
abbrev eg_V : Type := Int32 ⊕ (Nat × Nat)
abbrev eg_L : Type := List (Nat × eg_V)
abbrev eg_E : Type := Jvm.ClassFile.Instr × Nat × Nat × Nat
abbrev eg_C (S : Type) : Type := Nat × S × (Nat × Nat) × eg_L × List eg_V
abbrev eg_R (S : Type) : Type := eg_C S ⊕ ((Nat × List eg_V × Nat × List eg_V) ⊕ Option eg_V)
/-- a store: read, length, write, make, copy numbers from one array to another -/
abbrev eg_X (S : Type) : Type := (S → Nat → Nat → Nat → eg_V) × (S → Nat → Nat → Nat) × (S → Nat → Nat → Nat → eg_V → Option S) × (S → Nat → Nat → Option (S × Nat)) × (S → Nat × Nat → Nat → Nat × Nat → Nat → Nat → Option S)
/-- the tables of a program: its instructions; of a kind: class number, array type (1 int, 2 byte, 3 char, 4 boolean, 5 of references); statics; of a method: arguments, cells, slots; of a class: fields; of a field: type (1 int, 2 boolean, 3 a reference, 4 byte) -/
abbrev eg_T : Type := (Nat → Nat → Option eg_E) × (Nat → Nat) × (Nat → Nat) × (Nat → eg_V) × (Nat → Nat × Nat × Nat) × (Nat → Nat) × (Nat → Nat → Nat)
def eg_get : eg_L → Nat → Option eg_V
  | [], _ => none
  | q :: l, i => bif Nat.beq q.1 i then some q.2 else eg_get l i
def eg_put (l : eg_L) (i : Nat) (v : eg_V) : eg_L := (i, v) :: l.filter (fun q => !(Nat.beq q.1 i))
def eg_ent : Nat → List eg_V → eg_L
  | _, [] => []
  | n, v :: l => (n, v) :: eg_ent (n + 1) l
def eg_int : eg_V → Int32
  | .inl x => x
  | .inr _ => 0
def eg_ref : eg_V → Nat × Nat
  | .inl _ => (0, 0)
  | .inr q => q
def eg_geti (l : eg_L) (i : Nat) : Option eg_V := match eg_get l i with
  | some (.inl x) => some (.inl x)
  | _ => none
def eg_getr (l : eg_L) (i : Nat) : Option eg_V := match eg_get l i with
  | some (.inr q) => some (.inr q)
  | _ => none
def eg_inb (x : Int32) (n : Nat) : Bool := !(decide (x < 0)) && Nat.blt x.toNatClampNeg n
def eg_fit (t : Nat) (v : eg_V) : Bool := match v with
  | .inl x => Nat.beq t 1 || (Nat.beq t 2 && (decide (x = 0) || decide (x = 1))) || (Nat.beq t 4 && decide (x.toInt8.toInt32 = x))
  | .inr _ => Nat.beq t 3
def eg_same (q r : Nat × Nat) : Bool := Nat.beq q.2 r.2
def eg_un (f : Int32 → Int32) : List eg_V → Option (List eg_V)
  | .inl x :: r => some (.inl (f x) :: r)
  | _ => none
def eg_bin (f : Int32 → Int32 → Int32) : List eg_V → Option (List eg_V)
  | .inl y :: .inl x :: r => some (.inl (f x y) :: r)
  | _ => none
def eg_dup : List eg_V → Option (List eg_V)
  | a :: r => some (a :: a :: r)
  | _ => none
def eg_dx1 : List eg_V → Option (List eg_V)
  | a :: b :: r => some (a :: b :: a :: r)
  | _ => none
def eg_dx2 : List eg_V → Option (List eg_V)
  | a :: b :: d :: r => some (a :: b :: d :: a :: r)
  | _ => none
def eg_d2 : List eg_V → Option (List eg_V)
  | a :: b :: r => some (a :: b :: a :: b :: r)
  | _ => none
def eg_pop : List eg_V → Option (List eg_V)
  | _ :: r => some r
  | _ => none
def eg_tsw (pc : Nat) (d lo hi : Int) (offs : Array Int) (x : Int32) : Nat := if x.toInt < lo ∨ hi < x.toInt then ((pc : Int) + d).toNat else ((pc : Int) + (offs[(x.toInt - lo).toNat]?).getD 0).toNat
def eg_lsw (pc : Nat) (d : Int) (ps : Array (Int × Int)) (x : Int32) : Nat := ((pc : Int) + Op.lookupswitch.offset ps.toList d x.toInt).toNat
section EG
variable {S : Type}
abbrev eg_O (S : Type) : Type := Option (Bool × eg_R S)
def eg_stk (o : Option (List eg_V)) (pc : Nat) (σ : S) (u : Nat × Nat) (ls : eg_L) : eg_O S := match o with
  | some st => some (true, .inl (pc, σ, u, ls, st))
  | none => none
def eg_psh (o : Option eg_V) (pc : Nat) (σ : S) (u : Nat × Nat) (ls : eg_L) (st : List eg_V) : eg_O S := match o with
  | some v => some (true, .inl (pc, σ, u, ls, v :: st))
  | none => none
def eg_sti (i pc : Nat) (σ : S) (u : Nat × Nat) (ls : eg_L) (st : List eg_V) : eg_O S := match st with
  | .inl x :: r => some (true, .inl (pc, σ, u, eg_put ls i (.inl x), r))
  | _ => none
def eg_str (i pc : Nat) (σ : S) (u : Nat × Nat) (ls : eg_L) (st : List eg_V) : eg_O S := match st with
  | .inr q :: r => some (true, .inl (pc, σ, u, eg_put ls i (.inr q), r))
  | _ => none
def eg_inc (i : Nat) (n : Int) (pc : Nat) (σ : S) (u : Nat × Nat) (ls : eg_L) (st : List eg_V) : eg_O S := match eg_get ls i with
  | some (.inl x) => some (true, .inl (pc, σ, u, eg_put ls i (.inl (x + Int32.ofInt n)), st))
  | _ => none
def eg_b1 (f : Int32 → Bool) (t pc : Nat) (σ : S) (u : Nat × Nat) (ls : eg_L) (st : List eg_V) : eg_O S := match st with
  | .inl x :: r => some (true, .inl (bif f x then t else pc, σ, u, ls, r))
  | _ => none
def eg_b2 (f : Int32 → Int32 → Bool) (t pc : Nat) (σ : S) (u : Nat × Nat) (ls : eg_L) (st : List eg_V) : eg_O S := match st with
  | .inl y :: .inl x :: r => some (true, .inl (bif f x y then t else pc, σ, u, ls, r))
  | _ => none
def eg_bn (f : Nat × Nat → Bool) (t pc : Nat) (σ : S) (u : Nat × Nat) (ls : eg_L) (st : List eg_V) : eg_O S := match st with
  | .inr q :: r => bif Nat.beq q.1 1 then none else some (true, .inl (bif f q then t else pc, σ, u, ls, r))
  | _ => none
def eg_ba (f : Nat × Nat → Nat × Nat → Bool) (t pc : Nat) (σ : S) (u : Nat × Nat) (ls : eg_L) (st : List eg_V) : eg_O S := match st with
  | .inr y :: .inr x :: r => bif Nat.beq y.1 50 && Nat.beq x.1 50 then some (true, .inl (bif f x y then t else pc, σ, u, ls, r)) else none
  | _ => none
def eg_dv (f : Int32 → Int32 → Int32) (pc : Nat) (σ : S) (u : Nat × Nat) (ls : eg_L) (st : List eg_V) : eg_O S := match st with
  | .inl y :: .inl x :: r => some (!(decide (y = 0)), .inl (pc, σ, u, ls, .inl (f x y) :: r))
  | _ => none
/-- Math.max, Math.min -/
def eg_mm (f : Int32 → Int32 → Int32) (pc : Nat) (σ : S) (u : Nat × Nat) (ls : eg_L) (st : List eg_V) : eg_O S := match st with
  | .inl y :: .inl x :: r => bif Nat.ble r.length 8 then some (true, .inl (pc, σ, u, ls, .inl (f x y) :: r)) else none
  | _ => none
def eg_sw (f : Int32 → Nat) (σ : S) (u : Nat × Nat) (ls : eg_L) (st : List eg_V) : eg_O S := match st with
  | .inl x :: r => some (true, .inl (f x, σ, u, ls, r))
  | _ => none
variable (X : eg_X S) (T : eg_T)
def eg_gf (a b pc : Nat) (σ : S) (u : Nat × Nat) (ls : eg_L) (st : List eg_V) : eg_O S := match st with
  | .inr q :: r => bif Nat.beq (T.2.1 q.1) b then some (true, .inl (pc, σ, u, ls, X.1 σ q.1 q.2 a :: r)) else none
  | _ => none
def eg_pf (a b pc : Nat) (σ : S) (u : Nat × Nat) (ls : eg_L) (st : List eg_V) : eg_O S := match st with
  | v :: .inr q :: r => bif Nat.beq (T.2.1 q.1) b then (match X.2.2.1 σ q.1 q.2 a v with
    | some σ' => some (eg_fit (T.2.2.2.2.2.2 b a) v, .inl (pc, σ', u, ls, r))
    | none => none) else none
  | _ => none
/-- a load from an array of type t, of numbers -/
def eg_al (t pc : Nat) (σ : S) (u : Nat × Nat) (ls : eg_L) (st : List eg_V) : eg_O S := match st with
  | .inl x :: .inr q :: r => bif Nat.beq (T.2.2.1 q.1) t then some (eg_inb x (X.2.1 σ q.1 q.2), .inl (pc, σ, u, ls, .inl (eg_int (X.1 σ q.1 q.2 x.toNatClampNeg)) :: r)) else none
  | _ => none
def eg_ar (pc : Nat) (σ : S) (u : Nat × Nat) (ls : eg_L) (st : List eg_V) : eg_O S := match st with
  | .inl x :: .inr q :: r => bif Nat.beq (T.2.2.1 q.1) 5 then some (eg_inb x (X.2.1 σ q.1 q.2), .inl (pc, σ, u, ls, .inr (eg_ref (X.1 σ q.1 q.2 x.toNatClampNeg)) :: r)) else none
  | _ => none
def eg_as (t : Nat) (f : Int32 → Int32) (pc : Nat) (σ : S) (u : Nat × Nat) (ls : eg_L) (st : List eg_V) : eg_O S := match st with
  | .inl v :: .inl x :: .inr q :: r => bif Nat.beq (T.2.2.1 q.1) t then (match X.2.2.1 σ q.1 q.2 x.toNatClampNeg (.inl (f v)) with
    | some σ' => some (eg_inb x (X.2.1 σ q.1 q.2), .inl (pc, σ', u, ls, r))
    | none => none) else none
  | _ => none
def eg_len (pc : Nat) (σ : S) (u : Nat × Nat) (ls : eg_L) (st : List eg_V) : eg_O S := match st with
  | .inr q :: r => bif Nat.beq (T.2.2.1 q.1) 0 then none else some (true, .inl (pc, σ, u, ls, .inl (Int32.ofNat (X.2.1 σ q.1 q.2)) :: r))
  | _ => none
/-- an object of kind a is made -/
def eg_new (a mi pc : Nat) (σ : S) (u : Nat × Nat) (ls : eg_L) (st : List eg_V) : eg_O S := match X.2.2.2.1 σ a 0 with
  | some (σ', i) => some (Nat.ble (u.1 + 1) (T.2.2.2.2.1 mi).2.1 && Nat.ble (u.2 + T.2.2.2.2.2.1 (T.2.1 a)) (T.2.2.2.2.1 mi).2.2, .inl (pc, σ', (u.1 + 1, u.2 + T.2.2.2.2.2.1 (T.2.1 a)), ls, .inr (a, i) :: st))
  | none => none
/-- an array of kind a is made -/
def eg_newa (a mi pc : Nat) (σ : S) (u : Nat × Nat) (ls : eg_L) (st : List eg_V) : eg_O S := match st with
  | .inl x :: r => (match X.2.2.2.1 σ a x.toNatClampNeg with
    | some (σ', i) => some (!(decide (x < 0)) && (Nat.ble x.toNatClampNeg 65536 && (Nat.ble (u.1 + 1) (T.2.2.2.2.1 mi).2.1 && Nat.ble (u.2 + x.toNatClampNeg) (T.2.2.2.2.1 mi).2.2)), .inl (pc, σ', (u.1 + 1, u.2 + x.toNatClampNeg), ls, .inr (a, i) :: r))
    | none => none)
  | _ => none
def eg_ast (a b pc : Nat) (σ : S) (u : Nat × Nat) (ls : eg_L) (st : List eg_V) : eg_O S := match st with
  | .inr v :: .inl x :: .inr q :: r => bif Nat.beq (T.2.1 v.1) a && Nat.beq q.1 b then (match X.2.2.1 σ q.1 q.2 x.toNatClampNeg (.inr v) with
    | some σ' => some (eg_inb x (X.2.1 σ q.1 q.2), .inl (pc, σ', u, ls, r))
    | none => none) else none
  | _ => none
/-- Object.<init> -/
def eg_oi (pc : Nat) (σ : S) (u : Nat × Nat) (ls : eg_L) (st : List eg_V) : eg_O S := match st with
  | .inr q :: r => bif !(Nat.beq (T.2.1 q.1) 0) && Nat.ble r.length 8 then some (true, .inl (pc, σ, u, ls, r)) else none
  | _ => none
/-- an answer of the method's type: 1 int, 2 boolean, 3 char, 4 byte -/
def eg_rf (a : Nat) (x : Int32) : Bool := Nat.beq a 1 || (Nat.beq a 2 && (decide (x = 0) || decide (x = 1))) || (Nat.beq a 3 && decide (x.toUInt32.toUInt16.toUInt32.toInt32 = x)) || (Nat.beq a 4 && decide (x.toInt8.toInt32 = x))
def eg_ri (a : Nat) (st : List eg_V) : eg_O S := match st with
  | [.inl x] => some (eg_rf a x, .inr (.inr (some (.inl x))))
  | _ => none
def eg_ra (st : List eg_V) : eg_O S := match st with
  | [.inr q] => some (true, .inr (.inr (some (.inr q))))
  | _ => none
def eg_rv (st : List eg_V) : eg_O S := match st with
  | [] => some (true, .inr (.inr none))
  | _ => none
/-- are they bytes -/
def eg_byt (σ : S) (q : Nat × Nat) (sp n : Nat) : Bool := (List.range n).all (fun i => decide ((eg_int (X.1 σ q.1 q.2 (sp + i))).toInt8.toInt32 = eg_int (X.1 σ q.1 q.2 (sp + i))))
/-- System.arraycopy of bytes -/
def eg_cpy (pc : Nat) (σ : S) (u : Nat × Nat) (ls : eg_L) (st : List eg_V) : eg_O S := match st with
  | .inl n :: .inl dp :: .inr d :: .inl sp :: .inr q :: r => bif Nat.beq (T.2.2.1 d.1) 2 && Nat.beq (T.2.2.1 q.1) 2 then (match X.2.2.2.2 σ q sp.toNatClampNeg d dp.toNatClampNeg n.toNatClampNeg with
    | some σ' => some (!(decide (n < 0)) && (!(decide (sp < 0)) && (!(decide (dp < 0)) && (Nat.ble (sp.toNatClampNeg + n.toNatClampNeg) (X.2.1 σ q.1 q.2) && (Nat.ble (dp.toNatClampNeg + n.toNatClampNeg) (X.2.1 σ d.1 d.2) && (Nat.ble r.length 8 && eg_byt X σ q sp.toNatClampNeg n.toNatClampNeg))))), .inl (pc, σ', u, ls, r))
    | none => none) else none
  | _ => none
def eg_rcv (b : Nat) (st : List eg_V) : Bool := match st with
  | .inr q :: _ => Nat.beq (T.2.1 q.1) b
  | _ => false
/-- a call of method j, whose receiver is of class b (0: nobody asks) -/
def eg_call (j b mi pc : Nat) (u : Nat × Nat) (st : List eg_V) : eg_O S :=
  bif Nat.ble (T.2.2.2.2.1 j).1 st.length && (Nat.beq b 0 || eg_rcv T b (st.drop ((T.2.2.2.2.1 j).1 - 1))) then
    some (Nat.ble (st.length - (T.2.2.2.2.1 j).1) 8 && (Nat.ble (u.1 + (T.2.2.2.2.1 j).2.1) (T.2.2.2.2.1 mi).2.1 && Nat.ble (u.2 + (T.2.2.2.2.1 j).2.2) (T.2.2.2.2.1 mi).2.2), .inr (.inl (j, (st.take (T.2.2.2.2.1 j).1).reverse, pc, st.drop (T.2.2.2.2.1 j).1)))
  else none
def eg_do (I : Jvm.ClassFile.Instr) (a b mi pc : Nat) (σ : S) (u : Nat × Nat) (ls : eg_L) (st : List eg_V) : eg_O S := match I with
  | .iconst n => some (true, .inl (pc + 1, σ, u, ls, .inl (Int32.ofInt n) :: st))
  | .bipush n => some (true, .inl (pc + 2, σ, u, ls, .inl (Int8.ofInt n).toInt32 :: st))
  | .sipush n => some (true, .inl (pc + 3, σ, u, ls, .inl (Int16.ofInt n).toInt32 :: st))
  | .ldc _ => some (true, .inl (pc + 2, σ, u, ls, (bif Nat.beq b 0 then .inl (Int32.ofNat a) else .inr (b, a)) :: st))
  | .aconst_null => some (true, .inl (pc + 1, σ, u, ls, .inr (0, 0) :: st))
  | .iload_n k => eg_psh (eg_geti ls k) (pc + 1) σ u ls st
  | .iload k => eg_psh (eg_geti ls k) (pc + 2) σ u ls st
  | .aload_n k => eg_psh (eg_getr ls k) (pc + 1) σ u ls st
  | .aload k => eg_psh (eg_getr ls k) (pc + 2) σ u ls st
  | .istore_n k => eg_sti k (pc + 1) σ u ls st
  | .istore k => eg_sti k (pc + 2) σ u ls st
  | .astore_n k => eg_str k (pc + 1) σ u ls st
  | .astore k => eg_str k (pc + 2) σ u ls st
  | .iinc i n => eg_inc i n (pc + 3) σ u ls st
  | .iadd => eg_stk (eg_bin (fun x y => x + y) st) (pc + 1) σ u ls
  | .isub => eg_stk (eg_bin (fun x y => x - y) st) (pc + 1) σ u ls
  | .imul => eg_stk (eg_bin (fun x y => x * y) st) (pc + 1) σ u ls
  | .iand => eg_stk (eg_bin (fun x y => x &&& y) st) (pc + 1) σ u ls
  | .ior => eg_stk (eg_bin (fun x y => x ||| y) st) (pc + 1) σ u ls
  | .ixor => eg_stk (eg_bin (fun x y => x ^^^ y) st) (pc + 1) σ u ls
  | .ishl => eg_stk (eg_bin (fun x y => x <<< (y &&& 31)) st) (pc + 1) σ u ls
  | .ishr => eg_stk (eg_bin (fun x y => x >>> (y &&& 31)) st) (pc + 1) σ u ls
  | .iushr => eg_stk (eg_bin (fun x y => (x.toUInt32 >>> (y.toUInt32 &&& Int32.toUInt32 31)).toInt32) st) (pc + 1) σ u ls
  | .ineg => eg_stk (eg_un (fun x => -x) st) (pc + 1) σ u ls
  | .i2b => eg_stk (eg_un (fun x => x.toInt8.toInt32) st) (pc + 1) σ u ls
  | .i2s => eg_stk (eg_un (fun x => x.toInt16.toInt32) st) (pc + 1) σ u ls
  | .i2c => eg_stk (eg_un (fun x => (x.toUInt32 % 65536).toInt32) st) (pc + 1) σ u ls
  | .idiv => eg_dv (fun x y => x / y) (pc + 1) σ u ls st
  | .irem => eg_dv (fun x y => x - x / y * y) (pc + 1) σ u ls st
  | .dup => eg_stk (eg_dup st) (pc + 1) σ u ls
  | .dup_x1 => eg_stk (eg_dx1 st) (pc + 1) σ u ls
  | .dup_x2 => eg_stk (eg_dx2 st) (pc + 1) σ u ls
  | .dup2 => eg_stk (eg_d2 st) (pc + 1) σ u ls
  | .pop => eg_stk (eg_pop st) (pc + 1) σ u ls
  | .ifCond .eq _ => eg_b1 (fun x => decide (x = 0)) a (pc + 3) σ u ls st
  | .ifCond .ne _ => eg_b1 (fun x => !(decide (x = 0))) a (pc + 3) σ u ls st
  | .ifCond .lt _ => eg_b1 (fun x => decide (x < 0)) a (pc + 3) σ u ls st
  | .ifCond .ge _ => eg_b1 (fun x => decide (0 ≤ x)) a (pc + 3) σ u ls st
  | .ifCond .gt _ => eg_b1 (fun x => decide (0 < x)) a (pc + 3) σ u ls st
  | .ifCond .le _ => eg_b1 (fun x => decide (x ≤ 0)) a (pc + 3) σ u ls st
  | .if_icmp .eq _ => eg_b2 (fun x y => decide (x = y)) a (pc + 3) σ u ls st
  | .if_icmp .ne _ => eg_b2 (fun x y => !(decide (x = y))) a (pc + 3) σ u ls st
  | .if_icmp .lt _ => eg_b2 (fun x y => decide (x < y)) a (pc + 3) σ u ls st
  | .if_icmp .ge _ => eg_b2 (fun x y => decide (y ≤ x)) a (pc + 3) σ u ls st
  | .if_icmp .gt _ => eg_b2 (fun x y => decide (y < x)) a (pc + 3) σ u ls st
  | .if_icmp .le _ => eg_b2 (fun x y => decide (x ≤ y)) a (pc + 3) σ u ls st
  | .ifnull _ => eg_bn (fun q => Nat.beq q.1 0) a (pc + 3) σ u ls st
  | .ifnonnull _ => eg_bn (fun q => !(Nat.beq q.1 0)) a (pc + 3) σ u ls st
  | .if_acmp .eq _ => eg_ba eg_same a (pc + 3) σ u ls st
  | .if_acmp .ne _ => eg_ba (fun x y => !(eg_same x y)) a (pc + 3) σ u ls st
  | .goto _ => some (true, .inl (a, σ, u, ls, st))
  | .tableswitch d lo hi offs => eg_sw (eg_tsw pc d lo hi offs) σ u ls st
  | .lookupswitch d ps => eg_sw (eg_lsw pc d ps) σ u ls st
  | .getfield _ => eg_gf X T a b (pc + 3) σ u ls st
  | .putfield _ => eg_pf X T a b (pc + 3) σ u ls st
  | .getstatic _ => some (true, .inl (pc + 3, σ, u, ls, T.2.2.2.1 a :: st))
  | .iaload => eg_al X T 1 (pc + 1) σ u ls st
  | .baload => eg_al X T a (pc + 1) σ u ls st
  | .caload => eg_al X T 3 (pc + 1) σ u ls st
  | .aaload => eg_ar X T (pc + 1) σ u ls st
  | .iastore => eg_as X T 1 (fun x => x) (pc + 1) σ u ls st
  | .bastore => bif Nat.beq a 4 then eg_as X T 4 (fun x => x &&& 1) (pc + 1) σ u ls st else eg_as X T 2 (fun x => x.toInt8.toInt32) (pc + 1) σ u ls st
  | .aastore => eg_ast X T a b (pc + 1) σ u ls st
  | .new _ => eg_new X T a mi (pc + 3) σ u ls st
  | .newarray _ => eg_newa X T a mi (pc + 2) σ u ls st
  | .anewarray _ => eg_newa X T a mi (pc + 3) σ u ls st
  | .arraylength => eg_len X T (pc + 1) σ u ls st
  | .invokevirtual _ => eg_call T a b mi (pc + 3) u st
  | .invokestatic _ => bif Nat.beq b 99 then eg_cpy X T (pc + 3) σ u ls st else bif Nat.beq b 98 then eg_mm (fun x y => if x < y then y else x) (pc + 3) σ u ls st else bif Nat.beq b 97 then eg_mm (fun x y => if y < x then y else x) (pc + 3) σ u ls st else eg_call T a 0 mi (pc + 3) u st
  | .invokespecial _ => bif Nat.beq b 99 then eg_oi T (pc + 3) σ u ls st else eg_call T a b mi (pc + 3) u st
  | .ireturn => eg_ri a st
  | .areturn => eg_ra st
  | .return_ => eg_rv st
  | _ => none
def eg_step (mi pc : Nat) (σ : S) (u : Nat × Nat) (ls : eg_L) (st : List eg_V) : eg_O S := match T.1 mi pc with
  | some (I, _, a, b) => eg_do X T I a b mi pc σ u ls st
  | none => none
def eg_ip : Nat → Nat → Nat → S → Nat × Nat → eg_L → List eg_V → Option (S × Option eg_V)
  | 0, _, _, _, _, _, _ => none
  | n + 1, mi, pc, σ, u, ls, st => match eg_step X T mi pc σ u ls st with
    | some (true, .inl (pc', σ', u', ls', st')) => eg_ip n mi pc' σ' u' ls' st'
    | some (true, .inr (.inl (j, av, pc', st'))) => (match eg_ip n j 0 σ (0, 0) (eg_ent 0 av) [] with
      | some (σ', r) => eg_ip n mi pc' σ' (u.1 + (T.2.2.2.2.1 j).2.1, u.2 + (T.2.2.2.2.1 j).2.2) ls (r.toList ++ st')
      | none => none)
    | some (true, .inr (.inr r)) => some (σ, r)
    | _ => none
end EG
