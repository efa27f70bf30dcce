/-! THE SMALL MACHINE. Values are the model's own, but that a reference is a small address (the machine's own count of cells), and the script is '.retAddr 0'. Cells lie in typed stores: address, slot. -/
/-- ints (and all that is an int), doubles, references, longs -/
abbrev mm_M : Type := (Nat → Nat → Int32) × (Nat → Nat → UInt64) × (Nat → Nat → Option Nat) × (Nat → Nat → Int64)
/-- what each cell is: an object of the class with that number, or an array of that type and length -/
abbrev mm_Sh : Type := List (Nat ⊕ (Nat × Nat))
/-- shapes, stores, how many throws there have been -/
abbrev mm_St : Type := mm_Sh × mm_M × Nat
/-- what a call comes to: a value or nothing, or a thrown class's number -/
abbrev mm_O : Type := (Option Value ⊕ Nat) × mm_St
abbrev mm_L : Type := List (Option Value)
def mm_u {α : Type} (f : Nat → Nat → α) (a k : Nat) (x : α) : Nat → Nat → α := fun b j => if b = a then (if j = k then x else f b j) else f b j
theorem mm_u_s {α : Type} (f : Nat → Nat → α) (a k : Nat) (x : α) : mm_u f a k x a k = x := by simp [mm_u]
theorem mm_u_a {α : Type} {f : Nat → Nat → α} {a k b j : Nat} {x : α} (h : b ≠ a) : mm_u f a k x b j = f b j := by simp [mm_u, h]
theorem mm_u_k {α : Type} {f : Nat → Nat → α} {a k b j : Nat} {x : α} (h : j ≠ k) : mm_u f a k x b j = f b j := by simp [mm_u, h]
def mm_c2 : Value → Bool
  | .long _ => true
  | .double _ => true
  | _ => false
def mm_o2 : Option Value → Bool
  | some v => mm_c2 v
  | none => false
/-- a local is set: what it covers is no more -/
def mm_sto : mm_L → Nat → Nat → Value → mm_L
  | [], _, _, _ => []
  | o :: L, j, i, v => cond (Nat.beq j i) (some v) (cond ((Nat.beq j (i + 1) && mm_c2 v) || (Nat.beq (j + 1) i && mm_o2 o)) none o) :: mm_sto L (j + 1) i v
/-- a local is forgotten (a caught exception goes there) -/
def mm_clr : mm_L → Nat → Nat → mm_L
  | [], _, _ => []
  | o :: L, j, i => cond (Nat.beq j i || (Nat.beq (j + 1) i && mm_o2 o)) none o :: mm_clr L (j + 1) i
def mm_ld (L : mm_L) (i : Nat) : Option Value := match L[i]? with
  | some o => o
  | none => none
/-- the locals at a method's begin -/
def mm_in : List Value → mm_L
  | [] => []
  | v :: vs => some v :: cond (mm_c2 v) (none :: mm_in vs) (mm_in vs)
def mm_pad : mm_L → Nat → mm_L
  | L, 0 => L
  | [], n + 1 => none :: mm_pad [] n
  | o :: L, n + 1 => o :: mm_pad L n
/-- kinds: 0 int, 1 double, 2 reference, 3 long, 4 boolean -/
def mm_rd (M : mm_M) (kd a k : Nat) : Value := match kd with
  | 1 => .double (M.2.1 a k)
  | 2 => va_rf (M.2.2.1 a k)
  | 3 => .long (M.2.2.2 a k)
  | _ => .int (M.1 a k)
/-- links of a class by pool index: (what, a, b, c)
 0 field: class a, field b, kind c · 1 instance method a with b arguments beside the receiver, of class c · 2 static method a with b arguments · 3 Object.<init> · 4 a class of ours (new): a · 5 a thrown class: a · 6 int constant · 7 long constant · 8 double constant · 10 constructor a with b arguments of class c · 14 static method a with b arguments that has handlers -/
abbrev mm_K : Type := Nat × Nat × Nat × Nat
/-- a method: decoded code by pc, links, handlers (from, to, target, pool index), how many locals, which ints it returns -/
abbrev mm_Me : Type := List (Option (Instr × Nat)) × (Nat → Option mm_K) × List (Nat × Nat × Nat × Nat) × Nat × Nat
abbrev mm_Me.dec (me : mm_Me) : List (Option (Instr × Nat)) := me.1
abbrev mm_Me.lk (me : mm_Me) : Nat → Option mm_K := me.2.1
abbrev mm_Me.hs (me : mm_Me) : List (Nat × Nat × Nat × Nat) := me.2.2.1
abbrev mm_Me.nL (me : mm_Me) : Nat := me.2.2.2.1
/-- what an int that is returned must be: 0 any, 1 a char, 4 a boolean -/
abbrev mm_Me.rk (me : mm_Me) : Nat := me.2.2.2.2
def mm_tg (pc : Nat) (off : Int) : Nat := ((pc : Int) + off).toNat
def mm_n64 (r : UInt64) : Bool := decide (r &&& 0x7fffffffffffffff ≤ 0x7ff0000000000000)
/-- where a method's frame stands: pc, locals, operand stack, all cells -/
abbrev mm_Z : Type := Nat × mm_L × List Value × mm_St
/-- what an instruction comes to: a next place, or the method's end -/
abbrev mm_N : Type := Option (mm_Z ⊕ mm_O)
abbrev mm_go (pc : Nat) (L : mm_L) (st : List Value) (S : mm_St) : mm_N := some (.inl (pc, L, st, S))
abbrev mm_end (o : Option Value ⊕ Nat) (S : mm_St) : mm_N := some (.inr (o, S))
def mm_tsw (x : Int32) (k : Int → mm_N) (d : Int) : Int → List Int → mm_N
  | _, [] => k d
  | lo, o :: os => if x = Int32.ofInt lo then k o else mm_tsw x k d (lo + 1) os
def mm_lsw (x : Int32) (k : Int → mm_N) (d : Int) : List (Int × Int) → mm_N
  | [] => k d
  | (a, o) :: os => if x = Int32.ofInt a then k o else mm_lsw x k d os
def mm_wt : List Value → Nat
  | [] => 0
  | v :: vs => cond (mm_c2 v) 2 1 + mm_wt vs
/-- takes n values off the stack, the last one first -/
def mm_pop : Nat → List Value → List Value → Option (List Value × List Value)
  | 0, acc, st => some (acc, st)
  | n + 1, acc, v :: st => mm_pop n (v :: acc) st
  | _ + 1, _, [] => none
def mm_z {α : Type} (f : Nat → Nat → α) (a : Nat) (d : α) : Nat → Nat → α := fun b j => if b = a then d else f b j
/-- a new cell -/
def mm_new (S : mm_St) (sh : Nat ⊕ (Nat × Nat)) : mm_St := (S.1 ++ [sh], (mm_z S.2.1.1 S.1.length 0, mm_z S.2.1.2.1 S.1.length 0, mm_z S.2.1.2.2.1 S.1.length none, mm_z S.2.1.2.2.2 S.1.length 0), S.2.2)
def mm_sI (S : mm_St) (a k : Nat) (x : Int32) : mm_St := (S.1, (mm_u S.2.1.1 a k x, S.2.1.2), S.2.2)
def mm_sD (S : mm_St) (a k : Nat) (x : UInt64) : mm_St := (S.1, (S.2.1.1, mm_u S.2.1.2.1 a k x, S.2.1.2.2), S.2.2)
def mm_sR (S : mm_St) (a k : Nat) (x : Option Nat) : mm_St := (S.1, (S.2.1.1, S.2.1.2.1, mm_u S.2.1.2.2.1 a k x, S.2.1.2.2.2), S.2.2)
def mm_sJ (S : mm_St) (a k : Nat) (x : Int64) : mm_St := (S.1, (S.2.1.1, S.2.1.2.1, S.2.1.2.2.1, mm_u S.2.1.2.2.2 a k x), S.2.2)
section MM
variable (call : Nat → List Value → mm_St → Option mm_O)
/-- a handler's row: its first instruction puts the exception away -/
def mm_hs (me : mm_Me) (pc : Nat) (L : mm_L) (E : Nat) (S : mm_St) : List (Nat × Nat × Nat × Nat) → mm_N
  | [] => none
  | (a, b, t, ix) :: hs => cond (Nat.ble a pc && Nat.ble (pc + 1) b) (match me.lk ix with
      | some (5, E', _, _) => cond (Nat.beq E E') (match me.dec[t]? with
          | some (some (.astore_n i, _)) => mm_go (t + 1) (mm_clr L 0 i) [] S
          | some (some (.astore i, _)) => mm_go (t + 2) (mm_clr L 0 i) [] S
          | _ => none) (mm_hs me pc L E S hs)
      | _ => none) (mm_hs me pc L E S hs)
def mm_back (me : mm_Me) (pc : Nat) (L : mm_L) (rest : List Value) (o : Option mm_O) : mm_N := match o with
  | none => none
  | some (.inl v, S) => mm_go (pc + 3) L (v.toList ++ rest) S
  | some (.inr E, S) => match me.hs with
    | [] => mm_end (.inr E) S
    | h :: hs => cond (Nat.ble (E + 1) 5) (mm_hs me pc L E S (h :: hs)) none
/-- an instance method or a constructor: j, n arguments, of class c -/
def mm_inv (me : mm_Me) (pc : Nat) (L : mm_L) (st : List Value) (S : mm_St) (j n c : Nat) : mm_N := match mm_pop n [] st with
  | some (as, .ref a :: rest) => match S.1[a]? with
    | some (.inl ci) => cond (Nat.beq ci c && Nat.ble (mm_wt rest) 8) (mm_back me pc L rest (call j (.ref a :: as) S)) none
    | _ => none
  | _ => none
def mm_invS (me : mm_Me) (pc : Nat) (L : mm_L) (st : List Value) (S : mm_St) (j n : Nat) : mm_N := match mm_pop n [] st with
  | some (as, rest) => cond (Nat.ble (mm_wt rest) 8) (mm_back me pc L rest (call j as S)) none
  | none => none
/-- a constructor's call: it doesn't throw -/
def mm_noT (r : mm_N) : mm_N := match r with
  | some (.inl z) => some (.inl z)
  | _ => none
def mm_getf (ck : Nat → List Nat) (pc : Nat) (L : mm_L) (st : List Value) (S : mm_St) (c k : Nat) : mm_N := match st with
  | .ref a :: r => match S.1[a]? with
    | some (.inl ci) => cond (Nat.beq ci c) (match (ck c)[k]? with
        | some kd => mm_go (pc + 3) L (mm_rd S.2.1 kd a k :: r) S
        | none => none) none
    | _ => none
  | _ => none
def mm_putv (pc : Nat) (L : mm_L) (r : List Value) (S : mm_St) (a k : Nat) (v : Value) (kd : Nat) : mm_N := match kd with
  | 0 => match v with
    | .int x => mm_go (pc + 3) L r (mm_sI S a k x)
    | _ => none
  | 1 => match v with
    | .double x => mm_go (pc + 3) L r (mm_sD S a k x)
    | _ => none
  | 2 => match v with
    | .ref x => mm_go (pc + 3) L r (mm_sR S a k (some x))
    | .null => mm_go (pc + 3) L r (mm_sR S a k none)
    | _ => none
  | 3 => match v with
    | .long x => mm_go (pc + 3) L r (mm_sJ S a k x)
    | _ => none
  | 4 => match v with
    | .int x => if x = 0 ∨ x = 1 then mm_go (pc + 3) L r (mm_sI S a k x) else none
    | _ => none
  | _ => none
def mm_putf (ck : Nat → List Nat) (pc : Nat) (L : mm_L) (st : List Value) (S : mm_St) (c k : Nat) : mm_N := match st with
  | v :: .ref a :: r => match S.1[a]? with
    | some (.inl ci) => cond (Nat.beq ci c) (match (ck c)[k]? with
        | some kd => mm_putv pc L r S a k v kd
        | none => none) none
    | _ => none
  | _ => none
def mm_icmp (c : ClassFile.Cond) (x y : Int32) (A B : mm_N) : mm_N := match c with
  | .eq => if x = y then A else B
  | .ne => if x = y then B else A
  | .lt => if x < y then A else B
  | .ge => if y ≤ x then A else B
  | .gt => if y < x then A else B
  | .le => if x ≤ y then A else B
/-- an index within -/
def mm_ix (i : Int32) (n : Nat) (A : mm_N) : mm_N := if i < 0 ∨ n ≤ i.toNatClampNeg then none else A
def mm_i (st : List Value) (f : Int32 → List Value → mm_N) : mm_N := match st with
  | .int x :: r => f x r
  | _ => none
def mm_ii (st : List Value) (f : Int32 → Int32 → List Value → mm_N) : mm_N := match st with
  | .int y :: .int x :: r => f x y r
  | _ => none
def mm_j (st : List Value) (f : Int64 → List Value → mm_N) : mm_N := match st with
  | .long x :: r => f x r
  | _ => none
def mm_jj (st : List Value) (f : Int64 → Int64 → List Value → mm_N) : mm_N := match st with
  | .long y :: .long x :: r => f x y r
  | _ => none
def mm_ji (st : List Value) (f : Int64 → Int32 → List Value → mm_N) : mm_N := match st with
  | .int y :: .long x :: r => f x y r
  | _ => none
def mm_d (st : List Value) (f : UInt64 → List Value → mm_N) : mm_N := match st with
  | .double x :: r => f x r
  | _ => none
def mm_dd (st : List Value) (f : UInt64 → UInt64 → List Value → mm_N) : mm_N := match st with
  | .double y :: .double x :: r => f x y r
  | _ => none
def mm_r (st : List Value) (f : Nat → List Value → mm_N) : mm_N := match st with
  | .ref a :: r => f a r
  | _ => none
def mm_1 (st : List Value) (f : Value → List Value → mm_N) : mm_N := match st with
  | v :: r => f v r
  | _ => none
def mm_2 (st : List Value) (f : Value → Value → List Value → mm_N) : mm_N := match st with
  | v :: w :: r => f v w r
  | _ => none
def mm_3 (st : List Value) (f : Value → Value → Value → List Value → mm_N) : mm_N := match st with
  | v :: w :: u :: r => f v w u r
  | _ => none
def mm_lI (L : mm_L) (n : Nat) (f : Int32 → mm_N) : mm_N := match mm_ld L n with
  | some (.int x) => f x
  | _ => none
def mm_lJ (L : mm_L) (n : Nat) (f : Int64 → mm_N) : mm_N := match mm_ld L n with
  | some (.long x) => f x
  | _ => none
def mm_lD (L : mm_L) (n : Nat) (f : UInt64 → mm_N) : mm_N := match mm_ld L n with
  | some (.double x) => f x
  | _ => none
def mm_lA (L : mm_L) (n : Nat) (f : Value → mm_N) : mm_N := match mm_ld L n with
  | some (.ref x) => f (.ref x)
  | some (.retAddr x) => f (.retAddr x)
  | _ => none
def mm_ty : FieldType → Nat
  | .int => 0
  | .char => 1
  | .double => 2
  | .long => 3
  | .boolean => 4
  | .object _ => 5
  | _ => 9
/-- the array at a: of the type with that code, of n places -/
def mm_ar (ak : Nat → FieldType) (S : mm_St) (a ty : Nat) (f : Nat → mm_N) : mm_N := match S.1[a]? with
  | some (.inr (t, n)) => cond (Nat.beq (mm_ty (ak t)) ty) (f n) none
  | _ => none
/-- .. and an index into it -/
def mm_ai (ak : Nat → FieldType) (S : mm_St) (st : List Value) (ty : Nat) (f : Int32 → Nat → List Value → mm_N) : mm_N := match st with
  | .int i :: .ref a :: r => mm_ar ak S a ty fun n => mm_ix i n (f i a r)
  | _ => none
/-- an object into an array of its class (types from 10 on: objects) -/
def mm_aas (ak : Nat → FieldType) (S : mm_St) (st : List Value) (f : Nat → Int32 → Nat → List Value → mm_N) : mm_N := match st with
  | .ref x :: .int i :: .ref a :: r => match S.1[x]? with
    | some (.inl ci) => match S.1[a]? with
      | some (.inr (t, n)) => cond (Nat.beq t (10 + ci) && Nat.beq (mm_ty (ak t)) 5) (mm_ix i n (f x i a r)) none
      | _ => none
    | _ => none
  | _ => none
def mm_lk (me : mm_Me) (ix : Nat) (f : mm_K → mm_N) : mm_N := match me.lk ix with
  | some k => f k
  | none => none
def mm_al (S : mm_St) (A : mm_N) : mm_N := match S.2.2 with
  | 0 => A
  | _ + 1 => none
def mm_ial (xs : Nat → Int32) (Ls : Nat) (ak : Nat → FieldType) (pc : Nat) (L : mm_L) (S : mm_St) (st : List Value) : mm_N := match st with
  | .int i :: .retAddr _ :: r => mm_ix i Ls (mm_go (pc + 1) L (.int (xs i.toNatClampNeg) :: r) S)
  | st => mm_ai ak S st 0 fun i a r => mm_go (pc + 1) L (.int (S.2.1.1 a i.toNatClampNeg) :: r) S
def mm_rI (me : mm_Me) (S : mm_St) (st : List Value) : mm_N := match st with
  | [.int x] => match me.rk with
    | 0 => mm_end (.inl (some (.int x))) S
    | 1 => if (x.toUInt32 % 65536).toInt32 = x then mm_end (.inl (some (.int x))) S else none
    | _ => if x = 0 ∨ x = 1 then mm_end (.inl (some (.int x))) S else none
  | _ => none
def mm_rJ (S : mm_St) (st : List Value) : mm_N := match st with
  | [.long x] => mm_end (.inl (some (.long x))) S
  | _ => none
def mm_rD (S : mm_St) (st : List Value) : mm_N := match st with
  | [.double x] => mm_end (.inl (some (.double x))) S
  | _ => none
def mm_rA (S : mm_St) (st : List Value) : mm_N := match st with
  | [.ref x] => mm_end (.inl (some (.ref x))) S
  | [.null] => mm_end (.inl (some .null)) S
  | _ => none
def mm_rV (S : mm_St) (st : List Value) : mm_N := match st with
  | [] => mm_end (.inl none) S
  | _ => none
def mm_do (xs : Nat → Int32) (Ls : Nat) (ck : Nat → List Nat) (ak : Nat → FieldType) (me : mm_Me) (pc : Nat) (L : mm_L) (st : List Value) (S : mm_St) (i : Instr) : mm_N := match i with
  | .iconst n => mm_go (pc + 1) L (.int (Int32.ofInt n) :: st) S
  | .bipush n => mm_go (pc + 2) L (.int (Int8.ofInt n).toInt32 :: st) S
  | .sipush n => mm_go (pc + 3) L (.int (Int16.ofInt n).toInt32 :: st) S
  | .lconst n => mm_go (pc + 1) L (.long (Int64.ofNat (n : Nat)) :: st) S
  | .dconst n => mm_go (pc + 1) L (.double (match n with | 0 => FP.dconst0 | 1 => FP.dconst1) :: st) S
  | .aconst_null => mm_go (pc + 1) L (.null :: st) S
  | .ldc ix => mm_lk me ix fun k => cond (Nat.beq k.1 6) (mm_go (pc + 2) L (.int (Int32.ofNat k.2.1) :: st) S) none
  | .ldc2_w ix => mm_lk me ix fun k => cond (Nat.beq k.1 7) (mm_go (pc + 3) L (.long (Int64.ofNat k.2.1) :: st) S) (cond (Nat.beq k.1 8) (mm_go (pc + 3) L (.double (UInt64.ofNat k.2.1) :: st) S) none)
  | .iload_n n => mm_lI L n fun x => mm_go (pc + 1) L (.int x :: st) S
  | .iload n => mm_lI L n fun x => mm_go (pc + 2) L (.int x :: st) S
  | .lload_n n => mm_lJ L n fun x => mm_go (pc + 1) L (.long x :: st) S
  | .lload n => mm_lJ L n fun x => mm_go (pc + 2) L (.long x :: st) S
  | .dload_n n => mm_lD L n fun x => mm_go (pc + 1) L (.double x :: st) S
  | .dload n => mm_lD L n fun x => mm_go (pc + 2) L (.double x :: st) S
  | .aload_n n => mm_lA L n fun v => mm_go (pc + 1) L (v :: st) S
  | .aload n => mm_lA L n fun v => mm_go (pc + 2) L (v :: st) S
  | .istore_n n => mm_i st fun x r => mm_go (pc + 1) (mm_sto L 0 n (.int x)) r S
  | .istore n => mm_i st fun x r => mm_go (pc + 2) (mm_sto L 0 n (.int x)) r S
  | .lstore_n n => mm_j st fun x r => mm_go (pc + 1) (mm_sto L 0 n (.long x)) r S
  | .lstore n => mm_j st fun x r => mm_go (pc + 2) (mm_sto L 0 n (.long x)) r S
  | .dstore_n n => mm_d st fun x r => mm_go (pc + 1) (mm_sto L 0 n (.double x)) r S
  | .dstore n => mm_d st fun x r => mm_go (pc + 2) (mm_sto L 0 n (.double x)) r S
  | .astore_n n => mm_r st fun x r => mm_go (pc + 1) (mm_sto L 0 n (.ref x)) r S
  | .astore n => mm_r st fun x r => mm_go (pc + 2) (mm_sto L 0 n (.ref x)) r S
  | .iinc n z => mm_lI L n fun x => mm_go (pc + 3) (mm_sto L 0 n (.int (x + Int32.ofInt z))) st S
  | .iadd => mm_ii st fun x y r => mm_go (pc + 1) L (.int (x + y) :: r) S
  | .isub => mm_ii st fun x y r => mm_go (pc + 1) L (.int (x - y) :: r) S
  | .imul => mm_ii st fun x y r => mm_go (pc + 1) L (.int (x * y) :: r) S
  | .idiv => mm_ii st fun x y r => if y = 0 then none else mm_go (pc + 1) L (.int (x / y) :: r) S
  | .irem => mm_ii st fun x y r => if y = 0 then none else mm_go (pc + 1) L (.int (x - x / y * y) :: r) S
  | .ineg => mm_i st fun x r => mm_go (pc + 1) L (.int (-x) :: r) S
  | .iand => mm_ii st fun x y r => mm_go (pc + 1) L (.int (x &&& y) :: r) S
  | .ior => mm_ii st fun x y r => mm_go (pc + 1) L (.int (x ||| y) :: r) S
  | .ixor => mm_ii st fun x y r => mm_go (pc + 1) L (.int (x ^^^ y) :: r) S
  | .ishl => mm_ii st fun x y r => mm_go (pc + 1) L (.int (x <<< (y &&& 31)) :: r) S
  | .ishr => mm_ii st fun x y r => mm_go (pc + 1) L (.int (x >>> (y &&& 31)) :: r) S
  | .iushr => mm_ii st fun x y r => mm_go (pc + 1) L (.int (x.toUInt32 >>> (y.toUInt32 &&& Int32.toUInt32 31)).toInt32 :: r) S
  | .ladd => mm_jj st fun x y r => mm_go (pc + 1) L (.long (x + y) :: r) S
  | .lsub => mm_jj st fun x y r => mm_go (pc + 1) L (.long (x - y) :: r) S
  | .land => mm_jj st fun x y r => mm_go (pc + 1) L (.long (x &&& y) :: r) S
  | .lor => mm_jj st fun x y r => mm_go (pc + 1) L (.long (x ||| y) :: r) S
  | .lushr => mm_ji st fun x y r => mm_go (pc + 1) L (.long (x.toUInt64 >>> (y.toInt64.toUInt64 &&& Int64.toUInt64 63)).toInt64 :: r) S
  | .lshr => mm_ji st fun x y r => mm_go (pc + 1) L (.long (x >>> (y.toInt64 &&& 63)) :: r) S
  | .lshl => mm_ji st fun x y r => mm_go (pc + 1) L (.long (x <<< (y.toInt64 &&& 63)) :: r) S
  | .i2l => mm_i st fun x r => mm_go (pc + 1) L (.long x.toInt64 :: r) S
  | .l2i => mm_j st fun x r => mm_go (pc + 1) L (.int x.toInt32 :: r) S
  | .i2c => mm_i st fun x r => mm_go (pc + 1) L (.int (x.toUInt32 % 65536).toInt32 :: r) S
  | .i2b => mm_i st fun x r => mm_go (pc + 1) L (.int x.toInt8.toInt32 :: r) S
  | .i2d => mm_i st fun x r => mm_go (pc + 1) L (.double (FP.i2d x) :: r) S
  | .d2i => mm_d st fun x r => mm_go (pc + 1) L (.int (FP.d2i x) :: r) S
  | .dadd => mm_dd st fun x y r => cond (mm_n64 (FP.dadd x y)) (mm_go (pc + 1) L (.double (FP.dadd x y) :: r) S) none
  | .dsub => mm_dd st fun x y r => cond (mm_n64 (FP.dsub x y)) (mm_go (pc + 1) L (.double (FP.dsub x y) :: r) S) none
  | .dmul => mm_dd st fun x y r => cond (mm_n64 (FP.dmul x y)) (mm_go (pc + 1) L (.double (FP.dmul x y) :: r) S) none
  | .ddiv => mm_dd st fun x y r => cond (mm_n64 (FP.ddiv x y)) (mm_go (pc + 1) L (.double (FP.ddiv x y) :: r) S) none
  | .dneg => mm_d st fun x r => mm_go (pc + 1) L (.double (FP.dneg x) :: r) S
  | .dcmp op => mm_dd st fun x y r => mm_go (pc + 1) L (.int (Op.cmpValue (FP.dcmp x y) op) :: r) S
  | .lcmp => mm_jj st fun x y r => mm_go (pc + 1) L (.int (lg_cmp x y) :: r) S
  | .dup => mm_1 st fun v r => cond (mm_c2 v) none (mm_go (pc + 1) L (v :: v :: r) S)
  | .pop => mm_1 st fun v r => cond (mm_c2 v) none (mm_go (pc + 1) L r S)
  | .dup_x1 => mm_2 st fun v w r => cond (mm_c2 v || mm_c2 w) none (mm_go (pc + 1) L (v :: w :: v :: r) S)
  | .dup_x2 => mm_3 st fun v w u r => cond (mm_c2 v || (mm_c2 w || mm_c2 u)) none (mm_go (pc + 1) L (v :: w :: u :: v :: r) S)
  | .dup2 => mm_2 st fun v w r => cond (mm_c2 v || mm_c2 w) none (mm_go (pc + 1) L (v :: w :: v :: w :: r) S)
  | .goto o => mm_go (mm_tg pc o) L st S
  | .ifCond c o => mm_i st fun x r => mm_icmp c x 0 (mm_go (mm_tg pc o) L r S) (mm_go (pc + 3) L r S)
  | .if_icmp c o => mm_ii st fun x y r => mm_icmp c x y (mm_go (mm_tg pc o) L r S) (mm_go (pc + 3) L r S)
  | .ifnull o => mm_1 st fun v r => match v with
    | .ref _ => mm_go (pc + 3) L r S
    | .null => mm_go (mm_tg pc o) L r S
    | _ => none
  | .ifnonnull o => mm_1 st fun v r => match v with
    | .ref _ => mm_go (mm_tg pc o) L r S
    | .null => mm_go (pc + 3) L r S
    | _ => none
  | .tableswitch d lo _ os => mm_i st fun x r => mm_tsw x (fun o => mm_go (mm_tg pc o) L r S) d lo os.toList
  | .lookupswitch d ps => mm_i st fun x r => mm_lsw x (fun o => mm_go (mm_tg pc o) L r S) d ps.toList
  | .getfield ix => mm_lk me ix fun k => cond (Nat.beq k.1 0) (mm_getf ck pc L st S k.2.1 k.2.2.1) none
  | .putfield ix => mm_lk me ix fun k => cond (Nat.beq k.1 0) (mm_putf ck pc L st S k.2.1 k.2.2.1) none
  | .arraylength => mm_1 st fun v r => match v with
    | .retAddr _ => mm_go (pc + 1) L (.int (Int32.ofNat Ls) :: r) S
    | .ref a => match S.1[a]? with
      | some (.inr (_, n)) => mm_go (pc + 1) L (.int (Int32.ofNat n) :: r) S
      | _ => none
    | _ => none
  | .iaload => mm_ial xs Ls ak pc L S st
  | .caload => mm_ai ak S st 1 fun i a r => mm_go (pc + 1) L (.int (S.2.1.1 a i.toNatClampNeg) :: r) S
  | .baload => mm_ai ak S st 4 fun i a r => mm_go (pc + 1) L (.int (S.2.1.1 a i.toNatClampNeg) :: r) S
  | .daload => mm_ai ak S st 2 fun i a r => mm_go (pc + 1) L (.double (S.2.1.2.1 a i.toNatClampNeg) :: r) S
  | .laload => mm_ai ak S st 3 fun i a r => mm_go (pc + 1) L (.long (S.2.1.2.2.2 a i.toNatClampNeg) :: r) S
  | .aaload => mm_ai ak S st 5 fun i a r => mm_go (pc + 1) L (va_rf (S.2.1.2.2.1 a i.toNatClampNeg) :: r) S
  | .iastore => mm_i st fun x st => mm_ai ak S st 0 fun i a r => mm_go (pc + 1) L r (mm_sI S a i.toNatClampNeg x)
  | .castore => mm_i st fun x st => mm_ai ak S st 1 fun i a r => mm_go (pc + 1) L r (mm_sI S a i.toNatClampNeg (vp_nar .char x))
  | .bastore => mm_i st fun x st => mm_ai ak S st 4 fun i a r => mm_go (pc + 1) L r (mm_sI S a i.toNatClampNeg (vp_nar .boolean x))
  | .dastore => mm_d st fun x st => mm_ai ak S st 2 fun i a r => mm_go (pc + 1) L r (mm_sD S a i.toNatClampNeg x)
  | .lastore => mm_j st fun x st => mm_ai ak S st 3 fun i a r => mm_go (pc + 1) L r (mm_sJ S a i.toNatClampNeg x)
  | .aastore => mm_aas ak S st fun x i a r => mm_go (pc + 1) L r (mm_sR S a i.toNatClampNeg (some x))
  | .new ix => mm_lk me ix fun k => cond (Nat.beq k.1 4) (mm_al S (mm_go (pc + 3) L (.ref S.1.length :: st) (mm_new S (.inl k.2.1)))) (cond (Nat.beq k.1 5 && Nat.ble (mm_wt st) 8) (match me.hs with
      | [] => mm_end (.inr k.2.1) (S.1, S.2.1, S.2.2 + 1)
      | _ :: _ => none) none)
  | .newarray t => mm_i st fun n r => mm_al S (if n < 0 then none else match t with
    | .int => mm_go (pc + 2) L (.ref S.1.length :: r) (mm_new S (.inr (0, n.toNatClampNeg)))
    | .char => mm_go (pc + 2) L (.ref S.1.length :: r) (mm_new S (.inr (1, n.toNatClampNeg)))
    | .double => mm_go (pc + 2) L (.ref S.1.length :: r) (mm_new S (.inr (2, n.toNatClampNeg)))
    | .long => mm_go (pc + 2) L (.ref S.1.length :: r) (mm_new S (.inr (3, n.toNatClampNeg)))
    | .boolean => mm_go (pc + 2) L (.ref S.1.length :: r) (mm_new S (.inr (4, n.toNatClampNeg)))
    | _ => none)
  | .anewarray ix => mm_i st fun n r => mm_lk me ix fun k => cond (Nat.beq k.1 4) (mm_al S (if n < 0 then none else mm_go (pc + 3) L (.ref S.1.length :: r) (mm_new S (.inr (10 + k.2.1, n.toNatClampNeg))))) none
  | .invokevirtual ix => mm_lk me ix fun k => cond (Nat.beq k.1 1) (mm_inv call me pc L st S k.2.1 k.2.2.1 k.2.2.2) none
  | .invokespecial ix => mm_lk me ix fun k => cond (Nat.beq k.1 10) (mm_noT (mm_inv call me pc L st S k.2.1 k.2.2.1 k.2.2.2)) (cond (Nat.beq k.1 3) (mm_r st fun _ r => cond (Nat.ble (mm_wt r) 8) (mm_go (pc + 3) L r S) none) none)
  | .invokestatic ix => mm_lk me ix fun k => cond (Nat.beq k.1 2) (mm_invS call me pc L st S k.2.1 k.2.2.1) (cond (Nat.beq k.1 14) (mm_noT (mm_invS call me pc L st S k.2.1 k.2.2.1)) none)
  | .ireturn => mm_rI me S st
  | .lreturn => mm_rJ S st
  | .dreturn => mm_rD S st
  | .areturn => mm_rA S st
  | .return_ => mm_rV S st
  | _ => none
def mm_step (xs : Nat → Int32) (Ls : Nat) (ck : Nat → List Nat) (ak : Nat → FieldType) (me : mm_Me) (z : mm_Z) : mm_N := match me.dec[z.1]? with
  | some (some i) => mm_do call xs Ls ck ak me z.1 z.2.1 z.2.2.1 z.2.2.2 i.1
  | _ => none
end MM
/-- n instructions of a method at most -/
def mm_ex (nx : mm_Z → mm_N) : Nat → mm_Z → Option mm_O
  | 0 => fun _ => none
  | n + 1 => fun z => match nx z with
    | some (.inl z') => mm_ex nx n z'
    | some (.inr o) => some o
    | none => none
theorem mm_ex_go {nx : mm_Z → mm_N} {n : Nat} {z z' : mm_Z} (h : nx z = some (.inl z')) : mm_ex nx (n + 1) z = mm_ex nx n z' := by
  show (match nx z with
    | some (.inl z') => mm_ex nx n z'
    | some (.inr o) => some o
    | none => none) = _
  rw [h]
theorem mm_ex_end {nx : mm_Z → mm_N} {n : Nat} {z : mm_Z} {o : mm_O} (h : nx z = some (.inr o)) : mm_ex nx (n + 1) z = some o := by
  show (match nx z with
    | some (.inl z') => mm_ex nx n z'
    | some (.inr o) => some o
    | none => none) = _
  rw [h]
/-- it comes to o -/
def mm_R (nx : mm_Z → mm_N) (z : mm_Z) (o : mm_O) : Prop := ∃ n, mm_ex nx n z = some o
theorem mm_R.go {nx : mm_Z → mm_N} {z z' : mm_Z} {o : mm_O} (h : nx z = some (.inl z')) (k : mm_R nx z' o) : mm_R nx z o := by
  obtain ⟨n, hn⟩ := k
  exact ⟨n + 1, by rw [mm_ex_go h]; exact hn⟩
theorem mm_R.end {nx : mm_Z → mm_N} {z : mm_Z} {o : mm_O} (h : nx z = some (.inr o)) : mm_R nx z o := ⟨1, mm_ex_end h⟩
/-- by the instruction that stands there -/
theorem mm_R.cs {nx : mm_Z → mm_N} {z : mm_Z} {o : mm_O} (h : mm_R nx z o) : (∃ z', nx z = some (.inl z') ∧ mm_R nx z' o) ∨ nx z = some (.inr o) := by
  obtain ⟨n, hn⟩ := h
  cases n with
  | zero => cases hn
  | succ n =>
    cases hz : nx z with
    | none =>
      rw [show mm_ex nx (n + 1) z = none by
        show (match nx z with
          | some (.inl z') => mm_ex nx n z'
          | some (.inr o) => some o
          | none => none) = _
        rw [hz]] at hn
      cases hn
    | some r =>
      cases r with
      | inl z' => exact Or.inl ⟨z', rfl, n, by rw [← mm_ex_go hz]; exact hn⟩
      | inr o' =>
        rw [mm_ex_end hz] at hn
        cases hn
        exact Or.inr rfl
theorem mm_R.one {nx : mm_Z → mm_N} : ∀ (n : Nat) (z : mm_Z) (o o' : mm_O), mm_ex nx n z = some o → mm_R nx z o' → o = o' := by
  intro n
  induction n with
  | zero => intro z o o' h; cases h
  | succ n ih =>
    intro z o o' h h'
    rcases h'.cs with ⟨z', hz, hr⟩ | hz
    · rw [mm_ex_go hz] at h
      exact ih z' o o' h hr
    · rw [mm_ex_end hz] at h
      exact (Option.some.inj h).symm
theorem mm_R.det {nx : mm_Z → mm_N} {z : mm_Z} {o o' : mm_O} (h : mm_R nx z o) (h' : mm_R nx z o') : o = o' := by
  obtain ⟨n, hn⟩ := h
  exact mm_R.one n z o o' hn h'
section
variable (xs : Nat → Int32) (Ls : Nat) (ck : Nat → List Nat) (ak : Nat → FieldType) (me : Nat → mm_Me)
/-- a call of the method j, d frames deep at most -/
noncomputable def mm_ev : Nat → Nat → List Value → mm_St → Option mm_O
  | 0 => fun _ _ _ => none
  | d + 1 => fun j as S => Classical.epsilon (fun r : Option mm_O => ∀ o, r = some o ↔ (mm_wt as ≤ (me j).nL ∧ mm_R (mm_step (mm_ev d) xs Ls ck ak (me j)) (0, mm_pad (mm_in as) (me j).nL, [], S) o))
theorem mm_ev_iff {d j : Nat} {as : List Value} {S : mm_St} {o : mm_O} : mm_ev xs Ls ck ak me (d + 1) j as S = some o ↔ (mm_wt as ≤ (me j).nL ∧ mm_R (mm_step (mm_ev xs Ls ck ak me d) xs Ls ck ak (me j)) (0, mm_pad (mm_in as) (me j).nL, [], S) o) := by
  have h : ∃ r : Option mm_O, ∀ o, r = some o ↔ (mm_wt as ≤ (me j).nL ∧ mm_R (mm_step (mm_ev xs Ls ck ak me d) xs Ls ck ak (me j)) (0, mm_pad (mm_in as) (me j).nL, [], S) o) := by
    by_cases hh : ∃ o, mm_wt as ≤ (me j).nL ∧ mm_R (mm_step (mm_ev xs Ls ck ak me d) xs Ls ck ak (me j)) (0, mm_pad (mm_in as) (me j).nL, [], S) o
    · obtain ⟨o1, h0, h1⟩ := hh
      exact ⟨some o1, fun o => ⟨fun e => by rw [← Option.some.inj e]; exact ⟨h0, h1⟩, fun h2 => by rw [h1.det h2.2]⟩⟩
    · exact ⟨none, fun o => ⟨fun e => (by cases e), fun h2 => absurd ⟨o, h2⟩ hh⟩⟩
  exact Classical.epsilon_spec h o
end
