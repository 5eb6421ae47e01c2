/-! ===== a small machine: bytecode over cells by number, whose ints stand in one table (cell, place) and whose longs in another ===== -/
abbrev am_Sh : Type := (FieldType × Bool × Nat × (Nat → Option Nat)) ⊕ (Nat × List (Option Nat ⊕ Bool))
abbrev am_M2 : Type := Nat → Nat → Int32
abbrev am_N2 : Type := Nat → Nat → Int64
/-- the next cell's number (0: none can be made), slots made, shapes, ints, longs -/
abbrev am_H : Type := Nat × Nat × (Nat → Option am_Sh) × am_M2 × am_N2
/-- instruction, next pc, three numbers, the place of its word, a constant -/
abbrev am_I : Type := Instr × Nat × Nat × Nat × Nat × Nat × Value
abbrev am_L : Type := List (Option Value)
abbrev am_R : Type := Option Value × am_H
abbrev am_O : Type := (Nat × am_L × List Value × am_H) ⊕ am_R
abbrev am_B : Type := Nat → List Value → am_H → Option am_R
def am_up (μ : am_M2) (i k : Nat) (v : Int32) : am_M2 := fun i' k' => if i' = i then (if k' = k then v else μ i' k') else μ i' k'
def am_upL (ν : am_N2) (i k : Nat) (v : Int64) : am_N2 := fun i' k' => if i' = i then (if k' = k then v else ν i' k') else ν i' k'
def am_z (μ : am_M2) (i : Nat) : am_M2 := fun i' k' => if i' = i then 0 else μ i' k'
def am_zL (ν : am_N2) (i : Nat) : am_N2 := fun i' k' => if i' = i then 0 else ν i' k'
def am_cp (μ : am_M2) (a sp b dp n : Nat) : am_M2 := fun i k => if i = b then (if dp ≤ k ∧ k < dp + n then μ a (sp + (k - dp)) else μ i k) else μ i k
def am_cpL (ν : am_N2) (a sp b dp n : Nat) : am_N2 := fun i k => if i = b then (if dp ≤ k ∧ k < dp + n then ν a (sp + (k - dp)) else ν i k) else ν i k
def am_upS (S : Nat → Option am_Sh) (i : Nat) (x : am_Sh) : Nat → Option am_Sh := fun j => if j = i then some x else S j
def am_fv (μ : am_M2) (ν : am_N2) (i k : Nat) (x : Option Nat ⊕ Bool) : Value := match x with
  | .inl r => va_rf r
  | .inr true => .int (μ i k)
  | .inr false => .long (ν i k)
def am_av (μ : am_M2) (ν : am_N2) (i : Nat) (ty : FieldType) (f : Nat → Option Nat) (j : Nat) : Value := match ty with
  | .long => .long (ν i j)
  | .object _ => va_rf (f j)
  | _ => .int (μ i j)
def am_ix (j : Int32) (n : Nat) : Option Nat := if ¬ (j < 0 ∨ n ≤ j.toNatClampNeg) then some j.toNatClampNeg else none
/-- a store at i ends a long that stood at i - 1 -/
def am_k1 (L : am_L) (i : Nat) : am_L := match i with
  | 0 => L
  | j + 1 => match L[j]? with
    | some (some (.long _)) => L.set j none
    | some (some (.double _)) => L.set j none
    | _ => L
def am_s1 (L : am_L) (i : Nat) (v : Value) : am_L := (am_k1 L i).set i (some v)
def am_s2 (L : am_L) (i : Nat) (v : Value) : am_L := ((am_k1 L i).set i (some v)).set (i + 1) none
def am_en (vs : List Value) : am_L := vs.flatMap fun v => match v with
  | .long x => [some (.long x), none]
  | .double x => [some (.double x), none]
  | w => [some w]
def am_en0 (vs : List Value) (n : Nat) : am_L := am_en vs ++ List.replicate (n - (am_en vs).length) none
def am_cs (st : List Value) : Nat := (st.map fun v => v.category).sum
def am_n (pc : Nat) (L : am_L) (st : List Value) (h : am_H) : Option am_O := some (.inl (pc, L, st, h))
def am_li (L : am_L) (i nx : Nat) (st : List Value) (h : am_H) : Option am_O := match L[i]? with
  | some (some (.int x)) => am_n nx L (.int x :: st) h
  | _ => none
def am_ll (L : am_L) (i nx : Nat) (st : List Value) (h : am_H) : Option am_O := match L[i]? with
  | some (some (.long x)) => am_n nx L (.long x :: st) h
  | _ => none
def am_la (L : am_L) (i nx : Nat) (st : List Value) (h : am_H) : Option am_O := match L[i]? with
  | some (some (.ref x)) => am_n nx L (.ref x :: st) h
  | _ => none
def am_si (L : am_L) (i nx : Nat) (st : List Value) (h : am_H) : Option am_O := match st with
  | .int x :: r => if i < L.length then am_n nx (am_s1 L i (.int x)) r h else none
  | _ => none
def am_sl (L : am_L) (i nx : Nat) (st : List Value) (h : am_H) : Option am_O := match st with
  | .long x :: r => if i + 1 < L.length then am_n nx (am_s2 L i (.long x)) r h else none
  | _ => none
def am_sa (L : am_L) (i nx : Nat) (st : List Value) (h : am_H) : Option am_O := match st with
  | .ref x :: r => if i < L.length then am_n nx (am_s1 L i (.ref x)) r h else none
  | _ => none
def am_i2 (f : Int32 → Int32 → Int32) (L : am_L) (nx : Nat) (st : List Value) (h : am_H) : Option am_O := match st with
  | .int y :: .int x :: r => am_n nx L (.int (f x y) :: r) h
  | _ => none
def am_l2 (f : Int64 → Int64 → Int64) (L : am_L) (nx : Nat) (st : List Value) (h : am_H) : Option am_O := match st with
  | .long y :: .long x :: r => am_n nx L (.long (f x y) :: r) h
  | _ => none
def am_l3 (f : Int64 → Int32 → Int64) (L : am_L) (nx : Nat) (st : List Value) (h : am_H) : Option am_O := match st with
  | .int y :: .long x :: r => am_n nx L (.long (f x y) :: r) h
  | _ => none
def am_c1 (q : Int32 → Bool) (L : am_L) (t nx : Nat) (st : List Value) (h : am_H) : Option am_O := match st with
  | .int x :: r => am_n (bif q x then t else nx) L r h
  | _ => none
def am_c2 (q : Int32 → Int32 → Bool) (L : am_L) (t nx : Nat) (st : List Value) (h : am_H) : Option am_O := match st with
  | .int y :: .int x :: r => am_n (bif q x y then t else nx) L r h
  | _ => none
def am_q (c : ClassFile.Cond) (x y : Int32) : Bool := match c with
  | .eq => decide (x = y)
  | .ne => decide (¬ x = y)
  | .lt => decide (x < y)
  | .ge => decide (y ≤ x)
  | .gt => decide (y < x)
  | .le => decide (x ≤ y)
def am_tgt (pc : Nat) (off : Int) : Option Nat := if 0 ≤ (pc : Int) + off then some ((pc : Int) + off).toNat else none
def am_jmp (o : Option Nat) (L : am_L) (st : List Value) (h : am_H) : Option am_O := match o with
  | some t => am_n t L st h
  | none => none
def am_tsw (pc : Nat) (d lo hi : Int) (offs : List Int) (x : Int32) : Option Nat :=
  if x.toInt < lo ∨ hi < x.toInt then am_tgt pc d else (match offs[(x.toInt - lo).toNat]? with
    | some o => am_tgt pc o
    | none => none)
def am_lsw (pc : Nat) (d : Int) (ps : List (Int × Int)) (x : Int32) : Option Nat :=
  if (ps.zip (ps.drop 1)).all (fun (a, next) => a.1 < next.1) = true then am_tgt pc (Op.lookupswitch.offset ps d x.toInt) else none
def am_getf (ci k : Nat) (L : am_L) (nx : Nat) (st : List Value) (h : am_H) : Option am_O := match st with
  | .ref a :: r => (match h.2.2.1 a with
    | some (.inr (c, ks)) => if c = ci then (match ks[k]? with
        | some x => am_n nx L (am_fv h.2.2.2.1 h.2.2.2.2 a k x :: r) h
        | none => none) else none
    | _ => none)
  | _ => none
def am_putf (ci k t : Nat) (L : am_L) (nx : Nat) (st : List Value) (h : am_H) : Option am_O := match st with
  | v :: .ref a :: r => (match h.2.2.1 a with
    | some (.inr (c, ks)) => if c = ci then (match ks[k]?, v with
        | some (.inr true), .int x => if t = 0 ∨ (t = 1 ∧ (x = 0 ∨ x = 1)) then am_n nx L r (h.1, h.2.1, h.2.2.1, am_up h.2.2.2.1 a k x, h.2.2.2.2) else none
        | some (.inr false), .long x => if t = 2 then am_n nx L r (h.1, h.2.1, h.2.2.1, h.2.2.2.1, am_upL h.2.2.2.2 a k x) else none
        | some (.inl _), .ref j => if t = 3 then am_n nx L r (h.1, h.2.1, am_upS h.2.2.1 a (.inr (c, ks.set k (.inl (some j)))), h.2.2.2) else none
        | _, _ => none) else none
    | _ => none)
  | _ => none
def am_ald (ty : FieldType) (L : am_L) (nx : Nat) (st : List Value) (h : am_H) : Option am_O := match st with
  | .int j :: .ref a :: r => (match h.2.2.1 a with
    | some (.inl (t, _, n, f)) => if t = ty then (match am_ix j n with
        | some k => am_n nx L (am_av h.2.2.2.1 h.2.2.2.2 a ty f k :: r) h
        | none => none) else none
    | _ => none)
  | _ => none
def am_aldq (L : am_L) (nx : Nat) (st : List Value) (h : am_H) : Option am_O := match st with
  | .int j :: .ref a :: r => (match h.2.2.1 a with
    | some (.inl (.object _, true, n, f)) => (match am_ix j n with
        | some k => am_n nx L (va_rf (f k) :: r) h
        | none => none)
    | _ => none)
  | _ => none
def am_iok (ty : FieldType) (x : Int32) : Bool := match ty with
  | .int => true
  | .boolean => x == 0 || x == 1
  | .char => decide (narrow .char (.int x) = .int x)
  | _ => false
def am_ast (ty : FieldType) (L : am_L) (nx : Nat) (st : List Value) (h : am_H) : Option am_O := match st with
  | .int x :: .int j :: .ref a :: r => (match h.2.2.1 a with
    | some (.inl (t, true, n, _)) => if t = ty then (match am_ix j n with
        | some k => if am_iok ty x = true then am_n nx L r (h.1, h.2.1, h.2.2.1, am_up h.2.2.2.1 a k x, h.2.2.2.2) else none
        | none => none) else none
    | _ => none)
  | _ => none
def am_astL (L : am_L) (nx : Nat) (st : List Value) (h : am_H) : Option am_O := match st with
  | .long x :: .int j :: .ref a :: r => (match h.2.2.1 a with
    | some (.inl (.long, true, n, _)) => (match am_ix j n with
        | some k => am_n nx L r (h.1, h.2.1, h.2.2.1, h.2.2.2.1, am_upL h.2.2.2.2 a k x)
        | none => none)
    | _ => none)
  | _ => none
def am_astq (L : am_L) (nx : Nat) (st : List Value) (h : am_H) : Option am_O := match st with
  | .ref v :: .int j :: .ref a :: r => (match h.2.2.1 a, h.2.2.1 v with
    | some (.inl (.object C, true, n, f)), some (.inr (ci, _)) => if (am_cl[ci]?).map (fun q => q.1) = some C then (match am_ix j n with
        | some k => am_n nx L r (h.1, h.2.1, am_upS h.2.2.1 a (.inl (.object C, true, n, va_up f k (some v))), h.2.2.2)
        | none => none) else none
    | _, _ => none)
  | _ => none
def am_alen (L : am_L) (nx : Nat) (st : List Value) (h : am_H) : Option am_O := match st with
  | .ref a :: r => (match h.2.2.1 a with
    | some (.inl (_, _, n, _)) => am_n nx L (.int (Int32.ofNat n) :: r) h
    | _ => none)
  | _ => none
def am_new (ci N : Nat) (L : am_L) (nx : Nat) (st : List Value) (h : am_H) : Option am_O :=
  if h.1 = 0 then none else am_n nx L (.ref h.1 :: st) (h.1 + 1, h.2.1 + N, am_upS h.2.2.1 h.1 (.inr (ci, am_k0 ci)), am_z h.2.2.2.1 h.1, am_zL h.2.2.2.2 h.1)
def am_newa (ty : FieldType) (L : am_L) (nx : Nat) (st : List Value) (h : am_H) : Option am_O := match st with
  | .int c :: r => if h.1 = 0 ∨ c < 0 ∨ 60000 ≤ c.toNatClampNeg then none else am_n nx L (.ref h.1 :: r) (h.1 + 1, h.2.1 + c.toNatClampNeg, am_upS h.2.2.1 h.1 (.inl (ty, true, c.toNatClampNeg, fun _ => none)), am_z h.2.2.2.1 h.1, am_zL h.2.2.2.2 h.1)
  | _ => none
def am_at4 (t : ArrayType) : Option FieldType := match t with
  | .int => some .int
  | .long => some .long
  | .char => some .char
  | .boolean => some .boolean
  | _ => none
def am_call (cal : am_B) (k n : Nat) (L : am_L) (nx : Nat) (st : List Value) (h : am_H) : Option am_O :=
  if am_cs (st.drop n) ≤ 8 then (match cal k (st.take n).reverse h with
    | some (v, h') => am_n nx L (v.toList ++ st.drop n) h'
    | none => none) else none
def am_recv (ci n : Nat) (st : List Value) (h : am_H) : Bool := match (st.take n).reverse with
  | .ref a :: _ => (match h.2.2.1 a with
    | some (.inr (c, _)) => c == ci && decide (n ≤ st.length)
    | _ => false)
  | _ => false
def am_refq (n : Nat) (st : List Value) : Bool := match (st.take n).reverse with
  | .ref _ :: _ => decide (n ≤ st.length)
  | _ => false
def am_copy (L : am_L) (nx : Nat) (st : List Value) (h : am_H) : Option am_O := match st with
  | .int n :: .int dp :: .ref b :: .int sp :: .ref a :: r => (match h.2.2.1 a, h.2.2.1 b with
    | some (.inl (.int, true, na, _)), some (.inl (.int, true, nb, _)) =>
      if n < 0 ∨ dp < 0 ∨ sp < 0 ∨ na < sp.toNatClampNeg + n.toNatClampNeg ∨ nb < dp.toNatClampNeg + n.toNatClampNeg ∨ 8 < am_cs r ∨ a = b then none
      else am_n nx L r (h.1, h.2.1, h.2.2.1, am_cp h.2.2.2.1 a sp.toNatClampNeg b dp.toNatClampNeg n.toNatClampNeg, h.2.2.2.2)
    | some (.inl (.long, true, na, _)), some (.inl (.long, true, nb, _)) =>
      if n < 0 ∨ dp < 0 ∨ sp < 0 ∨ na < sp.toNatClampNeg + n.toNatClampNeg ∨ nb < dp.toNatClampNeg + n.toNatClampNeg ∨ 8 < am_cs r ∨ a = b then none
      else am_n nx L r (h.1, h.2.1, h.2.2.1, h.2.2.2.1, am_cpL h.2.2.2.2 a sp.toNatClampNeg b dp.toNatClampNeg n.toNatClampNeg)
    | _, _ => none)
  | _ => none
/-- one instruction -/
def am_step (cal : am_B) (rt : Option FieldType) (pc : Nat) (E : am_I) (L : am_L) (st : List Value) (h : am_H) : Option am_O :=
  match E with
  | (ins, nx, r1, r2, r3, _, cst) => match ins with
  | .iconst _ => am_n nx L (cst :: st) h
  | .bipush _ => am_n nx L (cst :: st) h
  | .sipush _ => am_n nx L (cst :: st) h
  | .lconst _ => am_n nx L (cst :: st) h
  | .ldc _ => am_n nx L (cst :: st) h
  | .ldc_w _ => am_n nx L (cst :: st) h
  | .ldc2_w _ => am_n nx L (cst :: st) h
  | .iload i => am_li L i nx st h
  | .iload_n i => am_li L i.val nx st h
  | .lload i => am_ll L i nx st h
  | .lload_n i => am_ll L i.val nx st h
  | .aload i => am_la L i nx st h
  | .aload_n i => am_la L i.val nx st h
  | .istore i => am_si L i nx st h
  | .istore_n i => am_si L i.val nx st h
  | .lstore i => am_sl L i nx st h
  | .lstore_n i => am_sl L i.val nx st h
  | .astore i => am_sa L i nx st h
  | .astore_n i => am_sa L i.val nx st h
  | .iinc i _ => (match cst, L[i]? with
      | .int c, some (some (.int x)) => if i < L.length then am_n nx (am_s1 L i (.int (x + c))) st h else none
      | _, _ => none)
  | .iadd => am_i2 (fun x y => x + y) L nx st h
  | .isub => am_i2 (fun x y => x - y) L nx st h
  | .imul => am_i2 (fun x y => x * y) L nx st h
  | .iand => am_i2 (fun x y => x &&& y) L nx st h
  | .ior => am_i2 (fun x y => x ||| y) L nx st h
  | .ixor => am_i2 (fun x y => x ^^^ y) L nx st h
  | .ishl => am_i2 (fun x y => x <<< (y &&& 31)) L nx st h
  | .ishr => am_i2 (fun x y => x >>> (y &&& 31)) L nx st h
  | .iushr => am_i2 (fun x y => (x.toUInt32 >>> (y.toUInt32 &&& Int32.toUInt32 31)).toInt32) L nx st h
  | .idiv => (match st with
      | .int y :: .int x :: r => if y = 0 then none else am_n nx L (.int (x / y) :: r) h
      | _ => none)
  | .irem => (match st with
      | .int y :: .int x :: r => if y = 0 then none else am_n nx L (.int (x - x / y * y) :: r) h
      | _ => none)
  | .ineg => (match st with
      | .int x :: r => am_n nx L (.int (-x) :: r) h
      | _ => none)
  | .ladd => am_l2 (fun x y => x + y) L nx st h
  | .lsub => am_l2 (fun x y => x - y) L nx st h
  | .lmul => am_l2 (fun x y => x * y) L nx st h
  | .land => am_l2 (fun x y => x &&& y) L nx st h
  | .lor => am_l2 (fun x y => x ||| y) L nx st h
  | .lxor => am_l2 (fun x y => x ^^^ y) L nx st h
  | .lshl => am_l3 (fun x y => x <<< (y.toInt64 &&& 63)) L nx st h
  | .lshr => am_l3 (fun x y => x >>> (y.toInt64 &&& 63)) L nx st h
  | .lushr => am_l3 (fun x y => (x.toUInt64 >>> (y.toInt64.toUInt64 &&& Int64.toUInt64 63)).toInt64) L nx st h
  | .ldiv => (match st with
      | .long y :: .long x :: r => if y = 0 then none else am_n nx L (.long (x / y) :: r) h
      | _ => none)
  | .lrem => (match st with
      | .long y :: .long x :: r => if y = 0 then none else am_n nx L (.long (x - x / y * y) :: r) h
      | _ => none)
  | .lcmp => (match st with
      | .long y :: .long x :: r => am_n nx L (.int (lg_cmp x y) :: r) h
      | _ => none)
  | .i2l => (match st with
      | .int x :: r => am_n nx L (.long x.toInt64 :: r) h
      | _ => none)
  | .l2i => (match st with
      | .long x :: r => am_n nx L (.int x.toInt32 :: r) h
      | _ => none)
  | .i2c => (match st with
      | .int x :: r => am_n nx L (.int (x.toUInt32 % 65536).toInt32 :: r) h
      | _ => none)
  | .dup => (match st with
      | .int x :: r => am_n nx L (.int x :: .int x :: r) h
      | .ref x :: r => am_n nx L (.ref x :: .ref x :: r) h
      | _ => none)
  | .dup2 => (match st with
      | .int x :: .int y :: r => am_n nx L (.int x :: .int y :: .int x :: .int y :: r) h
      | .int x :: .ref y :: r => am_n nx L (.int x :: .ref y :: .int x :: .ref y :: r) h
      | _ => none)
  | .pop => (match st with
      | .int _ :: r => am_n nx L r h
      | .ref _ :: r => am_n nx L r h
      | _ => none)
  | .ifCond q _ => am_c1 (fun x => am_q q x 0) L r1 nx st h
  | .if_icmp q _ => am_c2 (am_q q) L r1 nx st h
  | .goto _ => am_n r1 L st h
  | .tableswitch d lo hi offs => (match st with
      | .int x :: r => am_jmp (am_tsw pc d lo hi offs.toList x) L r h
      | _ => none)
  | .lookupswitch d ps => (match st with
      | .int x :: r => am_jmp (am_lsw pc d ps.toList x) L r h
      | _ => none)
  | .getfield _ => am_getf r1 r2 L nx st h
  | .putfield _ => am_putf r1 r2 r3 L nx st h
  | .getstatic _ => am_n nx L (.ref 1 :: st) h
  | .iaload => am_ald .int L nx st h
  | .caload => am_ald .char L nx st h
  | .baload => am_ald .boolean L nx st h
  | .laload => am_ald .long L nx st h
  | .aaload => am_aldq L nx st h
  | .iastore => am_ast .int L nx st h
  | .castore => am_ast .char L nx st h
  | .bastore => am_ast .boolean L nx st h
  | .lastore => am_astL L nx st h
  | .aastore => am_astq L nx st h
  | .arraylength => am_alen L nx st h
  | .new _ => am_new r1 r2 L nx st h
  | .newarray t => (match am_at4 t with
      | some ty => am_newa ty L nx st h
      | none => none)
  | .anewarray _ => (match am_cl[r1]? with
      | some q => am_newa (.object q.1) L nx st h
      | none => none)
  | .invokevirtual _ => (match cst with
      | .ref ci => if am_recv ci r2 st h = true then am_call cal r1 r2 L nx st h else none
      | _ => none)
  | .invokespecial _ => if r3 = 6 then (match st with
      | .ref _ :: r => if am_cs r ≤ 8 then am_n nx L r h else none
      | _ => none) else if am_refq r2 st = true then am_call cal r1 r2 L nx st h else none
  | .invokestatic _ => if r3 = 7 then am_copy L nx st h else if r2 ≤ st.length then am_call cal r1 r2 L nx st h else none
  | .ireturn => (match st, rt with
      | [.int x], some ty => if am_iok ty x = true then some (.inr (some (.int x), h)) else none
      | _, _ => none)
  | .lreturn => (match st, rt with
      | [.long x], some .long => some (.inr (some (.long x), h))
      | _, _ => none)
  | .return_ => (match st, rt with
      | [], none => some (.inr (none, h))
      | _, _ => none)
  | _ => none
/-- up to n instructions, to the method's end -/
def am_ex (cal : am_B) (rt : Option FieldType) (cd : Nat → Option am_I) : Nat → Nat → am_L → List Value → am_H → Option am_R
  | 0, _, _, _, _ => none
  | n + 1, pc, L, st, h => match cd pc with
    | none => none
    | some E => match am_step cal rt pc E L st h with
      | none => none
      | some (.inl (pc', L', st', h')) => am_ex cal rt cd n pc' L' st' h'
      | some (.inr r) => some r
def am_cut (n : Nat) (f : Nat → Option am_I) (pc : Nat) : Option am_I := bif Nat.blt pc n then f pc else none
/-! ===== what is checked of the tables, by program ===== -/
def am_len (E : am_I) : Nat := match E.1 with
  | .bipush _ => 2
  | .ldc _ => 2
  | .iload _ => 2
  | .lload _ => 2
  | .aload _ => 2
  | .istore _ => 2
  | .lstore _ => 2
  | .astore _ => 2
  | .newarray _ => 2
  | .sipush _ => 3
  | .ldc_w _ => 3
  | .ldc2_w _ => 3
  | .iinc _ _ => 3
  | .ifCond _ _ => 3
  | .if_icmp _ _ => 3
  | .goto _ => 3
  | .getfield _ => 3
  | .putfield _ => 3
  | .getstatic _ => 3
  | .new _ => 3
  | .anewarray _ => 3
  | .invokevirtual _ => 3
  | .invokespecial _ => 3
  | .invokestatic _ => 3
  | .tableswitch _ _ _ _ => E.2.2.2.2.1
  | .lookupswitch _ _ => E.2.2.2.2.1
  | _ => 1
def am_chk (oc : Nat) (ini : Bool) (cc : ByteArray) (pc : Nat) (E : am_I) : Bool :=
  decide (decode cc pc = .ok (E.1, am_len E)) && Nat.beq E.2.1 (pc + am_len E) && (match E with
  | (ins, nx, r1, r2, r3, pos, cst) => match ins with
    | .iconst n => decide (cst = .int (Int32.ofInt n))
    | .bipush n => decide (cst = .int (Int8.ofInt n).toInt32)
    | .sipush n => decide (cst = .int (Int16.ofInt n).toInt32)
    | .lconst n => decide (cst = .long (Int64.ofNat (n : Nat)))
    | .ldc i => (match am_lkc[pos]? with
        | some (o, j, v) => Nat.beq o oc && Nat.beq j i && decide (cst = .int v)
        | none => false)
    | .ldc_w i => (match am_lkc[pos]? with
        | some (o, j, v) => Nat.beq o oc && Nat.beq j i && decide (cst = .int v)
        | none => false)
    | .ldc2_w i => (match am_lkl[pos]? with
        | some (o, j, v) => Nat.beq o oc && Nat.beq j i && decide (cst = .long v)
        | none => false)
    | .iinc _ n => decide (cst = .int (Int32.ofInt n))
    | .ifCond _ off => decide ((pc : Int) + off = (r1 : Int))
    | .if_icmp _ off => decide ((pc : Int) + off = (r1 : Int))
    | .goto off => decide ((pc : Int) + off = (r1 : Int))
    | .getfield i => (match am_lkf[pos]? with
        | some (o, j, c, k) => Nat.beq o oc && Nat.beq j i && Nat.beq c r1 && Nat.beq k r2
        | none => false)
    | .putfield i => (match am_lkf[pos]? with
        | some (o, j, c, k) => Nat.beq o oc && Nat.beq j i && Nat.beq c r1 && Nat.beq k r2 && (if am_fin r1 r2 then ini && Nat.beq r1 oc else true) &&
            (match r3, am_ty r1 r2 with
              | 0, .int => true
              | 1, .boolean => true
              | 2, .long => true
              | 3, .object _ => true
              | 3, .array _ => true
              | _, _ => false)
        | none => false)
    | .getstatic i => Nat.beq oc 5 && Nat.beq i 74
    | .new i => (match am_lkk[pos]? with
        | some (o, j, c) => Nat.beq o oc && Nat.beq j i && Nat.beq c r1 && Nat.beq r2 (am_k0 r1).length && Nat.blt r1 12
        | none => false)
    | .anewarray i => (match am_lkk[pos]? with
        | some (o, j, c) => Nat.beq o oc && Nat.beq j i && Nat.beq c r1 && (Nat.beq r1 7 || Nat.beq r1 4)
        | none => false)
    | .invokevirtual i => (match am_lkm[pos]?, am_nm[r1]?, cst with
        | some (o, j, k, ns), some (_, _, _, _, np, stc, ii, c), .ref ci => Nat.beq o oc && Nat.beq j i && Nat.beq k r1 && (ns == Nat.beq r3 1) && (Nat.beq r3 0 || Nat.beq r3 1) && !stc && !ii && Nat.beq r2 (np + 1) && Nat.beq c ci
        | _, _, _ => false)
    | .invokespecial i => if r3 = 6 then (match am_lko[pos]? with
        | some (o, j) => Nat.beq o oc && Nat.beq j i
        | none => false) else (match am_lkm[pos]?, am_nm[r1]? with
        | some (o, j, k, ns), some (_, _, _, rt, np, stc, ii, _) => Nat.beq o oc && Nat.beq j i && Nat.beq k r1 && (ns == Nat.beq r3 3) && (Nat.beq r3 2 || Nat.beq r3 3) && !stc && ii && Nat.beq r2 (np + 1) && rt.isNone
        | _, _ => false)
    | .invokestatic i => if r3 = 7 then (match am_lka[pos]? with
        | some (o, j) => Nat.beq o oc && Nat.beq j i
        | none => false) else (match am_lkm[pos]?, am_nm[r1]? with
        | some (o, j, k, ns), some (_, _, _, _, np, stc, _, _) => Nat.beq o oc && Nat.beq j i && Nat.beq k r1 && (ns == Nat.beq r3 5) && (Nat.beq r3 4 || Nat.beq r3 5) && stc && Nat.beq r2 np
        | _, _ => false)
    | _ => true)
def am_dchk (oc : Nat) (ini : Bool) (cc : ByteArray) (len : Nat) (f : Nat → Option am_I) : Bool := (List.range len).all fun pc => match f pc with
  | none => true
  | some E => am_chk oc ini cc pc E
