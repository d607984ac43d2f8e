/-! the abstract machine: values are Int, Int (long), Nat (a reference, 0 is null); memory by address and place -/
abbrev HP : Type := (Nat → Nat) × (Nat → Nat) × (Nat → Nat → Int) × (Nat → Nat → Int) × (Nat → Nat → Nat) × Nat × Nat
abbrev RS : Type := Option (AV × HP)
def h_kd (h : HP) : Nat → Nat := h.1
def h_ln (h : HP) : Nat → Nat := h.2.1
def h_mi (h : HP) : Nat → Nat → Int := h.2.2.1
def h_ml (h : HP) : Nat → Nat → Int := h.2.2.2.1
def h_mr (h : HP) : Nat → Nat → Nat := h.2.2.2.2.1
def h_sz (h : HP) : Nat := h.2.2.2.2.2.1
def h_sl (h : HP) : Nat := h.2.2.2.2.2.2
def sRi (h : HP) (a : Nat) (f : Nat → Int) : HP := (h.1, h.2.1, va_up h.2.2.1 a f, h.2.2.2)
def sRl (h : HP) (a : Nat) (f : Nat → Int) : HP := (h.1, h.2.1, h.2.2.1, va_up h.2.2.2.1 a f, h.2.2.2.2)
def sRr (h : HP) (a : Nat) (f : Nat → Nat) : HP := (h.1, h.2.1, h.2.2.1, h.2.2.2.1, va_up h.2.2.2.2.1 a f, h.2.2.2.2.2)
def sI (h : HP) (a k : Nat) (v : Int) : HP := sRi h a (va_up (h_mi h a) k v)
def sL (h : HP) (a k : Nat) (v : Int) : HP := sRl h a (va_up (h_ml h a) k v)
def sR (h : HP) (a k : Nat) (v : Nat) : HP := sRr h a (va_up (h_mr h a) k v)
/-- a new cell: kind t, length n, w slots -/
def alo (h : HP) (t n w : Nat) : HP := (va_up h.1 h.2.2.2.2.2.1 t, va_up h.2.1 h.2.2.2.2.2.1 n, va_up h.2.2.1 h.2.2.2.2.2.1 (fun _ => 0), va_up h.2.2.2.1 h.2.2.2.2.2.1 (fun _ => 0), va_up h.2.2.2.2.1 h.2.2.2.2.2.1 (fun _ => 0), h.2.2.2.2.2.1 + 1, h.2.2.2.2.2.2 + w)
/-- room for what is thrown -/
def exH (h : HP) : HP := (va_up h.1 h.2.2.2.2.2.1 99, h.2.1, h.2.2.1, h.2.2.2.1, h.2.2.2.2.1, h.2.2.2.2.2.1 + 1, h.2.2.2.2.2.2 + 10)
def i_add (x y : Int) : Int := (Int32.ofInt x + Int32.ofInt y).toInt
def i_sub (x y : Int) : Int := (Int32.ofInt x - Int32.ofInt y).toInt
def i_mul (x y : Int) : Int := (Int32.ofInt x * Int32.ofInt y).toInt
def i_div (x y : Int) : Int := (Int32.ofInt x / Int32.ofInt y).toInt
def i_rem (x y : Int) : Int := (Int32.ofInt x - Int32.ofInt x / Int32.ofInt y * Int32.ofInt y).toInt
def i_and (x y : Int) : Int := (Int32.ofInt x &&& Int32.ofInt y).toInt
def i_or (x y : Int) : Int := (Int32.ofInt x ||| Int32.ofInt y).toInt
def i_xor (x y : Int) : Int := (Int32.ofInt x ^^^ Int32.ofInt y).toInt
def i_shl (x y : Int) : Int := (Int32.ofInt x <<< (Int32.ofInt y &&& 31)).toInt
def i_shr (x y : Int) : Int := (Int32.ofInt x >>> (Int32.ofInt y &&& 31)).toInt
def i_ushr (x y : Int) : Int := ((Int32.ofInt x).toUInt32 >>> ((Int32.ofInt y).toUInt32 &&& Int32.toUInt32 31)).toInt32.toInt
def i_neg (x : Int) : Int := (-(Int32.ofInt x)).toInt
def i_chr (x : Int) : Int := ((Int32.ofInt x).toUInt32 % 65536).toInt32.toInt
def i_byt (x : Int) : Int := (Int32.ofInt x).toInt8.toInt32.toInt
def l_add (x y : Int) : Int := (Int64.ofInt x + Int64.ofInt y).toInt
def l_sub (x y : Int) : Int := (Int64.ofInt x - Int64.ofInt y).toInt
def l_mul (x y : Int) : Int := (Int64.ofInt x * Int64.ofInt y).toInt
def l_div (x y : Int) : Int := (Int64.ofInt x / Int64.ofInt y).toInt
def l_rem (x y : Int) : Int := (Int64.ofInt x - Int64.ofInt x / Int64.ofInt y * Int64.ofInt y).toInt
def l_and (x y : Int) : Int := (Int64.ofInt x &&& Int64.ofInt y).toInt
def l_or (x y : Int) : Int := (Int64.ofInt x ||| Int64.ofInt y).toInt
def l_shl (x y : Int) : Int := (Int64.ofInt x <<< ((Int32.ofInt y).toInt64 &&& 63)).toInt
def l_ushr (x y : Int) : Int := ((Int64.ofInt x).toUInt64 >>> ((Int32.ofInt y).toInt64.toUInt64 &&& Int64.toUInt64 63)).toInt64.toInt
def l_cmp (x y : Int) : Int := if x > y then 1 else if x = y then 0 else -1
def l_2i (x : Int) : Int := (Int64.ofInt x).toInt32.toInt
def bI (o : RS) (f : Int → HP → RS) : RS := match o with
  | some (.inl x, h) => f x h
  | _ => none
def bV (o : RS) (f : HP → RS) : RS := match o with
  | some (_, h) => f h
  | _ => none
def bR (o : RS) (f : Nat → HP → RS) : RS := match o with
  | some (.inr (.inr (.inl a)), h) => f a h
  | _ => none
/-- a call that may throw: what it answers, or the way on behind the throw -/
def bX (o : RS) (f : Int → HP → RS) (g : HP → RS) : RS := match o with
  | some (.inl x, h) => f x h
  | some (.inr (.inr (.inr _)), h) => g h
  | _ => none
def cat (v : AV) : Nat := match v with
  | .inr (.inl _) => 2
  | _ => 1
def cats : List AV → Nat
  | [] => 0
  | v :: t => cat v + cats t
/-- locals: a store of one word at i, of two -/
def kil (lv : List AV) (i : Nat) : List AV := match i with
  | 0 => lv
  | j + 1 => match lv.getD j vu with
    | .inr (.inl _) => lv.set j vu
    | _ => lv
def st1 (lv : List AV) (i : Nat) (v : AV) : List AV := (kil lv i).set i v
def st2 (lv : List AV) (i : Nat) (v : AV) : List AV := ((kil lv i).set i v).set (i + 1) vu
def ent : List AV → List AV
  | [] => []
  | .inr (.inl x) :: t => vl x :: vu :: ent t
  | v :: t => v :: ent t
def fil (n : Nat) (l : List AV) : List AV := match n with
  | 0 => l
  | n + 1 => match l with
    | [] => vu :: fil n []
    | v :: t => v :: fil n t
def inb (h : HP) (a : Nat) (i : Int) : Bool := decide (0 ≤ i) && decide (i < (h_ln h a : Int))
def isK (h : HP) (a t : Nat) : Bool := Nat.beq (h_kd h a) t
def swT (x : Int) (K : Nat → RS) (pc : Nat) (d : Int) : Int → List Int → RS
  | _, [] => K ((pc : Int) + d).toNat
  | lo, o :: t => bif decide (x = lo) then K ((pc : Int) + o).toNat else swT x K pc d (lo + 1) t
def swL (x : Int) (K : Nat → RS) (pc : Nat) (d : Int) : List (Int × Int) → RS
  | [] => K ((pc : Int) + d).toNat
  | o :: t => bif decide (x = o.1) then K ((pc : Int) + o.2).toNat else swL x K pc d t
def cmpB (c : ClassFile.Cond) (x y : Int) : Bool := match c with
  | .eq => decide (x = y)
  | .ne => decide (x ≠ y)
  | .lt => decide (x < y)
  | .ge => decide (y ≤ x)
  | .gt => decide (y < x)
  | .le => decide (x ≤ y)
/-- one instruction: K goes on at a place, E calls a method -/
def act (own rt : Nat) (i : Instr) (len tgt pc : Nat) (lv st : List AV) (h : HP) (K : Nat → List AV → List AV → HP → RS) (E : Nat → List AV → HP → RS) : RS :=
  match i with
  | .iconst n => K (pc + len) lv (vi n :: st) h
  | .bipush n => K (pc + len) lv (vi n :: st) h
  | .sipush n => K (pc + len) lv (vi n :: st) h
  | .lconst n => K (pc + len) lv (vl (n.val : Nat) :: st) h
  | .aconst_null => K (pc + len) lv (vr 0 :: st) h
  | .ldc k => match kres own k with
    | some v => K (pc + len) lv (v :: st) h
    | none => none
  | .ldc_w k => match kres own k with
    | some v => K (pc + len) lv (v :: st) h
    | none => none
  | .ldc2_w k => match kres own k with
    | some v => K (pc + len) lv (v :: st) h
    | none => none
  | .iload k => match lv.getD k vu with
    | .inl x => K (pc + len) lv (vi x :: st) h
    | _ => none
  | .iload_n k => match lv.getD k.val vu with
    | .inl x => K (pc + len) lv (vi x :: st) h
    | _ => none
  | .lload k => match lv.getD k vu with
    | .inr (.inl x) => K (pc + len) lv (vl x :: st) h
    | _ => none
  | .lload_n k => match lv.getD k.val vu with
    | .inr (.inl x) => K (pc + len) lv (vl x :: st) h
    | _ => none
  | .aload k => match lv.getD k vu with
    | .inr (.inr (.inl x)) => K (pc + len) lv (vr x :: st) h
    | _ => none
  | .aload_n k => match lv.getD k.val vu with
    | .inr (.inr (.inl x)) => K (pc + len) lv (vr x :: st) h
    | _ => none
  | .istore k => match st with
    | .inl x :: r => K (pc + len) (st1 lv k (vi x)) r h
    | _ => none
  | .istore_n k => match st with
    | .inl x :: r => K (pc + len) (st1 lv k.val (vi x)) r h
    | _ => none
  | .lstore k => match st with
    | .inr (.inl x) :: r => K (pc + len) (st2 lv k (vl x)) r h
    | _ => none
  | .lstore_n k => match st with
    | .inr (.inl x) :: r => K (pc + len) (st2 lv k.val (vl x)) r h
    | _ => none
  | .astore k => match st with
    | .inr (.inr (.inl x)) :: r => K (pc + len) (st1 lv k (vr x)) r h
    | _ => none
  | .astore_n k => match st with
    | .inr (.inr (.inl x)) :: r => K (pc + len) (st1 lv k.val (vr x)) r h
    | _ => none
  | .iinc k n => match lv.getD k vu with
    | .inl x => K (pc + len) (st1 lv k (vi (i_add x n))) st h
    | _ => none
  | .iadd => match st with
    | .inl y :: .inl x :: r => K (pc + len) lv (vi (i_add x y) :: r) h
    | _ => none
  | .isub => match st with
    | .inl y :: .inl x :: r => K (pc + len) lv (vi (i_sub x y) :: r) h
    | _ => none
  | .imul => match st with
    | .inl y :: .inl x :: r => K (pc + len) lv (vi (i_mul x y) :: r) h
    | _ => none
  | .idiv => match st with
    | .inl y :: .inl x :: r => bif decide (y = 0) then none else K (pc + len) lv (vi (i_div x y) :: r) h
    | _ => none
  | .irem => match st with
    | .inl y :: .inl x :: r => bif decide (y = 0) then none else K (pc + len) lv (vi (i_rem x y) :: r) h
    | _ => none
  | .iand => match st with
    | .inl y :: .inl x :: r => K (pc + len) lv (vi (i_and x y) :: r) h
    | _ => none
  | .ior => match st with
    | .inl y :: .inl x :: r => K (pc + len) lv (vi (i_or x y) :: r) h
    | _ => none
  | .ixor => match st with
    | .inl y :: .inl x :: r => K (pc + len) lv (vi (i_xor x y) :: r) h
    | _ => none
  | .ishl => match st with
    | .inl y :: .inl x :: r => K (pc + len) lv (vi (i_shl x y) :: r) h
    | _ => none
  | .ishr => match st with
    | .inl y :: .inl x :: r => K (pc + len) lv (vi (i_shr x y) :: r) h
    | _ => none
  | .iushr => match st with
    | .inl y :: .inl x :: r => K (pc + len) lv (vi (i_ushr x y) :: r) h
    | _ => none
  | .ineg => match st with
    | .inl x :: r => K (pc + len) lv (vi (i_neg x) :: r) h
    | _ => none
  | .i2l => match st with
    | .inl x :: r => K (pc + len) lv (vl x :: r) h
    | _ => none
  | .i2c => match st with
    | .inl x :: r => K (pc + len) lv (vi (i_chr x) :: r) h
    | _ => none
  | .i2b => match st with
    | .inl x :: r => K (pc + len) lv (vi (i_byt x) :: r) h
    | _ => none
  | .l2i => match st with
    | .inr (.inl x) :: r => K (pc + len) lv (vi (l_2i x) :: r) h
    | _ => none
  | .ladd => match st with
    | .inr (.inl y) :: .inr (.inl x) :: r => K (pc + len) lv (vl (l_add x y) :: r) h
    | _ => none
  | .lsub => match st with
    | .inr (.inl y) :: .inr (.inl x) :: r => K (pc + len) lv (vl (l_sub x y) :: r) h
    | _ => none
  | .lmul => match st with
    | .inr (.inl y) :: .inr (.inl x) :: r => K (pc + len) lv (vl (l_mul x y) :: r) h
    | _ => none
  | .ldiv => match st with
    | .inr (.inl y) :: .inr (.inl x) :: r => bif decide (y = 0) then none else K (pc + len) lv (vl (l_div x y) :: r) h
    | _ => none
  | .lrem => match st with
    | .inr (.inl y) :: .inr (.inl x) :: r => bif decide (y = 0) then none else K (pc + len) lv (vl (l_rem x y) :: r) h
    | _ => none
  | .land => match st with
    | .inr (.inl y) :: .inr (.inl x) :: r => K (pc + len) lv (vl (l_and x y) :: r) h
    | _ => none
  | .lor => match st with
    | .inr (.inl y) :: .inr (.inl x) :: r => K (pc + len) lv (vl (l_or x y) :: r) h
    | _ => none
  | .lshl => match st with
    | .inl y :: .inr (.inl x) :: r => K (pc + len) lv (vl (l_shl x y) :: r) h
    | _ => none
  | .lushr => match st with
    | .inl y :: .inr (.inl x) :: r => K (pc + len) lv (vl (l_ushr x y) :: r) h
    | _ => none
  | .lcmp => match st with
    | .inr (.inl y) :: .inr (.inl x) :: r => K (pc + len) lv (vi (l_cmp x y) :: r) h
    | _ => none
  | .dup => match st with
    | .inl x :: r => K (pc + len) lv (vi x :: vi x :: r) h
    | .inr (.inr (.inl x)) :: r => K (pc + len) lv (vr x :: vr x :: r) h
    | _ => none
  | .dup2 => match st with
    | .inl x :: .inr (.inr (.inl y)) :: r => K (pc + len) lv (vi x :: vr y :: vi x :: vr y :: r) h
    | _ => none
  | .pop => match st with
    | .inl _ :: r => K (pc + len) lv r h
    | .inr (.inr (.inl _)) :: r => K (pc + len) lv r h
    | _ => none
  | .goto _ => K tgt lv st h
  | .ifCond c _ => match st with
    | .inl x :: r => bif cmpB c x 0 then K tgt lv r h else K (pc + len) lv r h
    | _ => none
  | .if_icmp c _ => match st with
    | .inl y :: .inl x :: r => bif cmpB c x y then K tgt lv r h else K (pc + len) lv r h
    | _ => none
  | .if_acmp c _ => match st with
    | .inr (.inr (.inl y)) :: .inr (.inr (.inl x)) :: r => match c with
      | .eq => bif decide (x = y) then K tgt lv r h else K (pc + len) lv r h
      | .ne => bif decide (x = y) then K (pc + len) lv r h else K tgt lv r h
    | _ => none
  | .ifnull _ => match st with
    | .inr (.inr (.inl x)) :: r => bif decide (x = 0) then K tgt lv r h else K (pc + len) lv r h
    | _ => none
  | .ifnonnull _ => match st with
    | .inr (.inr (.inl x)) :: r => bif decide (x = 0) then K (pc + len) lv r h else K tgt lv r h
    | _ => none
  | .tableswitch d lo _ offs => match st with
    | .inl x :: r => swT x (fun q => K q lv r h) pc d lo offs.toList
    | _ => none
  | .lookupswitch d ps => match st with
    | .inl x :: r => swL x (fun q => K q lv r h) pc d ps.toList
    | _ => none
  | .getfield k => match st with
    | .inr (.inr (.inl a)) :: r => match fres own k with
      | some (c, j, t) => bif isK h a c then (match t with
          | 1 => K (pc + len) lv (vl (h_ml h a j) :: r) h
          | 2 => K (pc + len) lv (vr (h_mr h a j) :: r) h
          | _ => K (pc + len) lv (vi (h_mi h a j) :: r) h) else none
      | none => none
    | _ => none
  | .putfield k => match fres own k with
    | some (c, j, 0) => match st with
      | .inl x :: .inr (.inr (.inl a)) :: r => bif isK h a c then K (pc + len) lv r (sI h a j x) else none
      | _ => none
    | some (c, j, 1) => match st with
      | .inr (.inl x) :: .inr (.inr (.inl a)) :: r => bif isK h a c then K (pc + len) lv r (sL h a j x) else none
      | _ => none
    | some (c, j, 2) => match st with
      | .inr (.inr (.inl x)) :: .inr (.inr (.inl a)) :: r => bif isK h a c then K (pc + len) lv r (sR h a j x) else none
      | _ => none
    | some (c, j, 3) => match st with
      | .inl x :: .inr (.inr (.inl a)) :: r => bif isK h a c && (decide (x = 0) || decide (x = 1)) then K (pc + len) lv r (sI h a j x) else none
      | _ => none
    | _ => none
  | .getstatic k => match sres own k with
    | some v => K (pc + len) lv (v :: st) h
    | none => none
  | .new k => match nres own k with
    | some (c, n) => bif Nat.beq c 99 then some (vu, exH h) else K (pc + len) lv (vr (h_sz h) :: st) (alo h c 0 n)
    | none => none
  | .newarray t => match st with
    | .inl n :: r => bif decide (0 ≤ n) && decide (n ≤ 100000) then (match t with
        | .int => K (pc + len) lv (vr (h_sz h) :: r) (alo h 11 n.toNat n.toNat)
        | .char => K (pc + len) lv (vr (h_sz h) :: r) (alo h 10 n.toNat n.toNat)
        | .long => K (pc + len) lv (vr (h_sz h) :: r) (alo h 12 n.toNat n.toNat)
        | .boolean => K (pc + len) lv (vr (h_sz h) :: r) (alo h 13 n.toNat n.toNat)
        | _ => none) else none
    | _ => none
  | .anewarray k => match st with
    | .inl n :: r => match nres own k with
      | some (14, _) => bif decide (0 ≤ n) && decide (n ≤ 100000) then K (pc + len) lv (vr (h_sz h) :: r) (alo h 14 n.toNat n.toNat) else none
      | _ => none
    | _ => none
  | .arraylength => match st with
    | .inr (.inr (.inl a)) :: r => bif isK h a 11 || isK h a 22 || isK h a 21 || isK h a 24 || isK h a 10 || isK h a 12 then K (pc + len) lv (vi (h_ln h a : Int) :: r) h else none
    | _ => none
  | .iaload => match st with
    | .inl i :: .inr (.inr (.inl a)) :: r => bif (isK h a 11 || isK h a 21) && inb h a i then K (pc + len) lv (vi (h_mi h a i.toNat) :: r) h else none
    | _ => none
  | .caload => match st with
    | .inl i :: .inr (.inr (.inl a)) :: r => bif isK h a 10 && inb h a i then K (pc + len) lv (vi (h_mi h a i.toNat) :: r) h else none
    | _ => none
  | .baload => match st with
    | .inl i :: .inr (.inr (.inl a)) :: r => bif (isK h a 13 || isK h a 24) && inb h a i then K (pc + len) lv (vi (h_mi h a i.toNat) :: r) h else none
    | _ => none
  | .laload => match st with
    | .inl i :: .inr (.inr (.inl a)) :: r => bif isK h a 12 && inb h a i then K (pc + len) lv (vl (h_ml h a i.toNat) :: r) h else none
    | _ => none
  | .aaload => match st with
    | .inl i :: .inr (.inr (.inl a)) :: r => bif (isK h a 14 || isK h a 22) && inb h a i then K (pc + len) lv (vr (h_mr h a i.toNat) :: r) h else none
    | _ => none
  | .iastore => match st with
    | .inl x :: .inl i :: .inr (.inr (.inl a)) :: r => bif isK h a 11 && inb h a i then K (pc + len) lv r (sI h a i.toNat x) else none
    | _ => none
  | .castore => match st with
    | .inl x :: .inl i :: .inr (.inr (.inl a)) :: r => bif isK h a 10 && inb h a i && decide (0 ≤ x) && decide (x < 65536) then K (pc + len) lv r (sI h a i.toNat x) else none
    | _ => none
  | .bastore => match st with
    | .inl x :: .inl i :: .inr (.inr (.inl a)) :: r => bif isK h a 13 && inb h a i && (decide (x = 0) || decide (x = 1)) then K (pc + len) lv r (sI h a i.toNat x) else none
    | _ => none
  | .lastore => match st with
    | .inr (.inl x) :: .inl i :: .inr (.inr (.inl a)) :: r => bif isK h a 12 && inb h a i then K (pc + len) lv r (sL h a i.toNat x) else none
    | _ => none
  | .aastore => match st with
    | .inr (.inr (.inl x)) :: .inl i :: .inr (.inr (.inl a)) :: r => bif isK h a 14 && inb h a i && isK h x 3 then K (pc + len) lv r (sR h a i.toNat x) else none
    | _ => none
  | .invokespecial k => inv own k len pc lv st h K E
  | .invokevirtual k => inv own k len pc lv st h K E
  | .invokestatic k => inv own k len pc lv st h K E
  | .ireturn => match st with
    | [.inl x] => match rt with
      | 1 => some (vi x, h)
      | 2 => bif decide (x = 0) || decide (x = 1) then some (vi x, h) else none
      | 5 => bif decide (-128 ≤ x) && decide (x < 128) then some (vi x, h) else none
      | _ => none
    | _ => none
  | .areturn => match st with
    | [.inr (.inr (.inl x))] => match rt with
      | 4 => some (vr x, h)
      | _ => none
    | _ => none
  | .return_ => match st with
    | [] => match rt with
      | 0 => some (vr 0, h)
      | _ => none
    | _ => none
  | _ => none
where
  inv (own k len pc : Nat) (lv st : List AV) (h : HP) (K : Nat → List AV → List AV → HP → RS) (E : Nat → List AV → HP → RS) : RS :=
    match mres own k with
    | some (0, _, _, _, _) => match st with
      | .inr (.inr (.inl _)) :: r => K (pc + len) lv r h
      | _ => none
    | some (1, c, n, _, t) => bif decide (cats (st.drop n) ≤ 8) then ret t (E c (st.take n).reverse h) len pc lv (st.drop n) K else none
    | some (2, c, n, q, t) => match (st.take n).reverse with
      | .inr (.inr (.inl a)) :: as => bif isK h a q && decide (cats (st.drop n) ≤ 8) then ret t (E c (vr a :: as) h) len pc lv (st.drop n) K else none
      | _ => none
    | some (3, _, _, _, _) => match st with
      | .inl y :: .inl x :: r => K (pc + len) lv (vi (min x y) :: r) h
      | _ => none
    | some (4, _, _, _, _) => match st with
      | .inl y :: .inl x :: r => K (pc + len) lv (vi (max x y) :: r) h
      | _ => none
    | some (5, _, _, _, _) => match st with
      | .inl x :: r => K (pc + len) lv (vi (if x < 0 then i_neg x else x) :: r) h
      | _ => none
    | some (6, _, _, _, _) => match st with
      | .inl n :: .inl dp :: .inr (.inr (.inl b)) :: .inl sp :: .inr (.inr (.inl a)) :: r =>
        bif isK h a 11 && isK h b 11 && decide (0 ≤ n) && decide (0 ≤ sp) && decide (0 ≤ dp) && decide (sp + n ≤ (h_ln h a : Int)) && decide (dp + n ≤ (h_ln h b : Int)) then
          K (pc + len) lv r (sRi h b (va_cpy (h_mi h a) (h_mi h b) sp.toNat dp.toNat n.toNat)) else none
      | _ => none
    | some (7, c, n, q, _) => match (st.take n).reverse with
      | .inr (.inr (.inl a)) :: as => bif isK h a q && decide (cats (st.drop n) ≤ 8) then
          bX (E c (vr a :: as) h) (fun x h2 => K (pc + len) lv (vi x :: st.drop n) h2) (fun h2 => K (pc + len + 5) lv [vr (h_sz h2 - 1)] h2) else none
      | _ => none
    | _ => none
  ret (t : Nat) (o : RS) (len pc : Nat) (lv r : List AV) (K : Nat → List AV → List AV → HP → RS) : RS :=
    match t with
    | 0 => bV o (fun h2 => K (pc + len) lv r h2)
    | 1 => bI o (fun x h2 => K (pc + len) lv (vi x :: r) h2)
    | 3 => bR o (fun x h2 => K (pc + len) lv (vr x :: r) h2)
    | _ => none
/-- by steps: n of them at most, calls d deep at most -/
def X : Nat → Nat → MD → Nat → List AV → List AV → HP → RS
  | 0, _, _, _, _, _, _ => none
  | n + 1, d, M, pc, lv, st, h => match lk M.2.2.2 pc with
    | none => none
    | some (i, len, tgt) => act M.1 M.2.1 i len tgt pc lv st h (fun q l s g => X n d M q l s g) (fun k as g => match d with
      | 0 => none
      | d + 1 => X n d (meth k) 0 (fil (meth k).2.2.1 (ent as)) [] g)
