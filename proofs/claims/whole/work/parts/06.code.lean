def iL (i : Instr) : Nat := match i with
  | .iload _ | .istore _ | .aload _ | .astore _ | .lload _ | .lstore _ | .bipush _ | .ldc _ | .newarray _ => 2
  | .sipush _ | .ldc_w _ | .ldc2_w _ | .iinc _ _ | .goto _ | .ifCond _ _ | .if_icmp _ _ | .if_acmp _ _ | .ifnull _ | .ifnonnull _ | .getfield _ | .putfield _ | .getstatic _ | .invokespecial _ | .invokevirtual _ | .invokestatic _ | .new _ | .anewarray _ | .checkcast _ => 3
  | .tableswitch .. | .lookupswitch .. => 0
  | _ => 1
def iT (i : Instr) (pc tgt : Nat) : Bool := match i with
  | .goto o | .ifCond _ o | .if_icmp _ o | .if_acmp _ o | .ifnull o | .ifnonnull o => decide ((pc : Int) + o = (tgt : Int))
  | .bipush n => decide (-128 ≤ n) && decide (n < 128)
  | .sipush n => decide (-32768 ≤ n) && decide (n < 32768)
  | .iconst n => decide (-1 ≤ n) && decide (n < 6)
  | .iinc _ n => decide (-32768 ≤ n) && decide (n < 32768)
  | .tableswitch d lo hi offs => decide (0 ≤ (pc : Int) + d) && offs.toList.all (fun o => decide (0 ≤ (pc : Int) + o)) && decide (-1000 ≤ lo) && decide (hi < 1000) && decide (hi - lo + 1 = (offs.toList.length : Int))
  | .lookupswitch d ps => decide (0 ≤ (pc : Int) + d) && ps.toList.all (fun o => decide (0 ≤ (pc : Int) + o.2) && decide (-1000 ≤ o.1) && decide (o.1 < 1000)) && (ps.toList.zip (ps.toList.drop 1)).all (fun (a, next) => a.1 < next.1)
  | _ => true
/-- a row of a code list is what the bytes say -/
def okE (cc : ByteArray) (q : Nat × Instr × Nat × Nat) : Bool := decide (decode cc q.1 = .ok (q.2.1, q.2.2.1)) && (Nat.beq (iL q.2.1) 0 || Nat.beq (iL q.2.1) q.2.2.1) && iT q.2.1 q.1 q.2.2.2
