/-! instructions of a method as a list, checked against its bytes -/
abbrev TT : Type := List (Nat × Instr × Nat)
def ilen (ins : Instr) (len : Nat) : Nat := match ins with
  | .tableswitch .. => len
  | .lookupswitch .. => len
  | .bipush _ | .iload _ | .lload _ | .aload _ | .istore _ | .lstore _ | .astore _ | .ldc _ | .newarray _ => 2
  | .sipush _ | .iinc _ _ | .goto _ | .if_icmp _ _ | .ifCond _ _ | .ifnull _ | .ifnonnull _ | .ldc_w _ | .ldc2_w _ | .getfield _ | .putfield _ | .getstatic _ | .new _ | .anewarray _ | .instanceof _ | .checkcast _ | .invokestatic _ | .invokespecial _ | .invokevirtual _ => 3
  | _ => 1
def tabOK (y : Mth) (T : TT) : Bool := T.all (fun e => decide (decode y.2.1 e.1 = .ok (e.2.1, e.2.2)) && Nat.beq e.2.2 (ilen e.2.1 e.2.2))
theorem tab_app {y : Mth} {A B : TT} (ha : tabOK y A = true) (hb : tabOK y B = true) : tabOK y (A ++ B) = true := by
  unfold tabOK at *
  rw [List.all_append, ha, hb]
  rfl
