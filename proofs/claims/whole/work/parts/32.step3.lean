/-! one step, whatever the instruction; the walk (written by wip/whole/gen_walk.py) -/
theorem len_of {L len : Nat} (hL : (Nat.beq L 0 || Nat.beq L len) = true) (h0 : L ≠ 0) : len = L := by
  rw [Bool.or_eq_true] at hL
  rcases hL with h | h
  · exact absurd (Nat.eq_of_beq_eq_true h) h0
  · exact (Nat.eq_of_beq_eq_true h).symm
section S19
variable {p : Program} {l : Launch} {e : Env} {R : Room} {s : State} {m : MethodId} {args : Array Value} {below : List Frame} {mth : Method} {c : Code} {Q : State → Prop}
variable {w : WP} {z0 l0 k pc tgt rt len : Nat} {lv st : List AV} {h : HP} {nx : NX}
theorem step_ok {i : Instr} (C : CXk p s m args mth c w k) (hml : (meth k).2.2.1 = lv.length) (hR : 2 ≤ R.frames ∧ 82 ≤ R.locals) (hcu : h_sz h - z0 ≤ R.cells ∧ h_sl h - l0 ≤ R.slots) (hz : z0 ≤ h_sz h ∧ l0 ≤ h_sl h) (hd : decode (mC k) pc = .ok (i, len)) (hLn : (Nat.beq (iL i) 0 || Nat.beq (iL i) len) = true) (hT : iT i pc tgt = true) (hSt : okS k (meth k) i = true)
    (ha : act (meth k).1 rt i len tgt pc lv st h = some (true, nx)) (hne : ∀ r, nx ≠ .inr (.inr (.inr (.inl r)))) (hsp : ∀ t ci x, nx = .inr (.inr (.inl (t, ci, x))) → t ≠ 7 ∧ ci < 266) (hN : OkN p l e R s m args below mth c Q w z0 l0 nx) : Go p l e R s m args below mth c Q w z0 l0 pc lv st h := by
  have hR1 : 1 ≤ R.frames ∧ 41 ≤ R.locals := ⟨by omega, by omega⟩
  cases i
  case iadd =>
    have e1 := len_of hLn (fun z => by simp [iL] at z)
    change len = _ at e1
    subst e1
    exact k_iadd C hml hR1 hcu hz hd hT hSt ha hN
  case isub =>
    have e1 := len_of hLn (fun z => by simp [iL] at z)
    change len = _ at e1
    subst e1
    exact k_isub C hml hR1 hcu hz hd hT hSt ha hN
  case imul =>
    have e1 := len_of hLn (fun z => by simp [iL] at z)
    change len = _ at e1
    subst e1
    exact k_imul C hml hR1 hcu hz hd hT hSt ha hN
  case iand =>
    have e1 := len_of hLn (fun z => by simp [iL] at z)
    change len = _ at e1
    subst e1
    exact k_iand C hml hR1 hcu hz hd hT hSt ha hN
  case ior =>
    have e1 := len_of hLn (fun z => by simp [iL] at z)
    change len = _ at e1
    subst e1
    exact k_ior C hml hR1 hcu hz hd hT hSt ha hN
  case ixor =>
    have e1 := len_of hLn (fun z => by simp [iL] at z)
    change len = _ at e1
    subst e1
    exact k_ixor C hml hR1 hcu hz hd hT hSt ha hN
  case ishl =>
    have e1 := len_of hLn (fun z => by simp [iL] at z)
    change len = _ at e1
    subst e1
    exact k_ishl C hml hR1 hcu hz hd hT hSt ha hN
  case ishr =>
    have e1 := len_of hLn (fun z => by simp [iL] at z)
    change len = _ at e1
    subst e1
    exact k_ishr C hml hR1 hcu hz hd hT hSt ha hN
  case iushr =>
    have e1 := len_of hLn (fun z => by simp [iL] at z)
    change len = _ at e1
    subst e1
    exact k_iushr C hml hR1 hcu hz hd hT hSt ha hN
  case ladd =>
    have e1 := len_of hLn (fun z => by simp [iL] at z)
    change len = _ at e1
    subst e1
    exact k_ladd C hml hR1 hcu hz hd hT hSt ha hN
  case lsub =>
    have e1 := len_of hLn (fun z => by simp [iL] at z)
    change len = _ at e1
    subst e1
    exact k_lsub C hml hR1 hcu hz hd hT hSt ha hN
  case lmul =>
    have e1 := len_of hLn (fun z => by simp [iL] at z)
    change len = _ at e1
    subst e1
    exact k_lmul C hml hR1 hcu hz hd hT hSt ha hN
  case land =>
    have e1 := len_of hLn (fun z => by simp [iL] at z)
    change len = _ at e1
    subst e1
    exact k_land C hml hR1 hcu hz hd hT hSt ha hN
  case lor =>
    have e1 := len_of hLn (fun z => by simp [iL] at z)
    change len = _ at e1
    subst e1
    exact k_lor C hml hR1 hcu hz hd hT hSt ha hN
  case lshl =>
    have e1 := len_of hLn (fun z => by simp [iL] at z)
    change len = _ at e1
    subst e1
    exact k_lshl C hml hR1 hcu hz hd hT hSt ha hN
  case lushr =>
    have e1 := len_of hLn (fun z => by simp [iL] at z)
    change len = _ at e1
    subst e1
    exact k_lushr C hml hR1 hcu hz hd hT hSt ha hN
  case lcmp =>
    have e1 := len_of hLn (fun z => by simp [iL] at z)
    change len = _ at e1
    subst e1
    exact k_lcmp C hml hR1 hcu hz hd hT hSt ha hN
  case ineg =>
    have e1 := len_of hLn (fun z => by simp [iL] at z)
    change len = _ at e1
    subst e1
    exact k_ineg C hml hR1 hcu hz hd hT hSt ha hN
  case i2l =>
    have e1 := len_of hLn (fun z => by simp [iL] at z)
    change len = _ at e1
    subst e1
    exact k_i2l C hml hR1 hcu hz hd hT hSt ha hN
  case i2c =>
    have e1 := len_of hLn (fun z => by simp [iL] at z)
    change len = _ at e1
    subst e1
    exact k_i2c C hml hR1 hcu hz hd hT hSt ha hN
  case i2b =>
    have e1 := len_of hLn (fun z => by simp [iL] at z)
    change len = _ at e1
    subst e1
    exact k_i2b C hml hR1 hcu hz hd hT hSt ha hN
  case l2i =>
    have e1 := len_of hLn (fun z => by simp [iL] at z)
    change len = _ at e1
    subst e1
    exact k_l2i C hml hR1 hcu hz hd hT hSt ha hN
  case idiv =>
    have e1 := len_of hLn (fun z => by simp [iL] at z)
    change len = _ at e1
    subst e1
    exact k_idiv C hml hR1 hcu hz hd hT hSt ha hN
  case irem =>
    have e1 := len_of hLn (fun z => by simp [iL] at z)
    change len = _ at e1
    subst e1
    exact k_irem C hml hR1 hcu hz hd hT hSt ha hN
  case ldiv =>
    have e1 := len_of hLn (fun z => by simp [iL] at z)
    change len = _ at e1
    subst e1
    exact k_ldiv C hml hR1 hcu hz hd hT hSt ha hN
  case lrem =>
    have e1 := len_of hLn (fun z => by simp [iL] at z)
    change len = _ at e1
    subst e1
    exact k_lrem C hml hR1 hcu hz hd hT hSt ha hN
  case dup =>
    have e1 := len_of hLn (fun z => by simp [iL] at z)
    change len = _ at e1
    subst e1
    exact k_dup C hml hR1 hcu hz hd hT hSt ha hN
  case dup2 =>
    have e1 := len_of hLn (fun z => by simp [iL] at z)
    change len = _ at e1
    subst e1
    exact k_dup2 C hml hR1 hcu hz hd hT hSt ha hN
  case pop =>
    have e1 := len_of hLn (fun z => by simp [iL] at z)
    change len = _ at e1
    subst e1
    exact k_pop C hml hR1 hcu hz hd hT hSt ha hN
  case arraylength =>
    have e1 := len_of hLn (fun z => by simp [iL] at z)
    change len = _ at e1
    subst e1
    exact k_arraylength C hml hR1 hcu hz hd hT hSt ha hN
  case iaload =>
    have e1 := len_of hLn (fun z => by simp [iL] at z)
    change len = _ at e1
    subst e1
    exact k_iaload C hml hR1 hcu hz hd hT hSt ha hN
  case baload =>
    have e1 := len_of hLn (fun z => by simp [iL] at z)
    change len = _ at e1
    subst e1
    exact k_baload C hml hR1 hcu hz hd hT hSt ha hN
  case aaload =>
    have e1 := len_of hLn (fun z => by simp [iL] at z)
    change len = _ at e1
    subst e1
    exact k_aaload C hml hR1 hcu hz hd hT hSt ha hN
  case caload =>
    have e1 := len_of hLn (fun z => by simp [iL] at z)
    change len = _ at e1
    subst e1
    exact k_caload C hml hR1 hcu hz hd hT hSt ha hN
  case laload =>
    have e1 := len_of hLn (fun z => by simp [iL] at z)
    change len = _ at e1
    subst e1
    exact k_laload C hml hR1 hcu hz hd hT hSt ha hN
  case iastore =>
    have e1 := len_of hLn (fun z => by simp [iL] at z)
    change len = _ at e1
    subst e1
    exact k_iastore C hml hR1 hcu hz hd hT hSt ha hN
  case lastore =>
    have e1 := len_of hLn (fun z => by simp [iL] at z)
    change len = _ at e1
    subst e1
    exact k_lastore C hml hR1 hcu hz hd hT hSt ha hN
  case castore =>
    have e1 := len_of hLn (fun z => by simp [iL] at z)
    change len = _ at e1
    subst e1
    exact k_castore C hml hR1 hcu hz hd hT hSt ha hN
  case bastore =>
    have e1 := len_of hLn (fun z => by simp [iL] at z)
    change len = _ at e1
    subst e1
    exact k_bastore C hml hR1 hcu hz hd hT hSt ha hN
  case aastore =>
    have e1 := len_of hLn (fun z => by simp [iL] at z)
    change len = _ at e1
    subst e1
    exact k_aastore C hml hR1 hcu hz hd hT hSt ha hN
  case iconst a1 =>
    have e1 := len_of hLn (fun z => by simp [iL] at z)
    change len = _ at e1
    subst e1
    exact k_iconst C hml hR1 hcu hz hd hT hSt ha hN
  case lconst a1 =>
    have e1 := len_of hLn (fun z => by simp [iL] at z)
    change len = _ at e1
    subst e1
    exact k_lconst C hml hR1 hcu hz hd hT hSt ha hN
  case iload_n a1 =>
    have e1 := len_of hLn (fun z => by simp [iL] at z)
    change len = _ at e1
    subst e1
    exact k_iload_n C hml hR1 hcu hz hd hT hSt ha hN
  case lload_n a1 =>
    have e1 := len_of hLn (fun z => by simp [iL] at z)
    change len = _ at e1
    subst e1
    exact k_lload_n C hml hR1 hcu hz hd hT hSt ha hN
  case aload_n a1 =>
    have e1 := len_of hLn (fun z => by simp [iL] at z)
    change len = _ at e1
    subst e1
    exact k_aload_n C hml hR1 hcu hz hd hT hSt ha hN
  case istore_n a1 =>
    have e1 := len_of hLn (fun z => by simp [iL] at z)
    change len = _ at e1
    subst e1
    exact k_istore_n C hml hR1 hcu hz hd hT hSt ha hN
  case astore_n a1 =>
    have e1 := len_of hLn (fun z => by simp [iL] at z)
    change len = _ at e1
    subst e1
    exact k_astore_n C hml hR1 hcu hz hd hT hSt ha hN
  case lstore_n a1 =>
    have e1 := len_of hLn (fun z => by simp [iL] at z)
    change len = _ at e1
    subst e1
    exact k_lstore_n C hml hR1 hcu hz hd hT hSt ha hN
  case bipush a1 =>
    have e1 := len_of hLn (fun z => by simp [iL] at z)
    change len = _ at e1
    subst e1
    exact k_bipush C hml hR1 hcu hz hd hT hSt ha hN
  case iload a1 =>
    have e1 := len_of hLn (fun z => by simp [iL] at z)
    change len = _ at e1
    subst e1
    exact k_iload C hml hR1 hcu hz hd hT hSt ha hN
  case lload a1 =>
    have e1 := len_of hLn (fun z => by simp [iL] at z)
    change len = _ at e1
    subst e1
    exact k_lload C hml hR1 hcu hz hd hT hSt ha hN
  case aload a1 =>
    have e1 := len_of hLn (fun z => by simp [iL] at z)
    change len = _ at e1
    subst e1
    exact k_aload C hml hR1 hcu hz hd hT hSt ha hN
  case istore a1 =>
    have e1 := len_of hLn (fun z => by simp [iL] at z)
    change len = _ at e1
    subst e1
    exact k_istore C hml hR1 hcu hz hd hT hSt ha hN
  case astore a1 =>
    have e1 := len_of hLn (fun z => by simp [iL] at z)
    change len = _ at e1
    subst e1
    exact k_astore C hml hR1 hcu hz hd hT hSt ha hN
  case lstore a1 =>
    have e1 := len_of hLn (fun z => by simp [iL] at z)
    change len = _ at e1
    subst e1
    exact k_lstore C hml hR1 hcu hz hd hT hSt ha hN
  case ldc a1 =>
    have e1 := len_of hLn (fun z => by simp [iL] at z)
    change len = _ at e1
    subst e1
    exact k_ldc C hml hR1 hcu hz hd hT hSt ha hN
  case sipush a1 =>
    have e1 := len_of hLn (fun z => by simp [iL] at z)
    change len = _ at e1
    subst e1
    exact k_sipush C hml hR1 hcu hz hd hT hSt ha hN
  case goto a1 =>
    have e1 := len_of hLn (fun z => by simp [iL] at z)
    change len = _ at e1
    subst e1
    exact k_goto C hml hR1 hcu hz hd hT hSt ha hN
  case ifnull a1 =>
    have e1 := len_of hLn (fun z => by simp [iL] at z)
    change len = _ at e1
    subst e1
    exact k_ifnull C hml hR1 hcu hz hd hT hSt ha hN
  case ifnonnull a1 =>
    have e1 := len_of hLn (fun z => by simp [iL] at z)
    change len = _ at e1
    subst e1
    exact k_ifnonnull C hml hR1 hcu hz hd hT hSt ha hN
  case ldc_w a1 =>
    have e1 := len_of hLn (fun z => by simp [iL] at z)
    change len = _ at e1
    subst e1
    exact k_ldc_w C hml hR1 hcu hz hd hT hSt ha hN
  case ldc2_w a1 =>
    have e1 := len_of hLn (fun z => by simp [iL] at z)
    change len = _ at e1
    subst e1
    exact k_ldc2_w C hml hR1 hcu hz hd hT hSt ha hN
  case getstatic a1 =>
    have e1 := len_of hLn (fun z => by simp [iL] at z)
    change len = _ at e1
    subst e1
    exact k_getstatic C hml hR1 hcu hz hd hT hSt ha hN
  case getfield a1 =>
    have e1 := len_of hLn (fun z => by simp [iL] at z)
    change len = _ at e1
    subst e1
    exact k_getfield C hml hR1 hcu hz hd hT hSt ha hN
  case putfield a1 =>
    have e1 := len_of hLn (fun z => by simp [iL] at z)
    change len = _ at e1
    subst e1
    exact k_putfield C hml hR1 hcu hz hd hT hSt ha hN
  case anewarray a1 =>
    have e1 := len_of hLn (fun z => by simp [iL] at z)
    change len = _ at e1
    subst e1
    exact k_anewarray C hml hR1 hcu hz hd hT hSt ha hN
  case aconst_null =>
    have e1 := len_of hLn (fun z => by simp [iL] at z)
    change len = _ at e1
    subst e1
    exact k_null C hml hR1 hcu hz hd hT hSt ha hN
  case ifCond a1 a2 =>
    have e1 := len_of hLn (fun z => by simp [iL] at z)
    change len = _ at e1
    subst e1
    exact k_ifCond C hml hR1 hcu hz hd hT hSt ha hN
  case if_icmp a1 a2 =>
    have e1 := len_of hLn (fun z => by simp [iL] at z)
    change len = _ at e1
    subst e1
    exact k_if_icmp C hml hR1 hcu hz hd hT hSt ha hN
  case if_acmp a1 a2 =>
    have e1 := len_of hLn (fun z => by simp [iL] at z)
    change len = _ at e1
    subst e1
    exact k_if_acmp C hml hR1 hcu hz hd hT hSt ha hN
  case iinc a1 a2 =>
    have e1 := len_of hLn (fun z => by simp [iL] at z)
    change len = _ at e1
    subst e1
    exact k_iinc C hml hR1 hcu hz hd hT hSt ha hN
  case tableswitch a1 a2 a3 a4 =>
    exact k_tableswitch C hml hR1 hcu hz hd hT hSt ha hN
  case lookupswitch a1 a2 =>
    exact k_lookupswitch C hml hR1 hcu hz hd hT hSt ha hN
  case newarray a1 =>
    have e1 := len_of hLn (fun z => by simp [iL] at z)
    change len = _ at e1
    subst e1
    exact k_newarray C hml hR1 hcu hz hd hT hSt ha hN
  case new a1 =>
    have e1 := len_of hLn (fun z => by simp [iL] at z)
    change len = _ at e1
    subst e1
    exact k_new C hml hR1 hcu hz hd hT hSt (okN2_of _ _) ha hN
  case invokespecial a1 =>
    have e1 := len_of hLn (fun z => by simp [iL] at z)
    change len = _ at e1
    subst e1
    exact k_invokespecial C hml hR1 hcu hz hd hT hSt hsp ha hN
  case invokevirtual a1 =>
    have e1 := len_of hLn (fun z => by simp [iL] at z)
    change len = _ at e1
    subst e1
    exact k_invokevirtual C hml hR1 hcu hz hd hT hSt hsp hR ha hN
  case invokestatic a1 =>
    have e1 := len_of hLn (fun z => by simp [iL] at z)
    change len = _ at e1
    subst e1
    exact k_invokestatic C hml hR1 hcu hz hd hT hSt hsp ha hN
  case ireturn =>
    simp only [act] at ha
    split at ha
    · first
      | (split at ha <;> first | (obtain ⟨-, rfl⟩ := dt_inj ha; exact absurd rfl (hne _)) | cases ha)
    · cases ha
  case areturn =>
    simp only [act] at ha
    split at ha
    · first
      | (split at ha <;> first | (obtain ⟨-, rfl⟩ := dt_inj ha; exact absurd rfl (hne _)) | cases ha)
    · cases ha
  case return_ =>
    simp only [act] at ha
    split at ha
    · first
      | (split at ha <;> first | (obtain ⟨-, rfl⟩ := dt_inj ha; exact absurd rfl (hne _)) | cases ha)
    · cases ha
  all_goals (simp only [act] at ha; cases ha)
end S19
