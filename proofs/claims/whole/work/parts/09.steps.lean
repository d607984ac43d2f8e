/-! steps of the real machine by the abstract one's: stack and locals (written by wip/whole/gen_steps.py) -/
section ST
variable {p : Program} {l : Launch} {e : Env} {R : Room} {s : State} {m : MethodId} {args : Array Value} {below : List Frame} {mth : Method} {c : Code} {Q : State → Prop}
variable {w : WP} {z0 l0 : Nat} {cc : ByteArray} {pc : Nat} {lv r : List AV} {h : HP}
def Go (p : Program) (l : Launch) (e : Env) (R : Room) (s : State) (m : MethodId) (args : Array Value) (below : List Frame) (mth : Method) (c : Code) (Q : State → Prop) (w : WP) (z0 l0 pc : Nat) (lv st : List AV) (h : HP) : Prop :=
  ∀ (H : Heap) (locs : List Loc) (ls : Array Slot), HR w h H → va_S (Aw w) s.heap H locs → LVr w ls lv → (∀ v ∈ st, inV v) → W p l e R s m args below mth c H locs (h_sz h - z0) (h_sl h - l0) Q (F0 m pc ls (st.map (rv w)))
theorem ic {v : AV} {st : List AV} (hv : inV v) (h : ∀ u ∈ st, inV u) : ∀ u ∈ v :: st, inV u := List.forall_mem_cons.mpr ⟨hv, h⟩
theorem ih {v : AV} {st : List AV} (h : ∀ u ∈ v :: st, inV u) : inV v := (List.forall_mem_cons.mp h).1
theorem it {v : AV} {st : List AV} (h : ∀ u ∈ v :: st, inV u) : ∀ u ∈ st, inV u := (List.forall_mem_cons.mp h).2
theorem r320 : r32 0 := r0
theorem r640 : r64 0 := ⟨by omega, by omega⟩
theorem g_iadd (hx : p.tables.exec = Jvm.exec) (hb : c.code = cc) {x y : Int} (hd : decode cc pc = .ok (.iadd, 1)) (k : Go p l e R s m args below mth c Q w z0 l0 (pc + 1) lv (vi (i_add x y) :: r) h) : Go p l e R s m args below mth c Q w z0 l0 pc lv (vi y :: vi x :: r) h := by
  intro H locs ls hH hS hL hI
  have k2 := k H locs ls hH hS hL (ic (r32_of _) (it (it hI)))
  refine lv_iadd hx hb hd ?_
  unfold i_add at k2
  simp only [List.map_cons, rv, Int32.ofInt_toInt] at k2
  exact k2
theorem g_isub (hx : p.tables.exec = Jvm.exec) (hb : c.code = cc) {x y : Int} (hd : decode cc pc = .ok (.isub, 1)) (k : Go p l e R s m args below mth c Q w z0 l0 (pc + 1) lv (vi (i_sub x y) :: r) h) : Go p l e R s m args below mth c Q w z0 l0 pc lv (vi y :: vi x :: r) h := by
  intro H locs ls hH hS hL hI
  have k2 := k H locs ls hH hS hL (ic (r32_of _) (it (it hI)))
  refine lv_isub hx hb hd ?_
  unfold i_sub at k2
  simp only [List.map_cons, rv, Int32.ofInt_toInt] at k2
  exact k2
theorem g_imul (hx : p.tables.exec = Jvm.exec) (hb : c.code = cc) {x y : Int} (hd : decode cc pc = .ok (.imul, 1)) (k : Go p l e R s m args below mth c Q w z0 l0 (pc + 1) lv (vi (i_mul x y) :: r) h) : Go p l e R s m args below mth c Q w z0 l0 pc lv (vi y :: vi x :: r) h := by
  intro H locs ls hH hS hL hI
  have k2 := k H locs ls hH hS hL (ic (r32_of _) (it (it hI)))
  refine lv_imul hx hb hd ?_
  unfold i_mul at k2
  simp only [List.map_cons, rv, Int32.ofInt_toInt] at k2
  exact k2
theorem g_iand (hx : p.tables.exec = Jvm.exec) (hb : c.code = cc) {x y : Int} (hd : decode cc pc = .ok (.iand, 1)) (k : Go p l e R s m args below mth c Q w z0 l0 (pc + 1) lv (vi (i_and x y) :: r) h) : Go p l e R s m args below mth c Q w z0 l0 pc lv (vi y :: vi x :: r) h := by
  intro H locs ls hH hS hL hI
  have k2 := k H locs ls hH hS hL (ic (r32_of _) (it (it hI)))
  refine lv_iand hx hb hd ?_
  unfold i_and at k2
  simp only [List.map_cons, rv, Int32.ofInt_toInt] at k2
  exact k2
theorem g_ior (hx : p.tables.exec = Jvm.exec) (hb : c.code = cc) {x y : Int} (hd : decode cc pc = .ok (.ior, 1)) (k : Go p l e R s m args below mth c Q w z0 l0 (pc + 1) lv (vi (i_or x y) :: r) h) : Go p l e R s m args below mth c Q w z0 l0 pc lv (vi y :: vi x :: r) h := by
  intro H locs ls hH hS hL hI
  have k2 := k H locs ls hH hS hL (ic (r32_of _) (it (it hI)))
  refine lv_ior hx hb hd ?_
  unfold i_or at k2
  simp only [List.map_cons, rv, Int32.ofInt_toInt] at k2
  exact k2
theorem g_ixor (hx : p.tables.exec = Jvm.exec) (hb : c.code = cc) {x y : Int} (hd : decode cc pc = .ok (.ixor, 1)) (k : Go p l e R s m args below mth c Q w z0 l0 (pc + 1) lv (vi (i_xor x y) :: r) h) : Go p l e R s m args below mth c Q w z0 l0 pc lv (vi y :: vi x :: r) h := by
  intro H locs ls hH hS hL hI
  have k2 := k H locs ls hH hS hL (ic (r32_of _) (it (it hI)))
  refine lv_ixor hx hb hd ?_
  unfold i_xor at k2
  simp only [List.map_cons, rv, Int32.ofInt_toInt] at k2
  exact k2
theorem g_ishl (hx : p.tables.exec = Jvm.exec) (hb : c.code = cc) {x y : Int} (hd : decode cc pc = .ok (.ishl, 1)) (k : Go p l e R s m args below mth c Q w z0 l0 (pc + 1) lv (vi (i_shl x y) :: r) h) : Go p l e R s m args below mth c Q w z0 l0 pc lv (vi y :: vi x :: r) h := by
  intro H locs ls hH hS hL hI
  have k2 := k H locs ls hH hS hL (ic (r32_of _) (it (it hI)))
  refine lv_ishl hx hb hd ?_
  unfold i_shl at k2
  simp only [List.map_cons, rv, Int32.ofInt_toInt] at k2
  exact k2
theorem g_ishr (hx : p.tables.exec = Jvm.exec) (hb : c.code = cc) {x y : Int} (hd : decode cc pc = .ok (.ishr, 1)) (k : Go p l e R s m args below mth c Q w z0 l0 (pc + 1) lv (vi (i_shr x y) :: r) h) : Go p l e R s m args below mth c Q w z0 l0 pc lv (vi y :: vi x :: r) h := by
  intro H locs ls hH hS hL hI
  have k2 := k H locs ls hH hS hL (ic (r32_of _) (it (it hI)))
  refine lv_ishr hx hb hd ?_
  unfold i_shr at k2
  simp only [List.map_cons, rv, Int32.ofInt_toInt] at k2
  exact k2
theorem g_iushr (hx : p.tables.exec = Jvm.exec) (hb : c.code = cc) {x y : Int} (hd : decode cc pc = .ok (.iushr, 1)) (k : Go p l e R s m args below mth c Q w z0 l0 (pc + 1) lv (vi (i_ushr x y) :: r) h) : Go p l e R s m args below mth c Q w z0 l0 pc lv (vi y :: vi x :: r) h := by
  intro H locs ls hH hS hL hI
  have k2 := k H locs ls hH hS hL (ic (r32_of _) (it (it hI)))
  refine lv_iushr hx hb hd (Int32.ofInt_toInt _).symm ?_
  exact k2
theorem g_idiv (hx : p.tables.exec = Jvm.exec) (hb : c.code = cc) {x y : Int} (hd : decode cc pc = .ok (.idiv, 1)) (hy : y ≠ 0) (k : Go p l e R s m args below mth c Q w z0 l0 (pc + 1) lv (vi (i_div x y) :: r) h) : Go p l e R s m args below mth c Q w z0 l0 pc lv (vi y :: vi x :: r) h := by
  intro H locs ls hH hS hL hI
  have k2 := k H locs ls hH hS hL (ic (r32_of _) (it (it hI)))
  refine lv_idiv hx hb hd (fun z => hy ((eq32 (ih hI) r320).mp z)) ?_
  unfold i_div at k2
  simp only [List.map_cons, rv, Int32.ofInt_toInt] at k2
  exact k2
theorem g_irem (hx : p.tables.exec = Jvm.exec) (hb : c.code = cc) {x y : Int} (hd : decode cc pc = .ok (.irem, 1)) (hy : y ≠ 0) (k : Go p l e R s m args below mth c Q w z0 l0 (pc + 1) lv (vi (i_rem x y) :: r) h) : Go p l e R s m args below mth c Q w z0 l0 pc lv (vi y :: vi x :: r) h := by
  intro H locs ls hH hS hL hI
  have k2 := k H locs ls hH hS hL (ic (r32_of _) (it (it hI)))
  refine lv_irem hx hb hd (fun z => hy ((eq32 (ih hI) r320).mp z)) ?_
  unfold i_rem at k2
  simp only [List.map_cons, rv, Int32.ofInt_toInt] at k2
  exact k2
theorem g_ladd (hx : p.tables.exec = Jvm.exec) (hb : c.code = cc) {x y : Int} (hd : decode cc pc = .ok (.ladd, 1)) (k : Go p l e R s m args below mth c Q w z0 l0 (pc + 1) lv (vl (l_add x y) :: r) h) : Go p l e R s m args below mth c Q w z0 l0 pc lv (vl y :: vl x :: r) h := by
  intro H locs ls hH hS hL hI
  have k2 := k H locs ls hH hS hL (ic (r64_of _) (it (it hI)))
  refine lv_ladd hx hb hd ?_
  unfold l_add at k2
  simp only [List.map_cons, rv, Int64.ofInt_toInt] at k2
  exact k2
theorem g_lsub (hx : p.tables.exec = Jvm.exec) (hb : c.code = cc) {x y : Int} (hd : decode cc pc = .ok (.lsub, 1)) (k : Go p l e R s m args below mth c Q w z0 l0 (pc + 1) lv (vl (l_sub x y) :: r) h) : Go p l e R s m args below mth c Q w z0 l0 pc lv (vl y :: vl x :: r) h := by
  intro H locs ls hH hS hL hI
  have k2 := k H locs ls hH hS hL (ic (r64_of _) (it (it hI)))
  refine lv_lsub hx hb hd ?_
  unfold l_sub at k2
  simp only [List.map_cons, rv, Int64.ofInt_toInt] at k2
  exact k2
theorem g_lmul (hx : p.tables.exec = Jvm.exec) (hb : c.code = cc) {x y : Int} (hd : decode cc pc = .ok (.lmul, 1)) (k : Go p l e R s m args below mth c Q w z0 l0 (pc + 1) lv (vl (l_mul x y) :: r) h) : Go p l e R s m args below mth c Q w z0 l0 pc lv (vl y :: vl x :: r) h := by
  intro H locs ls hH hS hL hI
  have k2 := k H locs ls hH hS hL (ic (r64_of _) (it (it hI)))
  refine lv_lmul hx hb hd ?_
  unfold l_mul at k2
  simp only [List.map_cons, rv, Int64.ofInt_toInt] at k2
  exact k2
theorem g_land (hx : p.tables.exec = Jvm.exec) (hb : c.code = cc) {x y : Int} (hd : decode cc pc = .ok (.land, 1)) (k : Go p l e R s m args below mth c Q w z0 l0 (pc + 1) lv (vl (l_and x y) :: r) h) : Go p l e R s m args below mth c Q w z0 l0 pc lv (vl y :: vl x :: r) h := by
  intro H locs ls hH hS hL hI
  have k2 := k H locs ls hH hS hL (ic (r64_of _) (it (it hI)))
  refine lv_land hx hb hd ?_
  unfold l_and at k2
  simp only [List.map_cons, rv, Int64.ofInt_toInt] at k2
  exact k2
theorem g_lor (hx : p.tables.exec = Jvm.exec) (hb : c.code = cc) {x y : Int} (hd : decode cc pc = .ok (.lor, 1)) (k : Go p l e R s m args below mth c Q w z0 l0 (pc + 1) lv (vl (l_or x y) :: r) h) : Go p l e R s m args below mth c Q w z0 l0 pc lv (vl y :: vl x :: r) h := by
  intro H locs ls hH hS hL hI
  have k2 := k H locs ls hH hS hL (ic (r64_of _) (it (it hI)))
  refine lv_lor hx hb hd ?_
  unfold l_or at k2
  simp only [List.map_cons, rv, Int64.ofInt_toInt] at k2
  exact k2
theorem g_ldiv (hx : p.tables.exec = Jvm.exec) (hb : c.code = cc) {x y : Int} (hd : decode cc pc = .ok (.ldiv, 1)) (hy : y ≠ 0) (k : Go p l e R s m args below mth c Q w z0 l0 (pc + 1) lv (vl (l_div x y) :: r) h) : Go p l e R s m args below mth c Q w z0 l0 pc lv (vl y :: vl x :: r) h := by
  intro H locs ls hH hS hL hI
  have k2 := k H locs ls hH hS hL (ic (r64_of _) (it (it hI)))
  refine lv_ldiv hx hb hd (fun z => hy ((eq64 (ih hI) r640).mp z)) ?_
  unfold l_div at k2
  simp only [List.map_cons, rv, Int64.ofInt_toInt] at k2
  exact k2
theorem g_lrem (hx : p.tables.exec = Jvm.exec) (hb : c.code = cc) {x y : Int} (hd : decode cc pc = .ok (.lrem, 1)) (hy : y ≠ 0) (k : Go p l e R s m args below mth c Q w z0 l0 (pc + 1) lv (vl (l_rem x y) :: r) h) : Go p l e R s m args below mth c Q w z0 l0 pc lv (vl y :: vl x :: r) h := by
  intro H locs ls hH hS hL hI
  have k2 := k H locs ls hH hS hL (ic (r64_of _) (it (it hI)))
  refine lv_lrem hx hb hd (fun z => hy ((eq64 (ih hI) r640).mp z)) ?_
  unfold l_rem at k2
  simp only [List.map_cons, rv, Int64.ofInt_toInt] at k2
  exact k2
theorem g_lshl (hx : p.tables.exec = Jvm.exec) (hb : c.code = cc) {x y : Int} (hd : decode cc pc = .ok (.lshl, 1)) (k : Go p l e R s m args below mth c Q w z0 l0 (pc + 1) lv (vl (l_shl x y) :: r) h) : Go p l e R s m args below mth c Q w z0 l0 pc lv (vi y :: vl x :: r) h := by
  intro H locs ls hH hS hL hI
  have k2 := k H locs ls hH hS hL (ic (r64_of _) (it (it hI)))
  exact lv_lshl hx hb hd (Int64.ofInt_toInt _).symm k2
theorem g_lushr (hx : p.tables.exec = Jvm.exec) (hb : c.code = cc) {x y : Int} (hd : decode cc pc = .ok (.lushr, 1)) (k : Go p l e R s m args below mth c Q w z0 l0 (pc + 1) lv (vl (l_ushr x y) :: r) h) : Go p l e R s m args below mth c Q w z0 l0 pc lv (vi y :: vl x :: r) h := by
  intro H locs ls hH hS hL hI
  have k2 := k H locs ls hH hS hL (ic (r64_of _) (it (it hI)))
  exact lv_lushr hx hb hd (Int64.ofInt_toInt _).symm k2
theorem g_i2c (hx : p.tables.exec = Jvm.exec) (hb : c.code = cc) {x : Int} (hd : decode cc pc = .ok (.i2c, 1)) (k : Go p l e R s m args below mth c Q w z0 l0 (pc + 1) lv (vi (i_chr x) :: r) h) : Go p l e R s m args below mth c Q w z0 l0 pc lv (vi x :: r) h := by
  intro H locs ls hH hS hL hI
  have k2 := k H locs ls hH hS hL (ic (r32_of _) (it hI))
  exact lv_i2c hx hb hd (Int32.ofInt_toInt _).symm k2
theorem g_i2b (hx : p.tables.exec = Jvm.exec) (hb : c.code = cc) {x : Int} (hd : decode cc pc = .ok (.i2b, 1)) (k : Go p l e R s m args below mth c Q w z0 l0 (pc + 1) lv (vi (i_byt x) :: r) h) : Go p l e R s m args below mth c Q w z0 l0 pc lv (vi x :: r) h := by
  intro H locs ls hH hS hL hI
  have k2 := k H locs ls hH hS hL (ic (r32_of _) (it hI))
  exact lv_i2b hx hb hd (Int32.ofInt_toInt _).symm k2
theorem g_l2i (hx : p.tables.exec = Jvm.exec) (hb : c.code = cc) {x : Int} (hd : decode cc pc = .ok (.l2i, 1)) (k : Go p l e R s m args below mth c Q w z0 l0 (pc + 1) lv (vi (l_2i x) :: r) h) : Go p l e R s m args below mth c Q w z0 l0 pc lv (vl x :: r) h := by
  intro H locs ls hH hS hL hI
  have k2 := k H locs ls hH hS hL (ic (r32_of _) (it hI))
  exact lv_l2i hx hb hd (Int32.ofInt_toInt _).symm k2
theorem g_ineg (hx : p.tables.exec = Jvm.exec) (hb : c.code = cc) {x : Int} (hd : decode cc pc = .ok (.ineg, 1)) (k : Go p l e R s m args below mth c Q w z0 l0 (pc + 1) lv (vi (i_neg x) :: r) h) : Go p l e R s m args below mth c Q w z0 l0 pc lv (vi x :: r) h := by
  intro H locs ls hH hS hL hI
  have k2 := k H locs ls hH hS hL (ic (r32_of _) (it hI))
  refine lv_ineg hx hb hd ?_
  unfold i_neg at k2
  simp only [List.map_cons, rv, Int32.ofInt_toInt] at k2
  exact k2
theorem g_i2l (hx : p.tables.exec = Jvm.exec) (hb : c.code = cc) {x : Int} (hd : decode cc pc = .ok (.i2l, 1)) (k : Go p l e R s m args below mth c Q w z0 l0 (pc + 1) lv (vl x :: r) h) : Go p l e R s m args below mth c Q w z0 l0 pc lv (vi x :: r) h := by
  intro H locs ls hH hS hL hI
  have hr : r32 x := ih hI
  have k2 := k H locs ls hH hS hL (ic (v := vl x) ⟨by have := hr.1; omega, by have := hr.2; omega⟩ (it hI))
  refine lv_i2l hx hb hd ?_ k2
  have h1 : (Int32.ofInt x).toInt64.toInt = (Int64.ofInt x).toInt := by
    rw [Int32.toInt_toInt64, of32 hr, of64 ⟨by have := hr.1; omega, by have := hr.2; omega⟩]
  exact Int64.toInt_inj.mp h1
theorem g_lcmp (hx : p.tables.exec = Jvm.exec) (hb : c.code = cc) {x y : Int} (hd : decode cc pc = .ok (.lcmp, 1)) (k : Go p l e R s m args below mth c Q w z0 l0 (pc + 1) lv (vi (l_cmp x y) :: r) h) : Go p l e R s m args below mth c Q w z0 l0 pc lv (vl y :: vl x :: r) h := by
  intro H locs ls hH hS hL hI
  have hy : r64 y := ih hI
  have hx2 : r64 x := ih (it hI)
  have hc : r32 (l_cmp x y) := by unfold l_cmp; split; exact ⟨by omega, by omega⟩; split <;> exact ⟨by omega, by omega⟩
  have k2 := k H locs ls hH hS hL (ic (v := vi (l_cmp x y)) hc (it (it hI)))
  refine W.lcmp hx hb hd ?_
  have e : lg_cmp (Int64.ofInt x) (Int64.ofInt y) = Int32.ofInt (l_cmp x y) := by
    unfold lg_cmp l_cmp
    by_cases h1 : x > y
    · rw [if_pos ((lt64 hy hx2).mpr h1), if_pos h1]; rfl
    · rw [if_neg (fun z => h1 ((lt64 hy hx2).mp z)), if_neg h1]
      by_cases h2 : x = y
      · rw [if_pos ((eq64 hx2 hy).mpr h2), if_pos h2]; rfl
      · rw [if_neg (fun z => h2 ((eq64 hx2 hy).mp z)), if_neg h2]; rfl
  rw [e]
  exact k2
theorem g_iconst (hx : p.tables.exec = Jvm.exec) (hb : c.code = cc) {n : Int} (hd : decode cc pc = .ok (.iconst n, 1)) (hn : r32 n) (k : Go p l e R s m args below mth c Q w z0 l0 (pc + 1) lv (vi n :: r) h) : Go p l e R s m args below mth c Q w z0 l0 pc lv r h := fun H locs ls hH hS hL hI => lv_iconst hx hb hd rfl (k H locs ls hH hS hL (ic hn hI))
theorem g_bipush (hx : p.tables.exec = Jvm.exec) (hb : c.code = cc) {n : Int} (hd : decode cc pc = .ok (.bipush n, 2)) (h1 : -128 ≤ n) (h2 : n < 128) (k : Go p l e R s m args below mth c Q w z0 l0 (pc + 2) lv (vi n :: r) h) : Go p l e R s m args below mth c Q w z0 l0 pc lv r h := fun H locs ls hH hS hL hI => lv_bipush hx hb hd (by
    apply Int32.toInt_inj.mp
    rw [Int8.toInt_toInt32, Int8.toInt_ofInt_of_le (by omega) (by omega), of32 ⟨by omega, by omega⟩]) (k H locs ls hH hS hL (ic (v := vi n) ⟨by omega, by omega⟩ hI))
theorem g_sipush (hx : p.tables.exec = Jvm.exec) (hb : c.code = cc) {n : Int} (hd : decode cc pc = .ok (.sipush n, 3)) (h1 : -32768 ≤ n) (h2 : n < 32768) (k : Go p l e R s m args below mth c Q w z0 l0 (pc + 3) lv (vi n :: r) h) : Go p l e R s m args below mth c Q w z0 l0 pc lv r h := fun H locs ls hH hS hL hI => lv_sipush hx hb hd (by
    apply Int32.toInt_inj.mp
    rw [Int16.toInt_toInt32, Int16.toInt_ofInt_of_le (by omega) (by omega), of32 ⟨by omega, by omega⟩]) (k H locs ls hH hS hL (ic (v := vi n) ⟨by omega, by omega⟩ hI))
theorem g_lconst (hx : p.tables.exec = Jvm.exec) (hb : c.code = cc) {n : Fin 2} (hd : decode cc pc = .ok (.lconst n, 1)) (k : Go p l e R s m args below mth c Q w z0 l0 (pc + 1) lv (vl (n.val : Nat) :: r) h) : Go p l e R s m args below mth c Q w z0 l0 pc lv r h := fun H locs ls hH hS hL hI => lv_lconst hx hb hd rfl (k H locs ls hH hS hL (ic (v := vl (n.val : Nat)) ⟨by have := n.isLt; omega, by have := n.isLt; omega⟩ hI))
theorem g_null (hx : p.tables.exec = Jvm.exec) (hb : c.code = cc) (hd : decode cc pc = .ok (.aconst_null, 1)) (k : Go p l e R s m args below mth c Q w z0 l0 (pc + 1) lv (vr 0 :: r) h) : Go p l e R s m args below mth c Q w z0 l0 pc lv r h := fun H locs ls hH hS hL hI => lv_null hx hb hd (k H locs ls hH hS hL (ic (v := vr 0) trivial hI))
theorem g_iload (hx : p.tables.exec = Jvm.exec) (hb : c.code = cc) {i : Nat} {x : Int} (hd : decode cc pc = .ok (.iload i, 2)) (hv : lv.getD i vu = vi x) (k : Go p l e R s m args below mth c Q w z0 l0 (pc + 2) lv (vi x :: r) h) : Go p l e R s m args below mth c Q w z0 l0 pc lv r h := fun H locs ls hH hS hL hI => lv_iload hx hb hd (hL.gt hv rfl).1 (k H locs ls hH hS hL (ic (hL.gt hv rfl).2 hI))
theorem g_iload_n (hx : p.tables.exec = Jvm.exec) (hb : c.code = cc) {i : Fin 4} {x : Int} (hd : decode cc pc = .ok (.iload_n i, 1)) (hv : lv.getD i.val vu = vi x) (k : Go p l e R s m args below mth c Q w z0 l0 (pc + 1) lv (vi x :: r) h) : Go p l e R s m args below mth c Q w z0 l0 pc lv r h := fun H locs ls hH hS hL hI => lv_iload_n hx hb hd rfl (hL.gt hv rfl).1 (k H locs ls hH hS hL (ic (hL.gt hv rfl).2 hI))
theorem g_lload (hx : p.tables.exec = Jvm.exec) (hb : c.code = cc) {i : Nat} {x : Int} (hd : decode cc pc = .ok (.lload i, 2)) (hv : lv.getD i vu = vl x) (k : Go p l e R s m args below mth c Q w z0 l0 (pc + 2) lv (vl x :: r) h) : Go p l e R s m args below mth c Q w z0 l0 pc lv r h := fun H locs ls hH hS hL hI => lv_lload hx hb hd (hL.gt hv rfl).1 (k H locs ls hH hS hL (ic (hL.gt hv rfl).2 hI))
theorem g_lload_n (hx : p.tables.exec = Jvm.exec) (hb : c.code = cc) {i : Fin 4} {x : Int} (hd : decode cc pc = .ok (.lload_n i, 1)) (hv : lv.getD i.val vu = vl x) (k : Go p l e R s m args below mth c Q w z0 l0 (pc + 1) lv (vl x :: r) h) : Go p l e R s m args below mth c Q w z0 l0 pc lv r h := fun H locs ls hH hS hL hI => lv_lload_n hx hb hd rfl (hL.gt hv rfl).1 (k H locs ls hH hS hL (ic (hL.gt hv rfl).2 hI))
theorem g_aload (hx : p.tables.exec = Jvm.exec) (hb : c.code = cc) {i : Nat} {x : Nat} (hd : decode cc pc = .ok (.aload i, 2)) (hv : lv.getD i vu = vr x) (k : Go p l e R s m args below mth c Q w z0 l0 (pc + 2) lv (vr x :: r) h) : Go p l e R s m args below mth c Q w z0 l0 pc lv r h := by
  intro H locs ls hH hS hL hI
  have k2 := k H locs ls hH hS hL (ic (v := vr x) trivial hI)
  have h1 := (hL.gt hv rfl).1
  simp only [List.map_cons, rv] at k2 h1
  cases hr : ro w x with
  | none => rw [hr] at k2 h1; exact lv_aloadN hx hb hd h1 k2
  | some a => rw [hr] at k2 h1; exact lv_aload hx hb hd h1 k2
theorem g_aload_n (hx : p.tables.exec = Jvm.exec) (hb : c.code = cc) {i : Fin 4} {x : Nat} (hd : decode cc pc = .ok (.aload_n i, 1)) (hv : lv.getD i.val vu = vr x) (k : Go p l e R s m args below mth c Q w z0 l0 (pc + 1) lv (vr x :: r) h) : Go p l e R s m args below mth c Q w z0 l0 pc lv r h := by
  intro H locs ls hH hS hL hI
  have k2 := k H locs ls hH hS hL (ic (v := vr x) trivial hI)
  have h1 := (hL.gt hv rfl).1
  simp only [List.map_cons, rv] at k2 h1
  cases hr : ro w x with
  | none => rw [hr] at k2 h1; exact lv_aload_nN hx hb hd rfl h1 k2
  | some a => rw [hr] at k2 h1; exact lv_aload_n hx hb hd rfl h1 k2
theorem g_istore (hx : p.tables.exec = Jvm.exec) (hb : c.code = cc) {i : Nat} {x : Int} (hd : decode cc pc = .ok (.istore i, 2)) (hi : i < lv.length) (k : Go p l e R s m args below mth c Q w z0 l0 (pc + 2) (st1 lv i (vi x)) r h) : Go p l e R s m args below mth c Q w z0 l0 pc lv (vi x :: r) h := fun H locs ls hH hS hL hI => lv_istore hx hb hd hL.has hi rfl (fun ls2 h2 => k H locs ls2 hH hS (hL.put1 hi (ih hI) h2) (it hI))
theorem g_istore_n (hx : p.tables.exec = Jvm.exec) (hb : c.code = cc) {i : Fin 4} {x : Int} (hd : decode cc pc = .ok (.istore_n i, 1)) (hi : i.val < lv.length) (k : Go p l e R s m args below mth c Q w z0 l0 (pc + 1) (st1 lv i.val (vi x)) r h) : Go p l e R s m args below mth c Q w z0 l0 pc lv (vi x :: r) h := fun H locs ls hH hS hL hI => lv_istore_n hx hb hd rfl hL.has hi rfl (fun ls2 h2 => k H locs ls2 hH hS (hL.put1 hi (ih hI) h2) (it hI))
theorem g_lstore (hx : p.tables.exec = Jvm.exec) (hb : c.code = cc) {i : Nat} {x : Int} (hd : decode cc pc = .ok (.lstore i, 2)) (hi : i + 1 < lv.length) (k : Go p l e R s m args below mth c Q w z0 l0 (pc + 2) (st2 lv i (vl x)) r h) : Go p l e R s m args below mth c Q w z0 l0 pc lv (vl x :: r) h := fun H locs ls hH hS hL hI => lv_lstore hx hb hd hL.has hi rfl (fun ls2 h2 => k H locs ls2 hH hS (hL.put2 hi (ih hI) h2) (it hI))
theorem g_astore (hx : p.tables.exec = Jvm.exec) (hb : c.code = cc) {i : Nat} {x : Nat} (hd : decode cc pc = .ok (.astore i, 2)) (hi : i < lv.length) (k : Go p l e R s m args below mth c Q w z0 l0 (pc + 2) (st1 lv i (vr x)) r h) : Go p l e R s m args below mth c Q w z0 l0 pc lv (vr x :: r) h := by
  intro H locs ls hH hS hL hI
  have key : ∀ ls2, lv_has ls2 lv.length ((i, rv w (vr x)) :: (asc w lv).filter (fun q => !(q.1 == i) && !(q.1 + 1 == i && q.2.category == 2))) → _ := fun ls2 h2 => k H locs ls2 hH hS (hL.put1 (v := vr x) hi trivial h2) (it hI)
  simp only [List.map_cons, rv] at key ⊢
  cases hr : ro w x with
  | none => rw [hr] at key; exact lv_astoreN hx hb hd hL.has hi rfl key
  | some a => rw [hr] at key; exact lv_astore hx hb hd hL.has hi rfl key
theorem g_lstore_n (hx : p.tables.exec = Jvm.exec) (hb : c.code = cc) {i : Fin 4} {x : Int} (hd : decode cc pc = .ok (.lstore_n i, 1)) (hi : i.val + 1 < lv.length) (k : Go p l e R s m args below mth c Q w z0 l0 (pc + 1) (st2 lv i.val (vl x)) r h) : Go p l e R s m args below mth c Q w z0 l0 pc lv (vl x :: r) h := fun H locs ls hH hS hL hI => lv_lstore_n hx hb hd rfl hL.has hi rfl (fun ls2 h2 => k H locs ls2 hH hS (hL.put2 hi (ih hI) h2) (it hI))
theorem g_astore_n (hx : p.tables.exec = Jvm.exec) (hb : c.code = cc) {i : Fin 4} {x : Nat} (hd : decode cc pc = .ok (.astore_n i, 1)) (hi : i.val < lv.length) (k : Go p l e R s m args below mth c Q w z0 l0 (pc + 1) (st1 lv i.val (vr x)) r h) : Go p l e R s m args below mth c Q w z0 l0 pc lv (vr x :: r) h := by
  intro H locs ls hH hS hL hI
  have key : ∀ ls2, lv_has ls2 lv.length ((i.val, rv w (vr x)) :: (asc w lv).filter (fun q => !(q.1 == i.val) && !(q.1 + 1 == i.val && q.2.category == 2))) → _ := fun ls2 h2 => k H locs ls2 hH hS (hL.put1 (v := vr x) hi trivial h2) (it hI)
  simp only [List.map_cons, rv] at key ⊢
  cases hr : ro w x with
  | none => rw [hr] at key; exact lv_astore_nN hx hb hd rfl hL.has hi rfl key
  | some a => rw [hr] at key; exact lv_astore_n hx hb hd rfl hL.has hi rfl key
theorem g_iinc (hx : p.tables.exec = Jvm.exec) (hb : c.code = cc) {i : Nat} {x n : Int} (hd : decode cc pc = .ok (.iinc i n, 3)) (hv : lv.getD i vu = vi x) (k : Go p l e R s m args below mth c Q w z0 l0 (pc + 3) (st1 lv i (vi (i_add x n))) r h) : Go p l e R s m args below mth c Q w z0 l0 pc lv r h := by
  intro H locs ls hH hS hL hI
  have hi : i < lv.length := by
    rcases Nat.lt_or_ge i lv.length with q | q
    · exact q
    · rw [List.getD_eq_getElem?_getD, List.getElem?_eq_none q] at hv; simp at hv
  have hv2 : lv[i]? = some (vi x) := by
    rw [List.getD_eq_getElem?_getD, List.getElem?_eq_getElem hi] at hv
    rw [List.getElem?_eq_getElem hi]
    exact congrArg some hv
  obtain ⟨k1, hk1⟩ := List.getElem?_of_mem (asc_in (w := w) hv2 rfl)
  refine lv_iinc hx hb hd hL.has hk1 (v := Int32.ofInt (i_add x n)) ?_ hi rfl (fun ls2 h2 => k H locs ls2 hH hS (hL.put1 (v := vi (i_add x n)) hi (r32_of _) h2) hI)
  unfold i_add
  rw [Int32.ofInt_toInt]
theorem g_dup (hx : p.tables.exec = Jvm.exec) (hb : c.code = cc) {v : AV} (hc : cat v = 1) (hd : decode cc pc = .ok (.dup, 1)) (k : Go p l e R s m args below mth c Q w z0 l0 (pc + 1) lv (v :: v :: r) h) : Go p l e R s m args below mth c Q w z0 l0 pc lv (v :: r) h := fun H locs ls hH hS hL hI => lv_dup hx hb hd ((rv_cat w v).trans hc) (k H locs ls hH hS hL (ic (ih hI) hI))
theorem g_dup2 (hx : p.tables.exec = Jvm.exec) (hb : c.code = cc) {v u : AV} (hc : cat v = 1) (hc2 : cat u = 1) (hd : decode cc pc = .ok (.dup2, 1)) (k : Go p l e R s m args below mth c Q w z0 l0 (pc + 1) lv (v :: u :: v :: u :: r) h) : Go p l e R s m args below mth c Q w z0 l0 pc lv (v :: u :: r) h := fun H locs ls hH hS hL hI => lv_dup2_11 hx hb hd ((rv_cat w v).trans hc) ((rv_cat w u).trans hc2) (k H locs ls hH hS hL (ic (ih hI) (ic (ih (it hI)) hI)))
theorem g_pop (hx : p.tables.exec = Jvm.exec) (hb : c.code = cc) {v : AV} (hc : cat v = 1) (hd : decode cc pc = .ok (.pop, 1)) (k : Go p l e R s m args below mth c Q w z0 l0 (pc + 1) lv r h) : Go p l e R s m args below mth c Q w z0 l0 pc lv (v :: r) h := fun H locs ls hH hS hL hI => lv_pop hx hb hd ((rv_cat w v).trans hc) (k H locs ls hH hS hL (it hI))
theorem g_goto (hx : p.tables.exec = Jvm.exec) (hb : c.code = cc) {o : Int} {t : Nat} (hd : decode cc pc = .ok (.goto o, 3)) (ht : (pc : Int) + o = (t : Int)) (k : Go p l e R s m args below mth c Q w z0 l0 t lv r h) : Go p l e R s m args below mth c Q w z0 l0 pc lv r h := fun H locs ls hH hS hL hI => lv_goto hx hb hd ht (k H locs ls hH hS hL hI)
theorem g_if_eq (hx : p.tables.exec = Jvm.exec) (hb : c.code = cc) {x o : Int} {t : Nat} (hd : decode cc pc = .ok (.ifCond .eq o, 3)) (ht : (pc : Int) + o = (t : Int)) (k1 : x = 0 → Go p l e R s m args below mth c Q w z0 l0 t lv r h) (k2 : ¬ (x = 0) → Go p l e R s m args below mth c Q w z0 l0 (pc + 3) lv r h) : Go p l e R s m args below mth c Q w z0 l0 pc lv (vi x :: r) h := fun H locs ls hH hS hL hI => lv_if_eq hx hb hd ht (fun z => k1 ((eq32 (ih hI) r0).mp z) H locs ls hH hS hL (it hI)) (fun z => k2 (fun u => z ((eq32 (ih hI) r0).mpr u)) H locs ls hH hS hL (it hI))
theorem g_icmp_eq (hx : p.tables.exec = Jvm.exec) (hb : c.code = cc) {x y o : Int} {t : Nat} (hd : decode cc pc = .ok (.if_icmp .eq o, 3)) (ht : (pc : Int) + o = (t : Int)) (k1 : x = y → Go p l e R s m args below mth c Q w z0 l0 t lv r h) (k2 : ¬ (x = y) → Go p l e R s m args below mth c Q w z0 l0 (pc + 3) lv r h) : Go p l e R s m args below mth c Q w z0 l0 pc lv (vi y :: vi x :: r) h := fun H locs ls hH hS hL hI => lv_icmp_eq hx hb hd ht (fun z => k1 ((eq32 (ih (it hI)) (ih hI)).mp z) H locs ls hH hS hL (it (it hI))) (fun z => k2 (fun u => z ((eq32 (ih (it hI)) (ih hI)).mpr u)) H locs ls hH hS hL (it (it hI)))
theorem g_if_ne (hx : p.tables.exec = Jvm.exec) (hb : c.code = cc) {x o : Int} {t : Nat} (hd : decode cc pc = .ok (.ifCond .ne o, 3)) (ht : (pc : Int) + o = (t : Int)) (k1 : x ≠ 0 → Go p l e R s m args below mth c Q w z0 l0 t lv r h) (k2 : ¬ (x ≠ 0) → Go p l e R s m args below mth c Q w z0 l0 (pc + 3) lv r h) : Go p l e R s m args below mth c Q w z0 l0 pc lv (vi x :: r) h := fun H locs ls hH hS hL hI => lv_if_ne hx hb hd ht (fun z => k1 ((not_congr (eq32 (ih hI) r0)).mp z) H locs ls hH hS hL (it hI)) (fun z => k2 (fun u => u ((eq32 (ih hI) r0).mp z)) H locs ls hH hS hL (it hI))
theorem g_icmp_ne (hx : p.tables.exec = Jvm.exec) (hb : c.code = cc) {x y o : Int} {t : Nat} (hd : decode cc pc = .ok (.if_icmp .ne o, 3)) (ht : (pc : Int) + o = (t : Int)) (k1 : x ≠ y → Go p l e R s m args below mth c Q w z0 l0 t lv r h) (k2 : ¬ (x ≠ y) → Go p l e R s m args below mth c Q w z0 l0 (pc + 3) lv r h) : Go p l e R s m args below mth c Q w z0 l0 pc lv (vi y :: vi x :: r) h := fun H locs ls hH hS hL hI => lv_icmp_ne hx hb hd ht (fun z => k1 ((not_congr (eq32 (ih (it hI)) (ih hI))).mp z) H locs ls hH hS hL (it (it hI))) (fun z => k2 (fun u => u ((eq32 (ih (it hI)) (ih hI)).mp z)) H locs ls hH hS hL (it (it hI)))
theorem g_if_lt (hx : p.tables.exec = Jvm.exec) (hb : c.code = cc) {x o : Int} {t : Nat} (hd : decode cc pc = .ok (.ifCond .lt o, 3)) (ht : (pc : Int) + o = (t : Int)) (k1 : x < 0 → Go p l e R s m args below mth c Q w z0 l0 t lv r h) (k2 : ¬ (x < 0) → Go p l e R s m args below mth c Q w z0 l0 (pc + 3) lv r h) : Go p l e R s m args below mth c Q w z0 l0 pc lv (vi x :: r) h := fun H locs ls hH hS hL hI => lv_if_lt hx hb hd ht (fun z => k1 ((lt32 (ih hI) r0).mp z) H locs ls hH hS hL (it hI)) (fun z => k2 (fun u => z ((lt32 (ih hI) r0).mpr u)) H locs ls hH hS hL (it hI))
theorem g_icmp_lt (hx : p.tables.exec = Jvm.exec) (hb : c.code = cc) {x y o : Int} {t : Nat} (hd : decode cc pc = .ok (.if_icmp .lt o, 3)) (ht : (pc : Int) + o = (t : Int)) (k1 : x < y → Go p l e R s m args below mth c Q w z0 l0 t lv r h) (k2 : ¬ (x < y) → Go p l e R s m args below mth c Q w z0 l0 (pc + 3) lv r h) : Go p l e R s m args below mth c Q w z0 l0 pc lv (vi y :: vi x :: r) h := fun H locs ls hH hS hL hI => lv_icmp_lt hx hb hd ht (fun z => k1 ((lt32 (ih (it hI)) (ih hI)).mp z) H locs ls hH hS hL (it (it hI))) (fun z => k2 (fun u => z ((lt32 (ih (it hI)) (ih hI)).mpr u)) H locs ls hH hS hL (it (it hI)))
theorem g_if_ge (hx : p.tables.exec = Jvm.exec) (hb : c.code = cc) {x o : Int} {t : Nat} (hd : decode cc pc = .ok (.ifCond .ge o, 3)) (ht : (pc : Int) + o = (t : Int)) (k1 : 0 ≤ x → Go p l e R s m args below mth c Q w z0 l0 t lv r h) (k2 : ¬ (0 ≤ x) → Go p l e R s m args below mth c Q w z0 l0 (pc + 3) lv r h) : Go p l e R s m args below mth c Q w z0 l0 pc lv (vi x :: r) h := fun H locs ls hH hS hL hI => lv_if_ge hx hb hd ht (fun z => k1 ((le32 r0 (ih hI)).mp z) H locs ls hH hS hL (it hI)) (fun z => k2 (fun u => z ((le32 r0 (ih hI)).mpr u)) H locs ls hH hS hL (it hI))
theorem g_icmp_ge (hx : p.tables.exec = Jvm.exec) (hb : c.code = cc) {x y o : Int} {t : Nat} (hd : decode cc pc = .ok (.if_icmp .ge o, 3)) (ht : (pc : Int) + o = (t : Int)) (k1 : y ≤ x → Go p l e R s m args below mth c Q w z0 l0 t lv r h) (k2 : ¬ (y ≤ x) → Go p l e R s m args below mth c Q w z0 l0 (pc + 3) lv r h) : Go p l e R s m args below mth c Q w z0 l0 pc lv (vi y :: vi x :: r) h := fun H locs ls hH hS hL hI => lv_icmp_ge hx hb hd ht (fun z => k1 ((le32 (ih hI) (ih (it hI))).mp z) H locs ls hH hS hL (it (it hI))) (fun z => k2 (fun u => z ((le32 (ih hI) (ih (it hI))).mpr u)) H locs ls hH hS hL (it (it hI)))
theorem g_if_gt (hx : p.tables.exec = Jvm.exec) (hb : c.code = cc) {x o : Int} {t : Nat} (hd : decode cc pc = .ok (.ifCond .gt o, 3)) (ht : (pc : Int) + o = (t : Int)) (k1 : 0 < x → Go p l e R s m args below mth c Q w z0 l0 t lv r h) (k2 : ¬ (0 < x) → Go p l e R s m args below mth c Q w z0 l0 (pc + 3) lv r h) : Go p l e R s m args below mth c Q w z0 l0 pc lv (vi x :: r) h := fun H locs ls hH hS hL hI => lv_if_gt hx hb hd ht (fun z => k1 ((lt32 r0 (ih hI)).mp z) H locs ls hH hS hL (it hI)) (fun z => k2 (fun u => z ((lt32 r0 (ih hI)).mpr u)) H locs ls hH hS hL (it hI))
theorem g_icmp_gt (hx : p.tables.exec = Jvm.exec) (hb : c.code = cc) {x y o : Int} {t : Nat} (hd : decode cc pc = .ok (.if_icmp .gt o, 3)) (ht : (pc : Int) + o = (t : Int)) (k1 : y < x → Go p l e R s m args below mth c Q w z0 l0 t lv r h) (k2 : ¬ (y < x) → Go p l e R s m args below mth c Q w z0 l0 (pc + 3) lv r h) : Go p l e R s m args below mth c Q w z0 l0 pc lv (vi y :: vi x :: r) h := fun H locs ls hH hS hL hI => lv_icmp_gt hx hb hd ht (fun z => k1 ((lt32 (ih hI) (ih (it hI))).mp z) H locs ls hH hS hL (it (it hI))) (fun z => k2 (fun u => z ((lt32 (ih hI) (ih (it hI))).mpr u)) H locs ls hH hS hL (it (it hI)))
theorem g_if_le (hx : p.tables.exec = Jvm.exec) (hb : c.code = cc) {x o : Int} {t : Nat} (hd : decode cc pc = .ok (.ifCond .le o, 3)) (ht : (pc : Int) + o = (t : Int)) (k1 : x ≤ 0 → Go p l e R s m args below mth c Q w z0 l0 t lv r h) (k2 : ¬ (x ≤ 0) → Go p l e R s m args below mth c Q w z0 l0 (pc + 3) lv r h) : Go p l e R s m args below mth c Q w z0 l0 pc lv (vi x :: r) h := fun H locs ls hH hS hL hI => lv_if_le hx hb hd ht (fun z => k1 ((le32 (ih hI) r0).mp z) H locs ls hH hS hL (it hI)) (fun z => k2 (fun u => z ((le32 (ih hI) r0).mpr u)) H locs ls hH hS hL (it hI))
theorem g_icmp_le (hx : p.tables.exec = Jvm.exec) (hb : c.code = cc) {x y o : Int} {t : Nat} (hd : decode cc pc = .ok (.if_icmp .le o, 3)) (ht : (pc : Int) + o = (t : Int)) (k1 : x ≤ y → Go p l e R s m args below mth c Q w z0 l0 t lv r h) (k2 : ¬ (x ≤ y) → Go p l e R s m args below mth c Q w z0 l0 (pc + 3) lv r h) : Go p l e R s m args below mth c Q w z0 l0 pc lv (vi y :: vi x :: r) h := fun H locs ls hH hS hL hI => lv_icmp_le hx hb hd ht (fun z => k1 ((le32 (ih (it hI)) (ih hI)).mp z) H locs ls hH hS hL (it (it hI))) (fun z => k2 (fun u => z ((le32 (ih (it hI)) (ih hI)).mpr u)) H locs ls hH hS hL (it (it hI)))
end ST
