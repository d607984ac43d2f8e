/-! a method's contract; returns; calls -/
def retO (w : WP) (ty : Option FieldType) (r : AV) : Option Value := match ty with
  | none => none
  | some _ => some (rv w r)
def Pcc (w : WP) (as : List AV) (h : HP) : Array Value → State → Prop := va_Pc (as.map (rv w)) (fun U => (∀ v ∈ as, inV v) ∧ HR w h U.heap ∧ Wd U ∧ va_K (w_D w) clsL (tysL w) U ∧ SF w U)
def Qcc (w : WP) (ty : Option FieldType) (r : AV) (h2 : HP) : Array Value → State → Outcome → State → Prop := fun _ st o t => o = .returned (retO w ty r) ∧ HR w h2 t.heap ∧ va_F (Aw w) st t ∧ inV r
def rmd (d a b : Nat) : Room := { frames := d + 2, cells := a, slots := b, locals := 41 * (d + 2) }
def MetX (l : Launch) (w : WP) (k d : Nat) (as : List AV) (h : HP) (r : AV) (h2 : HP) : Prop :=
  Met l (mN k) [Cond.code (mN k) (mC k) (meth k).2.2.1 (mR k)] (rmd d (h_sz h2 - h_sz h) (h_sl h2 - h_sl h)) (Pcc w as h) (Qcc w (mR k) r h2) (h_sz h2 - h_sz h) (h_sl h2 - h_sl h) (Aw w)
theorem SF.moved {w : WP} {u U : State} (hvm : u.WarmedH U.vm) (hh : U.heap = u.heap) (h : SF w u) : SF w U := by
  obtain ⟨h1, h2, h3, h4, h5, h6, h7, h8, h9, h10, h11, h12, h13⟩ := h
  have hv := hvm.alike
  rw [← hh] at h1 h2 h3 h4 h7 h8 h9 h10 h12 h13
  exact ⟨fun q hq => va_Z.moved hv (h1 q hq), fun a a1 a2 => va_T.moved hv (h2 a a1 a2), va_T.moved hv h3, fun a a1 a2 => ⟨fun j hj => va_OF.moved hv ((h4 a a1 a2).1 j hj), va_O.moved hv (h4 a a1 a2).2⟩, h5, h6.warm hvm, va_OF.moved hv h7, va_OF.moved hv h8, va_O.moved hv h9, va_T.moved hv h10, h11, vx_Zq.moved hv h12, vx_Zq.moved hv h13⟩
theorem SF.kept {w : WP} {u U : State} (hvm : U.vm = u.vm) {H1 : Heap} (hH : U.heap = H1) (hq : ∀ a : Nat, a < u.heap.size → ¬ Aw w a → H1[a]? = u.heap[a]?) (h : SF w u) : SF w U := by
  obtain ⟨h1, h2, h3, h4, h5, h6, h7, h8, h9, h10, h11, h12, h13⟩ := h
  have hw : u.WarmedH U.vm := by rw [hvm]; exact State.WarmedH.refl u
  have hv := hw.alike
  subst hH
  exact ⟨fun q hq2 => va_Z.moved hv ((h1 q hq2).kept hq), fun a a1 a2 => va_T.moved hv ((h2 a a1 a2).kept hq), va_T.moved hv (h3.kept hq), fun a a1 a2 => ⟨fun j hj => va_OF.moved hv (((h4 a a1 a2).1 j hj).kept hq), va_O.moved hv ((h4 a a1 a2).2.kept hq)⟩, h5, h6.warm hw, va_OF.moved hv (h7.kept hq), va_OF.moved hv (h8.kept hq), va_O.moved hv (h9.kept hq), va_T.moved hv (h10.kept hq), h11, vx_Zq.moved hv (h12.kept hq), vx_Zq.moved hv (h13.kept hq)⟩
section S12
variable {p : Program} {l : Launch} {e : Env} {R : Room} {s : State} {m : MethodId} {args : Array Value} {below : List Frame} {mth : Method} {c : Code} {Q : State → Prop}
variable {w : WP} {z0 l0 : Nat} {cc : ByteArray} {pc : Nat} {lv r : List AV} {h : HP} {own : Nat}
theorem g_ireturn (hx : p.tables.exec = Jvm.exec) (hb : c.code = cc) (hlocks : mth.locks = false) {x : Int} {ty : FieldType} (hd : decode cc pc = .ok (.ireturn, 1)) (hr : mth.sig.returnType = some ty) (hn : r32 x → narrow ty (.int (Int32.ofInt x)) = .int (Int32.ofInt x)) :
    Go p l e R s m args below mth c (MQ below (Qcc w (some ty) (vi x) h) args s (h_sz h - z0) (h_sl h - l0) (Aw w)) w z0 l0 pc lv [vi x] h := fun H locs ls hH hS hL hI =>
  W.zret hx hb hr (hn (ih hI)) (fun t ht _ => ⟨rfl, by rw [ht]; exact hH, hS.F ht, ih hI⟩) hS.2.2 hd hlocks
theorem g_return (hx : p.tables.exec = Jvm.exec) (hb : c.code = cc) (hlocks : mth.locks = false) {v : AV} (hv : inV v) (hd : decode cc pc = .ok (.return_, 1)) (hr : mth.sig.returnType = none) :
    Go p l e R s m args below mth c (MQ below (Qcc w none v h) args s (h_sz h - z0) (h_sl h - l0) (Aw w)) w z0 l0 pc lv [] h := fun H locs ls hH hS hL hI =>
  W.vret hx hb hr (fun t ht _ => ⟨rfl, by rw [ht]; exact hH, hS.F ht, hv⟩) hS.2.2 hd hlocks
theorem g_areturn (hx : p.tables.exec = Jvm.exec) (hb : c.code = cc) (hlocks : mth.locks = false) {a : Nat} {ty : FieldType} (hd : decode cc pc = .ok (.areturn, 1)) (hr : mth.sig.returnType = some ty) (hty : (∃ n, ty = .object n) ∨ ∃ t, ty = .array t) :
    Go p l e R s m args below mth c (MQ below (Qcc w (some ty) (vr a) h) args s (h_sz h - z0) (h_sl h - l0) (Aw w)) w z0 l0 pc lv [vr a] h := fun H locs ls hH hS hL hI =>
  W.aret hx hb hr hty (va_rf_or (ro w a)) (fun t ht _ => ⟨rfl, by rw [ht]; exact hH, hS.F ht, trivial⟩) hS.2.2 hd hlocks
end S12
