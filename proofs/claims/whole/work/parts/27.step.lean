def CXk (p : Program) (s : State) (m : MethodId) (args : Array Value) (mth : Method) (c : Code) (w : WP) (k : Nat) : Prop :=
  p.tables.exec = Jvm.exec ∧ c.code = mC k ∧ c.maxLocals = (meth k).2.2.1 ∧ s.vm.findClass (oN (meth k).1) = some m.cls ∧ mth.sig.returnType = mR k ∧ mth.locks = false ∧ (k ≠ 268 → mth.name = (mN k).name) ∧ Wd s ∧ va_K (w_D w) clsL (tysL w) s ∧ SF w s ∧ w_b w ≤ s.heap.size
def geH (h h2 : HP) : Prop := h_sz h ≤ h_sz h2 ∧ h_sl h ≤ h_sl h2
theorem dt_inj {g : Bool} {n n2 : NX} (h : (some (g, n) : DT) = some (true, n2)) : g = true ∧ n = n2 := by simpa using h
section S15
variable {p : Program} {l : Launch} {e : Env} {R : Room} {s : State} {m : MethodId} {args : Array Value} {below : List Frame} {mth : Method} {c : Code} {Q : State → Prop}
variable {w : WP} {z0 l0 k pc tgt rt : Nat} {lv st : List AV} {h : HP} {nx : NX}
def tst (t : Nat) (r : AV) (rest : List AV) : List AV := match t with
  | 0 => rest
  | _ => r :: rest
/-- what is wanted of what is next -/
def OkN (p : Program) (l : Launch) (e : Env) (R : Room) (s : State) (m : MethodId) (args : Array Value) (below : List Frame) (mth : Method) (c : Code) (Q : State → Prop) (w : WP) (z0 l0 : Nat) (nx : NX) : Prop := match nx with
  | .inl (pc, lv, st, h) => (h_sz h - z0 ≤ R.cells ∧ h_sl h - l0 ≤ R.slots) ∧ Go p l e R s m args below mth c Q w z0 l0 pc lv st h
  | .inr (.inl (b, (pc, lv, st, h), (pc2, lv2, st2, h2))) => (b = true → Go p l e R s m args below mth c Q w z0 l0 pc lv st h) ∧ (b = false → Go p l e R s m args below mth c Q w z0 l0 pc2 lv2 st2 h2)
  | .inr (.inr (.inl (t, ci, as, h, pc, lv, rest))) => ∃ (d : Nat) (r : AV) (h2 : HP), MetX l w ci d as h r h2 ∧ geH h h2 ∧ d + 3 ≤ R.frames ∧ 41 * (d + 3) ≤ R.locals ∧ h_sz h2 - z0 ≤ R.cells ∧ h_sl h2 - l0 ≤ R.slots ∧ Go p l e R s m args below mth c Q w z0 l0 pc lv (tst t r rest) h2
  | .inr (.inr (.inr (.inl _))) => False
  | .inr (.inr (.inr (.inr (x, ps, (pc, lv, st, h))))) => Go p l e R s m args below mth c Q w z0 l0 (swS x pc ps) lv st h
theorem k_iconst {n : Int} (C : CXk p s m args mth c w k) (hml : (meth k).2.2.1 = lv.length) (hR : 1 ≤ R.frames ∧ 41 ≤ R.locals) (hcu : h_sz h - z0 ≤ R.cells ∧ h_sl h - l0 ≤ R.slots) (hz : z0 ≤ h_sz h ∧ l0 ≤ h_sl h) (hd : decode (mC k) pc = .ok (.iconst n, 1)) (hT : iT (.iconst n) pc tgt = true) (hSt : okS k (meth k) (.iconst n) = true) (ha : act (meth k).1 rt (.iconst n) 1 tgt pc lv st h = some (true, nx)) (hN : OkN p l e R s m args below mth c Q w z0 l0 nx) : Go p l e R s m args below mth c Q w z0 l0 pc lv st h := by
  obtain ⟨hx, hb, hmL, hown, hrt, hlk, hnm, hW, hK, hF, hbs⟩ := C
  simp only [act] at ha
  obtain ⟨hg, rfl⟩ := dt_inj ha
  exact g_iconst hx hb hd (by simp [iT] at hT; exact ⟨by omega, by omega⟩) hN.2
theorem k_bipush {n : Int} (C : CXk p s m args mth c w k) (hml : (meth k).2.2.1 = lv.length) (hR : 1 ≤ R.frames ∧ 41 ≤ R.locals) (hcu : h_sz h - z0 ≤ R.cells ∧ h_sl h - l0 ≤ R.slots) (hz : z0 ≤ h_sz h ∧ l0 ≤ h_sl h) (hd : decode (mC k) pc = .ok (.bipush n, 2)) (hT : iT (.bipush n) pc tgt = true) (hSt : okS k (meth k) (.bipush n) = true) (ha : act (meth k).1 rt (.bipush n) 2 tgt pc lv st h = some (true, nx)) (hN : OkN p l e R s m args below mth c Q w z0 l0 nx) : Go p l e R s m args below mth c Q w z0 l0 pc lv st h := by
  obtain ⟨hx, hb, hmL, hown, hrt, hlk, hnm, hW, hK, hF, hbs⟩ := C
  simp only [act] at ha
  obtain ⟨hg, rfl⟩ := dt_inj ha
  exact g_bipush hx hb hd (by simp [iT] at hT; omega) (by simp [iT] at hT; omega) hN.2
theorem k_sipush {n : Int} (C : CXk p s m args mth c w k) (hml : (meth k).2.2.1 = lv.length) (hR : 1 ≤ R.frames ∧ 41 ≤ R.locals) (hcu : h_sz h - z0 ≤ R.cells ∧ h_sl h - l0 ≤ R.slots) (hz : z0 ≤ h_sz h ∧ l0 ≤ h_sl h) (hd : decode (mC k) pc = .ok (.sipush n, 3)) (hT : iT (.sipush n) pc tgt = true) (hSt : okS k (meth k) (.sipush n) = true) (ha : act (meth k).1 rt (.sipush n) 3 tgt pc lv st h = some (true, nx)) (hN : OkN p l e R s m args below mth c Q w z0 l0 nx) : Go p l e R s m args below mth c Q w z0 l0 pc lv st h := by
  obtain ⟨hx, hb, hmL, hown, hrt, hlk, hnm, hW, hK, hF, hbs⟩ := C
  simp only [act] at ha
  obtain ⟨hg, rfl⟩ := dt_inj ha
  exact g_sipush hx hb hd (by simp [iT] at hT; omega) (by simp [iT] at hT; omega) hN.2
theorem k_lconst {n : Fin 2} (C : CXk p s m args mth c w k) (hml : (meth k).2.2.1 = lv.length) (hR : 1 ≤ R.frames ∧ 41 ≤ R.locals) (hcu : h_sz h - z0 ≤ R.cells ∧ h_sl h - l0 ≤ R.slots) (hz : z0 ≤ h_sz h ∧ l0 ≤ h_sl h) (hd : decode (mC k) pc = .ok (.lconst n, 1)) (hT : iT (.lconst n) pc tgt = true) (hSt : okS k (meth k) (.lconst n) = true) (ha : act (meth k).1 rt (.lconst n) 1 tgt pc lv st h = some (true, nx)) (hN : OkN p l e R s m args below mth c Q w z0 l0 nx) : Go p l e R s m args below mth c Q w z0 l0 pc lv st h := by
  obtain ⟨hx, hb, hmL, hown, hrt, hlk, hnm, hW, hK, hF, hbs⟩ := C
  simp only [act] at ha
  obtain ⟨hg, rfl⟩ := dt_inj ha
  exact g_lconst hx hb hd hN.2
theorem k_null  (C : CXk p s m args mth c w k) (hml : (meth k).2.2.1 = lv.length) (hR : 1 ≤ R.frames ∧ 41 ≤ R.locals) (hcu : h_sz h - z0 ≤ R.cells ∧ h_sl h - l0 ≤ R.slots) (hz : z0 ≤ h_sz h ∧ l0 ≤ h_sl h) (hd : decode (mC k) pc = .ok (.aconst_null, 1)) (hT : iT (.aconst_null) pc tgt = true) (hSt : okS k (meth k) (.aconst_null) = true) (ha : act (meth k).1 rt (.aconst_null) 1 tgt pc lv st h = some (true, nx)) (hN : OkN p l e R s m args below mth c Q w z0 l0 nx) : Go p l e R s m args below mth c Q w z0 l0 pc lv st h := by
  obtain ⟨hx, hb, hmL, hown, hrt, hlk, hnm, hW, hK, hF, hbs⟩ := C
  simp only [act] at ha
  obtain ⟨hg, rfl⟩ := dt_inj ha
  exact g_null hx hb hd hN.2
theorem k_iadd  (C : CXk p s m args mth c w k) (hml : (meth k).2.2.1 = lv.length) (hR : 1 ≤ R.frames ∧ 41 ≤ R.locals) (hcu : h_sz h - z0 ≤ R.cells ∧ h_sl h - l0 ≤ R.slots) (hz : z0 ≤ h_sz h ∧ l0 ≤ h_sl h) (hd : decode (mC k) pc = .ok (.iadd, 1)) (hT : iT (.iadd) pc tgt = true) (hSt : okS k (meth k) (.iadd) = true) (ha : act (meth k).1 rt (.iadd) 1 tgt pc lv st h = some (true, nx)) (hN : OkN p l e R s m args below mth c Q w z0 l0 nx) : Go p l e R s m args below mth c Q w z0 l0 pc lv st h := by
  obtain ⟨hx, hb, hmL, hown, hrt, hlk, hnm, hW, hK, hF, hbs⟩ := C
  simp only [act] at ha
  split at ha
  · obtain ⟨hg, rfl⟩ := dt_inj ha
    exact g_iadd hx hb hd hN.2
  · cases ha
theorem k_isub  (C : CXk p s m args mth c w k) (hml : (meth k).2.2.1 = lv.length) (hR : 1 ≤ R.frames ∧ 41 ≤ R.locals) (hcu : h_sz h - z0 ≤ R.cells ∧ h_sl h - l0 ≤ R.slots) (hz : z0 ≤ h_sz h ∧ l0 ≤ h_sl h) (hd : decode (mC k) pc = .ok (.isub, 1)) (hT : iT (.isub) pc tgt = true) (hSt : okS k (meth k) (.isub) = true) (ha : act (meth k).1 rt (.isub) 1 tgt pc lv st h = some (true, nx)) (hN : OkN p l e R s m args below mth c Q w z0 l0 nx) : Go p l e R s m args below mth c Q w z0 l0 pc lv st h := by
  obtain ⟨hx, hb, hmL, hown, hrt, hlk, hnm, hW, hK, hF, hbs⟩ := C
  simp only [act] at ha
  split at ha
  · obtain ⟨hg, rfl⟩ := dt_inj ha
    exact g_isub hx hb hd hN.2
  · cases ha
theorem k_imul  (C : CXk p s m args mth c w k) (hml : (meth k).2.2.1 = lv.length) (hR : 1 ≤ R.frames ∧ 41 ≤ R.locals) (hcu : h_sz h - z0 ≤ R.cells ∧ h_sl h - l0 ≤ R.slots) (hz : z0 ≤ h_sz h ∧ l0 ≤ h_sl h) (hd : decode (mC k) pc = .ok (.imul, 1)) (hT : iT (.imul) pc tgt = true) (hSt : okS k (meth k) (.imul) = true) (ha : act (meth k).1 rt (.imul) 1 tgt pc lv st h = some (true, nx)) (hN : OkN p l e R s m args below mth c Q w z0 l0 nx) : Go p l e R s m args below mth c Q w z0 l0 pc lv st h := by
  obtain ⟨hx, hb, hmL, hown, hrt, hlk, hnm, hW, hK, hF, hbs⟩ := C
  simp only [act] at ha
  split at ha
  · obtain ⟨hg, rfl⟩ := dt_inj ha
    exact g_imul hx hb hd hN.2
  · cases ha
theorem k_iand  (C : CXk p s m args mth c w k) (hml : (meth k).2.2.1 = lv.length) (hR : 1 ≤ R.frames ∧ 41 ≤ R.locals) (hcu : h_sz h - z0 ≤ R.cells ∧ h_sl h - l0 ≤ R.slots) (hz : z0 ≤ h_sz h ∧ l0 ≤ h_sl h) (hd : decode (mC k) pc = .ok (.iand, 1)) (hT : iT (.iand) pc tgt = true) (hSt : okS k (meth k) (.iand) = true) (ha : act (meth k).1 rt (.iand) 1 tgt pc lv st h = some (true, nx)) (hN : OkN p l e R s m args below mth c Q w z0 l0 nx) : Go p l e R s m args below mth c Q w z0 l0 pc lv st h := by
  obtain ⟨hx, hb, hmL, hown, hrt, hlk, hnm, hW, hK, hF, hbs⟩ := C
  simp only [act] at ha
  split at ha
  · obtain ⟨hg, rfl⟩ := dt_inj ha
    exact g_iand hx hb hd hN.2
  · cases ha
theorem k_ior  (C : CXk p s m args mth c w k) (hml : (meth k).2.2.1 = lv.length) (hR : 1 ≤ R.frames ∧ 41 ≤ R.locals) (hcu : h_sz h - z0 ≤ R.cells ∧ h_sl h - l0 ≤ R.slots) (hz : z0 ≤ h_sz h ∧ l0 ≤ h_sl h) (hd : decode (mC k) pc = .ok (.ior, 1)) (hT : iT (.ior) pc tgt = true) (hSt : okS k (meth k) (.ior) = true) (ha : act (meth k).1 rt (.ior) 1 tgt pc lv st h = some (true, nx)) (hN : OkN p l e R s m args below mth c Q w z0 l0 nx) : Go p l e R s m args below mth c Q w z0 l0 pc lv st h := by
  obtain ⟨hx, hb, hmL, hown, hrt, hlk, hnm, hW, hK, hF, hbs⟩ := C
  simp only [act] at ha
  split at ha
  · obtain ⟨hg, rfl⟩ := dt_inj ha
    exact g_ior hx hb hd hN.2
  · cases ha
theorem k_ixor  (C : CXk p s m args mth c w k) (hml : (meth k).2.2.1 = lv.length) (hR : 1 ≤ R.frames ∧ 41 ≤ R.locals) (hcu : h_sz h - z0 ≤ R.cells ∧ h_sl h - l0 ≤ R.slots) (hz : z0 ≤ h_sz h ∧ l0 ≤ h_sl h) (hd : decode (mC k) pc = .ok (.ixor, 1)) (hT : iT (.ixor) pc tgt = true) (hSt : okS k (meth k) (.ixor) = true) (ha : act (meth k).1 rt (.ixor) 1 tgt pc lv st h = some (true, nx)) (hN : OkN p l e R s m args below mth c Q w z0 l0 nx) : Go p l e R s m args below mth c Q w z0 l0 pc lv st h := by
  obtain ⟨hx, hb, hmL, hown, hrt, hlk, hnm, hW, hK, hF, hbs⟩ := C
  simp only [act] at ha
  split at ha
  · obtain ⟨hg, rfl⟩ := dt_inj ha
    exact g_ixor hx hb hd hN.2
  · cases ha
theorem k_ishl  (C : CXk p s m args mth c w k) (hml : (meth k).2.2.1 = lv.length) (hR : 1 ≤ R.frames ∧ 41 ≤ R.locals) (hcu : h_sz h - z0 ≤ R.cells ∧ h_sl h - l0 ≤ R.slots) (hz : z0 ≤ h_sz h ∧ l0 ≤ h_sl h) (hd : decode (mC k) pc = .ok (.ishl, 1)) (hT : iT (.ishl) pc tgt = true) (hSt : okS k (meth k) (.ishl) = true) (ha : act (meth k).1 rt (.ishl) 1 tgt pc lv st h = some (true, nx)) (hN : OkN p l e R s m args below mth c Q w z0 l0 nx) : Go p l e R s m args below mth c Q w z0 l0 pc lv st h := by
  obtain ⟨hx, hb, hmL, hown, hrt, hlk, hnm, hW, hK, hF, hbs⟩ := C
  simp only [act] at ha
  split at ha
  · obtain ⟨hg, rfl⟩ := dt_inj ha
    exact g_ishl hx hb hd hN.2
  · cases ha
theorem k_ishr  (C : CXk p s m args mth c w k) (hml : (meth k).2.2.1 = lv.length) (hR : 1 ≤ R.frames ∧ 41 ≤ R.locals) (hcu : h_sz h - z0 ≤ R.cells ∧ h_sl h - l0 ≤ R.slots) (hz : z0 ≤ h_sz h ∧ l0 ≤ h_sl h) (hd : decode (mC k) pc = .ok (.ishr, 1)) (hT : iT (.ishr) pc tgt = true) (hSt : okS k (meth k) (.ishr) = true) (ha : act (meth k).1 rt (.ishr) 1 tgt pc lv st h = some (true, nx)) (hN : OkN p l e R s m args below mth c Q w z0 l0 nx) : Go p l e R s m args below mth c Q w z0 l0 pc lv st h := by
  obtain ⟨hx, hb, hmL, hown, hrt, hlk, hnm, hW, hK, hF, hbs⟩ := C
  simp only [act] at ha
  split at ha
  · obtain ⟨hg, rfl⟩ := dt_inj ha
    exact g_ishr hx hb hd hN.2
  · cases ha
theorem k_iushr  (C : CXk p s m args mth c w k) (hml : (meth k).2.2.1 = lv.length) (hR : 1 ≤ R.frames ∧ 41 ≤ R.locals) (hcu : h_sz h - z0 ≤ R.cells ∧ h_sl h - l0 ≤ R.slots) (hz : z0 ≤ h_sz h ∧ l0 ≤ h_sl h) (hd : decode (mC k) pc = .ok (.iushr, 1)) (hT : iT (.iushr) pc tgt = true) (hSt : okS k (meth k) (.iushr) = true) (ha : act (meth k).1 rt (.iushr) 1 tgt pc lv st h = some (true, nx)) (hN : OkN p l e R s m args below mth c Q w z0 l0 nx) : Go p l e R s m args below mth c Q w z0 l0 pc lv st h := by
  obtain ⟨hx, hb, hmL, hown, hrt, hlk, hnm, hW, hK, hF, hbs⟩ := C
  simp only [act] at ha
  split at ha
  · obtain ⟨hg, rfl⟩ := dt_inj ha
    exact g_iushr hx hb hd hN.2
  · cases ha
theorem k_ladd  (C : CXk p s m args mth c w k) (hml : (meth k).2.2.1 = lv.length) (hR : 1 ≤ R.frames ∧ 41 ≤ R.locals) (hcu : h_sz h - z0 ≤ R.cells ∧ h_sl h - l0 ≤ R.slots) (hz : z0 ≤ h_sz h ∧ l0 ≤ h_sl h) (hd : decode (mC k) pc = .ok (.ladd, 1)) (hT : iT (.ladd) pc tgt = true) (hSt : okS k (meth k) (.ladd) = true) (ha : act (meth k).1 rt (.ladd) 1 tgt pc lv st h = some (true, nx)) (hN : OkN p l e R s m args below mth c Q w z0 l0 nx) : Go p l e R s m args below mth c Q w z0 l0 pc lv st h := by
  obtain ⟨hx, hb, hmL, hown, hrt, hlk, hnm, hW, hK, hF, hbs⟩ := C
  simp only [act] at ha
  split at ha
  · obtain ⟨hg, rfl⟩ := dt_inj ha
    exact g_ladd hx hb hd hN.2
  · cases ha
theorem k_lsub  (C : CXk p s m args mth c w k) (hml : (meth k).2.2.1 = lv.length) (hR : 1 ≤ R.frames ∧ 41 ≤ R.locals) (hcu : h_sz h - z0 ≤ R.cells ∧ h_sl h - l0 ≤ R.slots) (hz : z0 ≤ h_sz h ∧ l0 ≤ h_sl h) (hd : decode (mC k) pc = .ok (.lsub, 1)) (hT : iT (.lsub) pc tgt = true) (hSt : okS k (meth k) (.lsub) = true) (ha : act (meth k).1 rt (.lsub) 1 tgt pc lv st h = some (true, nx)) (hN : OkN p l e R s m args below mth c Q w z0 l0 nx) : Go p l e R s m args below mth c Q w z0 l0 pc lv st h := by
  obtain ⟨hx, hb, hmL, hown, hrt, hlk, hnm, hW, hK, hF, hbs⟩ := C
  simp only [act] at ha
  split at ha
  · obtain ⟨hg, rfl⟩ := dt_inj ha
    exact g_lsub hx hb hd hN.2
  · cases ha
theorem k_lmul  (C : CXk p s m args mth c w k) (hml : (meth k).2.2.1 = lv.length) (hR : 1 ≤ R.frames ∧ 41 ≤ R.locals) (hcu : h_sz h - z0 ≤ R.cells ∧ h_sl h - l0 ≤ R.slots) (hz : z0 ≤ h_sz h ∧ l0 ≤ h_sl h) (hd : decode (mC k) pc = .ok (.lmul, 1)) (hT : iT (.lmul) pc tgt = true) (hSt : okS k (meth k) (.lmul) = true) (ha : act (meth k).1 rt (.lmul) 1 tgt pc lv st h = some (true, nx)) (hN : OkN p l e R s m args below mth c Q w z0 l0 nx) : Go p l e R s m args below mth c Q w z0 l0 pc lv st h := by
  obtain ⟨hx, hb, hmL, hown, hrt, hlk, hnm, hW, hK, hF, hbs⟩ := C
  simp only [act] at ha
  split at ha
  · obtain ⟨hg, rfl⟩ := dt_inj ha
    exact g_lmul hx hb hd hN.2
  · cases ha
theorem k_land  (C : CXk p s m args mth c w k) (hml : (meth k).2.2.1 = lv.length) (hR : 1 ≤ R.frames ∧ 41 ≤ R.locals) (hcu : h_sz h - z0 ≤ R.cells ∧ h_sl h - l0 ≤ R.slots) (hz : z0 ≤ h_sz h ∧ l0 ≤ h_sl h) (hd : decode (mC k) pc = .ok (.land, 1)) (hT : iT (.land) pc tgt = true) (hSt : okS k (meth k) (.land) = true) (ha : act (meth k).1 rt (.land) 1 tgt pc lv st h = some (true, nx)) (hN : OkN p l e R s m args below mth c Q w z0 l0 nx) : Go p l e R s m args below mth c Q w z0 l0 pc lv st h := by
  obtain ⟨hx, hb, hmL, hown, hrt, hlk, hnm, hW, hK, hF, hbs⟩ := C
  simp only [act] at ha
  split at ha
  · obtain ⟨hg, rfl⟩ := dt_inj ha
    exact g_land hx hb hd hN.2
  · cases ha
theorem k_lor  (C : CXk p s m args mth c w k) (hml : (meth k).2.2.1 = lv.length) (hR : 1 ≤ R.frames ∧ 41 ≤ R.locals) (hcu : h_sz h - z0 ≤ R.cells ∧ h_sl h - l0 ≤ R.slots) (hz : z0 ≤ h_sz h ∧ l0 ≤ h_sl h) (hd : decode (mC k) pc = .ok (.lor, 1)) (hT : iT (.lor) pc tgt = true) (hSt : okS k (meth k) (.lor) = true) (ha : act (meth k).1 rt (.lor) 1 tgt pc lv st h = some (true, nx)) (hN : OkN p l e R s m args below mth c Q w z0 l0 nx) : Go p l e R s m args below mth c Q w z0 l0 pc lv st h := by
  obtain ⟨hx, hb, hmL, hown, hrt, hlk, hnm, hW, hK, hF, hbs⟩ := C
  simp only [act] at ha
  split at ha
  · obtain ⟨hg, rfl⟩ := dt_inj ha
    exact g_lor hx hb hd hN.2
  · cases ha
theorem k_lshl  (C : CXk p s m args mth c w k) (hml : (meth k).2.2.1 = lv.length) (hR : 1 ≤ R.frames ∧ 41 ≤ R.locals) (hcu : h_sz h - z0 ≤ R.cells ∧ h_sl h - l0 ≤ R.slots) (hz : z0 ≤ h_sz h ∧ l0 ≤ h_sl h) (hd : decode (mC k) pc = .ok (.lshl, 1)) (hT : iT (.lshl) pc tgt = true) (hSt : okS k (meth k) (.lshl) = true) (ha : act (meth k).1 rt (.lshl) 1 tgt pc lv st h = some (true, nx)) (hN : OkN p l e R s m args below mth c Q w z0 l0 nx) : Go p l e R s m args below mth c Q w z0 l0 pc lv st h := by
  obtain ⟨hx, hb, hmL, hown, hrt, hlk, hnm, hW, hK, hF, hbs⟩ := C
  simp only [act] at ha
  split at ha
  · obtain ⟨hg, rfl⟩ := dt_inj ha
    exact g_lshl hx hb hd hN.2
  · cases ha
theorem k_lushr  (C : CXk p s m args mth c w k) (hml : (meth k).2.2.1 = lv.length) (hR : 1 ≤ R.frames ∧ 41 ≤ R.locals) (hcu : h_sz h - z0 ≤ R.cells ∧ h_sl h - l0 ≤ R.slots) (hz : z0 ≤ h_sz h ∧ l0 ≤ h_sl h) (hd : decode (mC k) pc = .ok (.lushr, 1)) (hT : iT (.lushr) pc tgt = true) (hSt : okS k (meth k) (.lushr) = true) (ha : act (meth k).1 rt (.lushr) 1 tgt pc lv st h = some (true, nx)) (hN : OkN p l e R s m args below mth c Q w z0 l0 nx) : Go p l e R s m args below mth c Q w z0 l0 pc lv st h := by
  obtain ⟨hx, hb, hmL, hown, hrt, hlk, hnm, hW, hK, hF, hbs⟩ := C
  simp only [act] at ha
  split at ha
  · obtain ⟨hg, rfl⟩ := dt_inj ha
    exact g_lushr hx hb hd hN.2
  · cases ha
theorem k_lcmp  (C : CXk p s m args mth c w k) (hml : (meth k).2.2.1 = lv.length) (hR : 1 ≤ R.frames ∧ 41 ≤ R.locals) (hcu : h_sz h - z0 ≤ R.cells ∧ h_sl h - l0 ≤ R.slots) (hz : z0 ≤ h_sz h ∧ l0 ≤ h_sl h) (hd : decode (mC k) pc = .ok (.lcmp, 1)) (hT : iT (.lcmp) pc tgt = true) (hSt : okS k (meth k) (.lcmp) = true) (ha : act (meth k).1 rt (.lcmp) 1 tgt pc lv st h = some (true, nx)) (hN : OkN p l e R s m args below mth c Q w z0 l0 nx) : Go p l e R s m args below mth c Q w z0 l0 pc lv st h := by
  obtain ⟨hx, hb, hmL, hown, hrt, hlk, hnm, hW, hK, hF, hbs⟩ := C
  simp only [act] at ha
  split at ha
  · obtain ⟨hg, rfl⟩ := dt_inj ha
    exact g_lcmp hx hb hd hN.2
  · cases ha
theorem k_ineg  (C : CXk p s m args mth c w k) (hml : (meth k).2.2.1 = lv.length) (hR : 1 ≤ R.frames ∧ 41 ≤ R.locals) (hcu : h_sz h - z0 ≤ R.cells ∧ h_sl h - l0 ≤ R.slots) (hz : z0 ≤ h_sz h ∧ l0 ≤ h_sl h) (hd : decode (mC k) pc = .ok (.ineg, 1)) (hT : iT (.ineg) pc tgt = true) (hSt : okS k (meth k) (.ineg) = true) (ha : act (meth k).1 rt (.ineg) 1 tgt pc lv st h = some (true, nx)) (hN : OkN p l e R s m args below mth c Q w z0 l0 nx) : Go p l e R s m args below mth c Q w z0 l0 pc lv st h := by
  obtain ⟨hx, hb, hmL, hown, hrt, hlk, hnm, hW, hK, hF, hbs⟩ := C
  simp only [act] at ha
  split at ha
  · obtain ⟨hg, rfl⟩ := dt_inj ha
    exact g_ineg hx hb hd hN.2
  · cases ha
theorem k_i2l  (C : CXk p s m args mth c w k) (hml : (meth k).2.2.1 = lv.length) (hR : 1 ≤ R.frames ∧ 41 ≤ R.locals) (hcu : h_sz h - z0 ≤ R.cells ∧ h_sl h - l0 ≤ R.slots) (hz : z0 ≤ h_sz h ∧ l0 ≤ h_sl h) (hd : decode (mC k) pc = .ok (.i2l, 1)) (hT : iT (.i2l) pc tgt = true) (hSt : okS k (meth k) (.i2l) = true) (ha : act (meth k).1 rt (.i2l) 1 tgt pc lv st h = some (true, nx)) (hN : OkN p l e R s m args below mth c Q w z0 l0 nx) : Go p l e R s m args below mth c Q w z0 l0 pc lv st h := by
  obtain ⟨hx, hb, hmL, hown, hrt, hlk, hnm, hW, hK, hF, hbs⟩ := C
  simp only [act] at ha
  split at ha
  · obtain ⟨hg, rfl⟩ := dt_inj ha
    exact g_i2l hx hb hd hN.2
  · cases ha
theorem k_i2c  (C : CXk p s m args mth c w k) (hml : (meth k).2.2.1 = lv.length) (hR : 1 ≤ R.frames ∧ 41 ≤ R.locals) (hcu : h_sz h - z0 ≤ R.cells ∧ h_sl h - l0 ≤ R.slots) (hz : z0 ≤ h_sz h ∧ l0 ≤ h_sl h) (hd : decode (mC k) pc = .ok (.i2c, 1)) (hT : iT (.i2c) pc tgt = true) (hSt : okS k (meth k) (.i2c) = true) (ha : act (meth k).1 rt (.i2c) 1 tgt pc lv st h = some (true, nx)) (hN : OkN p l e R s m args below mth c Q w z0 l0 nx) : Go p l e R s m args below mth c Q w z0 l0 pc lv st h := by
  obtain ⟨hx, hb, hmL, hown, hrt, hlk, hnm, hW, hK, hF, hbs⟩ := C
  simp only [act] at ha
  split at ha
  · obtain ⟨hg, rfl⟩ := dt_inj ha
    exact g_i2c hx hb hd hN.2
  · cases ha
theorem k_i2b  (C : CXk p s m args mth c w k) (hml : (meth k).2.2.1 = lv.length) (hR : 1 ≤ R.frames ∧ 41 ≤ R.locals) (hcu : h_sz h - z0 ≤ R.cells ∧ h_sl h - l0 ≤ R.slots) (hz : z0 ≤ h_sz h ∧ l0 ≤ h_sl h) (hd : decode (mC k) pc = .ok (.i2b, 1)) (hT : iT (.i2b) pc tgt = true) (hSt : okS k (meth k) (.i2b) = true) (ha : act (meth k).1 rt (.i2b) 1 tgt pc lv st h = some (true, nx)) (hN : OkN p l e R s m args below mth c Q w z0 l0 nx) : Go p l e R s m args below mth c Q w z0 l0 pc lv st h := by
  obtain ⟨hx, hb, hmL, hown, hrt, hlk, hnm, hW, hK, hF, hbs⟩ := C
  simp only [act] at ha
  split at ha
  · obtain ⟨hg, rfl⟩ := dt_inj ha
    exact g_i2b hx hb hd hN.2
  · cases ha
theorem k_l2i  (C : CXk p s m args mth c w k) (hml : (meth k).2.2.1 = lv.length) (hR : 1 ≤ R.frames ∧ 41 ≤ R.locals) (hcu : h_sz h - z0 ≤ R.cells ∧ h_sl h - l0 ≤ R.slots) (hz : z0 ≤ h_sz h ∧ l0 ≤ h_sl h) (hd : decode (mC k) pc = .ok (.l2i, 1)) (hT : iT (.l2i) pc tgt = true) (hSt : okS k (meth k) (.l2i) = true) (ha : act (meth k).1 rt (.l2i) 1 tgt pc lv st h = some (true, nx)) (hN : OkN p l e R s m args below mth c Q w z0 l0 nx) : Go p l e R s m args below mth c Q w z0 l0 pc lv st h := by
  obtain ⟨hx, hb, hmL, hown, hrt, hlk, hnm, hW, hK, hF, hbs⟩ := C
  simp only [act] at ha
  split at ha
  · obtain ⟨hg, rfl⟩ := dt_inj ha
    exact g_l2i hx hb hd hN.2
  · cases ha
theorem k_idiv  (C : CXk p s m args mth c w k) (hml : (meth k).2.2.1 = lv.length) (hR : 1 ≤ R.frames ∧ 41 ≤ R.locals) (hcu : h_sz h - z0 ≤ R.cells ∧ h_sl h - l0 ≤ R.slots) (hz : z0 ≤ h_sz h ∧ l0 ≤ h_sl h) (hd : decode (mC k) pc = .ok (.idiv, 1)) (hT : iT (.idiv) pc tgt = true) (hSt : okS k (meth k) (.idiv) = true) (ha : act (meth k).1 rt (.idiv) 1 tgt pc lv st h = some (true, nx)) (hN : OkN p l e R s m args below mth c Q w z0 l0 nx) : Go p l e R s m args below mth c Q w z0 l0 pc lv st h := by
  obtain ⟨hx, hb, hmL, hown, hrt, hlk, hnm, hW, hK, hF, hbs⟩ := C
  simp only [act] at ha
  split at ha
  · obtain ⟨hg, rfl⟩ := dt_inj ha
    exact g_idiv hx hb hd (of_decide_eq_true hg) hN.2
  · cases ha
theorem k_irem  (C : CXk p s m args mth c w k) (hml : (meth k).2.2.1 = lv.length) (hR : 1 ≤ R.frames ∧ 41 ≤ R.locals) (hcu : h_sz h - z0 ≤ R.cells ∧ h_sl h - l0 ≤ R.slots) (hz : z0 ≤ h_sz h ∧ l0 ≤ h_sl h) (hd : decode (mC k) pc = .ok (.irem, 1)) (hT : iT (.irem) pc tgt = true) (hSt : okS k (meth k) (.irem) = true) (ha : act (meth k).1 rt (.irem) 1 tgt pc lv st h = some (true, nx)) (hN : OkN p l e R s m args below mth c Q w z0 l0 nx) : Go p l e R s m args below mth c Q w z0 l0 pc lv st h := by
  obtain ⟨hx, hb, hmL, hown, hrt, hlk, hnm, hW, hK, hF, hbs⟩ := C
  simp only [act] at ha
  split at ha
  · obtain ⟨hg, rfl⟩ := dt_inj ha
    exact g_irem hx hb hd (of_decide_eq_true hg) hN.2
  · cases ha
theorem k_ldiv  (C : CXk p s m args mth c w k) (hml : (meth k).2.2.1 = lv.length) (hR : 1 ≤ R.frames ∧ 41 ≤ R.locals) (hcu : h_sz h - z0 ≤ R.cells ∧ h_sl h - l0 ≤ R.slots) (hz : z0 ≤ h_sz h ∧ l0 ≤ h_sl h) (hd : decode (mC k) pc = .ok (.ldiv, 1)) (hT : iT (.ldiv) pc tgt = true) (hSt : okS k (meth k) (.ldiv) = true) (ha : act (meth k).1 rt (.ldiv) 1 tgt pc lv st h = some (true, nx)) (hN : OkN p l e R s m args below mth c Q w z0 l0 nx) : Go p l e R s m args below mth c Q w z0 l0 pc lv st h := by
  obtain ⟨hx, hb, hmL, hown, hrt, hlk, hnm, hW, hK, hF, hbs⟩ := C
  simp only [act] at ha
  split at ha
  · obtain ⟨hg, rfl⟩ := dt_inj ha
    exact g_ldiv hx hb hd (of_decide_eq_true hg) hN.2
  · cases ha
theorem k_lrem  (C : CXk p s m args mth c w k) (hml : (meth k).2.2.1 = lv.length) (hR : 1 ≤ R.frames ∧ 41 ≤ R.locals) (hcu : h_sz h - z0 ≤ R.cells ∧ h_sl h - l0 ≤ R.slots) (hz : z0 ≤ h_sz h ∧ l0 ≤ h_sl h) (hd : decode (mC k) pc = .ok (.lrem, 1)) (hT : iT (.lrem) pc tgt = true) (hSt : okS k (meth k) (.lrem) = true) (ha : act (meth k).1 rt (.lrem) 1 tgt pc lv st h = some (true, nx)) (hN : OkN p l e R s m args below mth c Q w z0 l0 nx) : Go p l e R s m args below mth c Q w z0 l0 pc lv st h := by
  obtain ⟨hx, hb, hmL, hown, hrt, hlk, hnm, hW, hK, hF, hbs⟩ := C
  simp only [act] at ha
  split at ha
  · obtain ⟨hg, rfl⟩ := dt_inj ha
    exact g_lrem hx hb hd (of_decide_eq_true hg) hN.2
  · cases ha
theorem k_iload {i : Nat} (C : CXk p s m args mth c w k) (hml : (meth k).2.2.1 = lv.length) (hR : 1 ≤ R.frames ∧ 41 ≤ R.locals) (hcu : h_sz h - z0 ≤ R.cells ∧ h_sl h - l0 ≤ R.slots) (hz : z0 ≤ h_sz h ∧ l0 ≤ h_sl h) (hd : decode (mC k) pc = .ok (.iload i, 2)) (hT : iT (.iload i) pc tgt = true) (hSt : okS k (meth k) (.iload i) = true) (ha : act (meth k).1 rt (.iload i) 2 tgt pc lv st h = some (true, nx)) (hN : OkN p l e R s m args below mth c Q w z0 l0 nx) : Go p l e R s m args below mth c Q w z0 l0 pc lv st h := by
  obtain ⟨hx, hb, hmL, hown, hrt, hlk, hnm, hW, hK, hF, hbs⟩ := C
  simp only [act] at ha
  split at ha
  · rename_i hv
    obtain ⟨hg, rfl⟩ := dt_inj ha
    exact g_iload hx hb hd hv hN.2
  · cases ha
theorem k_iload_n {i : Fin 4} (C : CXk p s m args mth c w k) (hml : (meth k).2.2.1 = lv.length) (hR : 1 ≤ R.frames ∧ 41 ≤ R.locals) (hcu : h_sz h - z0 ≤ R.cells ∧ h_sl h - l0 ≤ R.slots) (hz : z0 ≤ h_sz h ∧ l0 ≤ h_sl h) (hd : decode (mC k) pc = .ok (.iload_n i, 1)) (hT : iT (.iload_n i) pc tgt = true) (hSt : okS k (meth k) (.iload_n i) = true) (ha : act (meth k).1 rt (.iload_n i) 1 tgt pc lv st h = some (true, nx)) (hN : OkN p l e R s m args below mth c Q w z0 l0 nx) : Go p l e R s m args below mth c Q w z0 l0 pc lv st h := by
  obtain ⟨hx, hb, hmL, hown, hrt, hlk, hnm, hW, hK, hF, hbs⟩ := C
  simp only [act] at ha
  split at ha
  · rename_i hv
    obtain ⟨hg, rfl⟩ := dt_inj ha
    exact g_iload_n hx hb hd hv hN.2
  · cases ha
theorem k_lload {i : Nat} (C : CXk p s m args mth c w k) (hml : (meth k).2.2.1 = lv.length) (hR : 1 ≤ R.frames ∧ 41 ≤ R.locals) (hcu : h_sz h - z0 ≤ R.cells ∧ h_sl h - l0 ≤ R.slots) (hz : z0 ≤ h_sz h ∧ l0 ≤ h_sl h) (hd : decode (mC k) pc = .ok (.lload i, 2)) (hT : iT (.lload i) pc tgt = true) (hSt : okS k (meth k) (.lload i) = true) (ha : act (meth k).1 rt (.lload i) 2 tgt pc lv st h = some (true, nx)) (hN : OkN p l e R s m args below mth c Q w z0 l0 nx) : Go p l e R s m args below mth c Q w z0 l0 pc lv st h := by
  obtain ⟨hx, hb, hmL, hown, hrt, hlk, hnm, hW, hK, hF, hbs⟩ := C
  simp only [act] at ha
  split at ha
  · rename_i hv
    obtain ⟨hg, rfl⟩ := dt_inj ha
    exact g_lload hx hb hd hv hN.2
  · cases ha
theorem k_lload_n {i : Fin 4} (C : CXk p s m args mth c w k) (hml : (meth k).2.2.1 = lv.length) (hR : 1 ≤ R.frames ∧ 41 ≤ R.locals) (hcu : h_sz h - z0 ≤ R.cells ∧ h_sl h - l0 ≤ R.slots) (hz : z0 ≤ h_sz h ∧ l0 ≤ h_sl h) (hd : decode (mC k) pc = .ok (.lload_n i, 1)) (hT : iT (.lload_n i) pc tgt = true) (hSt : okS k (meth k) (.lload_n i) = true) (ha : act (meth k).1 rt (.lload_n i) 1 tgt pc lv st h = some (true, nx)) (hN : OkN p l e R s m args below mth c Q w z0 l0 nx) : Go p l e R s m args below mth c Q w z0 l0 pc lv st h := by
  obtain ⟨hx, hb, hmL, hown, hrt, hlk, hnm, hW, hK, hF, hbs⟩ := C
  simp only [act] at ha
  split at ha
  · rename_i hv
    obtain ⟨hg, rfl⟩ := dt_inj ha
    exact g_lload_n hx hb hd hv hN.2
  · cases ha
theorem k_aload {i : Nat} (C : CXk p s m args mth c w k) (hml : (meth k).2.2.1 = lv.length) (hR : 1 ≤ R.frames ∧ 41 ≤ R.locals) (hcu : h_sz h - z0 ≤ R.cells ∧ h_sl h - l0 ≤ R.slots) (hz : z0 ≤ h_sz h ∧ l0 ≤ h_sl h) (hd : decode (mC k) pc = .ok (.aload i, 2)) (hT : iT (.aload i) pc tgt = true) (hSt : okS k (meth k) (.aload i) = true) (ha : act (meth k).1 rt (.aload i) 2 tgt pc lv st h = some (true, nx)) (hN : OkN p l e R s m args below mth c Q w z0 l0 nx) : Go p l e R s m args below mth c Q w z0 l0 pc lv st h := by
  obtain ⟨hx, hb, hmL, hown, hrt, hlk, hnm, hW, hK, hF, hbs⟩ := C
  simp only [act] at ha
  split at ha
  · rename_i hv
    obtain ⟨hg, rfl⟩ := dt_inj ha
    exact g_aload hx hb hd hv hN.2
  · cases ha
theorem k_aload_n {i : Fin 4} (C : CXk p s m args mth c w k) (hml : (meth k).2.2.1 = lv.length) (hR : 1 ≤ R.frames ∧ 41 ≤ R.locals) (hcu : h_sz h - z0 ≤ R.cells ∧ h_sl h - l0 ≤ R.slots) (hz : z0 ≤ h_sz h ∧ l0 ≤ h_sl h) (hd : decode (mC k) pc = .ok (.aload_n i, 1)) (hT : iT (.aload_n i) pc tgt = true) (hSt : okS k (meth k) (.aload_n i) = true) (ha : act (meth k).1 rt (.aload_n i) 1 tgt pc lv st h = some (true, nx)) (hN : OkN p l e R s m args below mth c Q w z0 l0 nx) : Go p l e R s m args below mth c Q w z0 l0 pc lv st h := by
  obtain ⟨hx, hb, hmL, hown, hrt, hlk, hnm, hW, hK, hF, hbs⟩ := C
  simp only [act] at ha
  split at ha
  · rename_i hv
    obtain ⟨hg, rfl⟩ := dt_inj ha
    exact g_aload_n hx hb hd hv hN.2
  · cases ha
theorem k_istore {i : Nat} (C : CXk p s m args mth c w k) (hml : (meth k).2.2.1 = lv.length) (hR : 1 ≤ R.frames ∧ 41 ≤ R.locals) (hcu : h_sz h - z0 ≤ R.cells ∧ h_sl h - l0 ≤ R.slots) (hz : z0 ≤ h_sz h ∧ l0 ≤ h_sl h) (hd : decode (mC k) pc = .ok (.istore i, 2)) (hT : iT (.istore i) pc tgt = true) (hSt : okS k (meth k) (.istore i) = true) (ha : act (meth k).1 rt (.istore i) 2 tgt pc lv st h = some (true, nx)) (hN : OkN p l e R s m args below mth c Q w z0 l0 nx) : Go p l e R s m args below mth c Q w z0 l0 pc lv st h := by
  obtain ⟨hx, hb, hmL, hown, hrt, hlk, hnm, hW, hK, hF, hbs⟩ := C
  simp only [act] at ha
  split at ha
  · obtain ⟨hg, rfl⟩ := dt_inj ha
    exact g_istore hx hb hd (by rw [← hml]; exact of_decide_eq_true hSt) hN.2
  · cases ha
theorem k_istore_n {i : Fin 4} (C : CXk p s m args mth c w k) (hml : (meth k).2.2.1 = lv.length) (hR : 1 ≤ R.frames ∧ 41 ≤ R.locals) (hcu : h_sz h - z0 ≤ R.cells ∧ h_sl h - l0 ≤ R.slots) (hz : z0 ≤ h_sz h ∧ l0 ≤ h_sl h) (hd : decode (mC k) pc = .ok (.istore_n i, 1)) (hT : iT (.istore_n i) pc tgt = true) (hSt : okS k (meth k) (.istore_n i) = true) (ha : act (meth k).1 rt (.istore_n i) 1 tgt pc lv st h = some (true, nx)) (hN : OkN p l e R s m args below mth c Q w z0 l0 nx) : Go p l e R s m args below mth c Q w z0 l0 pc lv st h := by
  obtain ⟨hx, hb, hmL, hown, hrt, hlk, hnm, hW, hK, hF, hbs⟩ := C
  simp only [act] at ha
  split at ha
  · obtain ⟨hg, rfl⟩ := dt_inj ha
    exact g_istore_n hx hb hd (by rw [← hml]; exact of_decide_eq_true hSt) hN.2
  · cases ha
theorem k_astore {i : Nat} (C : CXk p s m args mth c w k) (hml : (meth k).2.2.1 = lv.length) (hR : 1 ≤ R.frames ∧ 41 ≤ R.locals) (hcu : h_sz h - z0 ≤ R.cells ∧ h_sl h - l0 ≤ R.slots) (hz : z0 ≤ h_sz h ∧ l0 ≤ h_sl h) (hd : decode (mC k) pc = .ok (.astore i, 2)) (hT : iT (.astore i) pc tgt = true) (hSt : okS k (meth k) (.astore i) = true) (ha : act (meth k).1 rt (.astore i) 2 tgt pc lv st h = some (true, nx)) (hN : OkN p l e R s m args below mth c Q w z0 l0 nx) : Go p l e R s m args below mth c Q w z0 l0 pc lv st h := by
  obtain ⟨hx, hb, hmL, hown, hrt, hlk, hnm, hW, hK, hF, hbs⟩ := C
  simp only [act] at ha
  split at ha
  · obtain ⟨hg, rfl⟩ := dt_inj ha
    exact g_astore hx hb hd (by rw [← hml]; exact of_decide_eq_true hSt) hN.2
  · cases ha
theorem k_astore_n {i : Fin 4} (C : CXk p s m args mth c w k) (hml : (meth k).2.2.1 = lv.length) (hR : 1 ≤ R.frames ∧ 41 ≤ R.locals) (hcu : h_sz h - z0 ≤ R.cells ∧ h_sl h - l0 ≤ R.slots) (hz : z0 ≤ h_sz h ∧ l0 ≤ h_sl h) (hd : decode (mC k) pc = .ok (.astore_n i, 1)) (hT : iT (.astore_n i) pc tgt = true) (hSt : okS k (meth k) (.astore_n i) = true) (ha : act (meth k).1 rt (.astore_n i) 1 tgt pc lv st h = some (true, nx)) (hN : OkN p l e R s m args below mth c Q w z0 l0 nx) : Go p l e R s m args below mth c Q w z0 l0 pc lv st h := by
  obtain ⟨hx, hb, hmL, hown, hrt, hlk, hnm, hW, hK, hF, hbs⟩ := C
  simp only [act] at ha
  split at ha
  · obtain ⟨hg, rfl⟩ := dt_inj ha
    exact g_astore_n hx hb hd (by rw [← hml]; exact of_decide_eq_true hSt) hN.2
  · cases ha
theorem k_lstore {i : Nat} (C : CXk p s m args mth c w k) (hml : (meth k).2.2.1 = lv.length) (hR : 1 ≤ R.frames ∧ 41 ≤ R.locals) (hcu : h_sz h - z0 ≤ R.cells ∧ h_sl h - l0 ≤ R.slots) (hz : z0 ≤ h_sz h ∧ l0 ≤ h_sl h) (hd : decode (mC k) pc = .ok (.lstore i, 2)) (hT : iT (.lstore i) pc tgt = true) (hSt : okS k (meth k) (.lstore i) = true) (ha : act (meth k).1 rt (.lstore i) 2 tgt pc lv st h = some (true, nx)) (hN : OkN p l e R s m args below mth c Q w z0 l0 nx) : Go p l e R s m args below mth c Q w z0 l0 pc lv st h := by
  obtain ⟨hx, hb, hmL, hown, hrt, hlk, hnm, hW, hK, hF, hbs⟩ := C
  simp only [act] at ha
  split at ha
  · obtain ⟨hg, rfl⟩ := dt_inj ha
    exact g_lstore hx hb hd (by rw [← hml]; exact of_decide_eq_true hSt) hN.2
  · cases ha
theorem k_lstore_n {i : Fin 4} (C : CXk p s m args mth c w k) (hml : (meth k).2.2.1 = lv.length) (hR : 1 ≤ R.frames ∧ 41 ≤ R.locals) (hcu : h_sz h - z0 ≤ R.cells ∧ h_sl h - l0 ≤ R.slots) (hz : z0 ≤ h_sz h ∧ l0 ≤ h_sl h) (hd : decode (mC k) pc = .ok (.lstore_n i, 1)) (hT : iT (.lstore_n i) pc tgt = true) (hSt : okS k (meth k) (.lstore_n i) = true) (ha : act (meth k).1 rt (.lstore_n i) 1 tgt pc lv st h = some (true, nx)) (hN : OkN p l e R s m args below mth c Q w z0 l0 nx) : Go p l e R s m args below mth c Q w z0 l0 pc lv st h := by
  obtain ⟨hx, hb, hmL, hown, hrt, hlk, hnm, hW, hK, hF, hbs⟩ := C
  simp only [act] at ha
  split at ha
  · obtain ⟨hg, rfl⟩ := dt_inj ha
    exact g_lstore_n hx hb hd (by rw [← hml]; exact of_decide_eq_true hSt) hN.2
  · cases ha
theorem k_iinc {i : Nat} {n : Int} (C : CXk p s m args mth c w k) (hml : (meth k).2.2.1 = lv.length) (hR : 1 ≤ R.frames ∧ 41 ≤ R.locals) (hcu : h_sz h - z0 ≤ R.cells ∧ h_sl h - l0 ≤ R.slots) (hz : z0 ≤ h_sz h ∧ l0 ≤ h_sl h) (hd : decode (mC k) pc = .ok (.iinc i n, 3)) (hT : iT (.iinc i n) pc tgt = true) (hSt : okS k (meth k) (.iinc i n) = true) (ha : act (meth k).1 rt (.iinc i n) 3 tgt pc lv st h = some (true, nx)) (hN : OkN p l e R s m args below mth c Q w z0 l0 nx) : Go p l e R s m args below mth c Q w z0 l0 pc lv st h := by
  obtain ⟨hx, hb, hmL, hown, hrt, hlk, hnm, hW, hK, hF, hbs⟩ := C
  simp only [act] at ha
  split at ha
  · rename_i hv
    obtain ⟨hg, rfl⟩ := dt_inj ha
    exact g_iinc hx hb hd hv hN.2
  · cases ha
theorem k_dup  (C : CXk p s m args mth c w k) (hml : (meth k).2.2.1 = lv.length) (hR : 1 ≤ R.frames ∧ 41 ≤ R.locals) (hcu : h_sz h - z0 ≤ R.cells ∧ h_sl h - l0 ≤ R.slots) (hz : z0 ≤ h_sz h ∧ l0 ≤ h_sl h) (hd : decode (mC k) pc = .ok (.dup, 1)) (hT : iT (.dup) pc tgt = true) (hSt : okS k (meth k) (.dup) = true) (ha : act (meth k).1 rt (.dup) 1 tgt pc lv st h = some (true, nx)) (hN : OkN p l e R s m args below mth c Q w z0 l0 nx) : Go p l e R s m args below mth c Q w z0 l0 pc lv st h := by
  obtain ⟨hx, hb, hmL, hown, hrt, hlk, hnm, hW, hK, hF, hbs⟩ := C
  simp only [act] at ha
  split at ha
  · obtain ⟨hg, rfl⟩ := dt_inj ha
    exact g_dup hx hb rfl hd hN.2
  · obtain ⟨hg, rfl⟩ := dt_inj ha
    exact g_dup hx hb rfl hd hN.2
  · cases ha
theorem k_dup2  (C : CXk p s m args mth c w k) (hml : (meth k).2.2.1 = lv.length) (hR : 1 ≤ R.frames ∧ 41 ≤ R.locals) (hcu : h_sz h - z0 ≤ R.cells ∧ h_sl h - l0 ≤ R.slots) (hz : z0 ≤ h_sz h ∧ l0 ≤ h_sl h) (hd : decode (mC k) pc = .ok (.dup2, 1)) (hT : iT (.dup2) pc tgt = true) (hSt : okS k (meth k) (.dup2) = true) (ha : act (meth k).1 rt (.dup2) 1 tgt pc lv st h = some (true, nx)) (hN : OkN p l e R s m args below mth c Q w z0 l0 nx) : Go p l e R s m args below mth c Q w z0 l0 pc lv st h := by
  obtain ⟨hx, hb, hmL, hown, hrt, hlk, hnm, hW, hK, hF, hbs⟩ := C
  simp only [act] at ha
  split at ha
  · obtain ⟨hg, rfl⟩ := dt_inj ha
    exact g_dup2 hx hb rfl rfl hd hN.2
  · cases ha
theorem k_pop  (C : CXk p s m args mth c w k) (hml : (meth k).2.2.1 = lv.length) (hR : 1 ≤ R.frames ∧ 41 ≤ R.locals) (hcu : h_sz h - z0 ≤ R.cells ∧ h_sl h - l0 ≤ R.slots) (hz : z0 ≤ h_sz h ∧ l0 ≤ h_sl h) (hd : decode (mC k) pc = .ok (.pop, 1)) (hT : iT (.pop) pc tgt = true) (hSt : okS k (meth k) (.pop) = true) (ha : act (meth k).1 rt (.pop) 1 tgt pc lv st h = some (true, nx)) (hN : OkN p l e R s m args below mth c Q w z0 l0 nx) : Go p l e R s m args below mth c Q w z0 l0 pc lv st h := by
  obtain ⟨hx, hb, hmL, hown, hrt, hlk, hnm, hW, hK, hF, hbs⟩ := C
  simp only [act] at ha
  split at ha
  · obtain ⟨hg, rfl⟩ := dt_inj ha
    exact g_pop hx hb rfl hd hN.2
  · obtain ⟨hg, rfl⟩ := dt_inj ha
    exact g_pop hx hb rfl hd hN.2
  · cases ha
theorem k_goto {o : Int} (C : CXk p s m args mth c w k) (hml : (meth k).2.2.1 = lv.length) (hR : 1 ≤ R.frames ∧ 41 ≤ R.locals) (hcu : h_sz h - z0 ≤ R.cells ∧ h_sl h - l0 ≤ R.slots) (hz : z0 ≤ h_sz h ∧ l0 ≤ h_sl h) (hd : decode (mC k) pc = .ok (.goto o, 3)) (hT : iT (.goto o) pc tgt = true) (hSt : okS k (meth k) (.goto o) = true) (ha : act (meth k).1 rt (.goto o) 3 tgt pc lv st h = some (true, nx)) (hN : OkN p l e R s m args below mth c Q w z0 l0 nx) : Go p l e R s m args below mth c Q w z0 l0 pc lv st h := by
  obtain ⟨hx, hb, hmL, hown, hrt, hlk, hnm, hW, hK, hF, hbs⟩ := C
  simp only [act] at ha
  obtain ⟨hg, rfl⟩ := dt_inj ha
  exact g_goto hx hb hd (of_decide_eq_true hT) hN.2
theorem k_ifCond {cn : ClassFile.Cond} {o : Int} (C : CXk p s m args mth c w k) (hml : (meth k).2.2.1 = lv.length) (hR : 1 ≤ R.frames ∧ 41 ≤ R.locals) (hcu : h_sz h - z0 ≤ R.cells ∧ h_sl h - l0 ≤ R.slots) (hz : z0 ≤ h_sz h ∧ l0 ≤ h_sl h) (hd : decode (mC k) pc = .ok (.ifCond cn o, 3)) (hT : iT (.ifCond cn o) pc tgt = true) (hSt : okS k (meth k) (.ifCond cn o) = true) (ha : act (meth k).1 rt (.ifCond cn o) 3 tgt pc lv st h = some (true, nx)) (hN : OkN p l e R s m args below mth c Q w z0 l0 nx) : Go p l e R s m args below mth c Q w z0 l0 pc lv st h := by
  obtain ⟨hx, hb, hmL, hown, hrt, hlk, hnm, hW, hK, hF, hbs⟩ := C
  simp only [act] at ha
  split at ha
  · obtain ⟨hg, rfl⟩ := dt_inj ha
    cases cn with
    | eq => exact g_if_eq hx hb hd (of_decide_eq_true hT) (fun z => hN.1 (decide_eq_true z)) (fun z => hN.2 (decide_eq_false z))
    | ne => exact g_if_ne hx hb hd (of_decide_eq_true hT) (fun z => hN.1 (decide_eq_true z)) (fun z => hN.2 (decide_eq_false z))
    | lt => exact g_if_lt hx hb hd (of_decide_eq_true hT) (fun z => hN.1 (decide_eq_true z)) (fun z => hN.2 (decide_eq_false z))
    | ge => exact g_if_ge hx hb hd (of_decide_eq_true hT) (fun z => hN.1 (decide_eq_true z)) (fun z => hN.2 (decide_eq_false z))
    | gt => exact g_if_gt hx hb hd (of_decide_eq_true hT) (fun z => hN.1 (decide_eq_true z)) (fun z => hN.2 (decide_eq_false z))
    | le => exact g_if_le hx hb hd (of_decide_eq_true hT) (fun z => hN.1 (decide_eq_true z)) (fun z => hN.2 (decide_eq_false z))
  · cases ha
theorem k_if_icmp {cn : ClassFile.Cond} {o : Int} (C : CXk p s m args mth c w k) (hml : (meth k).2.2.1 = lv.length) (hR : 1 ≤ R.frames ∧ 41 ≤ R.locals) (hcu : h_sz h - z0 ≤ R.cells ∧ h_sl h - l0 ≤ R.slots) (hz : z0 ≤ h_sz h ∧ l0 ≤ h_sl h) (hd : decode (mC k) pc = .ok (.if_icmp cn o, 3)) (hT : iT (.if_icmp cn o) pc tgt = true) (hSt : okS k (meth k) (.if_icmp cn o) = true) (ha : act (meth k).1 rt (.if_icmp cn o) 3 tgt pc lv st h = some (true, nx)) (hN : OkN p l e R s m args below mth c Q w z0 l0 nx) : Go p l e R s m args below mth c Q w z0 l0 pc lv st h := by
  obtain ⟨hx, hb, hmL, hown, hrt, hlk, hnm, hW, hK, hF, hbs⟩ := C
  simp only [act] at ha
  split at ha
  · obtain ⟨hg, rfl⟩ := dt_inj ha
    cases cn with
    | eq => exact g_icmp_eq hx hb hd (of_decide_eq_true hT) (fun z => hN.1 (decide_eq_true z)) (fun z => hN.2 (decide_eq_false z))
    | ne => exact g_icmp_ne hx hb hd (of_decide_eq_true hT) (fun z => hN.1 (decide_eq_true z)) (fun z => hN.2 (decide_eq_false z))
    | lt => exact g_icmp_lt hx hb hd (of_decide_eq_true hT) (fun z => hN.1 (decide_eq_true z)) (fun z => hN.2 (decide_eq_false z))
    | ge => exact g_icmp_ge hx hb hd (of_decide_eq_true hT) (fun z => hN.1 (decide_eq_true z)) (fun z => hN.2 (decide_eq_false z))
    | gt => exact g_icmp_gt hx hb hd (of_decide_eq_true hT) (fun z => hN.1 (decide_eq_true z)) (fun z => hN.2 (decide_eq_false z))
    | le => exact g_icmp_le hx hb hd (of_decide_eq_true hT) (fun z => hN.1 (decide_eq_true z)) (fun z => hN.2 (decide_eq_false z))
  · cases ha
theorem k_ifnull {o : Int} (C : CXk p s m args mth c w k) (hml : (meth k).2.2.1 = lv.length) (hR : 1 ≤ R.frames ∧ 41 ≤ R.locals) (hcu : h_sz h - z0 ≤ R.cells ∧ h_sl h - l0 ≤ R.slots) (hz : z0 ≤ h_sz h ∧ l0 ≤ h_sl h) (hd : decode (mC k) pc = .ok (.ifnull o, 3)) (hT : iT (.ifnull o) pc tgt = true) (hSt : okS k (meth k) (.ifnull o) = true) (ha : act (meth k).1 rt (.ifnull o) 3 tgt pc lv st h = some (true, nx)) (hN : OkN p l e R s m args below mth c Q w z0 l0 nx) : Go p l e R s m args below mth c Q w z0 l0 pc lv st h := by
  obtain ⟨hx, hb, hmL, hown, hrt, hlk, hnm, hW, hK, hF, hbs⟩ := C
  simp only [act] at ha
  split at ha
  · obtain ⟨hg, rfl⟩ := dt_inj ha
    exact g_ifnull hx hb hd (of_decide_eq_true hT) (fun z => hN.1 (decide_eq_true z)) (fun z => hN.2 (decide_eq_false z))
  · cases ha
theorem k_ifnonnull {o : Int} (C : CXk p s m args mth c w k) (hml : (meth k).2.2.1 = lv.length) (hR : 1 ≤ R.frames ∧ 41 ≤ R.locals) (hcu : h_sz h - z0 ≤ R.cells ∧ h_sl h - l0 ≤ R.slots) (hz : z0 ≤ h_sz h ∧ l0 ≤ h_sl h) (hd : decode (mC k) pc = .ok (.ifnonnull o, 3)) (hT : iT (.ifnonnull o) pc tgt = true) (hSt : okS k (meth k) (.ifnonnull o) = true) (ha : act (meth k).1 rt (.ifnonnull o) 3 tgt pc lv st h = some (true, nx)) (hN : OkN p l e R s m args below mth c Q w z0 l0 nx) : Go p l e R s m args below mth c Q w z0 l0 pc lv st h := by
  obtain ⟨hx, hb, hmL, hown, hrt, hlk, hnm, hW, hK, hF, hbs⟩ := C
  simp only [act] at ha
  split at ha
  · obtain ⟨hg, rfl⟩ := dt_inj ha
    exact g_ifnonnull hx hb hd (of_decide_eq_true hT) (fun z => hN.1 (decide_eq_true z)) (fun z => hN.2 (decide_eq_false z))
  · cases ha
theorem k_if_acmp {cn : ClassFile.ACond} {o : Int} (C : CXk p s m args mth c w k) (hml : (meth k).2.2.1 = lv.length) (hR : 1 ≤ R.frames ∧ 41 ≤ R.locals) (hcu : h_sz h - z0 ≤ R.cells ∧ h_sl h - l0 ≤ R.slots) (hz : z0 ≤ h_sz h ∧ l0 ≤ h_sl h) (hd : decode (mC k) pc = .ok (.if_acmp cn o, 3)) (hT : iT (.if_acmp cn o) pc tgt = true) (hSt : okS k (meth k) (.if_acmp cn o) = true) (ha : act (meth k).1 rt (.if_acmp cn o) 3 tgt pc lv st h = some (true, nx)) (hN : OkN p l e R s m args below mth c Q w z0 l0 nx) : Go p l e R s m args below mth c Q w z0 l0 pc lv st h := by
  obtain ⟨hx, hb, hmL, hown, hrt, hlk, hnm, hW, hK, hF, hbs⟩ := C
  cases cn with
  | eq =>
    simp only [act] at ha
    split at ha
    · obtain ⟨hg, rfl⟩ := dt_inj ha
      simp only [Bool.and_eq_true, decide_eq_true_eq] at hg
      exact g_acmp_eq hx hb hF hd (of_decide_eq_true hT) hg.2 hg.1 (fun z => hN.1 (decide_eq_true z)) (fun z => hN.2 (decide_eq_false z))
    · cases ha
  | ne =>
    simp only [act] at ha
    split at ha
    · obtain ⟨hg, rfl⟩ := dt_inj ha
      simp only [Bool.and_eq_true, decide_eq_true_eq] at hg
      exact g_acmp_ne hx hb hF hd (of_decide_eq_true hT) hg.2 hg.1 (fun z => hN.1 (decide_eq_true z)) (fun z => hN.2 (decide_eq_false z))
    · cases ha
end S15
