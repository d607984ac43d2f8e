section S14
variable {p : Program} {l : Launch} {e : Env} {R : Room} {s : State} {m : MethodId} {args : Array Value} {below : List Frame} {mth : Method} {c : Code} {Q : State → Prop}
variable {w : WP} {z0 l0 : Nat} {cc : ByteArray} {pc : Nat} {lv rest : List AV} {h h2 : HP} {own : Nat}
/-- the parts of a call that every kind has -/
theorem call_B (hW : Wd s) {k ci d n mc ms : Nat} (hci : ci < 266) (hRf : d + 3 ≤ R.frames) (hRl : 41 * (d + 3) ≤ R.locals) (hn : (parseMethodDescriptor (mN ci).desc).map (fun d => d.parameters.length) = some n) (hl : (Cond.methodLink (oN own) k (mN ci)).before args s = true) :
    CallB R s args (oN own) k (mN ci) (mC ci) (meth ci).2.2.1 (mR ci) [Cond.code (mN ci) (mC ci) (meth ci).2.2.1 (mR ci)] (rmd d mc ms) mc ms n := by
  have hw := meth_w hW hci
  refine ⟨rfl, rfl, by show d + 2 + 1 ≤ _; omega, by show 8 + _ + 41 * (d + 2) ≤ _; have := hw.2.2.2.2.2.2.1; omega, fun q hq a' U hU => ?_, List.mem_cons_self, hw.1 _, hw.2.2.2.1 _, hw.2.2.2.2.2.2.2.2, fun sig hs => ?_, hl⟩
  · rw [List.mem_singleton] at hq
    subst hq
    exact (meth_w (hW.warm hU) hci).1 a'
  · rw [hs] at hn; exact (Option.some.inj hn).symm
theorem call_N (hW : Wd s) {k ci d n mc ms : Nat} (hci : ci < 266) (hRf : d + 3 ≤ R.frames) (hRl : 41 * (d + 3) ≤ R.locals) (hn : (parseMethodDescriptor (mN ci).desc).map (fun d => d.parameters.length) = some n) (hl : (Cond.methodLinkNest (oN own) k (mN ci) "IceBridge").before args s = true) :
    va_CN R s args (oN own) k (mN ci) "IceBridge" (mC ci) (meth ci).2.2.1 (mR ci) [Cond.code (mN ci) (mC ci) (meth ci).2.2.1 (mR ci)] (rmd d mc ms) mc ms n := by
  have hw := meth_w hW hci
  refine ⟨⟨rfl, rfl, by show d + 2 + 1 ≤ _; omega, by show 8 + _ + 41 * (d + 2) ≤ _; have := hw.2.2.2.2.2.2.1; omega, fun q hq a' U hU => ?_, List.mem_cons_self⟩, hw.1 _, hw.2.2.2.1 _, hw.2.2.2.2.2.2.2.2, fun sig hs => ?_, hl⟩
  · rw [List.mem_singleton] at hq
    subst hq
    exact (meth_w (hW.warm hU) hci).1 a'
  · rw [hs] at hn; exact (Option.some.inj hn).symm
theorem call_lk (hW : Wd s) {k mode ci n q t : Nat} (hf : mres own k = some (mode, ci, n, q, t)) (hm : mode = 1 ∨ mode = 2) : (Cond.methodLink (oN own) k (mN ci)).before args s = true ∨ (Cond.methodLinkNest (oN own) k (mN ci) "IceBridge").before args s = true := by
  have h1 := mth_of hf
  unfold mOK at h1
  simp only [Bool.and_eq_true, Bool.or_eq_true, decide_eq_true_eq] at h1
  have h2 := h1.1.1
  have e1 : mLk mode ci = mN ci := by rcases hm with rfl | rfl <;> rfl
  rw [e1] at h2
  rcases h2 with g | g
  · exact Or.inl (hW.at g rfl)
  · exact Or.inr (hW.nest g rfl)
theorem st_map (w : WP) (as rest : List AV) : (as.reverse ++ rest).map (rv w) = (as.map (rv w)).reverse ++ rest.map (rv w) := by simp
theorem g_static (hx : p.tables.exec = Jvm.exec) (hb : c.code = cc) (hown : s.vm.findClass (oN own) = some m.cls) (hW : Wd s) (hK : va_K (w_D w) clsL (tysL w) s) (hF : SF w s) (hml : c.maxLocals = lv.length) {k ci n q t d : Nat} {as : List AV} {r : AV} (hd : decode cc pc = .ok (.invokestatic k, 3)) (hf : mres own k = some (1, ci, n, q, t)) (hci : ci < 266)
    (hM : MetX l w ci d as h r h2) (hn : as.length = n) (hc : cats rest ≤ 8) (hRf : d + 3 ≤ R.frames) (hRl : 41 * (d + 3) ≤ R.locals) (hc1 : h_sz h2 - z0 ≤ R.cells) (hs1 : h_sl h2 - l0 ≤ R.slots) (hz : z0 ≤ h_sz h) (hl : l0 ≤ h_sl h) (hgz : h_sz h ≤ h_sz h2) (hgl : h_sl h ≤ h_sl h2)
    (kk : Go p l e R s m args below mth c Q w z0 l0 (pc + 3) lv (rst (mR ci) r rest) h2) : Go p l e R s m args below mth c Q w z0 l0 pc lv (as.reverse ++ rest) h := by
  intro H locs ls hH hS hL hI
  have h1 := mth_of hf
  unfold mOK at h1
  simp only [Bool.and_eq_true, decide_eq_true_eq] at h1
  obtain ⟨⟨-, hst, hpn⟩, -⟩ := h1
  have hw := meth_w hW hci
  rw [st_map]
  refine run_go (k := ci) (t := t) (as := as) (r := r) (ty := mR ci) rfl hS hL (fun v hv => hI v (List.mem_append_right _ hv)) hz hl hgz hgl ?_ kk
  have hW8 : 2 * (F0 m pc ls ((as.map (rv w)).reverse ++ rest.map (rv w))).monitorRoom + ((rest.map (rv w)).map fun v => v.category).sum ≤ 8 := by rw [cats_map]; show 2 * 0 + _ ≤ _; omega
  have hsz : (F0 m pc ls ((as.map (rv w)).reverse ++ rest.map (rv w))).locals.size = lv.length := hL.1
  rcases call_lk hW hf (Or.inl rfl) (args := args) with g | g
  · exact va_runS (Ts := []) ⟨hx, hb, hml, hown, fun _ z => absurd z List.not_mem_nil⟩ hM ⟨call_B hW hci hRf hRl hpn g, (hw.2.1 _).1 hst⟩ ⟨pcc_blind w as h, pcc_pre hW hK hF hH hS as (fun v hv => hI v (List.mem_append_left _ (List.mem_reverse.mpr hv)))⟩ rfl (by simp [hn]) hsz rfl hW8 hd ⟨by omega, by omega⟩
  · exact va_runSN (Ts := []) ⟨hx, hb, hml, hown, fun _ z => absurd z List.not_mem_nil⟩ hM ⟨call_N hW hci hRf hRl hpn g, (hw.2.1 _).1 hst, trivial⟩ ⟨pcc_blind w as h, pcc_pre hW hK hF hH hS as (fun v hv => hI v (List.mem_append_left _ (List.mem_reverse.mpr hv)))⟩ rfl (by simp [hn]) hsz rfl hW8 hd ⟨by omega, by omega⟩
/-- the receiver's cell -/
theorem rcv_of (hK : va_K (w_D w) clsL (tysL w) s) (hF : SF w s) {H : Heap} {locs : List Loc} (hH : HR w h H) (hS : va_S (Aw w) s.heap H locs) {a q : Nat} (hk : isK h a q = true) (hq : q ≤ 9 ∨ q = 23) : ∃ b, rv w (vr a) = .ref b ∧ ∃ cell : Cell, H[b]? = some cell ∧ cell.vm.isStatics = false ∧ s.vm.findClass (bif decide (q ≤ 9) then RC q else "java/lang/String") = some cell.cls := by
  have hka := isK_eq hk
  rcases hq with hq | hq
  · obtain ⟨ha, -, L, n, hn, hm, -, hP, hD⟩ := hH.get (a := a) (by omega)
    rw [cell_obj hka hq] at hn
    obtain ⟨cell, g1, g2, g3⟩ := va_recv hK hP (cls_at (by omega)) hn
    refine ⟨_, ref_dyn ha, cell, g1, g2, ?_⟩
    rw [decide_eq_true hq]; exact g3
  · subst hq
    obtain ⟨ha, hsk⟩ := kd_stat hH hka (by omega) (by omega)
    have a1 := skd_23 hsk
    subst a1
    obtain ⟨cell, g1, g2, g3, g4⟩ := hF.2.2.2.2.2.2.2.2.1
    have hlt : w_sa w 41 < s.heap.size := (Array.getElem?_eq_some_iff.mp g1).1
    exact ⟨_, ref_stat (by omega) (by omega), cell, by rw [hS.2.1 _ hlt g4]; exact g1, g2, g3⟩
theorem g_virt (hx : p.tables.exec = Jvm.exec) (hb : c.code = cc) (hown : s.vm.findClass (oN own) = some m.cls) (hW : Wd s) (hK : va_K (w_D w) clsL (tysL w) s) (hF : SF w s) (hml : c.maxLocals = lv.length) {k ci n q t d a : Nat} {as : List AV} {r : AV} (hv : Bool) (hd : decode cc pc = .ok (bif hv then .invokevirtual k else .invokespecial k, 3)) (hf : mres own k = some (2, ci, n, q, t)) (hci : ci < 266) (hini : hv = false ↔ (mN ci).name = "<init>") (hrn : hv = false → mR ci = none)
    (hk : isK h a q = true) (hM : MetX l w ci d (vr a :: as) h r h2) (hn : as.length + 1 = n) (hc : cats rest ≤ 8) (hRf : d + 3 ≤ R.frames) (hRl : 41 * (d + 3) ≤ R.locals) (hc1 : h_sz h2 - z0 ≤ R.cells) (hs1 : h_sl h2 - l0 ≤ R.slots) (hz : z0 ≤ h_sz h) (hl : l0 ≤ h_sl h) (hgz : h_sz h ≤ h_sz h2) (hgl : h_sl h ≤ h_sl h2)
    (kk : Go p l e R s m args below mth c Q w z0 l0 (pc + 3) lv (rst (mR ci) r rest) h2) : Go p l e R s m args below mth c Q w z0 l0 pc lv (as.reverse ++ vr a :: rest) h := by
  intro H locs ls hH hS hL hI
  have h1 := mth_of hf
  unfold mOK at h1
  simp only [Bool.and_eq_true, Bool.or_eq_true, decide_eq_true_eq, Bool.not_eq_true'] at h1
  obtain ⟨⟨-, ⟨⟨hst, hpn⟩, hq⟩, hcls⟩, -⟩ := h1
  have hpn : (parseMethodDescriptor (mN ci).desc).map (fun d => d.parameters.length) = some as.length := by
    cases hpp : parseMethodDescriptor (mN ci).desc with
    | none => rw [hpp] at hpn; cases hpn
    | some sg =>
      rw [hpp] at hpn
      have : sg.parameters.length + 1 = n := Option.some.inj hpn
      show some sg.parameters.length = _
      congr 1; omega
  have hw := meth_w hW hci
  obtain ⟨b, hb1, hb2⟩ := rcv_of hK hF hH hS hk hq
  rw [← hcls] at hb2
  have e1 : (as.reverse ++ vr a :: rest).map (rv w) = (as.map (rv w)).reverse ++ .ref b :: rest.map (rv w) := by simp [← hb1]
  rw [e1]
  have e2 : ((vr a :: as).map (rv w)).toArray = (Value.ref b :: as.map (rv w)).toArray := by simp [← hb1]
  refine run_go (k := ci) (t := t) (as := vr a :: as) (r := r) (ty := mR ci) rfl hS hL (fun v hv => hI v (List.mem_append_right _ (List.mem_cons_of_mem _ hv))) hz hl hgz hgl ?_ kk
  rw [e2]
  have hW8 : 2 * (F0 m pc ls ((as.map (rv w)).reverse ++ .ref b :: rest.map (rv w))).monitorRoom + ((rest.map (rv w)).map fun v => v.category).sum ≤ 8 := by rw [cats_map]; show 2 * 0 + _ ≤ _; omega
  have hsz : (F0 m pc ls ((as.map (rv w)).reverse ++ .ref b :: rest.map (rv w))).locals.size = lv.length := hL.1
  have hpre := pcc_pre hW hK hF hH hS (vr a :: as) (List.forall_mem_cons.mpr ⟨trivial, fun v hv => hI v (List.mem_append_left _ (List.mem_reverse.mpr hv))⟩)
  rw [e2] at hpre
  cases hv with
  | true =>
    have hni : (mN ci).name ≠ "<init>" := fun z => by have := hini.mpr z; cases this
    rcases call_lk hW hf (Or.inr rfl) (args := args) with g | g
    · exact va_runV (Ts := []) (C := (mN ci).cls) ⟨hx, hb, hml, hown, fun _ z => absurd z List.not_mem_nil⟩ hM ⟨call_B hW hci hRf hRl hpn g, (hw.2.1 _).2 hst, hw.2.2.1 _ hst hni⟩ ⟨pcc_blind w _ h, hb2, hpre⟩ rfl (by simp) hsz rfl hW8 hd ⟨by omega, by omega⟩
    · exact va_runVN (Ts := []) (C := (mN ci).cls) ⟨hx, hb, hml, hown, fun _ z => absurd z List.not_mem_nil⟩ hM ⟨call_N hW hci hRf hRl hpn g, (hw.2.1 _).2 hst, hw.2.2.1 _ hst hni⟩ ⟨pcc_blind w _ h, hb2, hpre⟩ rfl (by simp) hsz rfl hW8 hd ⟨by omega, by omega⟩
  | false =>
    have hni := hini.mp rfl
    have hrn := hrn rfl
    rcases call_lk hW hf (Or.inr rfl) (args := args) with g | g
    · have cb := call_B (R := R) (d := d) (mc := h_sz h2 - h_sz h) (ms := h_sl h2 - h_sl h) hW hci hRf hRl hpn g
      unfold MetX at hM
      rw [hrn] at hM cb ⊢
      exact va_runI (Ts := []) ⟨hx, hb, hml, hown, fun _ z => absurd z List.not_mem_nil⟩ hM ⟨cb, hni, (hw.2.1 _).2 hst⟩ ⟨pcc_blind w _ h, hpre⟩ rfl (by simp) hsz rfl hW8 hd ⟨by omega, by omega⟩
    · have cb := call_N (R := R) (d := d) (mc := h_sz h2 - h_sz h) (ms := h_sl h2 - h_sl h) hW hci hRf hRl hpn g
      unfold MetX at hM
      rw [hrn] at hM cb ⊢
      exact va_runIN (Ts := []) ⟨hx, hb, hml, hown, fun _ z => absurd z List.not_mem_nil⟩ hM ⟨cb, hni, (hw.2.1 _).2 hst⟩ ⟨pcc_blind w _ h, hpre⟩ rfl (by simp) hsz rfl hW8 hd ⟨by omega, by omega⟩
end S14
