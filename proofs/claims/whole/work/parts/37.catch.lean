/-! calls that may throw, and the law's methods that catch -/
theorem c6_pn {k : Nat} (hk : k = 266 ∨ k = 267) {as : List AV} (hn : as.length + 1 = nAr k) : (parseMethodDescriptor (mN (cK k)).desc).map (fun d => d.parameters.length) = some as.length := by
  have hpn := (c6_ck k hk).2.2.2.2.2.1
  cases hpp : parseMethodDescriptor (mN (cK k)).desc with
  | none => rw [hpp] at hpn; cases hpn
  | some sg =>
    rw [hpp] at hpn
    have : sg.parameters.length + 1 = nAr k := Option.some.inj hpn
    show some sg.parameters.length = _
    congr 1; omega
theorem cK_lt {k : Nat} (hk : k = 266 ∨ k = 267) : cK k < 266 := by rcases hk with rfl | rfl <;> decide +kernel
section S23
variable {p : Program} {l : Launch} {e : Env} {R : Room} {s : State} {m : MethodId} {args : Array Value} {below : List Frame} {mth : Method} {c : Code} {Q : State → Prop}
variable {w : WP} {z0 l0 : Nat} {cc : ByteArray} {pc : Nat} {lv rest : List AV} {h h2 : HP}
theorem g_virt7 (hx : p.tables.exec = Jvm.exec) (hb : c.code = cc) (hown : s.vm.findClass (oN 10) = some m.cls) (hW : Wd s) (hK : va_K (w_D w) clsL (tysL w) s) (hF : SF w s) (hml : c.maxLocals = lv.length) {k d a : Nat} {as : List AV} {r : AV} (hk : k = 266 ∨ k = 267) (hd : decode cc pc = .ok (.invokevirtual (lkI k), 3))
    (hka : isK h a 8 = true) (hM : MetX l w (cK k) d (vr a :: as) h r h2) (hn : as.length + 1 = nAr k) (hc : cats rest ≤ 8) (hRf : d + 3 ≤ R.frames) (hRl : 41 * (d + 3) ≤ R.locals) (hc1 : h_sz h2 - z0 ≤ R.cells) (hs1 : h_sl h2 - l0 ≤ R.slots) (hz : z0 ≤ h_sz h) (hl : l0 ≤ h_sl h) (hgz : h_sz h ≤ h_sz h2) (hgl : h_sl h ≤ h_sl h2)
    (kk : Go p l e R s m args below mth c Q w z0 l0 (pc + 3) lv (rst (mR (cK k)) r rest) h2) : Go p l e R s m args below mth c Q w z0 l0 pc lv (as.reverse ++ vr a :: rest) h := by
  intro H locs ls hH hS hL hI
  have hci := cK_lt hk
  obtain ⟨-, -, hlw, hst, hni, -, hcls, -, -, -⟩ := c6_ck k hk
  have hpn := c6_pn hk hn
  have hw := meth_w hW hci
  obtain ⟨b, hb1, hb2⟩ := rcv_of hK hF hH hS hka (Or.inl (by omega))
  have hb2 : ∃ cell : Cell, H[b]? = some cell ∧ cell.vm.isStatics = false ∧ s.vm.findClass (mN (cK k)).cls = some cell.cls := by rw [hcls]; exact hb2
  have e1 : (as.reverse ++ vr a :: rest).map (rv w) = (as.map (rv w)).reverse ++ .ref b :: rest.map (rv w) := by simp [← hb1]
  rw [e1]
  have e2 : ((vr a :: as).map (rv w)).toArray = (Value.ref b :: as.map (rv w)).toArray := by simp [← hb1]
  refine run_go (k := cK k) (t := 1) (as := vr a :: as) (r := r) (ty := mR (cK k)) rfl hS hL (fun v hv => hI v (List.mem_append_right _ (List.mem_cons_of_mem _ hv))) hz hl hgz hgl ?_ kk
  rw [e2]
  have hW8 : 2 * (F0 m pc ls ((as.map (rv w)).reverse ++ .ref b :: rest.map (rv w))).monitorRoom + ((rest.map (rv w)).map fun v => v.category).sum ≤ 8 := by rw [cats_map]; show 2 * 0 + _ ≤ _; omega
  have hsz : (F0 m pc ls ((as.map (rv w)).reverse ++ .ref b :: rest.map (rv w))).locals.size = lv.length := hL.1
  have hpre := pcc_pre hW hK hF hH hS (vr a :: as) (List.forall_mem_cons.mpr ⟨trivial, fun v hv => hI v (List.mem_append_left _ (List.mem_reverse.mpr hv))⟩)
  rw [e2] at hpre
  exact va_runV (Ts := []) (own := oN 10) (C := (mN (cK k)).cls) ⟨hx, hb, hml, hown, fun _ z => absurd z List.not_mem_nil⟩ hM ⟨call_B hW hci hRf hRl hpn (hW.at hlw rfl), (hw.2.1 _).2 hst, hw.2.2.1 _ hst hni⟩ ⟨pcc_blind w _ h, hb2, hpre⟩ rfl (by simp) hsz rfl hW8 hd ⟨by omega, by omega⟩
theorem g_virt7x (hx : p.tables.exec = Jvm.exec) (hb : c.code = cc) (hown : s.vm.findClass (oN 10) = some m.cls) (hW : Wd s) (hK : va_K (w_D w) clsL (tysL w) s) (hF : SF w s) (hml : c.maxLocals = lv.length) {k d a : Nat} {as : List AV} (hk : k = 266 ∨ k = 267) (hlv : (meth k).2.2.1 = lv.length) (hpc : pc = inPc k) (hd : decode cc pc = .ok (.invokevirtual (lkI k), 3)) (hd2 : decode cc (hPc k) = .ok (.astore (eLo k), 2)) (htab : c.exceptionTable.toList = tableOf (hhL k))
    (hka : isK h a 8 = true) (hM : vx_Met l (mN (cK k)) [Cond.code (mN (cK k)) (mC (cK k)) (meth (cK k)).2.2.1 (mR (cK k))] (rmd d (h_sz h2 - h_sz h) (h_sl h2 - h_sl h)) (Pcc w (vr a :: as) h) noQ (XCc w h2) (h_sz h2 - h_sz h) (h_sl h2 - h_sl h) (Aw w)) (hn : as.length + 1 = nAr k) (hc : cats rest ≤ 8) (hRf : d + 3 ≤ R.frames) (hRl : 41 * (d + 3) ≤ R.locals) (hc1 : h_sz h2 - z0 ≤ R.cells) (hs1 : h_sl h2 - l0 ≤ R.slots) (hz : z0 ≤ h_sz h) (hl : l0 ≤ h_sl h) (hgz : h_sz h ≤ h_sz h2) (hgl : h_sl h ≤ h_sl h2)
    (kk : Go p l e R s m args below mth c Q w z0 l0 (hPc k + 2) (st1 lv (eLo k) vu) [] h2) : Go p l e R s m args below mth c Q w z0 l0 pc lv (as.reverse ++ vr a :: rest) h := by
  intro H locs ls hH hS hL hI
  have hci := cK_lt hk
  obtain ⟨-, -, hlw, hst, hni, -, hcls, -, -, -⟩ := c6_ck k hk
  have hpn := c6_pn hk hn
  have hw := meth_w hW hci
  obtain ⟨b, hb1, hb2⟩ := rcv_of hK hF hH hS hka (Or.inl (by omega))
  have hb2 : ∃ cell : Cell, H[b]? = some cell ∧ cell.vm.isStatics = false ∧ s.vm.findClass (mN (cK k)).cls = some cell.cls := by rw [hcls]; exact hb2
  have e1 : (as.reverse ++ vr a :: rest).map (rv w) = (as.map (rv w)).reverse ++ .ref b :: rest.map (rv w) := by simp [← hb1]
  rw [e1]
  have e2 : ((vr a :: as).map (rv w)).toArray = (Value.ref b :: as.map (rv w)).toArray := by simp [← hb1]
  have hW8 : 2 * (F0 m pc ls ((as.map (rv w)).reverse ++ .ref b :: rest.map (rv w))).monitorRoom + ((rest.map (rv w)).map fun v => v.category).sum ≤ 8 := by rw [cats_map]; show 2 * 0 + _ ≤ _; omega
  have hsz : (F0 m pc ls ((as.map (rv w)).reverse ++ .ref b :: rest.map (rv w))).locals.size = lv.length := hL.1
  have hpre := pcc_pre hW hK hF hH hS (vr a :: as) (List.forall_mem_cons.mpr ⟨trivial, fun v hv => hI v (List.mem_append_left _ (List.mem_reverse.mpr hv))⟩)
  rw [e2] at hpre
  have hrun := vx_runV (R := R) (args := args) (s := s) (below := below) (meth := mth) (locs := locs) (cells := h_sz h - z0) (slots := h_sl h - l0) (Ts := []) (own := oN 10) (C := (mN (cK k)).cls) ⟨hx, hb, hml, hown, fun _ z => absurd z List.not_mem_nil⟩ hM ⟨call_B hW hci hRf hRl hpn (hW.at hlw rfl), (hw.2.1 _).2 hst, hw.2.2.1 _ hst hni⟩ ⟨pcc_blind w _ h, hb2, hpre⟩ (g := F0 m pc ls ((as.map (rv w)).reverse ++ .ref b :: rest.map (rv w))) (e := e) rfl (by simp) hsz rfl hW8 hd ⟨by omega, by omega⟩
  intro T hT X
  rcases hrun T hT X with ⟨v, st₀, t, T', L, h0, X', hLo, e1, e2, hq, st⟩ | ⟨q, st₀, t, T', L, E, ce, h0, X', hLo, e1, e2, ⟨hE1, hH2, hz2, hk2⟩, hce, hcv, hcl, st⟩
  · exact hq.elim
  · subst hE1
    rw [h0] at hz2 hk2
    have hS1 : va_S (Aw w) s.heap T'.heap (locs ++ L) := ⟨Nat.le_trans hS.1 (by rw [e1]; exact hz2), fun q h1 h3 => by rw [e1, hk2 q (Nat.lt_of_lt_of_le h1 hS.1) h3]; exact hS.2.1 q h1 h3, fun q hq => by
      rcases List.mem_append.mp hq with g | g
      · exact hS.2.2 q g
      · exact hLo q g⟩
    have c1 : h_sz h - z0 + (h_sz h2 - h_sz h) = h_sz h2 - z0 := by omega
    have c2 : h_sl h - l0 + (h_sl h2 - h_sl h) = h_sl h2 - l0 := by omega
    rw [c1, c2] at X'
    obtain ⟨-, -, -, -, hel, -, -, ho10, -, hcl13⟩ := c6_lk k hk
    have kW : W p l e R s m args below mth c T'.heap (locs ++ L) (h_sz h2 - z0) (h_sl h2 - l0) Q (F0 m (hPc k) ls [.ref q]) :=
      lv_astore hx hb hd2 hL.has (by omega) rfl (fun ls2 hl2 => kk T'.heap (locs ++ L) ls2 (by rw [e1]; exact hH2) hS1 (hL.put1u (by omega) hl2) (fun v hv => absurd hv List.not_mem_nil))
    rw [ho10] at hown
    have hcatch : vx_W p l e R s m args below mth c T'.heap (locs ++ L) (h_sz h2 - z0) (h_sl h2 - l0) Q (F0 m pc ls (rest.map (rv w))) q := by
      have hcell : T'.heap[q]? = some ce := by rw [e1]; exact hce
      have hcast : (Cond.castable nsE nsE).before args s = true := va_Nw.use rfl hW.2.2.2.2.2.2
      have hlnk : (Cond.classLink "IceBridgeLaw" 13 nsE).before args s = true := hW.at hcl13 rfl
      subst hpc
      rcases hk with rfl | rfl
      · exact vx_catch hown [] ⟨0, 10, 13, 13⟩ [] htab (fun z hz => absurd hz List.not_mem_nil) rfl (by decide) hlnk hcast hcell hcv hcl kW
      · exact vx_catch hown [] ⟨0, 14, 17, 13⟩ [] htab (fun z hz => absurd hz List.not_mem_nil) rfl (by decide) hlnk hcast hcell hcv hcl kW
    obtain ⟨t2, a1, b1⟩ := hcatch T' rfl X'
    exact ⟨t2, st.trans a1, b1⟩
end S23
theorem X_nil {d : Nat} {M : MD} {pc : Nat} {lv st : List AV} {h : HP} {r : AV × HP} (hX : X 0 d M pc lv st h = some r) : False := by simp [X] at hX
theorem cat_end {n d k z : Nat} {lv : List AV} {h3 hE : HP} {r : AV} (hk : k = 266 ∨ k = 267) (hX : X n d (meth k) (hPc k) lv [vr z] h3 = some (r, hE)) : r = vi 1 ∧ hE = h3 := by
  obtain ⟨l1, l2, l3, -⟩ := c6_lk k hk
  have hrt := (c6_ck k hk).2.2.2.2.2.2.2.2.2
  match n, hX with
  | 0, hX => exact (X_nil hX).elim
  | n + 1, hX =>
    obtain ⟨i, len, tgt, nx, hf, ha, hN⟩ := X_step hX
    rw [l1] at hf
    cases hf
    simp only [act] at ha
    obtain ⟨-, rfl⟩ := dt_inj ha
    have hX : X n d (meth k) (hPc k + 2) (st1 lv (eLo k) (vr z)) [] h3 = some (r, hE) := hN
    clear hN ha
    match n, hX with
    | 0, hX => exact (X_nil hX).elim
    | n + 1, hX =>
      obtain ⟨i, len, tgt, nx, hf, ha, hN⟩ := X_step hX
      rw [l2] at hf
      cases hf
      simp only [act] at ha
      obtain ⟨-, rfl⟩ := dt_inj ha
      have hX : X n d (meth k) (hPc k + 3) (st1 lv (eLo k) (vr z)) [vi 1] h3 = some (r, hE) := hN
      clear hN ha
      match n, hX with
      | 0, hX => exact (X_nil hX).elim
      | n + 1, hX =>
        obtain ⟨i, len, tgt, nx, hf, ha, hN⟩ := X_step hX
        rw [l3] at hf
        cases hf
        simp only [act, hrt] at ha
        obtain ⟨-, rfl⟩ := dt_inj ha
        cases hN
        exact ⟨rfl, rfl⟩
theorem sound6 (hDK : DK) {l : Launch} (hl : l.stackTraces = false) (w : WP) {n d k : Nat} {as : List AV} {h hE : HP} {r : AV} (hk : k = 266 ∨ k = 267) (hd5 : 5 ≤ d) (hA : okA k as = true) (hX : X n d (meth k) 0 (fil (meth k).2.2.1 (ent as)) [] h = some (r, hE)) (hu : isU r = false) :
    Met l (mN k) [Cond.codeWith (mN k) (mC k) (meth k).2.2.1 (mR k) (hhL k)] (rmd d (h_sz hE - h_sz h) (h_sl hE - h_sl h)) (Pcc w as h) (Qcc w (mR k) r hE) (h_sz hE - h_sz h) (h_sl hE - h_sl h) (Aw w) := by
  have hlen : (ent as).length ≤ (meth k).2.2.1 := Nat.le_of_ble_eq_true hA
  obtain ⟨l1, l2, l3, lins, hel, hpceq, hcls, ho10, hpl, -⟩ := c6_lk k hk
  obtain ⟨hm10, hmres, -, -, -, -, -, hRc, hRk, hrt⟩ := c6_ck k hk
  refine met_ofWH (cc := mC k) (maxL := (meth k).2.2.1) (ret := mR k) (hh := hhL k) hpl rfl ?_
  intro p e s m args below mth c s₁ B hml hP
  obtain ⟨rfl, hI, hH, hW, hK, hF⟩ := hP
  have hown : s.vm.findClass (oN (meth k).1) = some m.cls := by rw [hm10, ho10, ← hcls]; exact findClass_of_methodNamed B.named
  have hbs : w_b w ≤ s.heap.size := by rw [hH.1]; exact Nat.le_add_right _ _
  have htab : c.exceptionTable.toList = tableOf (hhL k) := vx_table (x := mN k) B (atoms_spec B.pre _ List.mem_cons_self)
  have C : CXk p s m (as.map (rv w)).toArray mth c w k := ⟨B.exec, B.bytes, hml, hown, B.returns, B.notSynchronized, fun _ => (name_of_methodNamed B.named B.method).1, hW, hK, hF, hbs⟩
  have hL := entry_LVr w as (meth k).2.2.1 hlen hI
  rw [lg_entry_eq]
  have G := walk (l := l) (e := e) (R := rmd d (h_sz hE - h_sz h) (h_sl hE - h_sl h)) (below := below) (Q := MQ below (Qcc w (mR k) r hE) (as.map (rv w)).toArray s (h_sz hE - h_sz h) (h_sl hE - h_sl h) (Aw w)) (z0 := h_sz h) (l0 := h_sl h) (d := d) (r := r) (hE := hE) hDK n (by omega) C (Nat.le_refl _) (Nat.le_refl _) (Nat.le_refl _) (Nat.le_refl _)
    (fun n' hn' d1 ci as1 h1 r1 h2 _ hci hoA hX1 hu1 => sound hDK l w n' n' d1 ci as1 h1 r1 h2 (Nat.le_refl _) hci hoA hX1 hu1)
    (fun pc lv st h1 i len tgt _ hd hLn ha _ _ => ret_ok C (by rw [hrt, hRk]; rfl) hd hLn ha hu)
    (fun n' _ pc lv st h1 i len tgt t ci as1 h2 pc1 lv1 rest hf hSt hd hLn ha hs hN ihn hz hml2 => by
      have hins : insOK k (pc, i, len, tgt) = true := all_of lins (lk_mem _ hf)
      have ht : t = 7 := by have := sp_k hSt ha hs; omega
      rcases call_is ha with ⟨j, rfl⟩ | ⟨j, rfl⟩ | ⟨j, rfl⟩
      · cases hins
      · have h9 : (Nat.beq j (lkI k) && Nat.beq pc (inPc k) && Nat.beq len 3) = true := hins
        simp only [Bool.and_eq_true, Nat.beq_eq] at h9
        obtain ⟨⟨rfl, hpcI⟩, rfl⟩ := h9
        simp only [act, inv, hm10, hmres] at ha
        split at ha
        · rename_i a as2 has
          obtain ⟨hg, e9⟩ := dt_inj ha
          simp only [Sum.inr.injEq, Sum.inl.injEq, Prod.mk.injEq] at e9
          obtain ⟨rfl, rfl, rfl, rfl, rfl, rfl, rfl⟩ := e9
          simp only [Bool.and_eq_true, decide_eq_true_eq] at hg
          obtain ⟨⟨hg1, hg2⟩, hg3⟩ := hg
          obtain ⟨hst, hlen2⟩ := take_of has (Nat.le_of_ble_eq_true hg2)
          have e1 : as2.reverse ++ vr a :: st.drop (nAr k) = st := by
            have h9 := hst
            rw [List.reverse_cons, List.append_assoc] at h9
            exact h9.symm
          rw [← e1]
          have hown2 : s.vm.findClass (oN 10) = some m.cls := by rw [← hm10]; exact hown
          have hml3 : c.maxLocals = lv.length := hml.trans hml2
          cases ho : EX n' d (cK k) (vr a :: as2) h1 with
          | none => rw [ho] at hN; cases hN
          | some o =>
            rw [ho] at hN
            obtain ⟨v, h3⟩ := o
            obtain ⟨d1, hd1, hoA, hX1⟩ := EX_some ho
            have hg3e : geH h1 h3 := X_ge _ _ _ _ _ _ _ _ hX1
            match v, hN, hX1 with
            | .inl x, hN, hX1 =>
              have hN : X n' d (meth k) (pc + 3) lv (vi x :: st.drop (nAr k)) h3 = some (r, hE) := hN
              have hgE : geH h3 hE := X_ge _ _ _ _ _ _ _ _ hN
              have hM := sound hDK l w n' n' d1 (cK k) (vr a :: as2) h1 (.inl x) h3 (Nat.le_refl _) (cK_lt hk) hoA hX1 rfl
              have kk := ihn _ _ _ _ hN ⟨Nat.le_trans hz.1 hg3e.1, Nat.le_trans hz.2 hg3e.2⟩ hml2
              refine g_virt7 (r := .inl x) (rest := st.drop (nAr k)) B.exec B.bytes hown2 hW hK hF hml3 hk hd hg3 hM hlen2 hg1 (by show d1 + 3 ≤ d + 2; omega) (by show 41 * (d1 + 3) ≤ 41 * (d + 2); omega) ?_ ?_ hz.1 hz.2 hg3e.1 hg3e.2 ?_
              · show h_sz h3 - h_sz h ≤ h_sz hE - h_sz h
                have := hgE.1; omega
              · show h_sl h3 - h_sl h ≤ h_sl hE - h_sl h
                have := hgE.2; omega
              · rw [hRc]; exact kk
            | .inr (.inl x), hN, hX1 => cases hN
            | .inr (.inr (.inl x)), hN, hX1 => cases hN
            | .inr (.inr (.inr u)), hN, hX1 =>
              have hN : X n' d (meth k) (pc + 3 + 5) lv [vr (h_sz h3 - 1)] h3 = some (r, hE) := hN
              rw [hpcI, ← hpceq] at hN
              obtain ⟨rfl, rfl⟩ := cat_end hk hN
              have hM := thr hDK hl w (n := n') (d := d1) (k := cK k) (as := vr a :: as2) (h := h1) (hE := hE) (u := u) (by rcases hk with rfl | rfl; exact Or.inl rfl; exact Or.inr rfl) (by omega) hoA hX1
              refine g_virt7x (rest := st.drop (nAr k)) B.exec B.bytes hown2 hW hK hF hml3 hk hml2 hpcI hd (dec_at hDK (by omega) l1) htab hg3 hM hlen2 hg1 (by show d1 + 3 ≤ d + 2; omega) (by show 41 * (d1 + 3) ≤ 41 * (d + 2); omega) (Nat.le_refl _) (Nat.le_refl _) hz.1 hz.2 hg3e.1 hg3e.2 ?_
              refine g_iconst B.exec B.bytes (dec_at hDK (by omega) l2) ⟨by omega, by omega⟩ ?_
              have hret : mth.sig.returnType = some .int := by rw [← hRk]; exact B.returns
              rw [hRk]
              exact g_ireturn B.exec B.bytes B.notSynchronized (dec_at hDK (by omega) l3) hret (fun _ => rfl)
        · cases ha
      · cases hins)
    n (Nat.le_refl _) 0 _ [] h hX ⟨Nat.le_refl _, Nat.le_refl _⟩ (fil_len hlen).symm
  have G2 := G s.heap [] _ hH va_S.rf hL (fun v hv => absurd hv List.not_mem_nil)
  rw [Nat.sub_self, Nat.sub_self] at G2
  exact G2
