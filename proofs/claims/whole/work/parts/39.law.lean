/-! the law's own method over the abstract machine -/
def lkS (k : Nat) : Nat := bif Nat.beq k 266 then 104 else 146
def nAs (k : Nat) : Nat := bif Nat.beq k 266 then 4 else 6
def lsP (k : Nat) : Nat := bif Nat.beq k 266 then 1185 else 1260
theorem c7_ck : ∀ k, k = 266 ∨ k = 267 → lw_tbl[lsP k]? = some (.methodLink "IceBridgeLaw" (lkS k) (mN k)) ∧ lw_tbl[lsP k + 1]? = some (.static (mN k)) ∧ lw_tbl[lsP k + 2]? = some (.codeWith (mN k) (mC k) (meth k).2.2.1 (mR k) (hhL k)) ∧ lw_tbl[109]? = some (.initialized (mN k).cls) ∧ (parseMethodDescriptor (mN k).desc).map (fun d => d.parameters.length) = some (nAs k) ∧ (mN k).cls ≠ "java/lang/invoke/MethodHandle" ∧ (mN k).cls ≠ "java/lang/invoke/VarHandle" ∧ (meth k).2.2.1 ≤ 22 := by
  intro k hk
  rcases hk with rfl | rfl <;> decide +kernel
theorem law_ck : (mres_t.all fun o => !(Nat.beq o.1 10) || o.2.all fun e => !(Nat.beq e.2.1 1) || Nat.blt e.2.2.1 266 || (Nat.beq e.1 104 && Nat.beq e.2.2.1 266 && Nat.beq e.2.2.2.1 4 && Nat.beq e.2.2.2.2.2 1) || (Nat.beq e.1 146 && Nat.beq e.2.2.1 267 && Nat.beq e.2.2.2.1 6 && Nat.beq e.2.2.2.2.2 1)) = true := by decide +kernel
theorem law_st {j ci n q t : Nat} (h : mres 10 j = some (1, ci, n, q, t)) (hc : 266 ≤ ci) : (ci = 266 ∨ ci = 267) ∧ j = lkS ci ∧ n = nAs ci ∧ t = 1 := by
  unfold mres at h
  cases h1 : lk mres_t 10 with
  | none => rw [h1] at h; cases h
  | some tb =>
    rw [h1] at h
    have h2 := all_of law_ck (lk_mem _ h1)
    have h3 : (tb.all fun e => !(Nat.beq e.2.1 1) || Nat.blt e.2.2.1 266 || (Nat.beq e.1 104 && Nat.beq e.2.2.1 266 && Nat.beq e.2.2.2.1 4 && Nat.beq e.2.2.2.2.2 1) || (Nat.beq e.1 146 && Nat.beq e.2.2.1 267 && Nat.beq e.2.2.2.1 6 && Nat.beq e.2.2.2.2.2 1)) = true := h2
    have h4 : (!(Nat.beq 1 1) || Nat.blt ci 266 || (Nat.beq j 104 && Nat.beq ci 266 && Nat.beq n 4 && Nat.beq t 1) || (Nat.beq j 146 && Nat.beq ci 267 && Nat.beq n 6 && Nat.beq t 1)) = true := all_of h3 (lk_mem _ h)
    simp only [Bool.or_eq_true, Bool.and_eq_true, Nat.beq_eq] at h4
    rcases h4 with ((h5 | h5) | h5) | h5
    · cases h5
    · have := Nat.le_of_ble_eq_true h5; omega
    · obtain ⟨⟨⟨rfl, rfl⟩, rfl⟩, rfl⟩ := h5; exact ⟨Or.inl rfl, rfl, rfl, rfl⟩
    · obtain ⟨⟨⟨rfl, rfl⟩, rfl⟩, rfl⟩ := h5; exact ⟨Or.inr rfl, rfl, rfl, rfl⟩
section S24
variable {p : Program} {l : Launch} {e : Env} {R : Room} {s : State} {m : MethodId} {args : Array Value} {below : List Frame} {mth : Method} {c : Code} {Q : State → Prop}
variable {w : WP} {z0 l0 : Nat} {cc : ByteArray} {pc : Nat} {lv rest : List AV} {h h2 : HP}
theorem g_static6 (hx : p.tables.exec = Jvm.exec) (hb : c.code = cc) (hown : s.vm.findClass (oN 10) = some m.cls) (hW : Wd s) (hK : va_K (w_D w) clsL (tysL w) s) (hF : SF w s) (hml : c.maxLocals = lv.length) {k d : Nat} {as : List AV} {r : AV} (hk : k = 266 ∨ k = 267) (hd : decode cc pc = .ok (.invokestatic (lkS k), 3))
    (hM : Met l (mN k) [Cond.codeWith (mN k) (mC k) (meth k).2.2.1 (mR k) (hhL k)] (rmd d (h_sz h2 - h_sz h) (h_sl h2 - h_sl h)) (Pcc w as h) (Qcc w (mR k) r h2) (h_sz h2 - h_sz h) (h_sl h2 - h_sl h) (Aw w)) (hn : as.length = nAs k) (hc : cats rest ≤ 8) (hRf : d + 3 ≤ R.frames) (hRl : 41 * (d + 3) ≤ R.locals) (hc1 : h_sz h2 - z0 ≤ R.cells) (hs1 : h_sl h2 - l0 ≤ R.slots) (hz : z0 ≤ h_sz h) (hl : l0 ≤ h_sl h) (hgz : h_sz h ≤ h_sz h2) (hgl : h_sl h ≤ h_sl h2)
    (kk : Go p l e R s m args below mth c Q w z0 l0 (pc + 3) lv (rst (mR k) r rest) h2) : Go p l e R s m args below mth c Q w z0 l0 pc lv (as.reverse ++ rest) h := by
  intro H locs ls hH hS hL hI
  obtain ⟨q1, q2, q3, q4, q5, q6, q7, q8⟩ := c7_ck k hk
  have ho10 := (c6_lk k hk).2.2.2.2.2.2.2.1
  rw [ho10] at hown
  rw [st_map]
  refine run_go (k := k) (t := 1) (as := as) (r := r) (ty := mR k) rfl hS hL (fun v hv => hI v (List.mem_append_right _ hv)) hz hl hgz hgl ?_ kk
  have hW8 : 2 * (F0 m pc ls ((as.map (rv w)).reverse ++ rest.map (rv w))).monitorRoom + ((rest.map (rv w)).map fun v => v.category).sum ≤ 8 := by rw [cats_map]; show 2 * 0 + _ ≤ _; omega
  have hsz : (F0 m pc ls ((as.map (rv w)).reverse ++ rest.map (rv w))).locals.size = lv.length := hL.1
  refine vx_runSW (Ts := []) (own := "IceBridgeLaw") (bytes := mC k) (maxL := (meth k).2.2.1) (ret := mR k) (hh := hhL k) (n := nAs k) ⟨hx, hb, hml, hown, fun _ z => absurd z List.not_mem_nil⟩ hM ⟨⟨rfl, rfl, by show d + 2 + 1 ≤ _; omega, by show 8 + _ + 41 * (d + 2) ≤ _; omega, fun q hq a' U hU => ?_, List.mem_cons_self⟩, hW.at q3 rfl, hW.at q4 rfl, ⟨q6, q7⟩, fun sig hs => ?_, hW.at q1 rfl, hW.at q2 rfl⟩ ⟨pcc_blind w as h, pcc_pre hW hK hF hH hS as (fun v hv => hI v (List.mem_append_left _ (List.mem_reverse.mpr hv)))⟩ rfl (by simp [hn]) hsz rfl hW8 hd ⟨by omega, by omega⟩
  · rw [List.mem_singleton] at hq
    subst hq
    exact (hW.warm hU).at q3 rfl
  · rw [hs] at q5; exact (Option.some.inj q5).symm
end S24
theorem m268 : (meth 268).1 = 10 ∧ (meth 268).2.1 = 2 ∧ (meth 268).2.2.1 = 7 ∧ mC 268 = code ∧ mR 268 = some .boolean ∧ (mN 268).name = "law" ∧ oN 10 = R_law := ⟨by decide +kernel, by decide +kernel, by decide +kernel, rfl, by decide +kernel, by decide +kernel, by decide +kernel⟩
theorem law_walk (hDK : DK) {p : Program} {l : Launch} {e : Env} {s : State} {m : MethodId} {below : List Frame} {mth : Method} {c : Code} {b : Nat} {w : WP} (hl : l.stackTraces = false) {n D : Nat} {h0 hE : HP} (hD : 6 ≤ D) (hD2 : D ≤ 2000) (C : CXk p s m #[Value.ref b] mth c w 268) (hwb : w_b w = s.heap.size)
    (hX : X n D (meth 268) 0 (fil (meth 268).2.2.1 (ent [vr 40])) [] h0 = some (vi 1, hE)) (hz : h_sz hE - h_sz h0 ≤ 601024) (hs : h_sl hE - h_sl h0 ≤ 7293034) :
    Go p l e room_1 s m #[Value.ref b] below mth c (lw_Z below #[Value.ref b] s) w (h_sz h0) (h_sl h0) 0 (fil (meth 268).2.2.1 (ent [vr 40])) [] h0 := by
  obtain ⟨m1, m2, m3, m4, m5, m6, m7⟩ := m268
  have C' := C
  obtain ⟨hx, hb, hmL, hown, hret, hlk, hnm, hW, hK, hF, hbs⟩ := C'
  refine walk (l := l) (e := e) (R := room_1) (below := below) (Q := lw_Z below #[Value.ref b] s) (z0 := h_sz h0) (l0 := h_sl h0) (d := D) (r := vi 1) (hE := hE) hDK n (by omega) C (by show D + 2 ≤ 2048; omega) (by show 41 * (D + 2) ≤ 84000; omega) hz hs
    (fun n' hn' d1 ci as1 h1 r1 h2 _ hci hoA hX1 hu1 => sound hDK l w n' n' d1 ci as1 h1 r1 h2 (Nat.le_refl _) hci hoA hX1 hu1)
    (fun pc lv st h1 i len tgt _ hd hLn ha _ _ => ?_)
    (fun n' _ pc lv st h1 i len tgt t ci as1 h2 pc1 lv1 rest hf hSt hd hLn ha hs9 hN ihn hz9 hml2 => ?_)
    n (Nat.le_refl _) 0 _ [] h0 hX ⟨Nat.le_refl _, Nat.le_refl _⟩ (by rw [fil_len]; decide +kernel)
  · rcases end_is ha rfl with rfl | rfl | rfl
    · have e1 := len_of hLn (fun z => by simp [iL] at z)
      change len = 1 at e1
      subst e1
      simp only [act, m2] at ha
      split at ha
      · obtain ⟨-, e9⟩ := dt_end ha
        simp only [Prod.mk.injEq, Sum.inl.injEq] at e9
        obtain ⟨rfl, rfl⟩ := e9
        intro H locs ls hH hS hL hI
        rw [m4] at hb hd
        rw [m5] at hret
        refine W.widen hz hs (va_forget (fun q hq => ?_) (lw_ret hx hb hret hlk hd))
        have := hS.2.2 q hq
        unfold Aw at this
        omega
      · cases ha
    · simp only [act, m2] at ha
      split at ha <;> cases ha
    · simp only [act, m2] at ha
      split at ha <;> cases ha
  · have h7 := sp_k hSt ha hs9
    have ht7 : t ≠ 7 := by omega
    have hci : 266 ≤ ci := by omega
    rcases call_is ha with ⟨j, rfl⟩ | ⟨j, rfl⟩ | ⟨j, rfl⟩
    · exfalso
      simp only [okS] at hSt
      simp only [act, inv] at ha
      split at ha
      · split at ha
        · exact nc1 ha
        · cases ha
      · rename_i hf2; rw [hf2] at hSt; cases hSt
      · rename_i hf2
        rw [hf2] at hSt
        simp only [Bool.and_eq_true, decide_eq_true_eq] at hSt
        split at ha
        · simp only [Option.some.injEq, Prod.mk.injEq, Sum.inr.injEq, Sum.inl.injEq] at ha
          omega
        · cases ha
      all_goals first
        | (rename_i hf2; rw [hf2] at hSt; cases hSt; done)
        | (cases ha; done)
    · exfalso
      simp only [okS] at hSt
      simp only [act, inv] at ha
      split at ha
      · rename_i hf2; rw [hf2] at hSt; cases hSt
      · rename_i hf2; rw [hf2] at hSt; cases hSt
      · rename_i hf2
        rw [hf2] at hSt
        simp only [Bool.and_eq_true, decide_eq_true_eq] at hSt
        split at ha
        · simp only [Option.some.injEq, Prod.mk.injEq, Sum.inr.injEq, Sum.inl.injEq] at ha
          omega
        · cases ha
      all_goals first
        | (split at ha <;> first | (exact nc1 ha) | (simp only [Option.some.injEq, Prod.mk.injEq, Sum.inr.injEq, Sum.inl.injEq] at ha; omega) | cases ha; done)
        | (rename_i hf2; rw [hf2] at hSt; cases hSt; done)
        | (cases ha; done)
    · simp only [okS] at hSt
      simp only [act, inv] at ha
      split at ha
      · split at ha
        · exact (nc1 ha).elim
        · cases ha
      · rename_i c9 n9 q9 t9 hf2
        obtain ⟨hg, e9⟩ := dt_inj ha
        simp only [Sum.inr.injEq, Sum.inl.injEq, Prod.mk.injEq] at e9
        obtain ⟨rfl, rfl, rfl, rfl, rfl, rfl, rfl⟩ := e9
        rw [m1] at hf2
        obtain ⟨hk, rfl, rfl, rfl⟩ := law_st hf2 hci
        simp only [Bool.and_eq_true, decide_eq_true_eq] at hg
        obtain ⟨hst, hlen2⟩ := take_of (st := st) rfl (Nat.le_of_ble_eq_true hg.2)
        have e1 := len_of hLn (fun z => by simp [iL] at z)
        change len = 3 at e1
        subst e1
        obtain ⟨v, h3, ho, hK2⟩ := cal_some hN
        obtain ⟨d1, hd1, hoA, hX1⟩ := EX_some ho
        rcases hK2 with ⟨-, hu, hK2⟩ | ⟨z, -⟩
        · have hg3e : geH h1 h3 := X_ge _ _ _ _ _ _ _ _ hX1
          have hgE : geH h3 hE := X_ge _ _ _ _ _ _ _ _ hK2
          have hM := sound6 hDK hl w hk (by omega) hoA hX1 hu
          have hmr := (c6_ck _ hk).2.2.2.2.2.2.2.2.1
          have kk := ihn _ _ _ _ hK2 ⟨Nat.le_trans hz9.1 hg3e.1, Nat.le_trans hz9.2 hg3e.2⟩ hml2
          rw [hst]
          refine g_static6 (r := v) hx hb (by rw [← m1]; exact hown) hW hK hF (hmL.trans hml2) hk hd hM hlen2 hg.1 (by show d1 + 3 ≤ 2048; omega) (by show 41 * (d1 + 3) ≤ 84000; omega) ?_ ?_ hz9.1 hz9.2 hg3e.1 hg3e.2 ?_
          · show h_sz h3 - h_sz h0 ≤ 601024
            have := hgE.1; omega
          · show h_sl h3 - h_sl h0 ≤ 7293034
            have := hgE.2; omega
          · rw [hmr]; exact kk
        · cases z
      all_goals first
        | (split at ha <;> first | (exact (nc1 ha).elim) | (simp only [Option.some.injEq, Prod.mk.injEq, Sum.inr.injEq, Sum.inl.injEq] at ha; omega) | cases ha; done)
        | (rename_i hf2; rw [hf2] at hSt; cases hSt; done)
        | (cases ha; done)
