/-- a new of a class, not of a row -/
def okN2 (own : Nat) (i : Instr) : Bool := match i with
  | .new j => (match nres own j with
    | some (14, _) => false
    | _ => true)
  | _ => true
/-! one step, the rest of the instructions (written by wip/whole/gen_step2.py) -/
section S16
variable {p : Program} {l : Launch} {e : Env} {R : Room} {s : State} {m : MethodId} {args : Array Value} {below : List Frame} {mth : Method} {c : Code} {Q : State → Prop}
variable {w : WP} {z0 l0 k pc tgt rt : Nat} {lv st : List AV} {h : HP} {nx : NX}
theorem k_ldc {i : Nat} (C : CXk p s m args mth c w k) (hml : (meth k).2.2.1 = lv.length) (hR : 1 ≤ R.frames ∧ 41 ≤ R.locals) (hcu : h_sz h - z0 ≤ R.cells ∧ h_sl h - l0 ≤ R.slots) (hz : z0 ≤ h_sz h ∧ l0 ≤ h_sl h) (hd : decode (mC k) pc = .ok (.ldc i, 2)) (hT : iT (.ldc i) pc tgt = true) (hSt : okS k (meth k) (.ldc i) = true) (ha : act (meth k).1 rt (.ldc i) 2 tgt pc lv st h = some (true, nx)) (hN : OkN p l e R s m args below mth c Q w z0 l0 nx) : Go p l e R s m args below mth c Q w z0 l0 pc lv st h := by
  obtain ⟨hx, hb, hmL, hown, hrt, hlk, hnm, hW, hK, hF, hbs⟩ := C
  simp only [act] at ha
  split at ha
  · rename_i v hv
    obtain ⟨hg, rfl⟩ := dt_inj ha
    exact g_ldc hx hb hown hW hF hd hv (fun x e => by subst e; simp only [okS, hv] at hSt; cases hSt) hN.2
  · cases ha
theorem k_ldc_w {i : Nat} (C : CXk p s m args mth c w k) (hml : (meth k).2.2.1 = lv.length) (hR : 1 ≤ R.frames ∧ 41 ≤ R.locals) (hcu : h_sz h - z0 ≤ R.cells ∧ h_sl h - l0 ≤ R.slots) (hz : z0 ≤ h_sz h ∧ l0 ≤ h_sl h) (hd : decode (mC k) pc = .ok (.ldc_w i, 3)) (hT : iT (.ldc_w i) pc tgt = true) (hSt : okS k (meth k) (.ldc_w i) = true) (ha : act (meth k).1 rt (.ldc_w i) 3 tgt pc lv st h = some (true, nx)) (hN : OkN p l e R s m args below mth c Q w z0 l0 nx) : Go p l e R s m args below mth c Q w z0 l0 pc lv st h := by
  obtain ⟨hx, hb, hmL, hown, hrt, hlk, hnm, hW, hK, hF, hbs⟩ := C
  simp only [act] at ha
  split at ha
  · rename_i v hv
    obtain ⟨hg, rfl⟩ := dt_inj ha
    match v, hv, hN with
    | .inl x, hv, hN => exact g_ldcw hx hb hown hW hd hv hN.2
    | .inr _, hv, hN => simp only [okS, hv] at hSt; cases hSt
  · cases ha
theorem k_ldc2_w {i : Nat} (C : CXk p s m args mth c w k) (hml : (meth k).2.2.1 = lv.length) (hR : 1 ≤ R.frames ∧ 41 ≤ R.locals) (hcu : h_sz h - z0 ≤ R.cells ∧ h_sl h - l0 ≤ R.slots) (hz : z0 ≤ h_sz h ∧ l0 ≤ h_sl h) (hd : decode (mC k) pc = .ok (.ldc2_w i, 3)) (hT : iT (.ldc2_w i) pc tgt = true) (hSt : okS k (meth k) (.ldc2_w i) = true) (ha : act (meth k).1 rt (.ldc2_w i) 3 tgt pc lv st h = some (true, nx)) (hN : OkN p l e R s m args below mth c Q w z0 l0 nx) : Go p l e R s m args below mth c Q w z0 l0 pc lv st h := by
  obtain ⟨hx, hb, hmL, hown, hrt, hlk, hnm, hW, hK, hF, hbs⟩ := C
  simp only [act] at ha
  split at ha
  · rename_i v hv
    obtain ⟨hg, rfl⟩ := dt_inj ha
    match v, hv, hN with
    | .inl x, hv, hN => simp only [okS, hv] at hSt; cases hSt
    | .inr (.inl x), hv, hN => exact g_ldc2 hx hb hown hW hd hv hN.2
    | .inr (.inr _), hv, hN => simp only [okS, hv] at hSt; cases hSt
  · cases ha
theorem k_getstatic {i : Nat} (C : CXk p s m args mth c w k) (hml : (meth k).2.2.1 = lv.length) (hR : 1 ≤ R.frames ∧ 41 ≤ R.locals) (hcu : h_sz h - z0 ≤ R.cells ∧ h_sl h - l0 ≤ R.slots) (hz : z0 ≤ h_sz h ∧ l0 ≤ h_sl h) (hd : decode (mC k) pc = .ok (.getstatic i, 3)) (hT : iT (.getstatic i) pc tgt = true) (hSt : okS k (meth k) (.getstatic i) = true) (ha : act (meth k).1 rt (.getstatic i) 3 tgt pc lv st h = some (true, nx)) (hN : OkN p l e R s m args below mth c Q w z0 l0 nx) : Go p l e R s m args below mth c Q w z0 l0 pc lv st h := by
  obtain ⟨hx, hb, hmL, hown, hrt, hlk, hnm, hW, hK, hF, hbs⟩ := C
  simp only [act] at ha
  split at ha
  · rename_i v hv
    obtain ⟨hg, rfl⟩ := dt_inj ha
    exact g_gets hx hb hown hW hF hd hv hN.2
  · cases ha
theorem k_getfield {i : Nat} (C : CXk p s m args mth c w k) (hml : (meth k).2.2.1 = lv.length) (hR : 1 ≤ R.frames ∧ 41 ≤ R.locals) (hcu : h_sz h - z0 ≤ R.cells ∧ h_sl h - l0 ≤ R.slots) (hz : z0 ≤ h_sz h ∧ l0 ≤ h_sl h) (hd : decode (mC k) pc = .ok (.getfield i, 3)) (hT : iT (.getfield i) pc tgt = true) (hSt : okS k (meth k) (.getfield i) = true) (ha : act (meth k).1 rt (.getfield i) 3 tgt pc lv st h = some (true, nx)) (hN : OkN p l e R s m args below mth c Q w z0 l0 nx) : Go p l e R s m args below mth c Q w z0 l0 pc lv st h := by
  obtain ⟨hx, hb, hmL, hown, hrt, hlk, hnm, hW, hK, hF, hbs⟩ := C
  simp only [act] at ha
  split at ha
  · split at ha
    · rename_i a r _ q j t hf
      have key : isK h a q = true ∧ nx = .inl (pc + 3, lv, gf h a t j :: r, h) := by
        clear hSt hf
        match t, ha with
        | 0, ha => obtain ⟨hg, e⟩ := dt_inj ha; exact ⟨hg, e.symm⟩
        | 1, ha => obtain ⟨hg, e⟩ := dt_inj ha; exact ⟨hg, e.symm⟩
        | 2, ha => obtain ⟨hg, e⟩ := dt_inj ha; exact ⟨hg, e.symm⟩
        | n + 3, ha => obtain ⟨hg, e⟩ := dt_inj ha; exact ⟨hg, e.symm⟩
      obtain ⟨hg, rfl⟩ := key
      by_cases hq : q ≤ 9
      · exact g_getf hx hb hown hW hK hd hf hq hg hN.2
      · simp only [okS, hf, decide_eq_false hq, Bool.false_or, Bool.and_eq_true, Bool.or_eq_true, Bool.not_eq_true', decide_eq_true_eq, decide_eq_false_iff_not, beq_iff_eq, decide_eq_decide] at hSt
        refine g_getf_s hx hb hown hW hF hd hf hq hg (fun z => ?_) (fun z => ?_) (fun h9 z => ?_) hN.2
        · rcases hSt.1.1 with g | g
          · exact absurd z g
          · exact g
        · rcases hSt.1.2 with g | g
          · exact absurd z g
          · exact g
        · rw [hSt.2] at z; cases z
    · cases ha
  · cases ha
theorem k_putfield {i : Nat} (C : CXk p s m args mth c w k) (hml : (meth k).2.2.1 = lv.length) (hR : 1 ≤ R.frames ∧ 41 ≤ R.locals) (hcu : h_sz h - z0 ≤ R.cells ∧ h_sl h - l0 ≤ R.slots) (hz : z0 ≤ h_sz h ∧ l0 ≤ h_sl h) (hd : decode (mC k) pc = .ok (.putfield i, 3)) (hT : iT (.putfield i) pc tgt = true) (hSt : okS k (meth k) (.putfield i) = true) (ha : act (meth k).1 rt (.putfield i) 3 tgt pc lv st h = some (true, nx)) (hN : OkN p l e R s m args below mth c Q w z0 l0 nx) : Go p l e R s m args below mth c Q w z0 l0 pc lv st h := by
  obtain ⟨hx, hb, hmL, hown, hrt, hlk, hnm, hW, hK, hF, hbs⟩ := C
  have hfin : ∀ (q j t : Nat), fres (meth k).1 i = some (q, j, t) → q ≤ 9 ∧ FinOK s args mth (meth k).1 i q j := by
    intro q j t hf
    simp only [okS, hf, Bool.and_eq_true, Bool.or_eq_true, Bool.not_eq_true', decide_eq_true_eq] at hSt
    refine ⟨hSt.1, fun hT2 => ?_⟩
    rcases hSt.2 with g | g
    · rw [hT2] at g; cases g
    · exact ⟨(hnm (fun z => by rw [z] at g; exact absurd g.1.1 (by decide +kernel))).trans g.1.1, g.1.2, hW.at g.2 rfl⟩
  simp only [act] at ha
  split at ha
  · rename_i q j hf
    split at ha
    · obtain ⟨hg, rfl⟩ := dt_inj ha
      exact g_putI hx hb hown hW hK hd hf (hfin _ _ _ hf).1 hg (hfin _ _ _ hf).2 hN.2
    · cases ha
  · rename_i q j hf
    split at ha
    · obtain ⟨hg, rfl⟩ := dt_inj ha
      exact g_putL hx hb hown hW hK hd hf (hfin _ _ _ hf).1 hg (hfin _ _ _ hf).2 hN.2
    · cases ha
  · rename_i q j hf
    split at ha
    · obtain ⟨hg, rfl⟩ := dt_inj ha
      exact g_putR hx hb hown hW hK hd hf (hfin _ _ _ hf).1 hg (hfin _ _ _ hf).2 hN.2
    · cases ha
  · rename_i q j hf
    split at ha
    · obtain ⟨hg, rfl⟩ := dt_inj ha
      simp only [Bool.and_eq_true, Bool.or_eq_true, decide_eq_true_eq] at hg
      exact g_putZ hx hb hown hW hK hd hf (hfin _ _ _ hf).1 hg.1 hg.2 (hfin _ _ _ hf).2 hN.2
    · cases ha
  · cases ha
theorem k_new {i : Nat} (C : CXk p s m args mth c w k) (hml : (meth k).2.2.1 = lv.length) (hR : 1 ≤ R.frames ∧ 41 ≤ R.locals) (hcu : h_sz h - z0 ≤ R.cells ∧ h_sl h - l0 ≤ R.slots) (hz : z0 ≤ h_sz h ∧ l0 ≤ h_sl h) (hd : decode (mC k) pc = .ok (.new i, 3)) (hT : iT (.new i) pc tgt = true) (hSt : okS k (meth k) (.new i) = true) (hS2 : okN2 (meth k).1 (.new i) = true) (ha : act (meth k).1 rt (.new i) 3 tgt pc lv st h = some (true, nx)) (hN : OkN p l e R s m args below mth c Q w z0 l0 nx) : Go p l e R s m args below mth c Q w z0 l0 pc lv st h := by
  obtain ⟨hx, hb, hmL, hown, hrt, hlk, hnm, hW, hK, hF, hbs⟩ := C
  simp only [act] at ha
  split at ha
  · rename_i q n hf
    cases hq : Nat.beq q 99 with
    | true =>
      rw [hq] at ha
      obtain ⟨hg, rfl⟩ := dt_inj ha
      exact hN.elim
    | false =>
      rw [hq] at ha
      obtain ⟨hg, rfl⟩ := dt_inj ha
      exact g_new hx hb hown hW hK hbs hd hf (fun z => by subst z; cases hq) hz.1 hz.2 hN.1.1 hN.1.2 (fun z => by subst z; simp only [okN2, hf] at hS2; cases hS2) hN.2
  · cases ha
theorem k_newarray {t : ArrayType} (C : CXk p s m args mth c w k) (hml : (meth k).2.2.1 = lv.length) (hR : 1 ≤ R.frames ∧ 41 ≤ R.locals) (hcu : h_sz h - z0 ≤ R.cells ∧ h_sl h - l0 ≤ R.slots) (hz : z0 ≤ h_sz h ∧ l0 ≤ h_sl h) (hd : decode (mC k) pc = .ok (.newarray t, 2)) (hT : iT (.newarray t) pc tgt = true) (hSt : okS k (meth k) (.newarray t) = true) (ha : act (meth k).1 rt (.newarray t) 2 tgt pc lv st h = some (true, nx)) (hN : OkN p l e R s m args below mth c Q w z0 l0 nx) : Go p l e R s m args below mth c Q w z0 l0 pc lv st h := by
  obtain ⟨hx, hb, hmL, hown, hrt, hlk, hnm, hW, hK, hF, hbs⟩ := C
  simp only [act] at ha
  split at ha
  · split at ha
    · obtain ⟨hg, rfl⟩ := dt_inj ha
      simp only [Bool.and_eq_true, decide_eq_true_eq] at hg
      exact g_newi hx hb hW hK (Or.inl ⟨rfl, rfl, rfl⟩) hd hg.1 hg.2 hz.1 hz.2 hN.1.1 hN.1.2 hN.2
    · obtain ⟨hg, rfl⟩ := dt_inj ha
      simp only [Bool.and_eq_true, decide_eq_true_eq] at hg
      exact g_newi hx hb hW hK (Or.inr (Or.inl ⟨rfl, rfl, rfl⟩)) hd hg.1 hg.2 hz.1 hz.2 hN.1.1 hN.1.2 hN.2
    · obtain ⟨hg, rfl⟩ := dt_inj ha
      simp only [Bool.and_eq_true, decide_eq_true_eq] at hg
      exact g_newl hx hb hW hK hd hg.1 hg.2 hz.1 hz.2 hN.1.1 hN.1.2 hN.2
    · obtain ⟨hg, rfl⟩ := dt_inj ha
      simp only [Bool.and_eq_true, decide_eq_true_eq] at hg
      exact g_newi hx hb hW hK (Or.inr (Or.inr ⟨rfl, rfl, rfl⟩)) hd hg.1 hg.2 hz.1 hz.2 hN.1.1 hN.1.2 hN.2
    · cases ha
  · cases ha
theorem k_anewarray {i : Nat} (C : CXk p s m args mth c w k) (hml : (meth k).2.2.1 = lv.length) (hR : 1 ≤ R.frames ∧ 41 ≤ R.locals) (hcu : h_sz h - z0 ≤ R.cells ∧ h_sl h - l0 ≤ R.slots) (hz : z0 ≤ h_sz h ∧ l0 ≤ h_sl h) (hd : decode (mC k) pc = .ok (.anewarray i, 3)) (hT : iT (.anewarray i) pc tgt = true) (hSt : okS k (meth k) (.anewarray i) = true) (ha : act (meth k).1 rt (.anewarray i) 3 tgt pc lv st h = some (true, nx)) (hN : OkN p l e R s m args below mth c Q w z0 l0 nx) : Go p l e R s m args below mth c Q w z0 l0 pc lv st h := by
  obtain ⟨hx, hb, hmL, hown, hrt, hlk, hnm, hW, hK, hF, hbs⟩ := C
  simp only [act] at ha
  split at ha
  · split at ha
    · rename_i hf
      obtain ⟨hg, rfl⟩ := dt_inj ha
      simp only [Bool.and_eq_true, decide_eq_true_eq] at hg
      exact g_anew hx hb hown hW hK hd hf hg.1 hg.2 hz.1 hz.2 hN.1.1 hN.1.2 hN.2
    · cases ha
  · cases ha
theorem k_arraylength  (C : CXk p s m args mth c w k) (hml : (meth k).2.2.1 = lv.length) (hR : 1 ≤ R.frames ∧ 41 ≤ R.locals) (hcu : h_sz h - z0 ≤ R.cells ∧ h_sl h - l0 ≤ R.slots) (hz : z0 ≤ h_sz h ∧ l0 ≤ h_sl h) (hd : decode (mC k) pc = .ok (.arraylength, 1)) (hT : iT (.arraylength) pc tgt = true) (hSt : okS k (meth k) (.arraylength) = true) (ha : act (meth k).1 rt (.arraylength) 1 tgt pc lv st h = some (true, nx)) (hN : OkN p l e R s m args below mth c Q w z0 l0 nx) : Go p l e R s m args below mth c Q w z0 l0 pc lv st h := by
  obtain ⟨hx, hb, hmL, hown, hrt, hlk, hnm, hW, hK, hF, hbs⟩ := C
  simp only [act] at ha
  split at ha
  · obtain ⟨hg, rfl⟩ := dt_inj ha
    simp only [Bool.or_eq_true] at hg
    rcases hg with ((((g | g) | g) | g) | g) | g
    · exact g_alen hx hb hK hd (by have := isK_eq g; omega) hN.2
    · exact g_alen_s hx hb hF hd (by have := isK_eq g; omega) hN.2
    · exact g_alen_s hx hb hF hd (by have := isK_eq g; omega) hN.2
    · exact g_alen_s hx hb hF hd (by have := isK_eq g; omega) hN.2
    · exact g_alen hx hb hK hd (by have := isK_eq g; omega) hN.2
    · exact g_alen hx hb hK hd (by have := isK_eq g; omega) hN.2
  · cases ha
theorem k_iaload  (C : CXk p s m args mth c w k) (hml : (meth k).2.2.1 = lv.length) (hR : 1 ≤ R.frames ∧ 41 ≤ R.locals) (hcu : h_sz h - z0 ≤ R.cells ∧ h_sl h - l0 ≤ R.slots) (hz : z0 ≤ h_sz h ∧ l0 ≤ h_sl h) (hd : decode (mC k) pc = .ok (.iaload, 1)) (hT : iT (.iaload) pc tgt = true) (hSt : okS k (meth k) (.iaload) = true) (ha : act (meth k).1 rt (.iaload) 1 tgt pc lv st h = some (true, nx)) (hN : OkN p l e R s m args below mth c Q w z0 l0 nx) : Go p l e R s m args below mth c Q w z0 l0 pc lv st h := by
  obtain ⟨hx, hb, hmL, hown, hrt, hlk, hnm, hW, hK, hF, hbs⟩ := C
  simp only [act] at ha
  split at ha
  · obtain ⟨hg, rfl⟩ := dt_inj ha
    simp only [Bool.and_eq_true, Bool.or_eq_true] at hg
    rcases hg.1 with g | g
    · exact g_iald hx hb hK hd g hg.2 hN.2
    · exact g_iald_s hx hb hF hd g hg.2 hN.2
  · cases ha
theorem k_baload  (C : CXk p s m args mth c w k) (hml : (meth k).2.2.1 = lv.length) (hR : 1 ≤ R.frames ∧ 41 ≤ R.locals) (hcu : h_sz h - z0 ≤ R.cells ∧ h_sl h - l0 ≤ R.slots) (hz : z0 ≤ h_sz h ∧ l0 ≤ h_sl h) (hd : decode (mC k) pc = .ok (.baload, 1)) (hT : iT (.baload) pc tgt = true) (hSt : okS k (meth k) (.baload) = true) (ha : act (meth k).1 rt (.baload) 1 tgt pc lv st h = some (true, nx)) (hN : OkN p l e R s m args below mth c Q w z0 l0 nx) : Go p l e R s m args below mth c Q w z0 l0 pc lv st h := by
  obtain ⟨hx, hb, hmL, hown, hrt, hlk, hnm, hW, hK, hF, hbs⟩ := C
  simp only [act] at ha
  split at ha
  · obtain ⟨hg, rfl⟩ := dt_inj ha
    simp only [Bool.and_eq_true, Bool.or_eq_true] at hg
    rcases hg.1 with g | g
    · exact g_zald hx hb hK hd g hg.2 hN.2
    · exact g_bald_s hx hb hF hd g hg.2 hN.2
  · cases ha
theorem k_aaload  (C : CXk p s m args mth c w k) (hml : (meth k).2.2.1 = lv.length) (hR : 1 ≤ R.frames ∧ 41 ≤ R.locals) (hcu : h_sz h - z0 ≤ R.cells ∧ h_sl h - l0 ≤ R.slots) (hz : z0 ≤ h_sz h ∧ l0 ≤ h_sl h) (hd : decode (mC k) pc = .ok (.aaload, 1)) (hT : iT (.aaload) pc tgt = true) (hSt : okS k (meth k) (.aaload) = true) (ha : act (meth k).1 rt (.aaload) 1 tgt pc lv st h = some (true, nx)) (hN : OkN p l e R s m args below mth c Q w z0 l0 nx) : Go p l e R s m args below mth c Q w z0 l0 pc lv st h := by
  obtain ⟨hx, hb, hmL, hown, hrt, hlk, hnm, hW, hK, hF, hbs⟩ := C
  simp only [act] at ha
  split at ha
  · obtain ⟨hg, rfl⟩ := dt_inj ha
    simp only [Bool.and_eq_true, Bool.or_eq_true] at hg
    rcases hg.1 with g | g
    · exact g_aald hx hb hK hd g hg.2 hN.2
    · exact g_aald_s hx hb hF hd g hg.2 hN.2
  · cases ha
theorem k_caload  (C : CXk p s m args mth c w k) (hml : (meth k).2.2.1 = lv.length) (hR : 1 ≤ R.frames ∧ 41 ≤ R.locals) (hcu : h_sz h - z0 ≤ R.cells ∧ h_sl h - l0 ≤ R.slots) (hz : z0 ≤ h_sz h ∧ l0 ≤ h_sl h) (hd : decode (mC k) pc = .ok (.caload, 1)) (hT : iT (.caload) pc tgt = true) (hSt : okS k (meth k) (.caload) = true) (ha : act (meth k).1 rt (.caload) 1 tgt pc lv st h = some (true, nx)) (hN : OkN p l e R s m args below mth c Q w z0 l0 nx) : Go p l e R s m args below mth c Q w z0 l0 pc lv st h := by
  obtain ⟨hx, hb, hmL, hown, hrt, hlk, hnm, hW, hK, hF, hbs⟩ := C
  simp only [act] at ha
  split at ha
  · obtain ⟨hg, rfl⟩ := dt_inj ha
    simp only [Bool.and_eq_true, Bool.or_eq_true] at hg
    exact g_cald hx hb hK hd hg.1 hg.2 hN.2
  · cases ha
theorem k_laload  (C : CXk p s m args mth c w k) (hml : (meth k).2.2.1 = lv.length) (hR : 1 ≤ R.frames ∧ 41 ≤ R.locals) (hcu : h_sz h - z0 ≤ R.cells ∧ h_sl h - l0 ≤ R.slots) (hz : z0 ≤ h_sz h ∧ l0 ≤ h_sl h) (hd : decode (mC k) pc = .ok (.laload, 1)) (hT : iT (.laload) pc tgt = true) (hSt : okS k (meth k) (.laload) = true) (ha : act (meth k).1 rt (.laload) 1 tgt pc lv st h = some (true, nx)) (hN : OkN p l e R s m args below mth c Q w z0 l0 nx) : Go p l e R s m args below mth c Q w z0 l0 pc lv st h := by
  obtain ⟨hx, hb, hmL, hown, hrt, hlk, hnm, hW, hK, hF, hbs⟩ := C
  simp only [act] at ha
  split at ha
  · obtain ⟨hg, rfl⟩ := dt_inj ha
    simp only [Bool.and_eq_true, Bool.or_eq_true] at hg
    exact g_lald hx hb hK hd hg.1 hg.2 hN.2
  · cases ha
theorem k_iastore  (C : CXk p s m args mth c w k) (hml : (meth k).2.2.1 = lv.length) (hR : 1 ≤ R.frames ∧ 41 ≤ R.locals) (hcu : h_sz h - z0 ≤ R.cells ∧ h_sl h - l0 ≤ R.slots) (hz : z0 ≤ h_sz h ∧ l0 ≤ h_sl h) (hd : decode (mC k) pc = .ok (.iastore, 1)) (hT : iT (.iastore) pc tgt = true) (hSt : okS k (meth k) (.iastore) = true) (ha : act (meth k).1 rt (.iastore) 1 tgt pc lv st h = some (true, nx)) (hN : OkN p l e R s m args below mth c Q w z0 l0 nx) : Go p l e R s m args below mth c Q w z0 l0 pc lv st h := by
  obtain ⟨hx, hb, hmL, hown, hrt, hlk, hnm, hW, hK, hF, hbs⟩ := C
  simp only [act] at ha
  split at ha
  · obtain ⟨hg, rfl⟩ := dt_inj ha
    simp only [Bool.and_eq_true, Bool.or_eq_true, decide_eq_true_eq] at hg
    exact g_iast hx hb hK hd hg.1 hg.2 hN.2
  · cases ha
theorem k_lastore  (C : CXk p s m args mth c w k) (hml : (meth k).2.2.1 = lv.length) (hR : 1 ≤ R.frames ∧ 41 ≤ R.locals) (hcu : h_sz h - z0 ≤ R.cells ∧ h_sl h - l0 ≤ R.slots) (hz : z0 ≤ h_sz h ∧ l0 ≤ h_sl h) (hd : decode (mC k) pc = .ok (.lastore, 1)) (hT : iT (.lastore) pc tgt = true) (hSt : okS k (meth k) (.lastore) = true) (ha : act (meth k).1 rt (.lastore) 1 tgt pc lv st h = some (true, nx)) (hN : OkN p l e R s m args below mth c Q w z0 l0 nx) : Go p l e R s m args below mth c Q w z0 l0 pc lv st h := by
  obtain ⟨hx, hb, hmL, hown, hrt, hlk, hnm, hW, hK, hF, hbs⟩ := C
  simp only [act] at ha
  split at ha
  · obtain ⟨hg, rfl⟩ := dt_inj ha
    simp only [Bool.and_eq_true, Bool.or_eq_true, decide_eq_true_eq] at hg
    exact g_last hx hb hK hd hg.1 hg.2 hN.2
  · cases ha
theorem k_castore  (C : CXk p s m args mth c w k) (hml : (meth k).2.2.1 = lv.length) (hR : 1 ≤ R.frames ∧ 41 ≤ R.locals) (hcu : h_sz h - z0 ≤ R.cells ∧ h_sl h - l0 ≤ R.slots) (hz : z0 ≤ h_sz h ∧ l0 ≤ h_sl h) (hd : decode (mC k) pc = .ok (.castore, 1)) (hT : iT (.castore) pc tgt = true) (hSt : okS k (meth k) (.castore) = true) (ha : act (meth k).1 rt (.castore) 1 tgt pc lv st h = some (true, nx)) (hN : OkN p l e R s m args below mth c Q w z0 l0 nx) : Go p l e R s m args below mth c Q w z0 l0 pc lv st h := by
  obtain ⟨hx, hb, hmL, hown, hrt, hlk, hnm, hW, hK, hF, hbs⟩ := C
  simp only [act] at ha
  split at ha
  · obtain ⟨hg, rfl⟩ := dt_inj ha
    simp only [Bool.and_eq_true, Bool.or_eq_true, decide_eq_true_eq] at hg
    exact g_cast hx hb hK hd hg.1.1.1 hg.1.1.2 hg.1.2 hg.2 hN.2
  · cases ha
theorem k_bastore  (C : CXk p s m args mth c w k) (hml : (meth k).2.2.1 = lv.length) (hR : 1 ≤ R.frames ∧ 41 ≤ R.locals) (hcu : h_sz h - z0 ≤ R.cells ∧ h_sl h - l0 ≤ R.slots) (hz : z0 ≤ h_sz h ∧ l0 ≤ h_sl h) (hd : decode (mC k) pc = .ok (.bastore, 1)) (hT : iT (.bastore) pc tgt = true) (hSt : okS k (meth k) (.bastore) = true) (ha : act (meth k).1 rt (.bastore) 1 tgt pc lv st h = some (true, nx)) (hN : OkN p l e R s m args below mth c Q w z0 l0 nx) : Go p l e R s m args below mth c Q w z0 l0 pc lv st h := by
  obtain ⟨hx, hb, hmL, hown, hrt, hlk, hnm, hW, hK, hF, hbs⟩ := C
  simp only [act] at ha
  split at ha
  · obtain ⟨hg, rfl⟩ := dt_inj ha
    simp only [Bool.and_eq_true, Bool.or_eq_true, decide_eq_true_eq] at hg
    exact g_zast hx hb hK hd hg.1.1 hg.1.2 hg.2 hN.2
  · cases ha
theorem k_aastore  (C : CXk p s m args mth c w k) (hml : (meth k).2.2.1 = lv.length) (hR : 1 ≤ R.frames ∧ 41 ≤ R.locals) (hcu : h_sz h - z0 ≤ R.cells ∧ h_sl h - l0 ≤ R.slots) (hz : z0 ≤ h_sz h ∧ l0 ≤ h_sl h) (hd : decode (mC k) pc = .ok (.aastore, 1)) (hT : iT (.aastore) pc tgt = true) (hSt : okS k (meth k) (.aastore) = true) (ha : act (meth k).1 rt (.aastore) 1 tgt pc lv st h = some (true, nx)) (hN : OkN p l e R s m args below mth c Q w z0 l0 nx) : Go p l e R s m args below mth c Q w z0 l0 pc lv st h := by
  obtain ⟨hx, hb, hmL, hown, hrt, hlk, hnm, hW, hK, hF, hbs⟩ := C
  simp only [act] at ha
  split at ha
  · obtain ⟨hg, rfl⟩ := dt_inj ha
    simp only [Bool.and_eq_true, Bool.or_eq_true, decide_eq_true_eq] at hg
    exact g_aast hx hb hK hd hg.1.1 hg.1.2 hg.2 hN.2
  · cases ha
theorem k_tableswitch {d lo hi : Int} {offs : Array Int} {len : Nat} (C : CXk p s m args mth c w k) (hml : (meth k).2.2.1 = lv.length) (hR : 1 ≤ R.frames ∧ 41 ≤ R.locals) (hcu : h_sz h - z0 ≤ R.cells ∧ h_sl h - l0 ≤ R.slots) (hz : z0 ≤ h_sz h ∧ l0 ≤ h_sl h) (hd : decode (mC k) pc = .ok (.tableswitch d lo hi offs, len)) (hT : iT (.tableswitch d lo hi offs) pc tgt = true) (hSt : okS k (meth k) (.tableswitch d lo hi offs) = true) (ha : act (meth k).1 rt (.tableswitch d lo hi offs) len tgt pc lv st h = some (true, nx)) (hN : OkN p l e R s m args below mth c Q w z0 l0 nx) : Go p l e R s m args below mth c Q w z0 l0 pc lv st h := by
  obtain ⟨hx, hb, hmL, hown, hrt, hlk, hnm, hW, hK, hF, hbs⟩ := C
  simp only [act] at ha
  split at ha
  · obtain ⟨hg, rfl⟩ := dt_inj ha
    exact g_tsw hx hb hd hT hN
  · cases ha
theorem k_lookupswitch {d : Int} {ps : Array (Int × Int)} {len : Nat} (C : CXk p s m args mth c w k) (hml : (meth k).2.2.1 = lv.length) (hR : 1 ≤ R.frames ∧ 41 ≤ R.locals) (hcu : h_sz h - z0 ≤ R.cells ∧ h_sl h - l0 ≤ R.slots) (hz : z0 ≤ h_sz h ∧ l0 ≤ h_sl h) (hd : decode (mC k) pc = .ok (.lookupswitch d ps, len)) (hT : iT (.lookupswitch d ps) pc tgt = true) (hSt : okS k (meth k) (.lookupswitch d ps) = true) (ha : act (meth k).1 rt (.lookupswitch d ps) len tgt pc lv st h = some (true, nx)) (hN : OkN p l e R s m args below mth c Q w z0 l0 nx) : Go p l e R s m args below mth c Q w z0 l0 pc lv st h := by
  obtain ⟨hx, hb, hmL, hown, hrt, hlk, hnm, hW, hK, hF, hbs⟩ := C
  simp only [act] at ha
  split at ha
  · obtain ⟨hg, rfl⟩ := dt_inj ha
    exact g_lsw hx hb hd hT hN
  · cases ha
end S16
