theorem ord_ck2 : (mres_t.all fun o => o.2.all fun e => !(Nat.beq e.2.1 8) || !decide (lw_tbl[mth_p o.1 e.1]? = some (Cond.methodLinkNest (oN o.1) e.1 (mLk e.2.1 e.2.2.1) "IceBridge"))) = true := by decide +kernel
theorem ord_nn {own k ci n q t : Nat} (h : mres own k = some (8, ci, n, q, t)) : ¬ lw_tbl[mth_p own k]? = some (Cond.methodLinkNest (oN own) k (mLk 8 ci) "IceBridge") := by
  unfold mres at h
  cases h1 : lk mres_t own with
  | none => rw [h1] at h; cases h
  | some tb =>
    rw [h1] at h
    have h2 := all_of (all_of ord_ck2 (lk_mem _ h1)) (lk_mem _ h)
    have h3 : (!decide (lw_tbl[mth_p own k]? = some (Cond.methodLinkNest (oN own) k (mLk 8 ci) "IceBridge"))) = true := h2
    simpa using h3
theorem new_ck2 : (nres_t.all fun o => o.2.all fun e => !(Nat.beq e.2.1 14)) = true := by decide +kernel
theorem okN2_of (own : Nat) (i : Instr) : okN2 own i = true := by
  unfold okN2
  split
  · split
    · rename_i h
      unfold nres at h
      split at h
      · rename_i h1
        have h2 := all_of (all_of new_ck2 (lk_mem _ h1)) (lk_mem _ h)
        exact absurd h2 (by simp)
      · cases h
    · rfl
  · rfl
/-! calls by their instructions (written by wip/whole/gen_step3.py) -/
section S18
variable {p : Program} {l : Launch} {e : Env} {R : Room} {s : State} {m : MethodId} {args : Array Value} {below : List Frame} {mth : Method} {c : Code} {Q : State → Prop}
variable {w : WP} {z0 l0 k pc tgt rt : Nat} {lv st : List AV} {h : HP} {nx : NX}
theorem rst_of {own k mode ci n q t : Nat} (hf : mres own k = some (mode, ci, n, q, t)) (hm : mode = 1 ∨ mode = 2) (r : AV) (rest : List AV) : tst t r rest = rst (mR ci) r rest := by
  have h1 := mth_of hf
  unfold mOK at h1
  simp only [Bool.and_eq_true] at h1
  have h2 := h1.2
  rcases hm with rfl | rfl
  · clear h1 hf
    simp only at h2
    generalize mR ci = ty at h2 ⊢
    split at h2 <;> first | rfl | cases h2
  · clear h1 hf
    simp only at h2
    generalize mR ci = ty at h2 ⊢
    split at h2 <;> first | rfl | cases h2
theorem take_of {st as : List AV} {n : Nat} (h1 : (st.take n).reverse = as) (h2 : n ≤ st.length) : st = as.reverse ++ st.drop n ∧ as.length = n := by
  subst h1
  refine ⟨by rw [List.reverse_reverse, List.take_append_drop], by rw [List.length_reverse, List.length_take]; omega⟩
theorem k_invokespecial {i : Nat} (C : CXk p s m args mth c w k) (hml : (meth k).2.2.1 = lv.length) (hR : 1 ≤ R.frames ∧ 41 ≤ R.locals) (hcu : h_sz h - z0 ≤ R.cells ∧ h_sl h - l0 ≤ R.slots) (hz : z0 ≤ h_sz h ∧ l0 ≤ h_sl h) (hd : decode (mC k) pc = .ok (.invokespecial i, 3)) (hT : iT (.invokespecial i) pc tgt = true) (hSt : okS k (meth k) (.invokespecial i) = true) (hsp : ∀ t ci x, nx = .inr (.inr (.inl (t, ci, x))) → t ≠ 7 ∧ ci < 266) (ha : act (meth k).1 rt (.invokespecial i) 3 tgt pc lv st h = some (true, nx)) (hN : OkN p l e R s m args below mth c Q w z0 l0 nx) : Go p l e R s m args below mth c Q w z0 l0 pc lv st h := by
  obtain ⟨hx, hb, hmL, hown, hrt, hlk, hnm, hW, hK, hF, hbs⟩ := C
  have hml2 : c.maxLocals = lv.length := hmL.trans hml
  simp only [okS] at hSt
  split at hSt
  · rename_i ci n q t hf
    have hci := of_decide_eq_true hSt
    subst hci
    simp only [act, inv, hf] at ha
    split at ha
    · obtain ⟨hg, rfl⟩ := dt_inj ha
      simp only [Bool.and_eq_true, decide_eq_true_eq] at hg
      exact g_objInit hx hb hown hW hml2 hd hf hg.2 hg.1 hR hN.2
    · cases ha
  · rename_i ci n q t hf
    simp only [Bool.and_eq_true, decide_eq_true_eq] at hSt
    simp only [act, inv, hf] at ha
    split at ha
    · rename_i a as has
      obtain ⟨hg, rfl⟩ := dt_inj ha
      simp only [Bool.and_eq_true, decide_eq_true_eq] at hg
      obtain ⟨⟨hg1, hg2⟩, hg3⟩ := hg
      obtain ⟨hst, hlen⟩ := take_of has (Nat.le_of_ble_eq_true hg2)
      obtain ⟨d, r, h2, hM, hge, hRf, hRl, hc1, hs1, hGo⟩ := hN
      rw [rst_of hf (Or.inr rfl)] at hGo
      have kk := g_virt (rest := st.drop n) hx hb hown hW hK hF hml2 false hd hf hSt.1.1 ⟨fun _ => hSt.1.2, fun _ => rfl⟩ (fun _ => hSt.2) hg3 hM hlen hg1 hRf hRl hc1 hs1 hz.1 hz.2 hge.1 hge.2 hGo
      have e1 : as.reverse ++ vr a :: st.drop n = st := by
        have h9 := hst
        rw [List.reverse_cons, List.append_assoc] at h9
        exact h9.symm
      rw [e1] at kk
      exact kk
    · cases ha
  · rename_i hf
    simp only [act, inv, hf] at ha
    cases ha
  · cases hSt
theorem k_invokevirtual {i : Nat} (C : CXk p s m args mth c w k) (hml : (meth k).2.2.1 = lv.length) (hR : 1 ≤ R.frames ∧ 41 ≤ R.locals) (hcu : h_sz h - z0 ≤ R.cells ∧ h_sl h - l0 ≤ R.slots) (hz : z0 ≤ h_sz h ∧ l0 ≤ h_sl h) (hd : decode (mC k) pc = .ok (.invokevirtual i, 3)) (hT : iT (.invokevirtual i) pc tgt = true) (hSt : okS k (meth k) (.invokevirtual i) = true) (hsp : ∀ t ci x, nx = .inr (.inr (.inl (t, ci, x))) → t ≠ 7 ∧ ci < 266) (hR2 : 2 ≤ R.frames ∧ 82 ≤ R.locals) (ha : act (meth k).1 rt (.invokevirtual i) 3 tgt pc lv st h = some (true, nx)) (hN : OkN p l e R s m args below mth c Q w z0 l0 nx) : Go p l e R s m args below mth c Q w z0 l0 pc lv st h := by
  obtain ⟨hx, hb, hmL, hown, hrt, hlk, hnm, hW, hK, hF, hbs⟩ := C
  have hml2 : c.maxLocals = lv.length := hmL.trans hml
  simp only [okS] at hSt
  split at hSt
  · rename_i ci n q t hf
    simp only [Bool.and_eq_true, decide_eq_true_eq] at hSt
    simp only [act, inv, hf] at ha
    split at ha
    · rename_i a as has
      obtain ⟨hg, rfl⟩ := dt_inj ha
      simp only [Bool.and_eq_true, decide_eq_true_eq] at hg
      obtain ⟨⟨hg1, hg2⟩, hg3⟩ := hg
      obtain ⟨hst, hlen⟩ := take_of has (Nat.le_of_ble_eq_true hg2)
      obtain ⟨d, r, h2, hM, hge, hRf, hRl, hc1, hs1, hGo⟩ := hN
      rw [rst_of hf (Or.inr rfl)] at hGo
      have kk := g_virt (rest := st.drop n) hx hb hown hW hK hF hml2 true hd hf hSt.1 ⟨fun z => (by cases z), fun z => absurd z hSt.2⟩ (fun z => by cases z) hg3 hM hlen hg1 hRf hRl hc1 hs1 hz.1 hz.2 hge.1 hge.2 hGo
      have e1 : as.reverse ++ vr a :: st.drop n = st := by
        have h9 := hst
        rw [List.reverse_cons, List.append_assoc] at h9
        exact h9.symm
      rw [e1] at kk
      exact kk
    · cases ha
  · rename_i ci n q t hf
    simp only [act, inv, hf] at ha
    split at ha
    · obtain ⟨hg, rfl⟩ := dt_inj ha
      exact absurd rfl (hsp _ _ _ rfl).1
    · cases ha
  · rename_i ci n q t hf
    simp only [act, inv, hf] at ha
    split at ha
    · obtain ⟨hg, rfl⟩ := dt_inj ha
      simp only [Bool.and_eq_true, decide_eq_true_eq] at hg
      have hlk : (Cond.methodLink (oN (meth k).1) i ⟨"IceBridge$Word", "ordinal", "()I"⟩).before args s = true := by
        have h1 := mth_of hf
        unfold mOK at h1
        simp only [Bool.and_eq_true, Bool.or_eq_true, decide_eq_true_eq] at h1
        rcases h1.1.1 with g | g
        · exact hW.at g rfl
        · exact absurd g (ord_nn hf)
      exact g_ord hx hb hown hW hK hF hml2 hd hf hlk hg.2 hg.1 hR2.1 hR2.2 hN.1.1 hN.1.2 hz.1 hz.2 hN.2
    · cases ha
  · rename_i hf
    simp only [act, inv, hf] at ha
    cases ha
  · cases hSt
theorem k_invokestatic {i : Nat} (C : CXk p s m args mth c w k) (hml : (meth k).2.2.1 = lv.length) (hR : 1 ≤ R.frames ∧ 41 ≤ R.locals) (hcu : h_sz h - z0 ≤ R.cells ∧ h_sl h - l0 ≤ R.slots) (hz : z0 ≤ h_sz h ∧ l0 ≤ h_sl h) (hd : decode (mC k) pc = .ok (.invokestatic i, 3)) (hT : iT (.invokestatic i) pc tgt = true) (hSt : okS k (meth k) (.invokestatic i) = true) (hsp : ∀ t ci x, nx = .inr (.inr (.inl (t, ci, x))) → t ≠ 7 ∧ ci < 266) (ha : act (meth k).1 rt (.invokestatic i) 3 tgt pc lv st h = some (true, nx)) (hN : OkN p l e R s m args below mth c Q w z0 l0 nx) : Go p l e R s m args below mth c Q w z0 l0 pc lv st h := by
  obtain ⟨hx, hb, hmL, hown, hrt, hlk, hnm, hW, hK, hF, hbs⟩ := C
  have hml2 : c.maxLocals = lv.length := hmL.trans hml
  simp only [okS] at hSt
  split at hSt
  · rename_i ci n q t hf
    simp only [act, inv, hf] at ha
    obtain ⟨hg, rfl⟩ := dt_inj ha
    simp only [Bool.and_eq_true, decide_eq_true_eq] at hg
    obtain ⟨hg1, hg2⟩ := hg
    obtain ⟨hst, hlen⟩ := take_of (as := (st.take n).reverse) rfl (Nat.le_of_ble_eq_true hg2)
    obtain ⟨d, r, h2, hM, hge, hRf, hRl, hc1, hs1, hGo⟩ := hN
    rw [rst_of hf (Or.inl rfl)] at hGo
    have kk := g_static (rest := st.drop n) hx hb hown hW hK hF hml2 hd hf (hsp _ _ _ rfl).2 hM hlen hg1 hRf hRl hc1 hs1 hz.1 hz.2 hge.1 hge.2 hGo
    rw [← hst] at kk
    exact kk
  · rename_i ci n q t hf
    have hci := of_decide_eq_true hSt
    subst hci
    simp only [act, inv, hf] at ha
    split at ha
    · obtain ⟨hg, rfl⟩ := dt_inj ha
      exact g_min hx hb hown hW hml2 hd hf (of_decide_eq_true hg) hR hcu.1 hcu.2 hN.2
    · cases ha
  · rename_i ci n q t hf
    have hci := of_decide_eq_true hSt
    subst hci
    simp only [act, inv, hf] at ha
    split at ha
    · obtain ⟨hg, rfl⟩ := dt_inj ha
      exact g_max hx hb hown hW hml2 hd hf (of_decide_eq_true hg) hR hcu.1 hcu.2 hN.2
    · cases ha
  · rename_i ci n q t hf
    have hci := of_decide_eq_true hSt
    subst hci
    simp only [act, inv, hf] at ha
    split at ha
    · obtain ⟨hg, rfl⟩ := dt_inj ha
      exact g_abs hx hb hown hW hml2 hd hf (of_decide_eq_true hg) hR hcu.1 hcu.2 hN.2
    · cases ha
  · rename_i ci n q t hf
    have hci := of_decide_eq_true hSt
    subst hci
    simp only [act, inv, hf] at ha
    split at ha
    · obtain ⟨hg, rfl⟩ := dt_inj ha
      simp only [Bool.and_eq_true, decide_eq_true_eq] at hg
      obtain ⟨hg0, ⟨⟨⟨⟨⟨⟨g1, g2⟩, g3⟩, g4⟩, g5⟩, g6⟩, g7⟩⟩ := hg
      exact g_copy hx hb hown hW hK hml2 hd hf hg0 hR g1 g2 g3 g4 g5 g6 g7 hN.2
    · cases ha
  · rename_i hf
    simp only [act, inv, hf] at ha
    cases ha
  · cases hSt
end S18
