/-! a callee's words -/
theorem mdl_all : (mdl.all fun q => spec.any (Nat.beq q.1) || okM q) = true := by
  unfold mdl
  simp only [List.all_append, mdl_ck_0, mdl_ck_1, mdl_ck_2, mdl_ck_3, mdl_ck_4, mdl_ck_5, mdl_ck_6, mdl_ck_7, mdl_ck_8, mdl_ck_9, mdl_ck_10, mdl_ck_11, mdl_ck_12, mdl_ck_13, mdl_ck_14, mdl_ck_15, mdl_ck_16, mdl_ck_17, mdl_ck_18, mdl_ck_19, mdl_ck_20, mdl_ck_21, mdl_ck_22, mdl_ck_23, mdl_ck_24, mdl_ck_25, mdl_ck_26, Bool.and_true]
theorem mdl_in : ((List.range 269).all fun k => (lk mdl k).isSome && (lk meths k).isSome) = true := by decide +kernel
theorem spec_no : ((List.range 266).all fun k => !(spec.any (Nat.beq k)) && (match lk spB k with
  | some _ => false
  | none => true)) = true := by decide +kernel
theorem mI_at {k : Nat} (hk : k < 269) : lk mdl k = some (mI k) := by
  have h1 := rng_of mdl_in hk
  simp only [Bool.and_eq_true] at h1
  unfold mI
  cases h2 : lk mdl k with
  | none => rw [h2] at h1; simp at h1
  | some q => rfl
theorem okM_of {k : Nat} (hk : k < 266) : okM (k, mI k) = true := by
  have h1 := all_of mdl_all (lk_mem _ (mI_at (k := k) (by omega)))
  have h2 := rng_of spec_no hk
  simp only [Bool.and_eq_true, Bool.not_eq_true'] at h2
  simpa only [h2.1, Bool.false_or] using h1
/-- what the tables say of a method -/
theorem meth_w {s : State} (hW : Wd s) {k : Nat} (hk : k < 266) : (∀ a, (Cond.code (mN k) (mC k) (meth k).2.2.1 (mR k)).before a s = true) ∧ (∀ a, ((mI k).2.2.1 = true → (Cond.static (mN k)).before a s = true) ∧ ((mI k).2.2.1 = false → (Cond.instanceMethod (mN k)).before a s = true)) ∧
    (∀ a, (mI k).2.2.1 = false → (mN k).name ≠ "<init>" → (Cond.selects (mN k).cls (mN k) (mN k)).before a s = true) ∧ (∀ a, (Cond.initialized (mN k).cls).before a s = true) ∧ oN (meth k).1 = (mN k).cls ∧ rtC (meth k).2.1 (mR k) = true ∧ (meth k).2.2.1 ≤ 22 ∧ plainFor (mN k) = true ∧
    ((mN k).cls ≠ "java/lang/invoke/MethodHandle" ∧ (mN k).cls ≠ "java/lang/invoke/VarHandle") := by
  have h1 := okM_of hk
  have h2 := rng_of spec_no hk
  simp only [Bool.and_eq_true, Bool.not_eq_true'] at h2
  unfold okM at h1
  simp only [Bool.and_eq_true, Bool.or_eq_true, decide_eq_true_eq] at h1
  obtain ⟨⟨⟨⟨⟨⟨⟨⟨⟨c1, c2⟩, c3⟩, c4⟩, c5⟩, c6⟩, c7⟩, c8⟩, c9⟩, c10⟩ := h1
  have hC : ∃ b, lw_tbl[(mI k).2.2.2.1]? = some (.code (mN k) b (meth k).2.2.1 (mR k)) ∧ mC k = b := by
    have c1 : isC lw_tbl[(mI k).2.2.2.1]? (mN k) (meth k).2.2.1 (mR k) = true := c1
    cases hq : lw_tbl[(mI k).2.2.2.1]? with
    | none => rw [hq] at c1; cases c1
    | some q =>
      rw [hq] at c1
      unfold isC at c1
      split at c1
      · rename_i y2 b n2 r2 heq
        simp only [Bool.and_eq_true, decide_eq_true_eq] at c1
        obtain ⟨⟨rfl, rfl⟩, rfl⟩ := c1
        cases heq
        refine ⟨b, rfl, ?_⟩
        unfold mC
        have hs := h2.2
        split at hs
        · cases hs
        · rename_i hn
          rw [hn, hq]; rfl
      · cases c1
  obtain ⟨b, hb1, hb2⟩ := hC
  refine ⟨fun a => by rw [hb2]; exact hW.at hb1 rfl, fun a => ⟨fun hs => ?_, fun hs => ?_⟩, fun a hs hn => ?_, fun a => hW.at c4 rfl, c5, c6, c7, c8, c9, c10⟩
  · have c2 : lw_tbl[(mI k).2.2.2.2.1]? = some (bif (mI k).2.2.1 then .static (mN k) else .instanceMethod (mN k)) := c2
    rw [hs] at c2
    exact hW.at c2 rfl
  · have c2 : lw_tbl[(mI k).2.2.2.2.1]? = some (bif (mI k).2.2.1 then .static (mN k) else .instanceMethod (mN k)) := c2
    rw [hs] at c2
    exact hW.at c2 rfl
  · rcases c3 with (q | q) | q
    · exact absurd q (by have hs : (mI k).2.2.1 = false := hs; show ¬ (mI k).2.2.1 = true; rw [hs]; simp)
    · exact absurd q hn
    · exact hW.at q rfl
theorem SF.now {w : WP} {s U : State} {H : Heap} {locs : List Loc} (h : SF w s) (hS : va_S (Aw w) s.heap H locs) (hU : U.heap = H) (hW : s.WarmedH U.vm) : SF w U := by
  obtain ⟨h1, h2, h3, h4, h5, h6, h7, h8, h9, h10, h11, h12, h13⟩ := h
  have hv := hW.alike
  have hq := hS.2.1
  subst hU
  exact ⟨fun q hq2 => va_Z.moved hv ((h1 q hq2).kept hq), fun a a1 a2 => va_T.moved hv ((h2 a a1 a2).kept hq), va_T.moved hv (h3.kept hq), fun a a1 a2 => ⟨fun j hj => va_OF.moved hv (((h4 a a1 a2).1 j hj).kept hq), va_O.moved hv ((h4 a a1 a2).2.kept hq)⟩, h5, h6.warm hW, va_OF.moved hv (h7.kept hq), va_OF.moved hv (h8.kept hq), va_O.moved hv (h9.kept hq), va_T.moved hv (h10.kept hq), h11, vx_Zq.moved hv (h12.kept hq), vx_Zq.moved hv (h13.kept hq)⟩
theorem pcc_blind (w : WP) (as : List AV) (h : HP) : FrameBlind (Pcc w as h) := fun a U g mk q => ⟨q.1, q.2.1, q.2.2.1, q.2.2.2.1.same rfl, va_K.moved (u := U) (U := U.calling g mk a) (Vm.Alike.refl U.vm) q.2.2.2.2.1, q.2.2.2.2.2.moved (U := U.calling g mk a) (State.WarmedH.refl U) rfl⟩
/-- the stack behind a call -/
def rst (ty : Option FieldType) (r : AV) (rest : List AV) : List AV := match ty with
  | none => rest
  | some _ => r :: rest
section S13
variable {p : Program} {l : Launch} {e : Env} {R : Room} {s : State} {m : MethodId} {args : Array Value} {below : List Frame} {mth : Method} {c : Code} {Q : State → Prop}
variable {w : WP} {z0 l0 : Nat} {cc : ByteArray} {pc : Nat} {lv rest : List AV} {h h2 : HP} {own : Nat}
theorem pcc_pre (hW : Wd s) (hK : va_K (w_D w) clsL (tysL w) s) (hF : SF w s) {H : Heap} {locs : List Loc} (hH : HR w h H) (hS : va_S (Aw w) s.heap H locs) (as : List AV) (hA : ∀ v ∈ as, inV v) : ∀ U : State, U.heap = H → s.WarmedH U.vm → Pcc w as h (as.map (rv w)).toArray U := fun U hU hWU =>
  ⟨rfl, hA, by rw [hU]; exact hH, hW.warm hWU, va_K.moved hWU.alike hK, hF.now hS hU hWU⟩
/-- behind a call: the caller goes on with what the callee left -/
theorem run_go {k t : Nat} {as : List AV} {r : AV} {ty : Option FieldType} (hty : ty = mR k) {g0 : List Value} {H : Heap} {locs : List Loc} {ls : Array Slot} (hS : va_S (Aw w) s.heap H locs) (hL : LVr w ls lv) (hI : ∀ v ∈ rest, inV v) (hz : z0 ≤ h_sz h) (hl : l0 ≤ h_sl h) (hgz : h_sz h ≤ h_sz h2) (hgl : h_sl h ≤ h_sl h2)
    (hr : va_Run p l e R s m args below mth c H locs (h_sz h - z0) (h_sl h - l0) (h_sz h2 - h_sz h) (h_sl h2 - h_sl h) (F0 m pc ls g0) (rest.map (rv w)) (Qcc w ty r h2 (as.map (rv w)).toArray) (Aw w))
    (kk : Go p l e R s m args below mth c Q w z0 l0 (pc + 3) lv (rst ty r rest) h2) : W p l e R s m args below mth c H locs (h_sz h - z0) (h_sl h - l0) Q (F0 m pc ls g0) := by
  intro T hT X
  obtain ⟨v, st₀, t, T', L, h0, X', hLo, e1, e2, ⟨hv, hH2, ⟨hz2, hk2⟩, hrI⟩, st⟩ := hr T hT X
  cases hv
  rw [h0] at hz2 hk2
  have hS1 : va_S (Aw w) s.heap T'.heap (locs ++ L) := ⟨Nat.le_trans hS.1 (by rw [e1]; exact hz2), fun q h1 h3 => by rw [e1, hk2 q (Nat.lt_of_lt_of_le h1 hS.1) h3]; exact hS.2.1 q h1 h3, fun q hq => by
    rcases List.mem_append.mp hq with g | g
    · exact hS.2.2 q g
    · exact hLo q g⟩
  have c1 : h_sz h - z0 + (h_sz h2 - h_sz h) = h_sz h2 - z0 := by omega
  have c2 : h_sl h - l0 + (h_sl h2 - h_sl h) = h_sl h2 - l0 := by omega
  rw [c1, c2] at X'
  have k2 := kk T'.heap (locs ++ L) ls (by rw [e1]; exact hH2) hS1 hL (by cases ty; exact hI; exact ic hrI hI) T' rfl X'
  obtain ⟨t2, a1, b1⟩ := k2
  refine ⟨t2, st t2 ?_, b1⟩
  cases ty with
  | none => exact a1
  | some _ => exact a1
end S13
