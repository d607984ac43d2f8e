/-! a method's entry; the single virtual member; calls by their instructions -/
theorem lgl (w : WP) : ∀ as : List AV, (lg_sl (as.map (rv w))).length = (ent as).length
  | [] => rfl
  | v :: t => by
    have ih := lgl w t
    unfold lg_sl at ih ⊢
    rw [List.map_cons, List.flatMap_cons, List.length_append, ih]
    match v with
    | .inl x => simp only [ent, List.length_cons]; rw [if_neg (by rw [rv_cat]; simp [cat])]; simp; omega
    | .inr (.inl x) => simp only [ent, List.length_cons]; rw [if_pos (by rw [rv_cat]; simp [cat])]; simp; omega
    | .inr (.inr (.inl x)) => simp only [ent, List.length_cons]; rw [if_neg (by rw [rv_cat]; simp [cat])]; simp; omega
    | .inr (.inr (.inr x)) => simp only [ent, List.length_cons]; rw [if_neg (by rw [rv_cat]; simp [cat])]; simp; omega
theorem lgs (w : WP) : ∀ (as : List AV), (∀ v ∈ as, inV v) → ∀ (i : Nat) (v : AV), (ent as)[i]? = some v → isU v = false → (lg_sl (as.map (rv w)))[i]? = some (.val (rv w v)) ∧ inV v
  | [], _, i, v, h, _ => by simp [ent] at h
  | u :: t, hI, i, v, h, hu => by
    have hi := lgs w t (fun v hv => hI v (List.mem_cons_of_mem _ hv))
    have hc : lg_sl ((u :: t).map (rv w)) = (if (rv w u).category = 2 then [.val (rv w u), .second] else [.val (rv w u)]) ++ lg_sl (t.map (rv w)) := by
      unfold lg_sl; rw [List.map_cons, List.flatMap_cons]
    have hu2 := hI u List.mem_cons_self
    have one : cat u = 1 → ent (u :: t) = u :: ent t := by
      intro hcu
      match u, hcu with
      | .inl x, _ => rfl
      | .inr (.inr (.inl x)), _ => rfl
      | .inr (.inr (.inr x)), _ => rfl
    rw [hc]
    by_cases hcu : cat u = 2
    · rw [if_pos (by rw [rv_cat]; exact hcu)]
      match u, hcu, hu2 with
      | .inr (.inl x), _, hu2 =>
        match i, h with
        | 0, h => cases h; exact ⟨rfl, hu2⟩
        | 1, h => cases h; simp [isU] at hu
        | j + 2, h => exact hi j v h hu
    · have hc1 : cat u = 1 := by
        match u, hcu with
        | .inl x, _ => rfl
        | .inr (.inl x), hcu => exact absurd rfl hcu
        | .inr (.inr (.inl x)), _ => rfl
        | .inr (.inr (.inr x)), _ => rfl
      rw [if_neg (by rw [rv_cat]; exact hcu)]
      rw [one hc1] at h
      match i, h with
      | 0, h => cases h; exact ⟨rfl, hu2⟩
      | j + 1, h => exact hi j v h hu
theorem fil_eq : ∀ (n : Nat) (l : List AV), l.length ≤ n → fil n l = l ++ List.replicate (n - l.length) vu
  | 0, l, h => by
    have : l = [] := List.eq_nil_of_length_eq_zero (by omega)
    subst this; rfl
  | n + 1, [], _ => by
    have := fil_eq n [] (Nat.zero_le _)
    show vu :: fil n [] = _
    rw [this]
    simp [List.replicate_succ]
  | n + 1, v :: t, h => by
    have := fil_eq n t (by simp at h; omega)
    show v :: fil n t = _
    rw [this]
    simp
theorem fil_len {n : Nat} {l : List AV} (h : l.length ≤ n) : (fil n l).length = n := by
  rw [fil_eq n l h]; simp; omega
theorem entry_LVr (w : WP) (as : List AV) (n : Nat) (hn : (ent as).length ≤ n) (hI : ∀ v ∈ as, inV v) : LVr w ((lg_sl (as.map (rv w)) ++ List.replicate (n - (lg_sl (as.map (rv w))).length) Slot.unset).toArray) (fil n (ent as)) := by
  have hl := lv_entry (as.map (rv w)) (n := n) (by rw [lgl]; exact hn)
  refine ⟨by rw [fil_len hn]; exact hl.1, hl.2.1, fun i v hv hu => ?_⟩
  rw [fil_eq n _ hn, List.getElem?_append] at hv
  split at hv
  · rename_i hlt
    obtain ⟨h1, h2⟩ := lgs w as hI i v hv hu
    refine ⟨?_, h2⟩
    rw [List.getElem?_toArray, List.getElem?_append_left (by rw [lgl]; exact hlt)]
    exact h1
  · rw [List.getElem?_replicate] at hv
    split at hv
    · cases hv; simp [isU] at hu
    · cases hv
/-! Enum.ordinal -/
def yOrd : MethodName := ⟨"java/lang/Enum", "ordinal", "()I"⟩
theorem ord_ck : lw_tbl[642]? = some (.code yOrd prog_19_method_2_code 1 (some .int)) ∧ lw_tbl[1940]? = some (.fieldLink "java/lang/Enum" 7 "java/lang/Enum" "ordinal" "I") ∧ lw_tbl[638]? = some (.sameMethod "IceBridge$Word" "java/lang/Enum" "ordinal" "()I") ∧ lw_tbl[639]? = some (.declares yOrd) ∧ lw_tbl[640]? = some (.selects "IceBridge$Word" ⟨"IceBridge$Word", "ordinal", "()I"⟩ yOrd) ∧ lw_tbl[641]? = some (.instanceMethod yOrd) ∧ lw_tbl[127]? = some (.initialized "java/lang/Enum") := by
  decide +kernel
theorem ord_d0 : decode prog_19_method_2_code 0 = .ok (.aload_n 0, 1) := by decide +kernel
theorem ord_d1 : decode prog_19_method_2_code 1 = .ok (.getfield 7, 3) := by decide +kernel
theorem ord_d4 : decode prog_19_method_2_code 4 = .ok (.ireturn, 1) := by decide +kernel
theorem met_ord {l : Launch} (w : WP) (h : HP) {a : Nat} (a1 : 1 ≤ a) (a2 : a ≤ 35) : Met l yOrd [Cond.code yOrd prog_19_method_2_code 1 (some .int)] { frames := 1, cells := 0, slots := 0, locals := 41 } (Pcc w [vr a] h) (Qcc w (some .int) (vi (h_mi h a 4)) h) 0 0 (Aw w) := by
  refine va_MetF (cc := prog_19_method_2_code) (maxL := 1) (ret := some .int) (by decide +kernel) rfl ?_
  intro p e s m args below meth c s₁ B hml hP
  obtain ⟨rfl, hI, hH, hW, hK, hF⟩ := hP
  have hx := B.exec
  have hb := B.bytes
  have hown : s.vm.findClass "java/lang/Enum" = some m.cls := findClass_of_methodNamed B.named
  have hL := entry_LVr w [vr a] 1 (by simp [ent]) hI
  rw [lg_entry_eq]
  generalize (lg_sl ([vr a].map (rv w)) ++ List.replicate (1 - (lg_sl ([vr a].map (rv w))).length) Slot.unset).toArray = ls at hL ⊢
  have hS : va_S (Aw w) s.heap s.heap [] := va_S.rf
  have hO := (hF.2.2.2.1 a a1 a2).1 4 (by omega)
  have hs := (hH.2.2.2.1 a (by omega)).2.2.1 4
  have hG : Go p l e (headSpec [Cond.code yOrd prog_19_method_2_code 1 (some .int)] { frames := 1, cells := 0, slots := 0, locals := 41 }).room s m ([vr a].map (rv w)).toArray below meth c (MQ below (Qcc w (some .int) (vi (h_mi h a 4)) h) ([vr a].map (rv w)).toArray s 0 0 (Aw w)) w (h_sz h) (h_sl h) 0 [vr a] [] h := by
    refine g_aload_n (i := 0) hx hb ord_d0 (x := a) rfl ?_
    intro H locs ls hH hS hL hI
    show W p l e _ s m _ below meth c H locs _ _ _ (F0 m _ ls (rv w (vr a) :: []))
    rw [ref_stat (w := w) (a := a) a1 (by omega)]
    refine vk_getf hx hb hO hS hown (hW.at ord_ck.2.1 rfl) (fun _ z => z) ord_d1 ?_
    have hr := g_ireturn (p := p) (l := l) (e := e) (R := (headSpec [Cond.code yOrd prog_19_method_2_code 1 (some .int)] { frames := 1, cells := 0, slots := 0, locals := 41 }).room) (s := s) (m := m) (args := ([vr a].map (rv w)).toArray) (below := below) (mth := meth) (c := c) (w := w) (z0 := h_sz h) (l0 := h_sl h) (pc := 4) (lv := [vr a]) (h := h) hx hb B.notSynchronized (x := h_mi h a 4) ord_d4 B.returns (fun _ => rfl) H locs ls hH hS hL (ic (v := vi (h_mi h a 4)) (hH.2.2.1.1 a 4) (it hI))
    have e1 : svF w a 4 = rv w (vi (h_mi h a 4)) := by rw [hs]; rfl
    rw [e1]
    rw [Nat.sub_self, Nat.sub_self] at hr ⊢
    exact hr
  have := hG s.heap [] ls hH hS hL (fun v hv => absurd hv List.not_mem_nil)
  simpa using this
section S17
variable {p : Program} {l : Launch} {e : Env} {R : Room} {s : State} {m : MethodId} {args : Array Value} {below : List Frame} {mth : Method} {c : Code} {Q : State → Prop}
variable {w : WP} {z0 l0 : Nat} {cc : ByteArray} {pc : Nat} {lv rest : List AV} {h h2 : HP} {own : Nat}
theorem g_ord (hx : p.tables.exec = Jvm.exec) (hb : c.code = cc) (hown : s.vm.findClass (oN own) = some m.cls) (hW : Wd s) (hK : va_K (w_D w) clsL (tysL w) s) (hF : SF w s) (hml : c.maxLocals = lv.length) {k ci n q t a : Nat} (hd : decode cc pc = .ok (.invokevirtual k, 3)) (hf : mres own k = some (8, ci, n, q, t)) (hlk : (Cond.methodLink (oN own) k ⟨"IceBridge$Word", "ordinal", "()I"⟩).before args s = true)
    (hk : isK h a 20 = true) (hc : cats rest ≤ 8) (hRf : 2 ≤ R.frames) (hRl : 82 ≤ R.locals) (hc1 : h_sz h - z0 ≤ R.cells) (hs1 : h_sl h - l0 ≤ R.slots) (hz : z0 ≤ h_sz h) (hl : l0 ≤ h_sl h)
    (kk : Go p l e R s m args below mth c Q w z0 l0 (pc + 3) lv (vi (h_mi h a 4) :: rest) h) : Go p l e R s m args below mth c Q w z0 l0 pc lv (vr a :: rest) h := by
  intro H locs ls hH hS hL hI
  obtain ⟨ha, hsk⟩ := kd_stat hH (isK_eq hk) (by omega) (by omega)
  obtain ⟨a1, a2⟩ := skd_20 hsk
  have hM := met_ord (l := l) w h a1 a2
  obtain ⟨cell, g1, g2, g3, g4⟩ := (hF.2.2.2.1 a a1 a2).2
  have hlt : w_sa w a < s.heap.size := (Array.getElem?_eq_some_iff.mp g1).1
  have e1 : (vr a :: rest).map (rv w) = ([] : List Value).reverse ++ .ref (w_sa w a) :: rest.map (rv w) := by
    rw [List.map_cons, ref_stat (w := w) a1 ha]; rfl
  rw [e1]
  have e2 : ([vr a].map (rv w)).toArray = (Value.ref (w_sa w a) :: ([] : List Value)).toArray := by rw [List.map_cons, ref_stat (w := w) a1 ha]; rfl
  have hW8 : 2 * (F0 m pc ls (([] : List Value).reverse ++ .ref (w_sa w a) :: rest.map (rv w))).monitorRoom + ((rest.map (rv w)).map fun v => v.category).sum ≤ 8 := by rw [cats_map]; show 2 * 0 + _ ≤ _; omega
  have hpre := pcc_pre hW hK hF hH hS [vr a] (List.forall_mem_cons.mpr ⟨trivial, fun v hv => absurd hv List.not_mem_nil⟩)
  rw [e2] at hpre
  obtain ⟨o1, o2, o3, o4, o5, o6, o7⟩ := ord_ck
  have cw : va_CU R s args (oN own) "IceBridge$Word" "java/lang/Enum" k ⟨"IceBridge$Word", "ordinal", "()I"⟩ yOrd prog_19_method_2_code 1 (some .int) [Cond.code yOrd prog_19_method_2_code 1 (some .int)] { frames := 1, cells := 0, slots := 0, locals := 41 } 0 0 0 := by
    refine ⟨⟨rfl, rfl, by show 1 + 1 ≤ _; omega, by show 8 + (1 + 11) + 41 ≤ _; omega, fun q hq a' U hU => ?_, List.mem_cons_self⟩, hW.at o1 rfl, hW.at o7 rfl, ⟨by decide +kernel, by decide +kernel⟩, fun sig hs => ?_, hlk, hW.at o3 rfl, va_Decl.of (args := args) (hW.at o6 rfl) (hW.at o1 rfl), hW.at o5 rfl, hW.at o6 rfl⟩
    · rw [List.mem_singleton] at hq; subst hq; exact (hW.warm hU).at o1 rfl
    · have : parseMethodDescriptor "()I" = some ⟨[], some .int⟩ := by decide +kernel
      have hs : parseMethodDescriptor "()I" = some sig := hs
      rw [this] at hs; cases hs; rfl
  have hcon := va_runU (l := l) (e := e) (below := below) (meth := mth) (locs := locs) (cells := h_sz h - z0) (slots := h_sl h - l0) (Ts := []) (C := "IceBridge$Word") (owner := "java/lang/Enum") ⟨hx, hb, hml, hown, fun _ z => absurd z List.not_mem_nil⟩ hM cw ⟨pcc_blind w _ h, ⟨cell, by rw [hS.2.1 _ hlt g4]; exact g1, g2, g3⟩, hpre⟩ (g := F0 m pc ls (([] : List Value).reverse ++ .ref (w_sa w a) :: rest.map (rv w))) rfl rfl hL.1 rfl hW8 hd ⟨by omega, by omega⟩
  rw [← e2] at hcon
  refine run_go (k := 1) (t := t) (as := [vr a]) (r := vi (h_mi h a 4)) (ty := some .int) (h2 := h) (rest := rest) ?_ hS hL (it hI) hz hl (Nat.le_refl _) (Nat.le_refl _) ?_ kk
  · exact rfl
  · rw [Nat.sub_self, Nat.sub_self]; exact hcon
end S17
