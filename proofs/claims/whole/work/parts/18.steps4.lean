/-! the statics, null, switches, single members -/
def svF (w : WP) (a j : Nat) : Value := if j = 0 then .long (Int64.ofInt (sml a)) else .int (Int32.ofInt (smi w a j))
/-- what is known of the statics at a state -/
def SF (w : WP) (s : State) : Prop :=
  (∀ q ∈ sTab, va_Z q.1 q.2.1 q.2.2.1 (rv w q.2.2.2) (Aw w) s s.heap) ∧
  (∀ a, 37 ≤ a → a ≤ 40 → va_T .int (w_sa w a) (sln w a) (fun j => .int (Int32.ofInt (smi w a j))) (Aw w) s s.heap) ∧
  va_T (.object "IceBridge$Word") (w_sa w 36) 35 (fun j => .ref (w_sa w (j + 1))) (Aw w) s s.heap ∧
  (∀ a, 1 ≤ a → a ≤ 35 → (∀ j, j < 5 → va_OF (nmF 20 j).1 (nmF 20 j).2.1 (nmF 20 j).2.2 (svF w a j) (w_sa w a) (Aw w) s s.heap) ∧ va_O "IceBridge$Word" (w_sa w a) (Aw w) s s.heap) ∧
  (∀ a b, 1 ≤ a → a ≤ 35 → 1 ≤ b → b ≤ 35 → w_sa w a = w_sa w b → a = b) ∧
  vk_R "IceBridge$Tape" 41 "()<=+-*;" (w_sa w 41) s ∧ va_OF "java/lang/String" "value" "[B" (.ref (w_sa w 42)) (w_sa w 41) (Aw w) s s.heap ∧ va_OF "java/lang/String" "coder" "B" (.int 0) (w_sa w 41) (Aw w) s s.heap ∧ va_O "java/lang/String" (w_sa w 41) (Aw w) s s.heap ∧
  va_T .byte (w_sa w 42) 8 (fun j => .int (Int32.ofInt (smi w 42 j))) (Aw w) s s.heap ∧ (w_L w ≤ 3584 ∧ ∀ j, r32 (w_xs w j)) ∧ vx_Zq Bundle.tN "UNASSIGNED_STACK" Bundle.steD (Aw w) s s.heap ∧ vx_Zq Bundle.tN "SUPPRESSED_SENTINEL" Bundle.listD (Aw w) s s.heap
section S8
variable {p : Program} {l : Launch} {e : Env} {R : Room} {s : State} {m : MethodId} {args : Array Value} {below : List Frame} {mth : Method} {c : Code} {Q : State → Prop}
variable {w : WP} {z0 l0 : Nat} {cc : ByteArray} {pc : Nat} {lv r : List AV} {h : HP} {own : Nat}
theorem kd_stat {h : HP} {H : Heap} (hH : HR w h H) {a t : Nat} (hk : h_kd h a = t) (ht : 15 ≤ t) (ht2 : t ≠ 99) : a < 100 ∧ skd a = t := by
  rcases Nat.lt_or_ge a 100 with q | q
  · exact ⟨q, by rw [← (hH.2.2.2.1 a q).1]; exact hk⟩
  · rcases hH.2.2.1.2.2.2 a q with g | g <;> omega
theorem skd_21 {a : Nat} (h : skd a = 21) : 37 ≤ a ∧ a ≤ 40 := by unfold skd at h; repeat (split at h <;> try omega)
theorem skd_22 {a : Nat} (h : skd a = 22) : a = 36 := by unfold skd at h; repeat (split at h <;> try omega)
theorem skd_20 {a : Nat} (h : skd a = 20) : 1 ≤ a ∧ a ≤ 35 := by unfold skd at h; repeat (split at h <;> try omega)
theorem skd_23 {a : Nat} (h : skd a = 23) : a = 41 := by unfold skd at h; repeat (split at h <;> try omega)
theorem skd_24 {a : Nat} (h : skd a = 24) : a = 42 := by unfold skd at h; repeat (split at h <;> try omega)
theorem ref_stat {a : Nat} (h0 : 1 ≤ a) (h1 : a < 100) : rv w (vr a) = .ref (w_sa w a) := by
  show va_rf (ro w a) = _
  unfold ro
  rw [if_neg (by omega), if_pos h1]; rfl
/-- a static row is where it was -/
theorem T_now {ty : FieldType} {t N : Nat} {f : Nat → Value} {H : Heap} {locs : List Loc} (hT : va_T ty t N f (Aw w) s s.heap) (hS : va_S (Aw w) s.heap H locs) : va_T ty t N f (Aw w) s H := hT.kept hS.2.1
theorem g_iald_s (hx : p.tables.exec = Jvm.exec) (hb : c.code = cc) (hF : SF w s) {a : Nat} {i : Int} (hd : decode cc pc = .ok (.iaload, 1)) (hk : isK h a 21 = true) (hi : inb h a i = true)
    (kk : Go p l e R s m args below mth c Q w z0 l0 (pc + 1) lv (vi (h_mi h a i.toNat) :: r) h) : Go p l e R s m args below mth c Q w z0 l0 pc lv (vi i :: vr a :: r) h := by
  intro H locs ls hH hS hL hI
  obtain ⟨ha, hsk⟩ := kd_stat hH (isK_eq hk) (by omega) (by omega)
  obtain ⟨a1, a2⟩ := skd_21 hsk
  obtain ⟨cell, t1, t2, t3, t4, -, t5, -⟩ := T_now (hF.2.1 a a1 a2) hS
  obtain ⟨i0, i1⟩ := inb_of hi
  have hri : r32 i := ih hI
  have k2 := kk H locs ls hH hS hL (ic (v := vi _) (hH.2.2.1.1 a _) (it (it hI)))
  rw [(hH.2.2.2.1 a ha).2.1] at i1
  simp only [List.map_cons, ref_stat (w := w) (a := a) (by omega) ha] at k2 ⊢
  refine W.iald hx hb t1 t2 t3 (v := rv w (vi (h_mi h a i.toNat))) (fun z => ?_) ?_ rfl rfl hd k2
  · rcases z with z | z
    · rw [← o0, lt32 hri r0] at z; omega
    · rw [clamp32 hri i0] at z; omega
  · rw [clamp32 hri i0, t5 i.toNat (by omega), (hH.2.2.2.1 a ha).2.2.1]; rfl
theorem g_bald_s (hx : p.tables.exec = Jvm.exec) (hb : c.code = cc) (hF : SF w s) {a : Nat} {i : Int} (hd : decode cc pc = .ok (.baload, 1)) (hk : isK h a 24 = true) (hi : inb h a i = true)
    (kk : Go p l e R s m args below mth c Q w z0 l0 (pc + 1) lv (vi (h_mi h a i.toNat) :: r) h) : Go p l e R s m args below mth c Q w z0 l0 pc lv (vi i :: vr a :: r) h := by
  intro H locs ls hH hS hL hI
  obtain ⟨ha, hsk⟩ := kd_stat hH (isK_eq hk) (by omega) (by omega)
  have a1 := skd_24 hsk
  subst a1
  obtain ⟨cell, t1, t2, t3, t4, -, t5, -⟩ := T_now hF.2.2.2.2.2.2.2.2.2.1 hS
  obtain ⟨i0, i1⟩ := inb_of hi
  have hri : r32 i := ih hI
  have k2 := kk H locs ls hH hS hL (ic (v := vi _) (hH.2.2.1.1 42 _) (it (it hI)))
  rw [(hH.2.2.2.1 42 ha).2.1] at i1
  have i1 : i < 8 := i1
  simp only [List.map_cons, ref_stat (w := w) (a := 42) (by omega) ha] at k2 ⊢
  refine W.bald hx hb t1 t2 t3 (v := rv w (vi (h_mi h 42 i.toNat))) (fun z => ?_) ?_ rfl rfl hd k2
  · rcases z with z | z
    · rw [← o0, lt32 hri r0] at z; omega
    · rw [clamp32 hri i0] at z; omega
  · rw [clamp32 hri i0, t5 i.toNat (by omega), (hH.2.2.2.1 42 ha).2.2.1]; rfl
theorem g_aald_s (hx : p.tables.exec = Jvm.exec) (hb : c.code = cc) (hF : SF w s) {a : Nat} {i : Int} (hd : decode cc pc = .ok (.aaload, 1)) (hk : isK h a 22 = true) (hi : inb h a i = true)
    (kk : Go p l e R s m args below mth c Q w z0 l0 (pc + 1) lv (vr (h_mr h a i.toNat) :: r) h) : Go p l e R s m args below mth c Q w z0 l0 pc lv (vi i :: vr a :: r) h := by
  intro H locs ls hH hS hL hI
  obtain ⟨ha, hsk⟩ := kd_stat hH (isK_eq hk) (by omega) (by omega)
  have a1 := skd_22 hsk
  subst a1
  obtain ⟨cell, t1, t2, t3, t4, -, t5, -⟩ := T_now hF.2.2.1 hS
  obtain ⟨i0, i1⟩ := inb_of hi
  have hri : r32 i := ih hI
  have k2 := kk H locs ls hH hS hL (ic (v := vr _) trivial (it (it hI)))
  rw [(hH.2.2.2.1 36 ha).2.1] at i1
  have i1 : i < 35 := i1
  simp only [List.map_cons, ref_stat (w := w) (a := 36) (by omega) ha] at k2 ⊢
  refine W.aald hx hb t1 t2 rfl t3 (v := rv w (vr (h_mr h 36 i.toNat))) (fun z => ?_) ?_ rfl rfl hd k2
  · rcases z with z | z
    · rw [← o0, lt32 hri r0] at z; omega
    · rw [clamp32 hri i0] at z; omega
  · rw [clamp32 hri i0, t5 i.toNat (by omega), (hH.2.2.2.1 36 ha).2.2.2.2]
    have e1 : smr 36 i.toNat = i.toNat + 1 := rfl
    rw [e1, ref_stat (by omega) (by omega)]
theorem g_alen_s (hx : p.tables.exec = Jvm.exec) (hb : c.code = cc) (hF : SF w s) {a : Nat} (hd : decode cc pc = .ok (.arraylength, 1)) (hk : h_kd h a = 21 ∨ h_kd h a = 22 ∨ h_kd h a = 24)
    (kk : Go p l e R s m args below mth c Q w z0 l0 (pc + 1) lv (vi (h_ln h a : Int) :: r) h) : Go p l e R s m args below mth c Q w z0 l0 pc lv (vr a :: r) h := by
  intro H locs ls hH hS hL hI
  have hr := hH.2.2.1.2.2.1 a
  obtain ⟨ha, hsk⟩ := kd_stat hH (t := h_kd h a) rfl (by omega) (by omega)
  have k2 := kk H locs ls hH hS hL (ic (v := vi _) ⟨by omega, by omega⟩ (it hI))
  have hof : Int32.ofNat (h_ln h a) = Int32.ofInt (h_ln h a : Int) := by
    apply Int32.toInt_inj.mp
    rw [of32 ⟨by omega, by omega⟩]
    exact nI_toInt (by omega)
  have key : ∀ {ty : FieldType} {f : Nat → Value}, va_T ty (w_sa w a) (h_ln h a) f (Aw w) s s.heap → 1 ≤ a → W p l e R s m args below mth c H locs (h_sz h - z0) (h_sl h - l0) Q (F0 m pc ls (List.map (rv w) (vr a :: r))) := by
    intro ty f hT a1
    obtain ⟨cell, t1, t2, t3, t4, t6, t5, -⟩ := T_now hT hS
    simp only [List.map_cons, ref_stat (w := w) (a := a) a1 ha]
    exact W.alen hx hb t1 t2 (t6.trans hof) rfl rfl hd k2
  have hln := (hH.2.2.2.1 a ha).2.1
  rcases hk with q | q | q
  · rw [q] at hsk
    obtain ⟨a1, a2⟩ := skd_21 hsk
    exact key (by rw [hln]; exact hF.2.1 a a1 a2) (by omega)
  · rw [q] at hsk
    have a1 := skd_22 hsk
    subst a1
    exact key (by rw [hln]; exact hF.2.2.1) (by omega)
  · rw [q] at hsk
    have a1 := skd_24 hsk
    subst a1
    exact key (by rw [hln]; exact hF.2.2.2.2.2.2.2.2.2.1) (by omega)
theorem g_getf_s (hx : p.tables.exec = Jvm.exec) (hb : c.code = cc) (hown : s.vm.findClass (oN own) = some m.cls) (hW : Wd s) (hF : SF w s) {k q j t a : Nat} (hd : decode cc pc = .ok (.getfield k, 3)) (hf : fres own k = some (q, j, t)) (hq : ¬ q ≤ 9) (hk : isK h a q = true) (hj0 : q = 20 → (j = 0 ↔ t = 1) ∧ t ≠ 2) (hj1 : q = 23 → (j = 0 ∧ t = 2) ∨ (j = 1 ∧ t = 0)) (hnn : ∀ h9, lw_tbl[fld_p own k]? = some (Cond.fieldLinkNest (oN own) k (nmF q j).1 (nmF q j).2.1 (nmF q j).2.2 h9) → False)
    (kk : Go p l e R s m args below mth c Q w z0 l0 (pc + 3) lv (gf h a t j :: r) h) : Go p l e R s m args below mth c Q w z0 l0 pc lv (vr a :: r) h := by
  intro H locs ls hH hS hL hI
  have hka := isK_eq hk
  have h1 := fld_of hf
  unfold fOK at h1
  simp only [Bool.and_eq_true, Bool.or_eq_true, decide_eq_true_eq, hq, false_or] at h1
  have hlk : (Cond.fieldLink (oN own) k (nmF q j).1 (nmF q j).2.1 (nmF q j).2.2).before args s = true := by
    rcases h1.1.1 with g | g
    · exact hW.at g rfl
    · exact absurd g (fun z => hnn _ z)
  have k2 := kk H locs ls hH hS hL (ic (gf_in hH.2.2.1 a t j) (it hI))
  rcases h1.2 with ⟨rfl, hj⟩ | ⟨rfl, hj⟩
  · obtain ⟨ha, hsk⟩ := kd_stat hH hka (by omega) (by omega)
    obtain ⟨a1, a2⟩ := skd_20 hsk
    have hO := (hF.2.2.2.1 a a1 a2).1 j hj
    simp only [List.map_cons, ref_stat (w := w) (a := a) a1 ha] at k2 ⊢
    refine vk_getf hx hb hO hS hown hlk (fun _ z => z) hd ?_
    have e1 : rv w (gf h a t j) = svF w a j := by
      rw [gf_rv]
      obtain ⟨g1, g2⟩ := hj0 rfl
      unfold svF
      by_cases hj2 : j = 0
      · rw [if_pos hj2, g1.mp hj2, hj2]
        show Value.long (Int64.ofInt (h_ml h a 0)) = _
        rw [(hH.2.2.2.1 a ha).2.2.2.1 0 rfl]
      · rw [if_neg hj2]
        have ht1 : t ≠ 1 := fun z => hj2 (g1.mpr z)
        have e2 : fv w h a t j = .int (Int32.ofInt (h_mi h a j)) := by unfold fv; split <;> first | omega | rfl
        rw [e2, (hH.2.2.2.1 a ha).2.2.1]
    rw [e1] at k2
    exact k2
  · obtain ⟨ha, hsk⟩ := kd_stat hH hka (by omega) (by omega)
    have a1 := skd_23 hsk
    subst a1
    simp only [List.map_cons, ref_stat (w := w) (a := 41) (by omega) ha] at k2 ⊢
    rw [gf_rv] at k2
    rcases hj1 rfl with ⟨rfl, rfl⟩ | ⟨rfl, rfl⟩
    · refine vk_getf hx hb hF.2.2.2.2.2.2.1 hS hown hlk (fun _ z => z) hd ?_
      have e1 : fv w h 41 2 0 = .ref (w_sa w 42) := by
        show va_rf (ro w (h_mr h 41 0)) = _
        rw [(hH.2.2.2.1 41 ha).2.2.2.2]; exact ref_stat (w := w) (a := 42) (by omega) (by omega)
      rw [e1] at k2
      exact k2
    · refine vk_getf hx hb hF.2.2.2.2.2.2.2.1 hS hown hlk (fun _ z => z) hd ?_
      have e1 : fv w h 41 0 1 = .int 0 := by
        show Value.int (Int32.ofInt (h_mi h 41 1)) = _
        rw [(hH.2.2.2.1 41 ha).2.2.1]; rfl
      rw [e1] at k2
      exact k2
end S8
