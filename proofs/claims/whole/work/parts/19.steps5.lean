section S9
variable {p : Program} {l : Launch} {e : Env} {R : Room} {s : State} {m : MethodId} {args : Array Value} {below : List Frame} {mth : Method} {c : Code} {Q : State → Prop}
variable {w : WP} {z0 l0 : Nat} {cc : ByteArray} {pc : Nat} {lv r : List AV} {h : HP} {own : Nat}
/-! null and references compared -/
theorem ro_none {w : WP} {a : Nat} : ro w a = none ↔ a = 0 := by
  unfold ro
  by_cases h0 : a = 0
  · simp [h0]
  · rw [if_neg h0]; split <;> simp [h0]
theorem g_ifnull (hx : p.tables.exec = Jvm.exec) (hb : c.code = cc) {x t : Nat} {o : Int} (hd : decode cc pc = .ok (.ifnull o, 3)) (ht : (pc : Int) + o = (t : Int)) (k1 : x = 0 → Go p l e R s m args below mth c Q w z0 l0 t lv r h) (k2 : x ≠ 0 → Go p l e R s m args below mth c Q w z0 l0 (pc + 3) lv r h) : Go p l e R s m args below mth c Q w z0 l0 pc lv (vr x :: r) h := by
  intro H locs ls hH hS hL hI
  show W p l e R s m args below mth c H locs _ _ Q (F0 m pc ls (va_rf (ro w x) :: _))
  cases hr : ro w x with
  | none => exact lv_ifnullN hx hb hd ht (k1 (ro_none.mp hr) H locs ls hH hS hL (it hI))
  | some a => exact lv_ifnull hx hb hd (k2 (fun z => by rw [ro_none.mpr z] at hr; cases hr) H locs ls hH hS hL (it hI))
theorem g_ifnonnull (hx : p.tables.exec = Jvm.exec) (hb : c.code = cc) {x t : Nat} {o : Int} (hd : decode cc pc = .ok (.ifnonnull o, 3)) (ht : (pc : Int) + o = (t : Int)) (k1 : x = 0 → Go p l e R s m args below mth c Q w z0 l0 (pc + 3) lv r h) (k2 : x ≠ 0 → Go p l e R s m args below mth c Q w z0 l0 t lv r h) : Go p l e R s m args below mth c Q w z0 l0 pc lv (vr x :: r) h := by
  intro H locs ls hH hS hL hI
  show W p l e R s m args below mth c H locs _ _ Q (F0 m pc ls (va_rf (ro w x) :: _))
  cases hr : ro w x with
  | none => exact lv_ifnonnullN hx hb hd (k1 (ro_none.mp hr) H locs ls hH hS hL (it hI))
  | some a => exact lv_ifnonnull hx hb hd ht (k2 (fun z => by rw [ro_none.mpr z] at hr; cases hr) H locs ls hH hS hL (it hI))
theorem ro_inj (hF : SF w s) {x y : Nat} (hx : x ≤ 35) (hy : y ≤ 35) : ro w x = ro w y ↔ x = y := by
  refine ⟨fun h => ?_, fun h => by rw [h]⟩
  by_cases x0 : x = 0
  · rw [ro_none.mpr x0] at h; rw [x0]; exact (ro_none.mp h.symm).symm
  by_cases y0 : y = 0
  · rw [ro_none.mpr y0] at h; exact absurd (ro_none.mp h) x0
  unfold ro at h
  rw [if_neg x0, if_neg y0, if_pos (by omega), if_pos (by omega)] at h
  exact hF.2.2.2.2.1 x y (by omega) hx (by omega) hy (Option.some.inj h)
theorem g_acmp_eq (hx : p.tables.exec = Jvm.exec) (hb : c.code = cc) (hF : SF w s) {x y t : Nat} {o : Int} (hd : decode cc pc = .ok (.if_acmp .eq o, 3)) (ht : (pc : Int) + o = (t : Int)) (h1 : x ≤ 35) (h2 : y ≤ 35) (k1 : x = y → Go p l e R s m args below mth c Q w z0 l0 t lv r h) (k2 : x ≠ y → Go p l e R s m args below mth c Q w z0 l0 (pc + 3) lv r h) : Go p l e R s m args below mth c Q w z0 l0 pc lv (vr y :: vr x :: r) h :=
  fun H locs ls hH hS hL hI => lv_acmp_eq hx hb hd ht (fun z => k1 ((ro_inj hF h1 h2).mp z) H locs ls hH hS hL (it (it hI))) (fun z => k2 (fun u => z ((ro_inj hF h1 h2).mpr u)) H locs ls hH hS hL (it (it hI)))
theorem g_acmp_ne (hx : p.tables.exec = Jvm.exec) (hb : c.code = cc) (hF : SF w s) {x y t : Nat} {o : Int} (hd : decode cc pc = .ok (.if_acmp .ne o, 3)) (ht : (pc : Int) + o = (t : Int)) (h1 : x ≤ 35) (h2 : y ≤ 35) (k1 : x = y → Go p l e R s m args below mth c Q w z0 l0 (pc + 3) lv r h) (k2 : x ≠ y → Go p l e R s m args below mth c Q w z0 l0 t lv r h) : Go p l e R s m args below mth c Q w z0 l0 pc lv (vr y :: vr x :: r) h := by
  intro H locs ls hH hS hL hI
  refine lv_acmp_ne hx hb hd ht (fun z => ?_) (fun z => ?_)
  · exact k2 (fun u => z ((ro_inj hF h1 h2).mpr u)) H locs ls hH hS hL (it (it hI))
  · refine k1 ((ro_inj hF h1 h2).mp ?_) H locs ls hH hS hL (it (it hI))
    first | exact z | exact Classical.not_not.mp z
/-! switches -/
def swS (x : Int) (d : Nat) : List (Int × Nat) → Nat
  | [] => d
  | o :: t => bif decide (x = o.1) then o.2 else swS x d t
theorem sw_swS (K : KT) (x : Int) (s4 : S4) : ∀ ps, sw K x s4 ps = K (swS x s4.1 ps) s4.2.1 s4.2.2.1 s4.2.2.2
  | [] => rfl
  | o :: t => by
    unfold sw swS
    cases decide (x = o.1) with
    | true => rfl
    | false => exact sw_swS K x s4 t
theorem swS_T (pc : Nat) (x : Int) (d : Nat) : ∀ (offs : List Int) (lo : Int), swS x d (swT pc lo offs) = if lo ≤ x ∧ x < lo + offs.length then ((pc : Int) + offs.getD (x - lo).toNat 0).toNat else d
  | [], lo => by
    rw [if_neg (by simp)]; rfl
  | o :: t, lo => by
    unfold swT swS
    by_cases h : x = lo
    · subst h
      rw [if_pos (by simp; omega)]
      simp
    · rw [decide_eq_false h]
      show swS x d (swT pc (lo + 1) t) = _
      rw [swS_T pc x d t (lo + 1)]
      by_cases h2 : lo + 1 ≤ x ∧ x < lo + 1 + t.length
      · rw [if_pos h2, if_pos (by simp; omega)]
        have e1 : (x - lo).toNat = (x - (lo + 1)).toNat + 1 := by omega
        rw [e1]; rfl
      · rw [if_neg h2, if_neg (by simp; omega)]
theorem g_tsw (hx : p.tables.exec = Jvm.exec) (hb : c.code = cc) {x d lo hi : Int} {offs : Array Int} {len : Nat} (hd : decode cc pc = .ok (.tableswitch d lo hi offs, len)) (hT : iT (.tableswitch d lo hi offs) pc 0 = true)
    (kk : Go p l e R s m args below mth c Q w z0 l0 (swS x ((pc : Int) + d).toNat (swT pc lo offs.toList)) lv r h) : Go p l e R s m args below mth c Q w z0 l0 pc lv (vi x :: r) h := by
  intro H locs ls hH hS hL hI
  have hr : r32 x := ih hI
  unfold iT at hT
  simp only [Bool.and_eq_true, decide_eq_true_eq, List.all_eq_true] at hT
  obtain ⟨⟨⟨⟨t1, t2⟩, t3⟩, t4⟩, t5⟩ := hT
  have k2 := kk H locs ls hH hS hL (it hI)
  rw [swS_T] at k2
  by_cases hin : lo ≤ x ∧ x < lo + offs.toList.length
  · rw [if_pos hin] at k2
    have hlt : (x - lo).toNat < offs.toList.length := by omega
    have ho : offs[((Int32.ofInt x).toInt - lo).toNat]? = some (offs.toList.getD (x - lo).toNat 0) := by
      rw [of32 hr, ← Array.getElem?_toList, List.getD_eq_getElem?_getD, List.getElem?_eq_getElem hlt]; rfl
    have hmem : offs.toList.getD (x - lo).toNat 0 ∈ offs.toList := by
      rw [List.getD_eq_getElem?_getD, List.getElem?_eq_getElem hlt]; exact List.getElem_mem hlt
    exact lv_tableIn hx hb hd (by rw [of32 hr]; omega) (by rw [of32 hr]; omega) ho (by rw [Int.toNat_of_nonneg (t2 _ hmem)]) k2
  · rw [if_neg hin] at k2
    exact lv_tableOut hx hb hd (by rw [of32 hr]; omega) (by rw [Int.toNat_of_nonneg t1]) k2
theorem swS_L (pc : Nat) (x d : Int) : ∀ ps : List (Int × Int), swS x ((pc : Int) + d).toNat (swL pc ps) = ((pc : Int) + Op.lookupswitch.offset ps d x).toNat
  | [] => rfl
  | o :: t => by
    obtain ⟨a, b⟩ := o
    unfold swL swS
    rw [Op.lookupswitch.offset_cons]
    by_cases h : x = a
    · subst h; simp
    · rw [decide_eq_false h]
      show swS x _ (swL pc t) = _
      rw [swS_L pc x d t]
      first | rw [if_neg (fun z => h z.symm)] | rw [if_neg h] | simp [h, Ne.symm h]
theorem off_mem (d x : Int) : ∀ ps : List (Int × Int), Op.lookupswitch.offset ps d x = d ∨ ∃ o ∈ ps, Op.lookupswitch.offset ps d x = o.2
  | [] => Or.inl rfl
  | o :: t => by
    obtain ⟨a, b⟩ := o
    rw [Op.lookupswitch.offset_cons]
    split
    · exact Or.inr ⟨_, List.mem_cons_self, rfl⟩
    · rcases off_mem d x t with q | ⟨o, h1, h2⟩
      · exact Or.inl q
      · exact Or.inr ⟨o, List.mem_cons_of_mem _ h1, h2⟩
theorem g_lsw (hx : p.tables.exec = Jvm.exec) (hb : c.code = cc) {x d : Int} {ps : Array (Int × Int)} {len : Nat} (hd : decode cc pc = .ok (.lookupswitch d ps, len)) (hT : iT (.lookupswitch d ps) pc 0 = true)
    (kk : Go p l e R s m args below mth c Q w z0 l0 (swS x ((pc : Int) + d).toNat (swL pc ps.toList)) lv r h) : Go p l e R s m args below mth c Q w z0 l0 pc lv (vi x :: r) h := by
  intro H locs ls hH hS hL hI
  have hr : r32 x := ih hI
  unfold iT at hT
  simp only [Bool.and_eq_true, decide_eq_true_eq, List.all_eq_true] at hT
  obtain ⟨⟨t1, t2⟩, t3⟩ := hT
  have k2 := kk H locs ls hH hS hL (it hI)
  rw [swS_L] at k2
  have hnn : 0 ≤ (pc : Int) + Op.lookupswitch.offset ps.toList d x := by
    rcases off_mem d x ps.toList with q | ⟨o, h1, h2⟩
    · rw [q]; exact t1
    · rw [h2]; exact (t2 o h1).1.1
  refine lv_lookup hx hb hd ?_ (by rw [of32 hr]) (by rw [Int.toNat_of_nonneg hnn]) k2
  rw [List.all_eq_true]
  intro q hq
  have := t3 q hq
  simpa using this
end S9
