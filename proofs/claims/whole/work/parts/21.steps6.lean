section S10
variable {p : Program} {l : Launch} {e : Env} {R : Room} {s : State} {m : MethodId} {args : Array Value} {below : List Frame} {mth : Method} {c : Code} {Q : State → Prop}
variable {w : WP} {z0 l0 : Nat} {cc : ByteArray} {pc : Nat} {lv r : List AV} {h : HP} {own : Nat}
/-! constants and static fields -/
theorem con_i (hW : Wd s) {k : Nat} {x : Int} (hf : kres own k = some (vi x)) : (Cond.constant (oN own) k (Int32.ofInt x)).before args s = true ∧ r32 x := by
  have h1 := con_of hf
  simp only [kOK, Bool.and_eq_true, decide_eq_true_eq] at h1
  exact ⟨hW.at h1.1.1 rfl, h1.1.2, h1.2⟩
theorem con_l (hW : Wd s) {k : Nat} {x : Int} (hf : kres own k = some (vl x)) : (Cond.constantLong (oN own) k (Int64.ofInt x)).before args s = true ∧ r64 x := by
  have h1 := con_of hf
  simp only [kOK, Bool.and_eq_true, decide_eq_true_eq] at h1
  exact ⟨hW.at h1.1.1 rfl, h1.1.2, h1.2⟩
theorem g_ldc (hx : p.tables.exec = Jvm.exec) (hb : c.code = cc) (hown : s.vm.findClass (oN own) = some m.cls) (hW : Wd s) (hF : SF w s) {k : Nat} {v : AV} (hd : decode cc pc = .ok (.ldc k, 2)) (hf : kres own k = some v) (hv : ∀ x, v ≠ vl x)
    (kk : Go p l e R s m args below mth c Q w z0 l0 (pc + 2) lv (v :: r) h) : Go p l e R s m args below mth c Q w z0 l0 pc lv r h := by
  intro H locs ls hH hS hL hI
  match v, hf, hv, kk with
  | .inl x, hf, _, kk =>
    obtain ⟨g1, g2⟩ := con_i hW hf
    exact lv_ldc hx hb hown g1 hd (kk H locs ls hH hS hL (ic (v := vi x) g2 hI))
  | .inr (.inl x), _, hv, _ => exact absurd rfl (hv x)
  | .inr (.inr (.inl a)), hf, _, kk =>
    have h1 := con_of hf
    simp only [kOK, Bool.and_eq_true, decide_eq_true_eq] at h1
    obtain ⟨⟨rfl, rfl⟩, rfl⟩ := h1
    have k2 := kk H locs ls hH hS hL (ic (v := vr 41) trivial hI)
    simp only [List.map_cons] at k2
    rw [ref_stat (w := w) (a := 41) (by omega) (by omega)] at k2
    exact va_ldcS hx hb hown hF.2.2.2.2.2.1 hd k2
  | .inr (.inr (.inr u)), hf, _, _ => exact absurd (con_of hf) (by simp [kOK])
theorem g_ldcw (hx : p.tables.exec = Jvm.exec) (hb : c.code = cc) (hown : s.vm.findClass (oN own) = some m.cls) (hW : Wd s) {k : Nat} {x : Int} (hd : decode cc pc = .ok (.ldc_w k, 3)) (hf : kres own k = some (vi x))
    (kk : Go p l e R s m args below mth c Q w z0 l0 (pc + 3) lv (vi x :: r) h) : Go p l e R s m args below mth c Q w z0 l0 pc lv r h := fun H locs ls hH hS hL hI =>
  lv_ldcw hx hb hown (con_i hW hf).1 hd (kk H locs ls hH hS hL (ic (v := vi x) (con_i (args := args) hW hf).2 hI))
theorem g_ldc2 (hx : p.tables.exec = Jvm.exec) (hb : c.code = cc) (hown : s.vm.findClass (oN own) = some m.cls) (hW : Wd s) {k : Nat} {x : Int} (hd : decode cc pc = .ok (.ldc2_w k, 3)) (hf : kres own k = some (vl x))
    (kk : Go p l e R s m args below mth c Q w z0 l0 (pc + 3) lv (vl x :: r) h) : Go p l e R s m args below mth c Q w z0 l0 pc lv r h := fun H locs ls hH hS hL hI =>
  lv_ldc2 hx hb hown (con_l hW hf).1 hd (kk H locs ls hH hS hL (ic (v := vl x) (con_l (args := args) hW hf).2 hI))
theorem sTab_ck : (sTab.all fun q => match q.2.2.2 with
  | .inl x => decide (x = 1)
  | .inr (.inl _) => false
  | _ => true) = true := by decide +kernel
theorem g_gets (hx : p.tables.exec = Jvm.exec) (hb : c.code = cc) (hown : s.vm.findClass (oN own) = some m.cls) (hW : Wd s) (hF : SF w s) {k : Nat} {v : AV} (hd : decode cc pc = .ok (.getstatic k, 3)) (hf : sres own k = some v)
    (kk : Go p l e R s m args below mth c Q w z0 l0 (pc + 3) lv (v :: r) h) : Go p l e R s m args below mth c Q w z0 l0 pc lv r h := by
  intro H locs ls hH hS hL hI
  have h1 := sta_of hf
  unfold sOK at h1
  cases hq : sTab[sid_p own k]? with
  | none => rw [hq] at h1; cases h1
  | some q =>
    rw [hq] at h1
    simp only [Bool.and_eq_true, Bool.or_eq_true, decide_eq_true_eq] at h1
    obtain ⟨rfl, h2⟩ := h1
    have hmem := List.mem_of_getElem? hq
    have hZ := hF.1 q hmem
    have hin : inV q.2.2.2 := by
      have h3 := all_of sTab_ck hmem
      generalize q.2.2.2 = v at h3
      match v, h3 with
      | .inl x, h3 =>
        have : x = 1 := of_decide_eq_true h3
        subst this
        exact ⟨by omega, by omega⟩
      | .inr (.inr _), _ => rename_i u; cases u <;> trivial
    have k2 := kk H locs ls hH hS hL (ic hin hI)
    rcases h2 with g | g
    · exact va_gets hx hb hZ hS hown (hW.at g rfl) (fun _ z => z) hd k2
    · exact va_getsN hx hb hZ hS hown (hW.nest g rfl) (fun _ z => z) hd k2
/-! single members -/
theorem g_min (hx : p.tables.exec = Jvm.exec) (hb : c.code = cc) (hown : s.vm.findClass (oN own) = some m.cls) (hW : Wd s) (hml : c.maxLocals = lv.length) {k n q t : Nat} {x y : Int} (hd : decode cc pc = .ok (.invokestatic k, 3)) (hf : mres own k = some (3, 0, n, q, t)) (hc : cats r ≤ 8) (hR : 1 ≤ R.frames ∧ 41 ≤ R.locals) (hc1 : h_sz h - z0 ≤ R.cells) (hs1 : h_sl h - l0 ≤ R.slots)
    (kk : Go p l e R s m args below mth c Q w z0 l0 (pc + 3) lv (vi (min x y) :: r) h) : Go p l e R s m args below mth c Q w z0 l0 pc lv (vi y :: vi x :: r) h := by
  intro H locs ls hH hS hL hI
  have hy : r32 y := ih hI
  have hx2 : r32 x := ih (it hI)
  have hm : r32 (min x y) := by
    rw [Int.min_def]; split <;> assumption
  have k2 := kk H locs ls hH hS hL (ic (v := vi (min x y)) hm (it (it hI)))
  have hp := prim_ck
  refine va_mmin hx hb (by rw [hml]; exact hL.1.symm) hown (lk1 hW hf (by omega)) (hW.at hp.1 rfl) (hW.at hp.2.2.2.1 rfl) (hW.at hp.2.2.2.2.1 rfl) hR.1 (by rw [cats_map]; omega) hc1 hs1 hd ?_
  have e1 : (if Int32.ofInt y < Int32.ofInt x then Int32.ofInt y else Int32.ofInt x) = Int32.ofInt (min x y) := by
    by_cases h1 : y < x
    · rw [if_pos ((lt32 hy hx2).mpr h1), Int.min_def, if_neg (by omega)]
    · rw [if_neg (fun z => h1 ((lt32 hy hx2).mp z)), Int.min_def, if_pos (by omega)]
  rw [e1]
  exact k2
theorem g_max (hx : p.tables.exec = Jvm.exec) (hb : c.code = cc) (hown : s.vm.findClass (oN own) = some m.cls) (hW : Wd s) (hml : c.maxLocals = lv.length) {k n q t : Nat} {x y : Int} (hd : decode cc pc = .ok (.invokestatic k, 3)) (hf : mres own k = some (4, 0, n, q, t)) (hc : cats r ≤ 8) (hR : 1 ≤ R.frames ∧ 41 ≤ R.locals) (hc1 : h_sz h - z0 ≤ R.cells) (hs1 : h_sl h - l0 ≤ R.slots)
    (kk : Go p l e R s m args below mth c Q w z0 l0 (pc + 3) lv (vi (max x y) :: r) h) : Go p l e R s m args below mth c Q w z0 l0 pc lv (vi y :: vi x :: r) h := by
  intro H locs ls hH hS hL hI
  have hy : r32 y := ih hI
  have hx2 : r32 x := ih (it hI)
  have hm : r32 (max x y) := by
    rw [Int.max_def]; split <;> assumption
  have k2 := kk H locs ls hH hS hL (ic (v := vi (max x y)) hm (it (it hI)))
  have hp := prim_ck
  refine va_mmax hx hb (by rw [hml]; exact hL.1.symm) hown (lk1 hW hf (by omega)) (hW.at hp.2.1 rfl) (hW.at hp.2.2.2.1 rfl) (hW.at hp.2.2.2.2.2.1 rfl) hR.1 (by rw [cats_map]; omega) hc1 hs1 hd ?_
  have e1 : (if Int32.ofInt x < Int32.ofInt y then Int32.ofInt y else Int32.ofInt x) = Int32.ofInt (max x y) := by
    by_cases h1 : x < y
    · rw [if_pos ((lt32 hx2 hy).mpr h1), Int.max_def, if_pos (by omega)]
    · rw [if_neg (fun z => h1 ((lt32 hx2 hy).mp z)), Int.max_def]
      split
      · rename_i h2; rw [show x = y by omega]
      · rfl
  rw [e1]
  exact k2
theorem g_abs (hx : p.tables.exec = Jvm.exec) (hb : c.code = cc) (hown : s.vm.findClass (oN own) = some m.cls) (hW : Wd s) (hml : c.maxLocals = lv.length) {k n q t : Nat} {x : Int} (hd : decode cc pc = .ok (.invokestatic k, 3)) (hf : mres own k = some (5, 0, n, q, t)) (hc : cats r ≤ 8) (hR : 1 ≤ R.frames ∧ 41 ≤ R.locals) (hc1 : h_sz h - z0 ≤ R.cells) (hs1 : h_sl h - l0 ≤ R.slots)
    (kk : Go p l e R s m args below mth c Q w z0 l0 (pc + 3) lv (vi (if x < 0 then i_neg x else x) :: r) h) : Go p l e R s m args below mth c Q w z0 l0 pc lv (vi x :: r) h := by
  intro H locs ls hH hS hL hI
  have hx2 : r32 x := ih hI
  have hm : r32 (if x < 0 then i_neg x else x) := by split; exact r32_of _; exact hx2
  have k2 := kk H locs ls hH hS hL (ic (v := vi (if x < 0 then i_neg x else x)) hm (it hI))
  have hp := prim_ck
  refine va_mabs hx hb (by rw [hml]; exact hL.1.symm) hown (lk1 hW hf (by omega)) (hW.at hp.2.2.1 rfl) (hW.at hp.2.2.2.1 rfl) (hW.at hp.2.2.2.2.2.2.1 rfl) hR.1 (by rw [cats_map]; omega) hc1 hs1 hd ?_
  have e1 : (if 0 ≤ Int32.ofInt x then Int32.ofInt x else 0 - Int32.ofInt x) = Int32.ofInt (if x < 0 then i_neg x else x) := by
    by_cases h1 : x < 0
    · rw [if_neg (fun z => by rw [← o0, le32 r0 hx2] at z; omega), if_pos h1]
      unfold i_neg
      rw [Int32.ofInt_toInt]; simp
    · rw [if_pos (by rw [← o0, le32 r0 hx2]; omega), if_neg h1]
  rw [e1]
  exact k2
end S10
