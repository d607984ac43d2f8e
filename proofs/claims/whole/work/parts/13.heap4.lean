section S4
variable {p : Program} {l : Launch} {e : Env} {R : Room} {s : State} {m : MethodId} {args : Array Value} {below : List Frame} {mth : Method} {c : Code} {Q : State → Prop}
variable {w : WP} {z0 l0 : Nat} {cc : ByteArray} {pc : Nat} {lv r : List AV} {h : HP} {own : Nat}
/-- what a putfield of a final field wants -/
def FinOK (s : State) (args : Array Value) (mth : Method) (own k q j : Nat) : Prop := (TC q j).2.2.2 = true → mth.name = "<init>" ∧ RC q = oN own ∧ (Cond.fieldLink (oN own) k (RC q) (TC q j).2.1 (TC q j).2.2.1).before args s = true
theorem ty0 {c j : Nat} (hc : c ≤ 9) (hj : j < NC c) (ht : tco (TC c j).2.2.1 = 0) : tyC c j = .int := by
  have h1 := tyK_of (by omega) hj
  rw [ht] at h1
  cases ht : tyC c j <;> rw [ht] at h1 <;> simp [tyK] at h1 ⊢
theorem ty1 {c j : Nat} (hc : c ≤ 9) (hj : j < NC c) (ht : tco (TC c j).2.2.1 = 1) : tyC c j = .long := by
  have h1 := tyK_of (by omega) hj
  rw [ht] at h1
  cases ht : tyC c j <;> rw [ht] at h1 <;> simp [tyK] at h1 ⊢
theorem ty3 {c j : Nat} (hc : c ≤ 9) (hj : j < NC c) (ht : tco (TC c j).2.2.1 = 3) : tyC c j = .boolean := by
  have h1 := tyK_of (by omega) hj
  rw [ht] at h1
  cases ht : tyC c j <;> rw [ht] at h1 <;> simp [tyK] at h1 ⊢
theorem ty2 {c j : Nat} (hc : c ≤ 9) (hj : j < NC c) (ht : tco (TC c j).2.2.1 = 2) : (∃ n, tyC c j = .object n) ∨ ∃ t, tyC c j = .array t := by
  have h1 := tyK_of (by omega) hj
  rw [ht] at h1
  cases ht : tyC c j <;> rw [ht] at h1 <;> simp [tyK] at h1 ⊢
theorem ref_nf {ty : FieldType} (h : (∃ n, ty = .object n) ∨ ∃ t, ty = .array t) (o : Option Nat) : narrow ty (va_rf o) = va_rf o ∧ fits ty (va_rf o) = true := by
  rcases h with ⟨n, rfl⟩ | ⟨t, rfl⟩ <;> cases o <;> exact ⟨rfl, rfl⟩
theorem g_putI (hx : p.tables.exec = Jvm.exec) (hb : c.code = cc) (hown : s.vm.findClass (oN own) = some m.cls) (hW : Wd s) (hK : va_K (w_D w) clsL (tysL w) s) {k q j a : Nat} {x : Int} (hd : decode cc pc = .ok (.putfield k, 3)) (hf : fres own k = some (q, j, 0)) (hq : q ≤ 9) (hk : isK h a q = true) (hfin : FinOK s args mth own k q j)
    (kk : Go p l e R s m args below mth c Q w z0 l0 (pc + 3) lv r (sI h a j x)) : Go p l e R s m args below mth c Q w z0 l0 pc lv (vi x :: vr a :: r) h := by
  intro H locs ls hH hS hL hI
  have hka := isK_eq hk
  obtain ⟨hj, ht, -⟩ := fld_dyn hf hq
  have ha := (hH.2.2.2.2.1 a (by omega)).1
  have hty := ty0 hq hj ht.symm
  simp only [List.map_cons, ref_dyn ha]
  refine put_raw hx hb hown hW hK hH hS hd hf hq hka hfin (by rw [hty]; rfl) (by rw [hty]; rfl) fun H1 locs1 hat e2 e3 hS1 => ?_
  exact kk H1 locs1 ls (hH.wr (a := a) (by omega) ne_sI rfl rfl (ok_sI hH.2.2.1 (ih hI)) (sh_sI hH.2.2.2.1 ha) e2 e3 (by rw [cell_obj (h := sI h a j x) hka hq, fl_sI hj (Or.inl ht.symm)]; exact hat)) hS1 hL (it (it hI))
theorem g_putZ (hx : p.tables.exec = Jvm.exec) (hb : c.code = cc) (hown : s.vm.findClass (oN own) = some m.cls) (hW : Wd s) (hK : va_K (w_D w) clsL (tysL w) s) {k q j a : Nat} {x : Int} (hd : decode cc pc = .ok (.putfield k, 3)) (hf : fres own k = some (q, j, 3)) (hq : q ≤ 9) (hk : isK h a q = true) (h01 : x = 0 ∨ x = 1) (hfin : FinOK s args mth own k q j)
    (kk : Go p l e R s m args below mth c Q w z0 l0 (pc + 3) lv r (sI h a j x)) : Go p l e R s m args below mth c Q w z0 l0 pc lv (vi x :: vr a :: r) h := by
  intro H locs ls hH hS hL hI
  have hka := isK_eq hk
  obtain ⟨hj, ht, -⟩ := fld_dyn hf hq
  have ha := (hH.2.2.2.2.1 a (by omega)).1
  have hty := ty3 hq hj ht.symm
  simp only [List.map_cons, ref_dyn ha]
  refine put_raw hx hb hown hW hK hH hS hd hf hq hka hfin (by rw [hty]; rcases h01 with rfl | rfl <;> rfl) (by rw [hty]; rcases h01 with rfl | rfl <;> rfl) fun H1 locs1 hat e2 e3 hS1 => ?_
  exact kk H1 locs1 ls (hH.wr (a := a) (by omega) ne_sI rfl rfl (ok_sI hH.2.2.1 (ih hI)) (sh_sI hH.2.2.2.1 ha) e2 e3 (by rw [cell_obj (h := sI h a j x) hka hq, fl_sI hj (Or.inr ht.symm)]; exact hat)) hS1 hL (it (it hI))
theorem g_putL (hx : p.tables.exec = Jvm.exec) (hb : c.code = cc) (hown : s.vm.findClass (oN own) = some m.cls) (hW : Wd s) (hK : va_K (w_D w) clsL (tysL w) s) {k q j a : Nat} {x : Int} (hd : decode cc pc = .ok (.putfield k, 3)) (hf : fres own k = some (q, j, 1)) (hq : q ≤ 9) (hk : isK h a q = true) (hfin : FinOK s args mth own k q j)
    (kk : Go p l e R s m args below mth c Q w z0 l0 (pc + 3) lv r (sL h a j x)) : Go p l e R s m args below mth c Q w z0 l0 pc lv (vl x :: vr a :: r) h := by
  intro H locs ls hH hS hL hI
  have hka := isK_eq hk
  obtain ⟨hj, ht, -⟩ := fld_dyn hf hq
  have ha := (hH.2.2.2.2.1 a (by omega)).1
  have hty := ty1 hq hj ht.symm
  simp only [List.map_cons, ref_dyn ha]
  refine put_raw hx hb hown hW hK hH hS hd hf hq hka hfin (by rw [hty]; rfl) (by rw [hty]; rfl) fun H1 locs1 hat e2 e3 hS1 => ?_
  exact kk H1 locs1 ls (hH.wr (a := a) (by omega) ne_sL rfl rfl (ok_sL hH.2.2.1 (ih hI)) (sh_sL hH.2.2.2.1 ha) e2 e3 (by rw [cell_obj (h := sL h a j x) hka hq, fl_sL hj ht.symm]; exact hat)) hS1 hL (it (it hI))
theorem g_putR (hx : p.tables.exec = Jvm.exec) (hb : c.code = cc) (hown : s.vm.findClass (oN own) = some m.cls) (hW : Wd s) (hK : va_K (w_D w) clsL (tysL w) s) {k q j a x : Nat} (hd : decode cc pc = .ok (.putfield k, 3)) (hf : fres own k = some (q, j, 2)) (hq : q ≤ 9) (hk : isK h a q = true) (hfin : FinOK s args mth own k q j)
    (kk : Go p l e R s m args below mth c Q w z0 l0 (pc + 3) lv r (sR h a j x)) : Go p l e R s m args below mth c Q w z0 l0 pc lv (vr x :: vr a :: r) h := by
  intro H locs ls hH hS hL hI
  have hka := isK_eq hk
  obtain ⟨hj, ht, -⟩ := fld_dyn hf hq
  have ha := (hH.2.2.2.2.1 a (by omega)).1
  have hty := ref_nf (ty2 hq hj ht.symm) (ro w x)
  simp only [List.map_cons, ref_dyn ha]
  refine put_raw hx hb hown hW hK hH hS hd hf hq hka hfin hty.1 hty.2 fun H1 locs1 hat e2 e3 hS1 => ?_
  exact kk H1 locs1 ls (hH.wr (a := a) (by omega) ne_sR rfl rfl (ok_sR hH.2.2.1) (sh_sR hH.2.2.2.1 ha) e2 e3 (by rw [cell_obj (h := sR h a j x) hka hq, fl_sR hj ht.symm]; exact hat)) hS1 hL (it (it hI))
/-! arrays -/
theorem ty_at (w : WP) : (tysL w)[0]? = some (w_cy w 10, .char) ∧ (tysL w)[1]? = some (w_cy w 11, .int) ∧ (tysL w)[2]? = some (w_cy w 12, .long) ∧ (tysL w)[3]? = some (w_cy w 13, .boolean) ∧ (tysL w)[4]? = some (w_cy w 14, .object "IceBridge$Ice") := ⟨rfl, rfl, rfl, rfl, rfl⟩
theorem g_iald (hx : p.tables.exec = Jvm.exec) (hb : c.code = cc) (hK : va_K (w_D w) clsL (tysL w) s) {a : Nat} {i : Int} (hd : decode cc pc = .ok (.iaload, 1)) (hk : isK h a 11 = true) (hi : inb h a i = true)
    (kk : Go p l e R s m args below mth c Q w z0 l0 (pc + 1) lv (vi (h_mi h a i.toNat) :: r) h) : Go p l e R s m args below mth c Q w z0 l0 pc lv (vi i :: vr a :: r) h := by
  intro H locs ls hH hS hL hI
  have hka := isK_eq hk
  obtain ⟨ha, -, L, n, hn, hm, -, hP, hD⟩ := hH.get (a := a) (by omega)
  have k2 := kk H locs ls hH hS hL (ic (v := vi _) (hH.2.2.1.1 a _) (it (it hI)))
  obtain ⟨i0, i1⟩ := inb_of hi
  rw [cell_int hka (by omega)] at hn
  simp only [List.map_cons, ref_dyn ha]
  refine va_iald hx hb hK hP n 1 hn rfl (vp_in_of32 (ih hI) i0 i1) hd ?_
  rw [clamp32 (ih hI) i0]
  exact k2
theorem g_cald (hx : p.tables.exec = Jvm.exec) (hb : c.code = cc) (hK : va_K (w_D w) clsL (tysL w) s) {a : Nat} {i : Int} (hd : decode cc pc = .ok (.caload, 1)) (hk : isK h a 10 = true) (hi : inb h a i = true)
    (kk : Go p l e R s m args below mth c Q w z0 l0 (pc + 1) lv (vi (h_mi h a i.toNat) :: r) h) : Go p l e R s m args below mth c Q w z0 l0 pc lv (vi i :: vr a :: r) h := by
  intro H locs ls hH hS hL hI
  have hka := isK_eq hk
  obtain ⟨ha, -, L, n, hn, hm, -, hP, hD⟩ := hH.get (a := a) (by omega)
  have k2 := kk H locs ls hH hS hL (ic (v := vi _) (hH.2.2.1.1 a _) (it (it hI)))
  obtain ⟨i0, i1⟩ := inb_of hi
  rw [cell_int hka (by omega)] at hn
  simp only [List.map_cons, ref_dyn ha]
  refine va_cald hx hb hK hP n 0 hn rfl (vp_in_of32 (ih hI) i0 i1) hd ?_
  rw [clamp32 (ih hI) i0]
  exact k2
theorem g_zald (hx : p.tables.exec = Jvm.exec) (hb : c.code = cc) (hK : va_K (w_D w) clsL (tysL w) s) {a : Nat} {i : Int} (hd : decode cc pc = .ok (.baload, 1)) (hk : isK h a 13 = true) (hi : inb h a i = true)
    (kk : Go p l e R s m args below mth c Q w z0 l0 (pc + 1) lv (vi (h_mi h a i.toNat) :: r) h) : Go p l e R s m args below mth c Q w z0 l0 pc lv (vi i :: vr a :: r) h := by
  intro H locs ls hH hS hL hI
  have hka := isK_eq hk
  obtain ⟨ha, -, L, n, hn, hm, -, hP, hD⟩ := hH.get (a := a) (by omega)
  have k2 := kk H locs ls hH hS hL (ic (v := vi _) (hH.2.2.1.1 a _) (it (it hI)))
  obtain ⟨i0, i1⟩ := inb_of hi
  rw [cell_int hka (by omega)] at hn
  simp only [List.map_cons, ref_dyn ha]
  refine va_zald hx hb hK hP n 3 hn rfl (vp_in_of32 (ih hI) i0 i1) hd ?_
  rw [clamp32 (ih hI) i0]
  exact k2
theorem g_lald (hx : p.tables.exec = Jvm.exec) (hb : c.code = cc) (hK : va_K (w_D w) clsL (tysL w) s) {a : Nat} {i : Int} (hd : decode cc pc = .ok (.laload, 1)) (hk : isK h a 12 = true) (hi : inb h a i = true)
    (kk : Go p l e R s m args below mth c Q w z0 l0 (pc + 1) lv (vl (h_ml h a i.toNat) :: r) h) : Go p l e R s m args below mth c Q w z0 l0 pc lv (vi i :: vr a :: r) h := by
  intro H locs ls hH hS hL hI
  have hka := isK_eq hk
  obtain ⟨ha, -, L, n, hn, hm, -, hP, hD⟩ := hH.get (a := a) (by omega)
  have k2 := kk H locs ls hH hS hL (ic (v := vl _) (hH.2.2.1.2.1 a _) (it (it hI)))
  obtain ⟨i0, i1⟩ := inb_of hi
  rw [cell_long hka] at hn
  simp only [List.map_cons, ref_dyn ha]
  refine va_lald hx hb hK hP n 2 hn rfl (vp_in_of32 (ih hI) i0 i1) hd ?_
  rw [clamp32 (ih hI) i0]
  exact k2
theorem g_aald (hx : p.tables.exec = Jvm.exec) (hb : c.code = cc) (hK : va_K (w_D w) clsL (tysL w) s) {a : Nat} {i : Int} (hd : decode cc pc = .ok (.aaload, 1)) (hk : isK h a 14 = true) (hi : inb h a i = true)
    (kk : Go p l e R s m args below mth c Q w z0 l0 (pc + 1) lv (vr (h_mr h a i.toNat) :: r) h) : Go p l e R s m args below mth c Q w z0 l0 pc lv (vi i :: vr a :: r) h := by
  intro H locs ls hH hS hL hI
  have hka := isK_eq hk
  obtain ⟨ha, -, L, n, hn, hm, -, hP, hD⟩ := hH.get (a := a) (by omega)
  have k2 := kk H locs ls hH hS hL (ic (v := vr _) trivial (it (it hI)))
  obtain ⟨i0, i1⟩ := inb_of hi
  rw [cell_ref hka] at hn
  simp only [List.map_cons, ref_dyn ha]
  refine va_aldq hx hb hK hP n 4 hn rfl (vp_in_of32 (ih hI) i0 i1) hd ?_
  rw [clamp32 (ih hI) i0]
  exact k2
theorem g_alen (hx : p.tables.exec = Jvm.exec) (hb : c.code = cc) (hK : va_K (w_D w) clsL (tysL w) s) {a : Nat} (hd : decode cc pc = .ok (.arraylength, 1)) (hk : h_kd h a = 10 ∨ h_kd h a = 11 ∨ h_kd h a = 12)
    (kk : Go p l e R s m args below mth c Q w z0 l0 (pc + 1) lv (vi (h_ln h a : Int) :: r) h) : Go p l e R s m args below mth c Q w z0 l0 pc lv (vr a :: r) h := by
  intro H locs ls hH hS hL hI
  have hr := hH.2.2.1.2.2.1 a
  obtain ⟨ha, -, L, n, hn, hm, -, hP, hD⟩ := hH.get (a := a) (by omega)
  have k2 := kk H locs ls hH hS hL (ic (v := vi _) ⟨by omega, by omega⟩ (it hI))
  simp only [List.map_cons, ref_dyn ha]
  have hof : Int32.ofNat (h_ln h a) = Int32.ofInt (h_ln h a : Int) := by
    apply Int32.toInt_inj.mp
    rw [of32 ⟨by omega, by omega⟩]
    exact nI_toInt (by omega)
  rcases hk with q | q | q
  · rw [cell_int q (by omega)] at hn
    exact va_alen hx hb hK hP n 0 hn rfl hof hd k2
  · rw [cell_int q (by omega)] at hn
    exact va_alen hx hb hK hP n 1 hn rfl hof hd k2
  · rw [cell_long q] at hn
    exact va_alen hx hb hK hP n 2 hn rfl hof hd k2
end S4
