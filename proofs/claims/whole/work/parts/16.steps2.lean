/-! new cells, single members, constants -/
section S6
variable {p : Program} {l : Launch} {e : Env} {R : Room} {s : State} {m : MethodId} {args : Array Value} {below : List Frame} {mth : Method} {c : Code} {Q : State → Prop}
variable {w : WP} {z0 l0 : Nat} {cc : ByteArray} {pc : Nat} {lv r : List AV} {h : HP} {own : Nat}
theorem def_fv {w : WP} {h : HP} {q k a : Nat} (hq : q ≤ 9) (hk : k < NC q) (h1 : h_mi h a k = 0) (h2 : h_ml h a k = 0) (h3 : h_mr h a k = 0) : defaultValue (tyC q k) = vp_V (flds w h a q) k := by
  have hv : vp_V (flds w h a q) k = fv w h a (tco (TC q k).2.2.1) k := by
    unfold vp_V; rw [List.getD_eq_getElem?_getD, flds_get hk]; rfl
  rw [hv]
  have hk2 := tyK_of (by omega) hk
  generalize tco (TC q k).2.2.1 = t at hk2 ⊢
  generalize tyC q k = ty at hk2 ⊢
  match t, ty, hk2 with
  | 0, .int, _ => simp only [fv, h1]; rfl
  | 1, .long, _ => simp only [fv, h2]; rfl
  | 3, .boolean, _ => simp only [fv, h1]; rfl
  | 2, .object _, _ => simp only [fv, h3]; rfl
  | 2, .array _, _ => simp only [fv, h3]; rfl
theorem g_new (hx : p.tables.exec = Jvm.exec) (hb : c.code = cc) (hown : s.vm.findClass (oN own) = some m.cls) (hW : Wd s) (hK : va_K (w_D w) clsL (tysL w) s) (hbs : w_b w ≤ s.heap.size) {k q n : Nat} (hd : decode cc pc = .ok (.new k, 3)) (hf : nres own k = some (q, n)) (hq : q ≠ 99) (hz : z0 ≤ h_sz h) (hl : l0 ≤ h_sl h) (hc1 : h_sz h + 1 - z0 ≤ R.cells) (hs1 : h_sl h + n - l0 ≤ R.slots) (hq14 : q ≠ 14)
    (kk : Go p l e R s m args below mth c Q w z0 l0 (pc + 3) lv (vr (h_sz h) :: r) (alo h q 0 n)) : Go p l e R s m args below mth c Q w z0 l0 pc lv r h := by
  intro H locs ls hH hS hL hI
  have h1 := new_of hf
  unfold nOK at h1
  simp only [Bool.or_eq_true, Bool.and_eq_true, decide_eq_true_eq, hq, hq14, false_or, false_and] at h1
  obtain ⟨⟨hq9, hn⟩, hcl⟩ := h1
  have hc9 : q < 10 := by omega
  have h2 := rng_of ins_ck hc9
  simp only [Bool.and_eq_true, decide_eq_true_eq] at h2
  have hKn := hK.1 q _ (cls_at hc9)
  have hg2 := hH.2.1
  refine W.newcK hx hb hown (hW.at hcl rfl) (n := n) (by rw [hn]; exact hW.at h2.1 rfl) (hW.at h2.2 rfl) rfl hd (by omega) (by omega) hKn.2.1 (h := adr w (h_sz h)) hH.1 fun H1 kC hkC e1 z1 o1 => ?_
  have hat : va_at (w_D w) clsL (adr w (h_sz h), cellOf w (alo h q 0 n) (h_sz h)) H1 := by
    rw [cell_obj (h := alo h q 0 n) (c := q) (by rw [alo_kd, if_pos rfl]) hq9]
    exact ⟨_, cls_at hc9, (u_born (tyC q) (lays_of hW hc9 (args := args)) (fun _ z => z) hKn hkC e1 (ty_of hc9)).to (fun j hj => def_fv hq9 hj (by rw [alo_mi, if_pos rfl]) (by rw [alo_ml, if_pos rfl]) (by rw [alo_mr, if_pos rfl]))⟩
  have hH1 := hH.nw (v := n) (t := q) (n := 0) (by omega) (by omega) (by rw [z1, hH.1]) (fun y hy => o1 y (by rw [← hH.1]; exact hy)) hat
  have k2 := kk H1 locs ls hH1 ⟨Nat.le_trans hS.1 (by rw [z1, hH.1]; omega), fun y g1 g2 => (o1 y (by rw [← hH.1]; exact Nat.lt_of_lt_of_le g1 hS.1)).trans (hS.2.1 y g1 g2), hS.2.2⟩ hL (ic (v := vr _) trivial hI)
  simp only [List.map_cons, ref_dyn hg2] at k2
  have e2 : h_sz (alo h q 0 n) - z0 = h_sz h - z0 + 1 := by show h_sz h + 1 - z0 = _; omega
  have e3 : h_sl (alo h q 0 n) - l0 = h_sl h - l0 + n := by show h_sl h + n - l0 = _; omega
  rw [e2, e3] at k2
  exact k2
theorem cA_of {cA cB : ClassId} {t : FieldType} (h1 : s.vm.findClass ("[" ++ t.toString) = some cA) (h2 : s.vm.findClass ("[" ++ t.toString) = some cB) : cA = cB := Option.some.inj (h1.symm.trans h2)
theorem new_arr (hx : p.tables.exec = Jvm.exec) (hb : c.code = cc) (hW : Wd s) {at2 : ArrayType} {t : Nat} {n : Int} (ht : t ≤ 14) (harr : (Cond.arrayClass (newarray.typeOf at2)).before args s = true) (hd : decode cc pc = .ok (.newarray at2, 2)) (n0 : 0 ≤ n) (n1 : n ≤ 100000) (hz : z0 ≤ h_sz h) (hl : l0 ≤ h_sl h) (hc1 : h_sz h + 1 - z0 ≤ R.cells) (hs1 : h_sl h + n.toNat - l0 ≤ R.slots)
    (hcell : ∀ (cA : ClassId) (H1 : Heap), s.vm.findClass ("[" ++ (newarray.typeOf at2).toString) = some cA → H1[adr w (h_sz h)]? = some (arrV cA n.toNat (fun _ => defaultValue (newarray.typeOf at2))) → va_at (w_D w) clsL (adr w (h_sz h), cellOf w (alo h t n.toNat n.toNat) (h_sz h)) H1)
    (hby : n.toNat * componentBytes (newarray.typeOf at2) ≤ 536870912)
    (kk : Go p l e R s m args below mth c Q w z0 l0 (pc + 2) lv (vr (h_sz h) :: r) (alo h t n.toNat n.toNat)) : Go p l e R s m args below mth c Q w z0 l0 pc lv (vi n :: r) h := by
  intro H locs ls hH hS hL hI
  have hr : r32 n := ih hI
  have hg2 := hH.2.1
  refine va_newaK hx hb harr rfl hd rfl (fun z => by rw [← o0, lt32 hr r0] at z; omega) (clamp32 hr n0) hby (by omega) (by omega) (h := adr w (h_sz h)) hH.1 fun H1 cA e1 z1 o1 _ hNm => ?_
  have hH1 := hH.nw (v := n.toNat) (t := t) (n := n.toNat) ht (by omega) (by rw [z1, hH.1]) (fun y hy => o1 y (by rw [← hH.1]; exact hy)) (hcell cA H1 hNm e1)
  have k2 := kk H1 locs ls hH1 ⟨Nat.le_trans hS.1 (by rw [z1, hH.1]; omega), fun y g1 g2 => (o1 y (by rw [← hH.1]; exact Nat.lt_of_lt_of_le g1 hS.1)).trans (hS.2.1 y g1 g2), hS.2.2⟩ hL (ic (v := vr _) trivial (it hI))
  simp only [List.map_cons, ref_dyn hg2] at k2
  have e2 : h_sz (alo h t n.toNat n.toNat) - z0 = h_sz h - z0 + 1 := by show h_sz h + 1 - z0 = _; omega
  have e3 : h_sl (alo h t n.toNat n.toNat) - l0 = h_sl h - l0 + n.toNat := by show h_sl h + n.toNat - l0 = _; omega
  rw [e2, e3] at k2
  exact k2
theorem arr_w (hW : Wd s) : (Cond.arrayClass .char).before args s = true ∧ (Cond.arrayClass .int).before args s = true ∧ (Cond.arrayClass .long).before args s = true ∧ (Cond.arrayClass .boolean).before args s = true := by
  have h1 := arr_ck
  obtain ⟨a1, a2, a3, a4⟩ := h1
  exact ⟨hW.1 _ (List.mem_of_getElem? a1) rfl _, hW.1 _ (List.mem_of_getElem? a2) rfl _, hW.1 _ (List.mem_of_getElem? a3) rfl _, hW.1 _ (List.mem_of_getElem? a4) rfl _⟩
theorem g_newi (hx : p.tables.exec = Jvm.exec) (hb : c.code = cc) (hW : Wd s) (hK : va_K (w_D w) clsL (tysL w) s) {at2 : ArrayType} {t i : Nat} {n : Int} (htt : (at2 = .int ∧ t = 11 ∧ i = 1) ∨ (at2 = .char ∧ t = 10 ∧ i = 0) ∨ (at2 = .boolean ∧ t = 13 ∧ i = 3)) (hd : decode cc pc = .ok (.newarray at2, 2)) (n0 : 0 ≤ n) (n1 : n ≤ 100000) (hz : z0 ≤ h_sz h) (hl : l0 ≤ h_sl h) (hc1 : h_sz h + 1 - z0 ≤ R.cells) (hs1 : h_sl h + n.toNat - l0 ≤ R.slots)
    (kk : Go p l e R s m args below mth c Q w z0 l0 (pc + 2) lv (vr (h_sz h) :: r) (alo h t n.toNat n.toNat)) : Go p l e R s m args below mth c Q w z0 l0 pc lv (vi n :: r) h := by
  have key : ∀ (cA : ClassId) (H1 : Heap) (t : Nat), (t = 10 ∨ t = 11 ∨ t = 13) → cA = w_cy w t → H1[adr w (h_sz h)]? = some (arrV cA n.toNat (fun _ => .int 0)) → va_at (w_D w) clsL (adr w (h_sz h), cellOf w (alo h t n.toNat n.toNat) (h_sz h)) H1 := by
    intro cA H1 t ht hcA e1
    rw [cell_int (h := alo h t n.toNat n.toNat) (t := t) (by rw [alo_kd, if_pos rfl]) ht]
    show H1[_]? = some (vp_cell _ _)
    rw [e1, vp_cell_i, alo_ln, if_pos rfl, hcA, alo_mi, if_pos rfl]
    rfl
  rcases htt with ⟨rfl, rfl, rfl⟩ | ⟨rfl, rfl, rfl⟩ | ⟨rfl, rfl, rfl⟩
  · exact new_arr (at2 := .int) (t := 11) hx hb hW (by omega) (arr_w hW).2.1 hd n0 n1 hz hl hc1 hs1 (fun cA H1 hf e1 => key cA H1 11 (by omega) (cA_of hf (hK.2 1 _ rfl).2) e1) (by show _ * 4 ≤ _; omega) kk
  · exact new_arr (at2 := .char) (t := 10) hx hb hW (by omega) (arr_w hW).1 hd n0 n1 hz hl hc1 hs1 (fun cA H1 hf e1 => key cA H1 10 (by omega) (cA_of hf (hK.2 0 _ rfl).2) e1) (by show _ * 2 ≤ _; omega) kk
  · exact new_arr (at2 := .boolean) (t := 13) hx hb hW (by omega) (arr_w hW).2.2.2 hd n0 n1 hz hl hc1 hs1 (fun cA H1 hf e1 => key cA H1 13 (by omega) (cA_of hf (hK.2 3 _ rfl).2) e1) (by show _ * 1 ≤ _; omega) kk
theorem g_newl (hx : p.tables.exec = Jvm.exec) (hb : c.code = cc) (hW : Wd s) (hK : va_K (w_D w) clsL (tysL w) s) {n : Int} (hd : decode cc pc = .ok (.newarray .long, 2)) (n0 : 0 ≤ n) (n1 : n ≤ 100000) (hz : z0 ≤ h_sz h) (hl : l0 ≤ h_sl h) (hc1 : h_sz h + 1 - z0 ≤ R.cells) (hs1 : h_sl h + n.toNat - l0 ≤ R.slots)
    (kk : Go p l e R s m args below mth c Q w z0 l0 (pc + 2) lv (vr (h_sz h) :: r) (alo h 12 n.toNat n.toNat)) : Go p l e R s m args below mth c Q w z0 l0 pc lv (vi n :: r) h := by
  refine new_arr (at2 := .long) (t := 12) hx hb hW (by omega) (arr_w hW).2.2.1 hd n0 n1 hz hl hc1 hs1 (fun cA H1 hf e1 => ?_) (by show _ * 8 ≤ _; omega) kk
  rw [cell_long (h := alo h 12 n.toNat n.toNat) (by rw [alo_kd, if_pos rfl])]
  show H1[_]? = some (vp_cell _ _)
  rw [e1, vp_cell_l, alo_ln, if_pos rfl, cA_of hf (hK.2 2 _ rfl).2, alo_ml, if_pos rfl]
  rfl
end S6
