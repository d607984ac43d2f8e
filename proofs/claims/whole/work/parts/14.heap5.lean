section S5
variable {p : Program} {l : Launch} {e : Env} {R : Room} {s : State} {m : MethodId} {args : Array Value} {below : List Frame} {mth : Method} {c : Code} {Q : State → Prop}
variable {w : WP} {z0 l0 : Nat} {cc : ByteArray} {pc : Nat} {lv r : List AV} {h : HP} {own : Nat}
/-! stores into arrays -/
theorem upd_cell_i {w : WP} {h : HP} {a t j : Nat} {x : Int} (hk : h_kd h a = t) (ht : t = 10 ∨ t = 11 ∨ t = 13) {H1 : Heap} {v : Value} (hv : v = .int (Int32.ofInt x))
    (he : H1[adr w a]? = some ((vp_cell (w_cy w t) (h_ln h a, .inl (fun j => Int32.ofInt (h_mi h a j)))).setSlot j v)) : va_at (w_D w) clsL (adr w a, cellOf w (sI h a j x) a) H1 := by
  rw [cell_int (h := sI h a j x) hk ht]
  show H1[adr w a]? = some (vp_cell _ _)
  rw [he, vp_cell_i, arrV_store, vp_cell_i]
  congr 2
  funext q
  have e : h_mi (sI h a j x) a q = if q = j then x else h_mi h a q := by rw [mi_sI, if_pos rfl]; rfl
  rw [e, hv]
  by_cases hq : q = j
  · subst hq; simp [updV]
  · simp [updV, hq]
theorem Aw_adr (w : WP) (a : Nat) : Aw w (adr w a) := Nat.le_add_right _ _
theorem g_iast (hx : p.tables.exec = Jvm.exec) (hb : c.code = cc) (hK : va_K (w_D w) clsL (tysL w) s) {a : Nat} {i x : Int} (hd : decode cc pc = .ok (.iastore, 1)) (hk : isK h a 11 = true) (hi : inb h a i = true)
    (kk : Go p l e R s m args below mth c Q w z0 l0 (pc + 1) lv r (sI h a i.toNat x)) : Go p l e R s m args below mth c Q w z0 l0 pc lv (vi x :: vi i :: vr a :: r) h := by
  intro H locs ls hH hS hL hI
  have hka := isK_eq hk
  obtain ⟨ha, -, L, n, hn, hm, -, hP, hD⟩ := hH.get (a := a) (by omega)
  obtain ⟨i0, i1⟩ := inb_of hi
  rw [cell_int hka (by omega)] at hn
  have hri : r32 i := ih (it hI)
  simp only [List.map_cons, ref_dyn ha]
  refine W.iast hx hb (hP n _ hn) ((hK.2 1 _ rfl).1 (h_ln h a) (fun j => .int (Int32.ofInt (h_mi h a j)))) (fun q => by cases q) (by show ¬ (_ ∨ (arrV _ _ _).slots.size ≤ _); rw [arrV_size]; exact vp_in_of32 hri i0 i1) rfl rfl hd fun H1 e1 e2 e3 => ?_
  rw [clamp32 hri i0] at e1 ⊢
  exact kk H1 _ ls (hH.wr (a := a) (by omega) ne_sI rfl rfl (ok_sI hH.2.2.1 (ih hI)) (sh_sI hH.2.2.2.1 ha) e2 e3 (upd_cell_i hka (by omega) rfl e1)) (hS.put e2 e3 (Aw_adr w a)) hL (it (it (it hI)))
theorem g_cast (hx : p.tables.exec = Jvm.exec) (hb : c.code = cc) (hK : va_K (w_D w) clsL (tysL w) s) {a : Nat} {i x : Int} (hd : decode cc pc = .ok (.castore, 1)) (hk : isK h a 10 = true) (hi : inb h a i = true) (x0 : 0 ≤ x) (x1 : x < 65536)
    (kk : Go p l e R s m args below mth c Q w z0 l0 (pc + 1) lv r (sI h a i.toNat x)) : Go p l e R s m args below mth c Q w z0 l0 pc lv (vi x :: vi i :: vr a :: r) h := by
  intro H locs ls hH hS hL hI
  have hka := isK_eq hk
  obtain ⟨ha, -, L, n, hn, hm, -, hP, hD⟩ := hH.get (a := a) (by omega)
  obtain ⟨i0, i1⟩ := inb_of hi
  rw [cell_int hka (by omega)] at hn
  have hri : r32 i := ih (it hI)
  simp only [List.map_cons, ref_dyn ha]
  refine W.cast hx hb (hP n _ hn) ((hK.2 0 _ rfl).1 (h_ln h a) (fun j => .int (Int32.ofInt (h_mi h a j)))) (fun q => by cases q) (by show ¬ (_ ∨ (arrV _ _ _).slots.size ≤ _); rw [arrV_size]; exact vp_in_of32 hri i0 i1) rfl rfl hd fun H1 e1 e2 e3 => ?_
  rw [clamp32 hri i0] at e1 ⊢
  have hnar : narrow .char (.int (Int32.ofInt x)) = .int (Int32.ofInt x) := by
    obtain ⟨y, hy⟩ : ∃ y : Nat, x = (y : Int) := ⟨x.toNat, by omega⟩
    subst hy
    exact (pk_charN (q := y) (by omega)).1
  exact kk H1 _ ls (hH.wr (a := a) (by omega) ne_sI rfl rfl (ok_sI hH.2.2.1 (ih hI)) (sh_sI hH.2.2.2.1 ha) e2 e3 (upd_cell_i hka (by omega) hnar e1)) (hS.put e2 e3 (Aw_adr w a)) hL (it (it (it hI)))
theorem g_zast (hx : p.tables.exec = Jvm.exec) (hb : c.code = cc) (hK : va_K (w_D w) clsL (tysL w) s) {a : Nat} {i x : Int} (hd : decode cc pc = .ok (.bastore, 1)) (hk : isK h a 13 = true) (hi : inb h a i = true) (h01 : x = 0 ∨ x = 1)
    (kk : Go p l e R s m args below mth c Q w z0 l0 (pc + 1) lv r (sI h a i.toNat x)) : Go p l e R s m args below mth c Q w z0 l0 pc lv (vi x :: vi i :: vr a :: r) h := by
  intro H locs ls hH hS hL hI
  have hka := isK_eq hk
  obtain ⟨ha, -, L, n, hn, hm, -, hP, hD⟩ := hH.get (a := a) (by omega)
  obtain ⟨i0, i1⟩ := inb_of hi
  rw [cell_int hka (by omega)] at hn
  have hri : r32 i := ih (it hI)
  simp only [List.map_cons, ref_dyn ha]
  refine W.zast hx hb (hP n _ hn) ((hK.2 3 _ rfl).1 (h_ln h a) (fun j => .int (Int32.ofInt (h_mi h a j)))) (fun q => by cases q) (by show ¬ (_ ∨ (arrV _ _ _).slots.size ≤ _); rw [arrV_size]; exact vp_in_of32 hri i0 i1) rfl rfl hd fun H1 e1 e2 e3 => ?_
  rw [clamp32 hri i0] at e1 ⊢
  have hnar : narrow .boolean (.int (Int32.ofInt x)) = .int (Int32.ofInt x) := by rcases h01 with rfl | rfl <;> rfl
  exact kk H1 _ ls (hH.wr (a := a) (by omega) ne_sI rfl rfl (ok_sI hH.2.2.1 (ih hI)) (sh_sI hH.2.2.2.1 ha) e2 e3 (upd_cell_i hka (by omega) hnar e1)) (hS.put e2 e3 (Aw_adr w a)) hL (it (it (it hI)))
theorem g_last (hx : p.tables.exec = Jvm.exec) (hb : c.code = cc) (hK : va_K (w_D w) clsL (tysL w) s) {a : Nat} {i x : Int} (hd : decode cc pc = .ok (.lastore, 1)) (hk : isK h a 12 = true) (hi : inb h a i = true)
    (kk : Go p l e R s m args below mth c Q w z0 l0 (pc + 1) lv r (sL h a i.toNat x)) : Go p l e R s m args below mth c Q w z0 l0 pc lv (vl x :: vi i :: vr a :: r) h := by
  intro H locs ls hH hS hL hI
  have hka := isK_eq hk
  obtain ⟨ha, -, L, n, hn, hm, -, hP, hD⟩ := hH.get (a := a) (by omega)
  obtain ⟨i0, i1⟩ := inb_of hi
  rw [cell_long hka] at hn
  have hri : r32 i := ih (it hI)
  simp only [List.map_cons, ref_dyn ha]
  refine W.last hx hb (hP n _ hn) ((hK.2 2 _ rfl).1 (h_ln h a) (fun j => .long (Int64.ofInt (h_ml h a j)))) (fun q => by cases q) (by show ¬ (_ ∨ (arrV _ _ _).slots.size ≤ _); rw [arrV_size]; exact vp_in_of32 hri i0 i1) rfl rfl hd fun H1 e1 e2 e3 => ?_
  rw [clamp32 hri i0] at e1 ⊢
  refine kk H1 _ ls (hH.wr (a := a) (by omega) ne_sL rfl rfl (ok_sL hH.2.2.1 (ih hI)) (sh_sL hH.2.2.2.1 ha) e2 e3 ?_) (hS.put e2 e3 (Aw_adr w a)) hL (it (it (it hI)))
  rw [cell_long (h := sL h a i.toNat x) hka]
  show H1[adr w a]? = some (vp_cell _ _)
  rw [e1, vp_cell_l, arrV_store, vp_cell_l]
  congr 2
  funext q
  have e4 : h_ml (sL h a i.toNat x) a q = if q = i.toNat then x else h_ml h a q := by rw [ml_sL, if_pos rfl]; rfl
  rw [e4]
  by_cases hq : q = i.toNat
  · subst hq; simp [updV]
  · simp [updV, hq]
/-! new cells -/
theorem alo_kd (h : HP) (t n v b : Nat) : h_kd (alo h t n v) b = if b = h_sz h then t else h_kd h b := rfl
theorem alo_ln (h : HP) (t n v b : Nat) : h_ln (alo h t n v) b = if b = h_sz h then n else h_ln h b := rfl
theorem alo_mi (h : HP) (t n v b : Nat) : h_mi (alo h t n v) b = if b = h_sz h then (fun _ => 0) else h_mi h b := rfl
theorem alo_ml (h : HP) (t n v b : Nat) : h_ml (alo h t n v) b = if b = h_sz h then (fun _ => 0) else h_ml h b := rfl
theorem alo_mr (h : HP) (t n v b : Nat) : h_mr (alo h t n v) b = if b = h_sz h then (fun _ => 0) else h_mr h b := rfl
theorem alo_ne {w : WP} {h : HP} {t n v b : Nat} (hb : b ≠ h_sz h) : cellOf w (alo h t n v) b = cellOf w h b := cellOf_ne (by rw [alo_kd, if_neg hb]) (by rw [alo_ln, if_neg hb]) (by rw [alo_mi, if_neg hb]) (by rw [alo_ml, if_neg hb]) (by rw [alo_mr, if_neg hb])
theorem HR.nw {w : WP} {h : HP} {H H1 : Heap} (hH : HR w h H) {t n v : Nat} (ht : t ≤ 14) (hn : n ≤ 100000) (z : H1.size = H.size + 1) (oq : ∀ q, q < H.size → H1[q]? = H[q]?) (hat : va_at (w_D w) clsL (adr w (h_sz h), cellOf w (alo h t n v) (h_sz h)) H1) : HR w (alo h t n v) H1 := by
  obtain ⟨g1, g2, g3, g4, g5, L, hL, hP, hD⟩ := hH
  have hsz : h_sz (alo h t n v) = h_sz h + 1 := rfl
  have hnew : adr w (h_sz h) = H.size := g1.symm
  have hnot : adr w (h_sz h) ∉ L := fun hm => by
    obtain ⟨k, hk⟩ := va_pl_get (X := []) (f := fO w h) hm
    have := (hP k _ hk).lt
    rw [hnew] at this
    exact absurd this (Nat.lt_irrefl _)
  have e1 : va_pl L (fO w h) ++ [(adr w (h_sz h), cellOf w (alo h t n v) (h_sz h))] = va_pl (L ++ [adr w (h_sz h)]) (fO w (alo h t n v)) := by
    unfold va_pl
    rw [List.map_append]
    congr 1
    · refine List.map_congr_left fun q hq => ?_
      have hb := pl_mem hD hq
      congr 1
      unfold fO
      exact (alo_ne (fun y => hnot (by rw [show adr w (h_sz h) = q by unfold adr; omega]; exact hq))).symm
    · simp only [List.map_cons, List.map_nil]
      rw [fO_adr g2]
  have hP1 : va_P (w_D w) clsL (va_pl L (fO w h) ++ [(adr w (h_sz h), cellOf w (alo h t n v) (h_sz h))]) H1 := by
    refine (hP.kept (fun k q hq => oq q.1 ((hP k q hq).lt))).app fun k x hx => ?_
    have hz : k < 1 := (List.getElem?_eq_some_iff.mp hx).1
    rw [show k = 0 by omega] at hx
    cases hx
    exact hat
  have hD1 := hD.push (e := cellOf w (alo h t n v) (h_sz h)) hP hnew (Aw_adr w (h_sz h))
  rw [e1] at hP1 hD1
  refine ⟨by rw [z, g1, hsz]; unfold adr; omega, by rw [hsz]; omega, ?_, ?_, ?_, _, ?_, hP1, hD1⟩
  · refine ⟨fun a j => ?_, fun a j => ?_, fun a => ?_, fun a ha => ?_⟩
    · rw [alo_mi]; split
      · exact r0
      · exact g3.1 a j
    · rw [alo_ml]; split
      · exact r640
      · exact g3.2.1 a j
    · rw [alo_ln]; split
      · exact hn
      · exact g3.2.2.1 a
    · rw [alo_kd]; split
      · exact Or.inl ht
      · exact g3.2.2.2 a ha
  · intro a ha
    have hne : a ≠ h_sz h := by omega
    obtain ⟨s1, s2, s3, s4, s5⟩ := g4 a ha
    refine ⟨?_, ?_, fun k => ?_, fun k hk => ?_, fun k => ?_⟩
    · rw [alo_kd, if_neg hne]; exact s1
    · rw [alo_ln, if_neg hne]; exact s2
    · rw [alo_mi, if_neg hne]; exact s3 k
    · rw [alo_ml, if_neg hne]; exact s4 k hk
    · rw [alo_mr, if_neg hne]; exact s5 k
  · intro a ha
    rw [hsz]
    rw [alo_kd] at ha
    split at ha
    · rename_i y; omega
    · have := g5 a ha; omega
  · intro a ha
    rw [alo_kd] at ha
    split at ha
    · rename_i y; rw [y]; exact List.mem_append_right _ List.mem_cons_self
    · exact List.mem_append_left _ (hL a ha)
end S5
