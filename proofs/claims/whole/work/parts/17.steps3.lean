/-! arrays of references, copies, single members, constants -/
section S7
variable {p : Program} {l : Launch} {e : Env} {R : Room} {s : State} {m : MethodId} {args : Array Value} {below : List Frame} {mth : Method} {c : Code} {Q : State → Prop}
variable {w : WP} {z0 l0 : Nat} {cc : ByteArray} {pc : Nat} {lv r : List AV} {h : HP} {own : Nat}
theorem g_aast (hx : p.tables.exec = Jvm.exec) (hb : c.code = cc) (hK : va_K (w_D w) clsL (tysL w) s) {a x : Nat} {i : Int} (hd : decode cc pc = .ok (.aastore, 1)) (hk : isK h a 14 = true) (hi : inb h a i = true) (hkx : isK h x 3 = true)
    (kk : Go p l e R s m args below mth c Q w z0 l0 (pc + 1) lv r (sR h a i.toNat x)) : Go p l e R s m args below mth c Q w z0 l0 pc lv (vr x :: vi i :: vr a :: r) h := by
  intro H locs ls hH hS hL hI
  have hka := isK_eq hk
  have hkx := isK_eq hkx
  obtain ⟨ha, -, L, n, hn, hm, -, hP, hD⟩ := hH.get (a := a) (by omega)
  obtain ⟨hax, -, L2, n2, hn2, -, -, hP2, -⟩ := hH.get (a := x) (by omega)
  obtain ⟨i0, i1⟩ := inb_of hi
  rw [cell_ref hka] at hn
  rw [cell_obj hkx (by omega)] at hn2
  have hri : r32 i := ih (it hI)
  simp only [List.map_cons, ref_dyn ha, ref_dyn hax]
  obtain ⟨r', hr', cellV, g1, g2, g3, -⟩ := hP2 n2 _ hn2
  have hcls := (hK.1 3 _ (cls_at (by omega))).2
  obtain ⟨kA, comp, k1, k2, k3, -⟩ := (hK.2 4 _ rfl).2
  have hcomp : comp = (w_D w).1 3 := Option.some.inj (k3.symm.trans hcls.1)
  subst hcomp
  obtain ⟨kC, hkC, -⟩ := hcls.2
  have hvi := vp_in_of32 hri i0 i1
  refine W.aast hx hb (hP n _ hn) (fun q h => by cases h) (fun h => by cases h) k1 k2 rfl hkC ⟨fun z => hvi (Or.inl z), by show _ < (arrV _ _ _).slots.size; rw [arrV_size]; exact Nat.not_le.mp fun z => hvi (Or.inr z)⟩ g1 (fun q h => by rw [g3] at h; cases h) (by rw [g2]; exact hkC) (by rw [g2]; exact va_assign hcls) rfl rfl hd fun H1 e1 e2 e3 => ?_
  rw [clamp32 hri i0] at e1 ⊢
  refine kk H1 _ ls (hH.wr (a := a) (by omega) ne_sR rfl rfl (ok_sR hH.2.2.1) (sh_sR hH.2.2.2.1 ha) e2 e3 ?_) (hS.put e2 e3 (Aw_adr w a)) hL (it (it (it hI)))
  rw [cell_ref (h := sR h a i.toNat x) hka]
  show H1[adr w a]? = some (vp_cell _ _)
  rw [e1, vp_cell_q, arrV_store, vp_cell_q]
  congr 2
  funext q
  have e4 : h_mr (sR h a i.toNat x) a q = if q = i.toNat then x else h_mr h a q := by rw [mr_sR, if_pos rfl]; rfl
  rw [e4]
  by_cases hq : q = i.toNat
  · subst hq; simp [updV, ro_dyn hax, va_rf]
  · simp [updV, hq]
theorem ov_w (hW : Wd s) : (Cond.arrayOver (.object "IceBridge$Ice")).before args s = true := hW.2.2.1.use
theorem g_anew (hx : p.tables.exec = Jvm.exec) (hb : c.code = cc) (hown : s.vm.findClass (oN own) = some m.cls) (hW : Wd s) (hK : va_K (w_D w) clsL (tysL w) s) {k q : Nat} {n : Int} (hd : decode cc pc = .ok (.anewarray k, 3)) (hf : nres own k = some (3, q)) (n0 : 0 ≤ n) (n1 : n ≤ 100000) (hz : z0 ≤ h_sz h) (hl : l0 ≤ h_sl h) (hc1 : h_sz h + 1 - z0 ≤ R.cells) (hs1 : h_sl h + n.toNat - l0 ≤ R.slots)
    (kk : Go p l e R s m args below mth c Q w z0 l0 (pc + 3) lv (vr (h_sz h) :: r) (alo h 14 n.toNat n.toNat)) : Go p l e R s m args below mth c Q w z0 l0 pc lv (vi n :: r) h := by
  intro H locs ls hH hS hL hI
  have hr : r32 n := ih hI
  have hg2 := hH.2.1
  have h1 := new_of hf
  have h1 : lw_tbl[cls_p own k]? = some (.classLink (oN own) k "IceBridge$Ice") := by
    simp only [nOK, Bool.or_eq_true, Bool.and_eq_true, decide_eq_true_eq] at h1
    rcases h1 with (h1 | h1) | h1
    · exact absurd h1 (by omega)
    · exact absurd h1.1 (by omega)
    · exact h1.2
  obtain ⟨kA0, comp0, -, -, -, hRA⟩ := (hK.2 4 _ rfl).2
  have hsz : H.size = adr w (h_sz h) := hH.1
  refine W.anew hx hb hown (hW.at h1 rfl) (ov_w hW) rfl hd rfl (fun z => by rw [← o0, lt32 hr r0] at z; omega) (by rw [clamp32 hr n0]; omega) (by omega) (by rw [clamp32 hr n0]; omega) fun cA kA comp f1 f2 f3 f4 => ?_
  have hcA : cA = w_cy w 14 := Option.some.inj (f1.symm.trans hRA)
  rw [clamp32 hr n0]
  have e1 : (H.push { cls := cA, slots := Array.replicate n.toNat .null, vm := .none })[adr w (h_sz h)]? = some (arrV cA n.toNat (fun _ => .null)) := by
    rw [← hsz, Array.getElem?_push_size]
    congr 1
    unfold arrV
    congr 1
    apply Array.ext
    · simp
    · intro i h1 h2; simp
  have hat : va_at (w_D w) clsL (adr w (h_sz h), cellOf w (alo h 14 n.toNat n.toNat) (h_sz h)) (H.push { cls := cA, slots := Array.replicate n.toNat .null, vm := .none }) := by
    rw [cell_ref (h := alo h 14 n.toNat n.toNat) (by rw [alo_kd, if_pos rfl])]
    show (H.push _)[_]? = some (vp_cell _ _)
    rw [e1, vp_cell_q, alo_ln, if_pos rfl, hcA, alo_mr, if_pos rfl]
    rfl
  have oq : ∀ y, y < H.size → (H.push { cls := cA, slots := Array.replicate n.toNat .null, vm := .none })[y]? = H[y]? := fun y hy => by rw [Array.getElem?_push, if_neg (Nat.ne_of_lt hy)]
  have hH1 := hH.nw (v := n.toNat) (t := 14) (n := n.toNat) (by omega) (by omega) (by simp) oq hat
  have k2 := kk _ locs ls hH1 ⟨Nat.le_trans hS.1 (by simp), fun y g1 g2 => (oq y (Nat.lt_of_lt_of_le g1 hS.1)).trans (hS.2.1 y g1 g2), hS.2.2⟩ hL (ic (v := vr _) trivial (it hI))
  simp only [List.map_cons, ref_dyn hg2] at k2
  have e2 : h_sz (alo h 14 n.toNat n.toNat) - z0 = h_sz h - z0 + 1 := by show h_sz h + 1 - z0 = _; omega
  have e3 : h_sl (alo h 14 n.toNat n.toNat) - l0 = h_sl h - l0 + n.toNat := by show h_sl h + n.toNat - l0 = _; omega
  rw [e2, e3] at k2
  rw [hsz]
  exact k2
theorem cats_map (w : WP) : ∀ (st : List AV), ((st.map (rv w)).map fun v => v.category).sum = cats st
  | [] => rfl
  | v :: t => by simp only [List.map_cons, List.sum_cons, cats, rv_cat, cats_map w t]
/-- a link of a single member -/
theorem lk1 (hW : Wd s) {k mode n q t : Nat} (hf : mres own k = some (mode, 0, n, q, t)) (hm : mode = 0 ∨ mode = 3 ∨ mode = 4 ∨ mode = 5 ∨ mode = 6) : (Cond.methodLink (oN own) k (mLk mode 0)).before args s = true := by
  have h1 := mth_of hf
  unfold mOK at h1
  simp only [Bool.and_eq_true] at h1
  have h2 := h1.1.2
  rcases hm with rfl | rfl | rfl | rfl | rfl <;> exact hW.at (of_decide_eq_true h2) rfl
theorem g_objInit (hx : p.tables.exec = Jvm.exec) (hb : c.code = cc) (hown : s.vm.findClass (oN own) = some m.cls) (hW : Wd s) (hml : c.maxLocals = lv.length) {k n q t a : Nat} (hd : decode cc pc = .ok (.invokespecial k, 3)) (hf : mres own k = some (0, 0, n, q, t)) (ha : a ≠ 0) (hc : cats r ≤ 8) (hR : 1 ≤ R.frames ∧ 41 ≤ R.locals)
    (kk : Go p l e R s m args below mth c Q w z0 l0 (pc + 3) lv r h) : Go p l e R s m args below mth c Q w z0 l0 pc lv (vr a :: r) h := by
  intro H locs ls hH hS hL hI
  have hro : ∃ b, rv w (vr a) = .ref b := by
    show ∃ b, va_rf (ro w a) = .ref b
    unfold ro
    rw [if_neg ha]
    split <;> exact ⟨_, rfl⟩
  obtain ⟨b, hbb⟩ := hro
  simp only [List.map_cons, hbb]
  refine W.objInit hx hb hown (lk1 hW hf (by omega)) (hW.at prim_ck.2.2.2.2.2.2.2.2.2.2.1 rfl) (hW.at prim_ck.2.2.2.2.2.2.2.2.2.2.2 rfl) rfl (by rw [hml]; exact hL.1) rfl hd hR.1 ?_ (kk H locs ls hH hS hL (it hI))
  rw [cats_map]
  show 2 * 0 + _ + 12 ≤ _
  omega
end S7
