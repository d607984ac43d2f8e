/-! writes of fields -/
theorem fl_sI {w : WP} {h : HP} {a c j : Nat} {x : Int} (hj : j < NC c) (ht : tco (TC c j).2.2.1 = 0 ∨ tco (TC c j).2.2.1 = 3) : flds w (sI h a j x) a c = (flds w h a c).set j (.int (Int32.ofInt x)) := by
  refine List.ext_getElem? fun k => ?_
  rw [List.getElem?_set]
  rcases Nat.lt_or_ge k (NC c) with hk | hk
  · rw [flds_get hk, flds_get hk]
    by_cases he : j = k
    · subst he
      rw [if_pos rfl, if_pos (by rw [flds_len]; exact hj)]
      have e : h_mi (sI h a j x) a j = x := by rw [mi_sI, if_pos rfl]; simp [va_up]
      rcases ht with ht | ht <;> rw [ht] <;> simp only [fv, e]
    · rw [if_neg he]
      have e : h_mi (sI h a j x) a k = h_mi h a k := by rw [mi_sI, if_pos rfl]; simp [va_up, Ne.symm he]
      unfold fv
      rw [e]
      rfl
  · rw [if_neg (by omega), List.getElem?_eq_none (by rw [flds_len]; exact hk), List.getElem?_eq_none (by rw [flds_len]; exact hk)]
theorem fl_sL {w : WP} {h : HP} {a c j : Nat} {x : Int} (hj : j < NC c) (ht : tco (TC c j).2.2.1 = 1) : flds w (sL h a j x) a c = (flds w h a c).set j (.long (Int64.ofInt x)) := by
  refine List.ext_getElem? fun k => ?_
  rw [List.getElem?_set]
  rcases Nat.lt_or_ge k (NC c) with hk | hk
  · rw [flds_get hk, flds_get hk]
    by_cases he : j = k
    · subst he
      rw [if_pos rfl, if_pos (by rw [flds_len]; exact hj)]
      have e : h_ml (sL h a j x) a j = x := by rw [ml_sL, if_pos rfl]; simp [va_up]
      rw [ht]; simp only [fv, e]
    · rw [if_neg he]
      have e : h_ml (sL h a j x) a k = h_ml h a k := by rw [ml_sL, if_pos rfl]; simp [va_up, Ne.symm he]
      unfold fv
      rw [e]
      rfl
  · rw [if_neg (by omega), List.getElem?_eq_none (by rw [flds_len]; exact hk), List.getElem?_eq_none (by rw [flds_len]; exact hk)]
theorem fl_sR {w : WP} {h : HP} {a c j x : Nat} (hj : j < NC c) (ht : tco (TC c j).2.2.1 = 2) : flds w (sR h a j x) a c = (flds w h a c).set j (va_rf (ro w x)) := by
  refine List.ext_getElem? fun k => ?_
  rw [List.getElem?_set]
  rcases Nat.lt_or_ge k (NC c) with hk | hk
  · rw [flds_get hk, flds_get hk]
    by_cases he : j = k
    · subst he
      rw [if_pos rfl, if_pos (by rw [flds_len]; exact hj)]
      have e : h_mr (sR h a j x) a j = x := by rw [mr_sR, if_pos rfl]; simp [va_up]
      rw [ht]; simp only [fv, e]
    · rw [if_neg he]
      have e : h_mr (sR h a j x) a k = h_mr h a k := by rw [mr_sR, if_pos rfl]; simp [va_up, Ne.symm he]
      unfold fv
      rw [e]
      rfl
  · rw [if_neg (by omega), List.getElem?_eq_none (by rw [flds_len]; exact hk), List.getElem?_eq_none (by rw [flds_len]; exact hk)]
section S3
variable {p : Program} {l : Launch} {e : Env} {R : Room} {s : State} {m : MethodId} {args : Array Value} {below : List Frame} {mth : Method} {c : Code} {Q : State → Prop}
variable {w : WP} {z0 l0 : Nat} {cc : ByteArray} {pc : Nat} {lv r : List AV} {h : HP} {own : Nat}
/-- a write of a field, whatever its type: the heap behind it has the field changed and nothing else -/
theorem put_raw (hx : p.tables.exec = Jvm.exec) (hb : c.code = cc) (hown : s.vm.findClass (oN own) = some m.cls) (hW : Wd s) (hK : va_K (w_D w) clsL (tysL w) s) {H : Heap} {locs : List Loc} {cells slots : Nat} {ls : Array Slot} {rest : List Value} (hH : HR w h H) (hS : va_S (Aw w) s.heap H locs)
    {k q j t a : Nat} {v : Value} (hd : decode cc pc = .ok (.putfield k, 3)) (hf : fres own k = some (q, j, t)) (hq : q ≤ 9) (hka : h_kd h a = q) (hfin : (TC q j).2.2.2 = true → mth.name = "<init>" ∧ RC q = oN own ∧ (Cond.fieldLink (oN own) k (RC q) (TC q j).2.1 (TC q j).2.2.1).before args s = true)
    (hn : narrow (tyC q j) v = v) (hv : fits (tyC q j) v = true)
    (kk : ∀ (H1 : Heap) (locs1 : List Loc), va_at (w_D w) clsL (adr w a, .inr (q, (flds w h a q).set j v)) H1 → H1.size = H.size → (∀ z, z ≠ adr w a → H1[z]? = H[z]?) → va_S (Aw w) s.heap H1 locs1 → W p l e R s m args below mth c H1 locs1 cells slots Q (F0 m (pc + 3) ls rest)) :
    W p l e R s m args below mth c H locs cells slots Q (F0 m pc ls (v :: .ref (adr w a) :: rest)) := by
  obtain ⟨ha, -, L, n, hnn, hm, -, hP, hD⟩ := hH.get (a := a) (by omega)
  obtain ⟨hj, ht, hnm⟩ := fld_dyn hf hq
  rw [cell_obj hka hq] at hnn
  have hc9 : q < 10 := by omega
  have hts := lays_of hW hc9 (args := args)
  have hap := va_apart (own := oN own) (Ts := u_ws (RC q) (TC q) (NC q)) hts (fun _ z => z) (tyC q) (ty_of hc9) (names_of hc9) hK (cls_at hc9)
  obtain ⟨rr, h1, cell, q1, q2, q3, q4⟩ := hP n _ hnn
  have hr : rr = (RC q, TC q, NC q) := Option.some.inj (h1.symm.trans (cls_at hc9))
  subst hr
  obtain ⟨hSl, hfc, kC, hkC, hkind⟩ := hK.1 q _ (cls_at hc9)
  obtain ⟨cf, kf, fi, f, hi, hsl⟩ := hSl j hj
  have hlays := u_lays hts (fun _ z => z) hj
  have hst := (u_facts hfc hkC hlays hi).1
  have hfi := u_fits hfc hkC hkind hlays hi (ty_of hc9 j hj) hn hv
  have hslot : f.slot < cell.slots.size := by rw [hsl]; exact k2_hasslot (q4 j hj)
  have fin : ∀ (H1 : Heap), H1[adr w a]? = some (cell.setSlot f.slot v) → H1.size = H.size → (∀ z, z ≠ adr w a → H1[z]? = H[z]?) → W p l e R s m args below mth c H1 (locs ++ [⟨adr w a, f.slot⟩]) cells slots Q (F0 m (pc + 3) ls rest) := by
    intro H1 e1 e2 e3
    rw [hsl] at e1
    refine kk H1 _ ⟨_, cls_at hc9, t_OB.to (V := updV (vp_V (flds w h a q)) j v) ⟨_, e1, q2, q3, t_set q4 hap hj v⟩ (fun i _ => vp_updV_set (by rw [flds_len]; exact hj) v i)⟩ e2 e3 (hS.put e2 e3 (show w_b w ≤ adr w a from Nat.le_add_right _ _))
  cases hF : (TC q j).2.2.2 with
  | true =>
    obtain ⟨hini, hdecl, hlk⟩ := hfin hF
    have hlay := hts _ (u_in_lay hj)
    unfold u_lay at hlay
    rw [if_pos hF] at hlay
    have hcf : m.cls = cf := by
      obtain ⟨_, _, c', _, _, _, -, -, hf', -, -, -, hown2, -⟩ := Cond.laysFinal_spec hlay
      have e1 : c' = cf := by have := hi.symm.trans hf'; simp at this; exact this.1.symm
      have hown2' : s.vm.findClass (RC q) = some c' := hown2
      rw [hdecl] at hown2'
      rw [← e1]; exact Option.some.inj (hown.symm.trans hown2')
    exact W.putFinK hx hb hown hlk hi hst hcf hini (by rw [q2]; exact hfi) q1 q3 hslot rfl rfl hd fin
  | false =>
    have hlay := hts _ (u_in_lay hj)
    unfold u_lay at hlay
    rw [if_neg (by rw [hF]; decide)] at hlay
    have h6 := u_store hfc hkC hkind hlay hi (ty_of hc9 j hj) hn hv
    have hlk := fld_link hW hf (args := args)
    rw [hnm] at hlk
    rcases hlk with g | g
    · exact W.putK hx hb (f := f) ⟨hown, g, ⟨_, _, _, hi⟩, hst⟩ (by rw [q2]; exact h6) q1 q3 hslot rfl rfl hd fin
    · exact va_WputK hx hb (f := f) hown g hi hst (by rw [q2]; exact h6) q1 q3 hslot rfl rfl hd fin
end S3
