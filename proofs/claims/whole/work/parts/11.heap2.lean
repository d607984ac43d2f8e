/-! reads and writes of dynamic cells -/
theorem HR.wr {w : WP} {h h2 : HP} {H H1 : Heap} (hH : HR w h H) {a : Nat} (hka : h_kd h a ≤ 14) (hsame : ∀ b, b ≠ a → cellOf w h2 b = cellOf w h b) (hkd : h_kd h2 = h_kd h) (hsz : h_sz h2 = h_sz h) (hok : OKr h2) (hsh : SH w h2)
    (z : H1.size = H.size) (oq : ∀ q, q ≠ adr w a → H1[q]? = H[q]?) (hat : va_at (w_D w) clsL (adr w a, cellOf w h2 a) H1) : HR w h2 H1 := by
  obtain ⟨ha, -, L, k, hk, hm, hL, hP, hD⟩ := hH.get hka
  exact hH.upd hka hL hD hk hsame hkd hsz hok hsh z (hP.set hD hk hat oq) (hD.set hk)
theorem sh_sI {w : WP} {h : HP} {a k : Nat} {v : Int} (hs : SH w h) (ha : 100 ≤ a) : SH w (sI h a k v) := fun b hb => by
  have h1 := hs b hb
  refine ⟨h1.1, h1.2.1, fun j => ?_, h1.2.2.2⟩
  rw [mi_sI, if_neg (by omega)]
  exact h1.2.2.1 j
theorem sh_sRi {w : WP} {h : HP} {a : Nat} {f : Nat → Int} (hs : SH w h) (ha : 100 ≤ a) : SH w (sRi h a f) := fun b hb => by
  have h1 := hs b hb
  refine ⟨h1.1, h1.2.1, fun j => ?_, h1.2.2.2⟩
  rw [mi_sRi, if_neg (by omega)]
  exact h1.2.2.1 j
theorem sh_sL {w : WP} {h : HP} {a k : Nat} {v : Int} (hs : SH w h) (ha : 100 ≤ a) : SH w (sL h a k v) := fun b hb => by
  have h1 := hs b hb
  refine ⟨h1.1, h1.2.1, h1.2.2.1, fun j hj => ?_, h1.2.2.2.2⟩
  rw [ml_sL, if_neg (by omega)]
  exact h1.2.2.2.1 j hj
theorem sh_sR {w : WP} {h : HP} {a k v : Nat} (hs : SH w h) (ha : 100 ≤ a) : SH w (sR h a k v) := fun b hb => by
  have h1 := hs b hb
  refine ⟨h1.1, h1.2.1, h1.2.2.1, h1.2.2.2.1, fun j => ?_⟩
  rw [mr_sR, if_neg (by omega)]
  exact h1.2.2.2.2 j
theorem ok_sRi {h : HP} {a : Nat} {f : Nat → Int} (ho : OKr h) (hf : ∀ j, r32 (f j)) : OKr (sRi h a f) := ⟨fun b j => by
  rw [mi_sRi]; split
  · exact hf j
  · exact ho.1 b j, ho.2⟩
theorem ok_sI {h : HP} {a k : Nat} {v : Int} (ho : OKr h) (hv : r32 v) : OKr (sI h a k v) := ok_sRi ho (fun j => by
  unfold va_up; split
  · exact hv
  · exact ho.1 a j)
theorem ok_sL {h : HP} {a k : Nat} {v : Int} (ho : OKr h) (hv : r64 v) : OKr (sL h a k v) := ⟨ho.1, (fun b j => by
  rw [ml_sL]; split
  · unfold va_up; split
    · exact hv
    · exact ho.2.1 a j
  · exact ho.2.1 b j), ho.2.2⟩
theorem ok_sR {h : HP} {a k v : Nat} (ho : OKr h) : OKr (sR h a k v) := ho
theorem ne_sI {w : WP} {h : HP} {a k : Nat} {v : Int} (b : Nat) (hb : b ≠ a) : cellOf w (sI h a k v) b = cellOf w h b := cellOf_ne rfl rfl (by rw [mi_sI, if_neg hb]) rfl rfl
theorem ne_sRi {w : WP} {h : HP} {a : Nat} {f : Nat → Int} (b : Nat) (hb : b ≠ a) : cellOf w (sRi h a f) b = cellOf w h b := cellOf_ne rfl rfl (by rw [mi_sRi, if_neg hb]) rfl rfl
theorem ne_sL {w : WP} {h : HP} {a k : Nat} {v : Int} (b : Nat) (hb : b ≠ a) : cellOf w (sL h a k v) b = cellOf w h b := cellOf_ne rfl rfl rfl (by rw [ml_sL, if_neg hb]) rfl
theorem ne_sR {w : WP} {h : HP} {a k v : Nat} (b : Nat) (hb : b ≠ a) : cellOf w (sR h a k v) b = cellOf w h b := cellOf_ne rfl rfl rfl rfl (by rw [mr_sR, if_neg hb])
theorem cell_obj {w : WP} {h : HP} {a c : Nat} (hk : h_kd h a = c) (hc : c ≤ 9) : cellOf w h a = .inr (c, flds w h a c) := by
  unfold cellOf; rw [if_pos (by omega), hk]
theorem cell_int {w : WP} {h : HP} {a t : Nat} (hk : h_kd h a = t) (ht : t = 10 ∨ t = 11 ∨ t = 13) : cellOf w h a = .inl (w_cy w t, h_ln h a, .inl (fun j => Int32.ofInt (h_mi h a j))) := by
  unfold cellOf; rw [if_neg (by omega), if_neg (by omega), if_neg (by omega), hk]
theorem cell_long {w : WP} {h : HP} {a : Nat} (hk : h_kd h a = 12) : cellOf w h a = .inl (w_cy w 12, h_ln h a, .inr (.inl (fun j => Int64.ofInt (h_ml h a j)))) := by
  unfold cellOf; rw [if_neg (by omega), if_pos hk]
theorem cell_ref {w : WP} {h : HP} {a : Nat} (hk : h_kd h a = 14) : cellOf w h a = .inl (w_cy w 14, h_ln h a, .inr (.inr (.inr (.inr (fun j => ro w (h_mr h a j)))))) := by
  unfold cellOf; rw [if_neg (by omega), if_neg (by omega), if_pos hk]
theorem isK_eq {h : HP} {a t : Nat} (hk : isK h a t = true) : h_kd h a = t := Nat.eq_of_beq_eq_true hk
theorem inb_of {h : HP} {a : Nat} {i : Int} (hi : inb h a i = true) : 0 ≤ i ∧ i < (h_ln h a : Int) := by
  unfold inb at hi
  simpa using hi
theorem vp_in_of32 {i : Int} {n : Nat} (hr : r32 i) (h0 : 0 ≤ i) (h1 : i < (n : Int)) : vp_in (Int32.ofInt i) n := by
  rw [vp_in_iff, of32 hr]; exact ⟨h0, h1⟩
section S2
variable {p : Program} {l : Launch} {e : Env} {R : Room} {s : State} {m : MethodId} {args : Array Value} {below : List Frame} {mth : Method} {c : Code} {Q : State → Prop}
variable {w : WP} {z0 l0 : Nat} {cc : ByteArray} {pc : Nat} {lv r : List AV} {h : HP} {own : Nat}
theorem ref_dyn {w : WP} {a : Nat} (ha : 100 ≤ a) : rv w (vr a) = .ref (adr w a) := by
  show va_rf (ro w a) = _
  rw [ro_dyn ha]; rfl
theorem fv_in {w : WP} {h : HP} (ho : OKr h) (a t j : Nat) : ∃ v : AV, rv w v = fv w h a t j ∧ inV v := by
  unfold fv; split
  · exact ⟨vl (h_ml h a j), rfl, ho.2.1 a j⟩
  · exact ⟨vr (h_mr h a j), rfl, trivial⟩
  · exact ⟨vi (h_mi h a j), rfl, ho.1 a j⟩
/-- what a getfield pushes -/
def gf (h : HP) (a t j : Nat) : AV := match t with
  | 1 => vl (h_ml h a j)
  | 2 => vr (h_mr h a j)
  | _ => vi (h_mi h a j)
theorem gf_rv (w : WP) (h : HP) (a t j : Nat) : rv w (gf h a t j) = fv w h a t j := by
  match t with
  | 0 => rfl
  | 1 => rfl
  | 2 => rfl
  | n + 3 => rfl
theorem gf_in {h : HP} (ho : OKr h) (a t j : Nat) : inV (gf h a t j) := by
  unfold gf; split
  · exact ho.2.1 a j
  · trivial
  · exact ho.1 a j
theorem g_getf (hx : p.tables.exec = Jvm.exec) (hb : c.code = cc) (hown : s.vm.findClass (oN own) = some m.cls) (hW : Wd s) (hK : va_K (w_D w) clsL (tysL w) s) {k q j t a : Nat} (hd : decode cc pc = .ok (.getfield k, 3)) (hf : fres own k = some (q, j, t)) (hq : q ≤ 9) (hk : isK h a q = true)
    (kk : Go p l e R s m args below mth c Q w z0 l0 (pc + 3) lv (gf h a t j :: r) h) : Go p l e R s m args below mth c Q w z0 l0 pc lv (vr a :: r) h := by
  intro H locs ls hH hS hL hI
  have hka := isK_eq hk
  obtain ⟨ha, -, L, n, hn, hm, -, hP, hD⟩ := hH.get (a := a) (by omega)
  obtain ⟨hj, ht, hnm⟩ := fld_dyn hf hq
  have k2 := kk H locs ls hH hS hL (ic (gf_in hH.2.2.1 a t j) (it hI))
  rw [cell_obj hka hq] at hn
  have hv : (flds w h a q)[j]? = some (fv w h a t j) := by rw [ht]; exact flds_get hj
  simp only [List.map_cons, gf_rv] at k2
  simp only [List.map_cons, ref_dyn ha]
  have hlk := fld_link hW hf (args := args)
  rw [hnm] at hlk
  rcases hlk with g | g
  · exact va_get hx hb (Ts := u_ws (RC q) (TC q) (NC q)) (lays_of hW (by omega)) (fun _ z => z) hown hK hP n hn (cls_at (by omega)) j hj g (fun _ z => z) hv hd k2
  · exact va_getN hx hb (Ts := u_ws (RC q) (TC q) (NC q)) (lays_of hW (by omega)) (fun _ z => z) hown hK hP n hn (cls_at (by omega)) j hj g (fun _ z => z) hv hd k2
end S2
