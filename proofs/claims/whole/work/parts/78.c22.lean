/-! the class: pour -/
theorem ends01 (M : MM) (y : Int) : ∀ (n : Nat) (i : Int), ends (itx (leF M y) n i ()) = 0 ∨ ends (itx (leF M y) n i ()) = 1
  | 0, i => Or.inr rfl
  | n + 1, i => by
    by_cases c : M 148 (10 * y + i).toNat = 1 ∨ M 172 (10 * y + i).toNat ≠ 0
    · rw [itx_r (a2 := ()) (if_pos c)]; exact ends01 M y n (i + 1)
    · rw [itx_l (b := 0) (if_neg c)]; exact Or.inl rfl
/-- left of one pourer -/
theorem IN.lf {M : MM} {n : Int} {S : Nat → Int} (i : IN M 106 126 n S) {p : Nat} (hp : p < 6) (v : Int) : IN (up2 M 128 p v) 106 126 n (va_up S (120 + p) v) := by
  obtain ⟨a, b, e1, e2, e3, e4, e5, e6⟩ := i
  refine ⟨fun x hx => ?_, fun q hq => ?_, ?_⟩
  · rw [u2_ne _ _ _ (show 126 ≠ 128 by omega), u2_ne _ _ _ (show 126 + 1 ≠ 128 by omega), up_ne _ _ (by omega), up_ne _ _ (by omega)]
    exact a x hx
  · rw [u2_ne _ _ _ (show 126 + 3 ≠ 128 by omega), show 126 + 2 = 128 from rfl, u2_eq, up_ne (j := 126 + q) _ _ (by omega)]
    refine ⟨fun hn => ?_, (b q hq).2⟩
    by_cases z : q = p
    · rw [z, up_eq, up_eq]
    · rw [up_ne _ _ z, up_ne _ _ (by omega)]; exact (b q hq).1 hn
  · rw [u2_ne _ _ _ (show 106 ≠ 128 by omega), up_ne _ _ (by omega), up_ne _ _ (by omega), up_ne _ _ (by omega), up_ne _ _ (by omega), up_ne _ _ (by omega), up_ne _ _ (by omega)]
    exact ⟨e1, e2, e3, e4, e5, e6⟩
section
variable {h : HP} {t : Nat} {E : EE} {S : Nat → Int}
theorem l_44 (k : Cu h t E) (d : Nat) {y to : Int} (y0 : 0 ≤ y) (y1 : y < 6) (t1 : to ≤ 10) (f : Int) : ∀ (n : Nat) (i : Int) (v5 : AV), (to - i).toNat = n → 0 ≤ i → run (d + 1) md_44 3 [vr 106, vi y, vi f, vi to, vi i, v5] [] h = some (vi (ends (itx (leF (h_mi h) y) n i ())), h)
  | 0, i, v5, h1, h2 => by
    rw [q_44_3, dt (by omega)]; rfl
  | n + 1, i, v5, h1, h2 => by
    rw [q_44_3, df (by omega), c_141 _ _ _ _ (by omega) (by omega) (by omega) (by omega)]
    simp only [cond_false, bI_s]
    rw [q_44_15 (w := k.cs) (f := k.fj) (ht := k.ht)]
    simp (disch := omega) only [k.dat (Ag.rf _), dt, df, zb, ia]
    by_cases c1 : h_mi h 148 (10 * y + i).toNat = 1
    · rw [dt c1, itx_r (a2 := ()) (if_pos (Or.inl c1))]
      exact l_44 k d y0 y1 t1 f n (i + 1) _ (by omega) (by omega)
    · rw [df c1]
      by_cases c2 : h_mi h 172 (10 * y + i).toNat = 0
      · rw [df (show ¬ h_mi h 172 (10 * y + i).toNat ≠ 0 by omega), itx_l (b := 0) (if_neg (fun z => z.elim c1 (fun z => z c2)))]
        rfl
      · rw [dt c2, itx_r (a2 := ()) (if_pos (Or.inr c2))]
        exact l_44 k d y0 y1 t1 f n (i + 1) _ (by omega) (by omega)
theorem c_44 (k : Cu h t E) (d : Nat) {y f to : Int} (y0 : 0 ≤ y) (y1 : y < 6) (f0 : 0 ≤ f) (t1 : to ≤ 10) : ev (d + 1) 44 [vr 106, vi y, vi f, vi to] h = some (vi (ends (itx (leF (h_mi h) y) (to - f).toNat f ())), h) := by
  rw [v_44, q_44_0]
  exact l_44 k d y0 y1 t1 f _ f _ rfl f0
theorem c_43 (k : Cu h t E) (d : Nat) (p x y : Int) : (pourOk (h_mi h) p x y → ev (d + 2) 43 [vr 106, vi p, vi x, vi y] h = some (vi 1, h)) ∧ (¬ pourOk (h_mi h) p x y → ev (d + 2) 43 [vr 106, vi p, vi x, vi y] h = some (vi 0, h)) := by
  have cc := k.vm.c
  have rr := k.vm.r
  have pp := k.vm.p
  have hb := k.vm.hr
  rw [v_43, q_43_0 (w := k.cs)]
  simp only [k.dat (Ag.rf _)]
  rw [c_144, bI_s, q_43_7 (w := k.cs) (f := k.fj) (ht := k.ht)]
  unfold pourOk
  by_cases c1 : 0 ≤ h_mi h 172 133 ∧ h_mi h 172 133 ≤ 11
  · rw [bb_dt c1, c_24 _ _ k.fj k.dp]
    simp only [cond_false, bI_s]
    rw [q_43_18 (w := k.cs) (f := k.fj) (ht := k.ht)]
    by_cases c2 : 0 ≤ p ∧ p < h_mi h 147 2
    · rw [bb_dt c2, c_23 _ _ _ k.fj k.dc k.dr]
      simp only [cond_false, bI_s]
      rw [q_43_30]
      by_cases c3 : 0 ≤ x ∧ x < h_mi h 147 0 ∧ 0 ≤ y ∧ y < h_mi h 147 1
      · have lf := (k.vm.lf (p := p.toNat) (by omega)).1
        rw [show 120 + p.toNat = (120 + p).toNat by omega] at lf
        rw [bb_nt c3, c_141 _ _ _ _ (by omega) (by omega) (by omega) (by omega)]
        simp only [cond_true, bI_s]
        rw [q_43_40 (w := k.cs) (f := k.fj) (ht := k.ht)]
        simp (disch := omega) only [k.dat (Ag.rf _), dt, df, zb, is_]
        by_cases c4 : h_mi h 172 (120 + p).toNat = 0
        · rw [dt (show h_mi h 172 (120 + p).toNat ≤ 0 by omega)]
          exact ⟨fun q => absurd c4 q.2.2.2.1, fun _ => rfl⟩
        · rw [df (show ¬ h_mi h 172 (120 + p).toNat ≤ 0 by omega)]
          by_cases c5 : h_mi h 148 (10 * y + x).toNat = 1
          · rw [df (show ¬ h_mi h 148 (10 * y + x).toNat ≠ 1 by omega)]
            exact ⟨fun q => absurd c5 q.2.2.2.2.1, fun _ => rfl⟩
          · rw [dt c5]
            obtain ⟨LZ, hLZ⟩ : ∃ LZ : Int → Int, ∀ w, LZ w = if w = 0 then ends (itx (leF (h_mi h) y) (h_mi h 147 0 - (x + 1)).toNat (x + 1) ()) else ends (itx (leF (h_mi h) y) (x - 0).toNat 0 ()) := ⟨_, fun _ => rfl⟩
            have r149 : ∀ w a kd : Int, run (d + 2) md_43 149 [vr 106, vi p, vi x, vi y, vi (10 * y + x), vi kd, vi w, vi a] [] h = some (vi (LZ w), h) := fun w a kd => by
              rw [q_43_149 (w := k.cs) (f := k.fj) (ht := k.ht), k.dc, hLZ w]
              by_cases w0 : w = 0
              · rw [dt w0, if_pos w0, ia (by omega) (by omega), c_44 k d (y := y) (f := x + 1) (to := h_mi h 147 0) (by omega) (by omega) (by omega) (by omega)]
                simp only [cond_true, bI_s]
                rw [q_43_179]
                rcases ends01 (h_mi h) y (h_mi h 147 0 - (x + 1)).toNat (x + 1) with z | z <;> rw [z] <;> rfl
              · rw [df w0, if_neg w0, c_44 k d (y := y) (f := 0) (to := x) (by omega) (by omega) (by omega) (by omega)]
                simp only [cond_false, bI_s]
                rw [q_43_161, q_43_179]
                rcases ends01 (h_mi h) y (x - 0).toNat 0 with z | z <;> rw [z] <;> rfl
            have kb := (k.vm.pr (p := p.toNat) (by omega)).2.1
            have tb := (k.vm.s (c := (10 * y + x).toNat) (by omega)).1
            have r117 : ∀ w a : Int, run (d + 2) md_43 117 [vr 106, vi p, vi x, vi y, vi (10 * y + x), vi (h_mi h 152 p.toNat), vi w, vu] [vi a] h = some (vi (if (h_mi h 152 p.toNat = 1 → h_mi h 172 (10 * y + x).toNat = 0) ∧ (h_mi h 152 p.toNat = 2 → a ≤ 2) then LZ w else 0), h) := fun w a => by
              rw [q_43_117 (w := k.cs)]
              simp only [r149]
              simp (disch := omega) only [k.dat (Ag.rf _), dt, df, zb]
              by_cases k1 : h_mi h 152 p.toNat = 1
              · rw [df (show ¬ h_mi h 152 p.toNat ≠ 1 by omega)]
                by_cases k2 : h_mi h 172 (10 * y + x).toNat = 0
                · rw [df (show ¬ 0 < h_mi h 172 (10 * y + x).toNat by omega), dt (show h_mi h 152 p.toNat ≠ 2 by omega), if_pos ⟨fun _ => k2, fun q => by omega⟩]
                  rfl
                · rw [dt (show 0 < h_mi h 172 (10 * y + x).toNat by omega), if_neg (fun q => k2 (q.1 k1))]
                  rfl
              · rw [dt (show h_mi h 152 p.toNat ≠ 1 by omega)]
                by_cases k2 : h_mi h 152 p.toNat = 2
                · rw [df (show ¬ h_mi h 152 p.toNat ≠ 2 by omega)]
                  by_cases k3 : a < 3
                  · rw [dt k3, if_pos ⟨fun q => absurd q k1, fun _ => by omega⟩]; rfl
                  · rw [df k3, if_neg (fun q => by have := q.2 k2; omega)]; rfl
                · rw [dt k2, if_pos ⟨fun q => absurd q k1, fun q => absurd q k2⟩]; rfl
            have ld : ldV (h_mi h) p x y = if h_mi h 151 p.toNat = 0 then ends (itx (leF (h_mi h) y) (x - 0).toNat 0 ()) else ends (itx (leF (h_mi h) y) (h_mi h 147 0 - (x + 1)).toNat (x + 1) ()) := by
              unfold ldV ldTo ldFrom
              by_cases z : h_mi h 151 p.toNat = 0
              · rw [if_pos z, if_pos z, if_pos z]
              · rw [if_neg z, if_neg z, if_neg z]
            have e01 : ldV (h_mi h) p x y = 0 ∨ ldV (h_mi h) p x y = 1 := by unfold ldV; exact ends01 _ _ _ _
            have fin : (if (h_mi h 152 p.toNat = 1 → h_mi h 172 (10 * y + x).toNat = 0) ∧ (h_mi h 152 p.toNat = 2 → frmV (h_mi h) p x ≤ 2) then ldV (h_mi h) p x y else 0) = 1 ↔ (((0 ≤ p ∧ p < h_mi h 147 2) ∧ (0 ≤ x ∧ x < h_mi h 147 0 ∧ 0 ≤ y ∧ y < h_mi h 147 1) ∧ h_mi h 172 133 ≤ 11 ∧ h_mi h 172 (120 + p).toNat ≠ 0 ∧ h_mi h 148 (10 * y + x).toNat ≠ 1 ∧ ldV (h_mi h) p x y ≠ 0 ∧ (h_mi h 152 p.toNat = 1 → h_mi h 172 (10 * y + x).toNat = 0) ∧ (h_mi h 152 p.toNat = 2 → frmV (h_mi h) p x ≤ 2))) := by
              constructor
              · intro q
                by_cases z : (h_mi h 152 p.toNat = 1 → h_mi h 172 (10 * y + x).toNat = 0) ∧ (h_mi h 152 p.toNat = 2 → frmV (h_mi h) p x ≤ 2)
                · rw [if_pos z] at q
                  exact ⟨c2, c3, c1.2, c4, c5, by omega, z.1, z.2⟩
                · rw [if_neg z] at q; omega
              · rintro ⟨_, _, _, _, _, q6, q7, q8⟩
                rw [if_pos ⟨q7, q8⟩]; omega
            have b01 : (if (h_mi h 152 p.toNat = 1 → h_mi h 172 (10 * y + x).toNat = 0) ∧ (h_mi h 152 p.toNat = 2 → frmV (h_mi h) p x ≤ 2) then ldV (h_mi h) p x y else 0) = 0 ∨ (if (h_mi h 152 p.toNat = 1 → h_mi h 172 (10 * y + x).toNat = 0) ∧ (h_mi h 152 p.toNat = 2 → frmV (h_mi h) p x ≤ 2) then ldV (h_mi h) p x y else 0) = 1 := by
              split
              · exact e01
              · exact Or.inl rfl
            have all : ∀ g : RS, g = some (vi (if (h_mi h 152 p.toNat = 1 → h_mi h 172 (10 * y + x).toNat = 0) ∧ (h_mi h 152 p.toNat = 2 → frmV (h_mi h) p x ≤ 2) then ldV (h_mi h) p x y else 0), h) → (((0 ≤ p ∧ p < h_mi h 147 2) ∧ (0 ≤ x ∧ x < h_mi h 147 0 ∧ 0 ≤ y ∧ y < h_mi h 147 1) ∧ h_mi h 172 133 ≤ 11 ∧ h_mi h 172 (120 + p).toNat ≠ 0 ∧ h_mi h 148 (10 * y + x).toNat ≠ 1 ∧ ldV (h_mi h) p x y ≠ 0 ∧ (h_mi h 152 p.toNat = 1 → h_mi h 172 (10 * y + x).toNat = 0) ∧ (h_mi h 152 p.toNat = 2 → frmV (h_mi h) p x ≤ 2)) → g = some (vi 1, h)) ∧ (¬ ((0 ≤ p ∧ p < h_mi h 147 2) ∧ (0 ≤ x ∧ x < h_mi h 147 0 ∧ 0 ≤ y ∧ y < h_mi h 147 1) ∧ h_mi h 172 133 ≤ 11 ∧ h_mi h 172 (120 + p).toNat ≠ 0 ∧ h_mi h 148 (10 * y + x).toNat ≠ 1 ∧ ldV (h_mi h) p x y ≠ 0 ∧ (h_mi h 152 p.toNat = 1 → h_mi h 172 (10 * y + x).toNat = 0) ∧ (h_mi h 152 p.toNat = 2 → frmV (h_mi h) p x ≤ 2)) → g = some (vi 0, h)) := fun g eg => by
              refine ⟨fun q => by rw [eg, fin.mpr q], fun q => ?_⟩
              rcases b01 with z | z
              · rw [eg, z]
              · exact absurd (fin.mp z) q
            apply all
            by_cases c6 : h_mi h 151 p.toNat = 0
            · rw [df (show ¬ h_mi h 151 p.toNat ≠ 0 by omega)]
              simp only [cond_false]
              rw [r117, ld, hLZ]
              unfold frmV
              rw [if_pos c6, if_pos c6, if_neg (show ¬ (1 : Int) = 0 by omega)]
              rfl
            · rw [dt c6]
              simp only [cond_true]
              rw [r117, ld, hLZ]
              unfold frmV
              rw [if_neg c6, if_neg c6, if_pos (show (0 : Int) = 0 from rfl)]
              rfl
      · rw [bb_nf c3]
        exact ⟨fun q => absurd q.2.1 c3, fun _ => rfl⟩
    · rw [bb_df c2]
      exact ⟨fun q => absurd q.1 c2, fun _ => rfl⟩
  · rw [bb_df c1]
    exact ⟨fun q => absurd ⟨hb.1, q.2.2.1⟩ c1, fun _ => rfl⟩
/-- what the class keeps of a deed -/
def kpC (M : MM) (doer row : Int) : MM := up2 (up2 (va_up (up2 (up2 M 131 (M 130 3).toNat doer) 132 (M 130 3).toNat row) 133 (va_cpy (M 126) (M 133) (10 * row).toNat (M 130 3 * 10).toNat 10)) 130 3 ((M 130 3 + 1) % 20)) 130 4 (min (M 130 4 + 1) 20)
theorem kpC_ne (M : MM) (doer row : Int) {a : Nat} (ha : a < 130 ∨ 133 < a) : kpC M doer row a = M a := by
  unfold kpC
  rw [u2_ne _ _ _ (by omega), u2_ne _ _ _ (by omega), up_ne _ _ (by omega), u2_ne _ _ _ (by omega), u2_ne _ _ _ (by omega)]
theorem kpC_130 (M : MM) (doer row : Int) : kpC M doer row 130 3 = (M 130 3 + 1) % 20 ∧ kpC M doer row 130 4 = min (M 130 4 + 1) 20 := by
  unfold kpC
  exact ⟨by rw [u2_no _ _ _ (by omega), u2_at], by rw [u2_at]⟩
theorem kpC_131 (M : MM) (doer row : Int) : kpC M doer row 131 = va_up (M 131) (M 130 3).toNat doer := by
  unfold kpC
  rw [u2_ne _ _ _ (by omega), u2_ne _ _ _ (by omega), up_ne _ _ (by omega), u2_ne _ _ _ (by omega), u2_eq]
theorem kpC_132 (M : MM) (doer row : Int) : kpC M doer row 132 = va_up (M 132) (M 130 3).toNat row := by
  unfold kpC
  rw [u2_ne _ _ _ (by omega), u2_ne _ _ _ (by omega), up_ne _ _ (by omega), u2_eq, u2_ne _ _ _ (by omega)]
theorem kpC_133 (M : MM) (doer row : Int) : kpC M doer row 133 = va_cpy (M 126) (M 133) (10 * row).toNat (M 130 3 * 10).toNat 10 := by
  unfold kpC
  rw [u2_ne _ _ _ (by omega), u2_ne _ _ _ (by omega), up_eq]
theorem c_15 (w : CSk h) (d : Nat) (doer : Int) {row : Int} (r0 : 0 ≤ row) (r1 : row < 6) (a0 : 0 ≤ h_mi h 130 3) (a1 : h_mi h 130 3 < 20) (b0 : 0 ≤ h_mi h 130 4) (b1 : h_mi h 130 4 ≤ 20) : ev (d + 1) 15 [vr 130, vi doer, vi row, vr 106] h = some (vr 0, sM h (kpC (h_mi h) doer row)) := by
  rw [v_15, q_15_0 (w := w)]
  simp (disch := omega) only [dt, df, zb]
  simp only [sI_h, sM_sM, mi_sM]
  rw [c_141 _ _ _ _ (by omega) (by omega) (by omega) (by omega), bI_s, Int.add_zero, q_15_29 (w := w.m _), mi_sM]
  have e3 : ∀ j, up2 (up2 (h_mi h) 131 (h_mi h 130 3).toNat doer) 132 (h_mi h 130 3).toNat row 130 j = h_mi h 130 j := fun j => by rw [u2_ne _ _ _ (by omega), u2_ne _ _ _ (by omega)]
  rw [e3, e3, im (by omega) (by omega), u2_ne _ _ _ (show (126 : Nat) ≠ 132 by omega), u2_ne _ _ _ (show (126 : Nat) ≠ 131 by omega), u2_ne _ _ _ (show (133 : Nat) ≠ 132 by omega), u2_ne _ _ _ (show (133 : Nat) ≠ 131 by omega)]
  simp (disch := omega) only [dt, df, zb, ia, ir]
  simp only [sRi_sM, sI_sM]
  rfl
theorem c_45 (k : Cu h t E) (d : Nat) {p c : Int} (p0 : 0 ≤ p) (p1 : p < h_mi h 147 2) (c0 : 0 ≤ c) (c1 : c < 60) : ∃ N, ev (d + 4) 45 [vr 106, vi p, vi c] h = some (vr 0, sM h N) ∧ Ag (IcA t) (h_mi h) N ∧ Cg (sM h N) t E (poS (h_mi h) E p c) := by
  have hb := k.vm.hr
  have nb := k.vm.nt
  have pp := k.vm.p
  have lf := (k.vm.lf (p := p.toNat) (by omega)).1
  rw [show 120 + p.toNat = (120 + p).toNat by omega] at lf
  have tb := (k.vm.s (c := c.toNat) (by omega)).1
  obtain ⟨N1, e1, g1⟩ := c_29 k d c (h_mi h 172 133) (h_mi h 172 134) c0 c1
  have gb := grV_b (h_mi h) E c (h_mi h 172 133) (h_mi h 172 134)
  have k1 := k.q g1
  have dd := k.dat g1
  have i1 := k1.ic
  rw [mi_sM, k.rr g1 147 (by omega) (by omega)] at i1
  have gi := g1.up IcA_q
  have st : ∃ e : Int, (0 ≤ e ∧ e ≤ 1) ∧ e = (if h_mi h 152 p.toNat = 3 then 1 else 0) ∧ ev (d + 4) 45 [vr 106, vi p, vi c] h = run (d + 4) md_45 34 [vr 106, vi p, vi c, vu, vu] [vi e, vi (grV (h_mi h) E c (h_mi h 172 133) (h_mi h 172 134))] (sM h N1) := by
    rw [v_45, q_45_0 (w := k.cs) (f := k.fj) (ht := k.ht)]
    simp only [k.dat (Ag.rf _)]
    rw [e1, bI_s, q_45_16 (w := k1.cs) (f := k1.fj) (ht := k1.ht)]
    simp (disch := omega) only [mi_sM, dd, dt, df, zb]
    by_cases z : h_mi h 152 p.toNat = 3
    · rw [df (show ¬ h_mi h 152 p.toNat ≠ 3 by omega)]
      exact ⟨1, by omega, by rw [if_pos z], rfl⟩
    · rw [dt z]
      exact ⟨0, by omega, by rw [if_neg z], rfl⟩
  obtain ⟨e, eb, ee, st⟩ := st
  have ep : poV (h_mi h) E p c = h_mi h 172 c.toNat + min (grV (h_mi h) E c (h_mi h 172 133) (h_mi h 172 134) + e) (99 - h_mi h 172 c.toNat) := by unfold poV; rw [← ee]; omega
  have ep2 : poV (h_mi h) E p c - h_mi h 172 c.toNat = min (grV (h_mi h) E c (h_mi h 172 133) (h_mi h 172 134) + e) (99 - h_mi h 172 c.toNat) := by omega
  have ii := (i1.th (c := c.toNat) (by omega) (f := 8) (s := 135) (by omega) (poV (h_mi h) E p c) (i_add (h_mi h 172 135) (poV (h_mi h) E p c - h_mi h 172 c.toNat))).lf (p := p.toNat) (by omega) (h_mi h 172 (120 + p).toNat - 1)
  rw [show 120 + p.toNat = (120 + p).toNat by omega] at ii
  have g2 : Ag (IcA t) (h_mi h) (up2 (up2 (up2 N1 126 c.toNat (poV (h_mi h) E p c)) 106 8 (i_add (h_mi h 172 135) (poV (h_mi h) E p c - h_mi h 172 c.toNat))) 128 p.toNat (h_mi h 172 (120 + p).toNat - 1)) := ((gi.u2 _ _ (by unfold IcA; omega)).u2 _ _ (by unfold IcA; omega)).u2 _ _ (by unfold IcA; omega)
  refine ⟨_, ?_, g2, k.ice g2 ii⟩
  rw [st, q_45_34 (w := k1.cs)]
  simp (disch := omega) only [mi_sM, dd, dt, df, zb, ia, is_]
  simp only [sI_sM, ← ep2]
  rw [show h_mi h 172 c.toNat + (poV (h_mi h) E p c - h_mi h 172 c.toNat) = poV (h_mi h) E p c by omega]
end
