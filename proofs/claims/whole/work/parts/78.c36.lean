/-! pairs of calls: mark -/
theorem LyD.fix {M' N Nf : MM} {r q : Nat} (y : LyD M' r q N) (e : ∀ a, 147 ≤ a → a ≤ 159 → a ≠ 150 → Nf a = N a) : LyD (fun a => if 147 ≤ a ∧ a ≤ 159 ∧ a ≠ 150 then M' a else Nf a) r q Nf := by
  obtain ⟨y0, y1, y2, y3, y4, y5, y6, y7, y8, y9, y10, y11, y12⟩ := y
  have i : ∀ a, (147 ≤ a ∧ a ≤ 159 ∧ a ≠ 150) → (fun a => if 147 ≤ a ∧ a ≤ 159 ∧ a ≠ 150 then M' a else Nf a) a = M' a := fun a ha => if_pos ha
  refine ⟨fun a ha => (if_neg (by omega)).symm, ?_, ?_, ?_, ?_, ?_, ?_, ?_, ?_, ?_, ?_, fun j => ?_, fun j => ?_⟩
  · rw [e _ (by omega) (by omega) (by omega), y1, i _ (by omega)]
  · rw [e _ (by omega) (by omega) (by omega), y2, i _ (by omega)]
  · rw [e _ (by omega) (by omega) (by omega), y3, i _ (by omega)]
  · rw [e _ (by omega) (by omega) (by omega), y4, i _ (by omega)]
  · rw [e _ (by omega) (by omega) (by omega), y5, i _ (by omega)]
  · rw [e _ (by omega) (by omega) (by omega), y6, i _ (by omega)]
  · rw [e _ (by omega) (by omega) (by omega), y7, i _ (by omega)]
  · rw [e _ (by omega) (by omega) (by omega), y8, i _ (by omega)]
  · rw [e _ (by omega) (by omega) (by omega), y9, i _ (by omega)]
  · rw [e _ (by omega) (by omega) (by omega), y10, i _ (by omega)]
  · rw [e _ (by omega) (by omega) (by omega), y11, i _ (by omega)]
  · rw [e _ (by omega) (by omega) (by omega), y12, i _ (by omega)]
section
variable {h : HP} {t : Nat} {E : EE} {B : Int} {L : Nat} {xs : Nat → Int}
theorem Inv.f0 (i : Inv h t E B L xs) : FjM h t 0 E := ⟨i.2.1, i.1.vm.1, i.1.fn, i.1.lc, i.1.vm.2.2, i.2.2.2.2.1.2.2⟩
theorem Inv.ln (i : Inv h t E B L xs) : ∀ p, p ≤ 5 → (p = 0 ∨ (2 ≤ p ∧ h_mi h 180 (p - 2) ≠ 0)) → LnO (h_mi h) p := fun p p5 hp => by
  rcases hp with rfl | ⟨p2, hp⟩
  · exact i.2.2.2.2.1.2.2
  · rcases i.2.2.2.2.1.1 (p - 2) (by omega) with ⟨m1, _⟩ | ⟨_, _, fm, _⟩
    · exact absurd m1 hp
    · have := fm.2.2.2.2.2
      rw [show p - 2 + 2 = p by omega] at this
      exact this
/-- back to mark k -/
theorem p_markb (i : Inv h t E B L xs) {k back : Int} (k0 : 0 ≤ k) (k3 : k ≤ 3) (hb : back ≠ 0) (hm : h_mi h 180 k.toNat = 1) (ic : IcO h (h_mr h 144 k.toNat)) (fm : FjM h (h_mr h (h_mr h 144 k.toNat) 4) (k.toNat + 2) E) (sb : SB (h_mi h) (k.toNat + 2) (unR (h_mi h 174) k.toNat)) (i3s : I3S (unR (h_mi h 174) k.toNat)) (nb : h_mi h 174 (144 * k.toNat + 134) ≤ B) (inn : IN (h_mi h) (h_mr h 144 k.toNat) (h_mr h 144 k.toNat + 1) (h_mi h 147 (5 * (k.toNat + 2) + 2)) (unR (h_mi h 174) k.toNat)) : Pa h 138 251 [vi k, vi back] [vi k, vi back] (Nx h B L xs) := by
  generalize ha : h_mr h 144 k.toNat = a at ic fm inn
  generalize ht' : h_mr h a 4 = t' at fm
  generalize hkn : k.toNat = kn at *
  have a1 := ic.1
  have lt' := fm.1.1.lt
  have lt := i.1.fj.lt
  have z := i.2.2.2.2.2.2.2.2.2.2.2
  obtain ⟨N1, e1, n1, n2, n3, n4⟩ := c_38 i.1.cs.ik ic.ik (by omega) (by omega) 198
  rw [ht'] at e1
  have w1 : CSk (sR h 106 4 t') := i.1.cs.sr (by omega)
  have r1 : RSk (sR h 106 4 t') := i.1.rs.sr (by omega)
  generalize hN1 : up2 (up2 N1 130 3 0) 130 4 0 = N2
  have c1 : ∀ x, x ≠ 106 → (x < 126 ∨ 130 < x) → N2 x = h_mi h x := fun x h1 h2 => by
    rw [← hN1, u2_ne _ _ _ (by omega), u2_ne _ _ _ (by omega), n1 x h1 (by omega)]
  have c2 : ∀ x, x ≠ 130 → N2 x = N1 x := fun x hx => by rw [← hN1, u2_ne _ _ _ hx, u2_ne _ _ _ hx]
  have e2 : ev 199 138 [vr 100, vi k, vi back] h = some (vi 1, sM (sR h 106 4 t') N2) := by
    rw [v_138, q_138_0 (w := (i.1).cs), hkn, ha, df (by omega), dt (by omega), dt k0, df hb, df (show ¬ a = 0 by omega), e1]
    simp only [zb, bV_s]
    rw [q_138_36 (w := w1.m _), v_12, q_12_0 (w := w1.m _), bV_s, q_138_43]
    simp only [sI_sM, hN1]
  obtain ⟨N, e3, y⟩ := (r_mark (E := E) 197 k back (sM (sR h 106 4 t') N2) (r1.m _) (fun p p5 hp => by
    have := i.ln p p5 (by rw [mi_sM, c1 180 (by omega) (by omega)] at hp; exact hp)
    exact this.e (c1 157 (by omega) (by omega)) (c1 158 (by omega) (by omega)))).2.2.1 ⟨k0, k3⟩ hb (by rw [mi_sM, c1 180 (by omega) (by omega), hkn, hm]; omega)
  rw [sM_sM] at e3
  rw [mi_sM, hkn] at y
  generalize hNf : up2 (va_up N 172 (cpR (N 174) (144 * k) 0 144 0 (N 172))) 145 44 0 = Nf at e3
  have f1 : ∀ x, x ≠ 145 → x ≠ 172 → Nf x = N x := fun x h1 h2 => by rw [← hNf, u2_ne _ _ _ h1, up_ne _ _ h2]
  have f2 : ∀ x, x ≠ 145 → x ≠ 180 → (x < 147 ∨ x = 150 ∨ 159 < x) → N x = N2 x := fun x h1 h2 h3 => by rw [y.1 x h3, u2_ne _ _ _ h2, u2_ne _ _ _ h1]
  have g0 : ∀ x, x ≠ 145 → x ≠ 172 → x ≠ 180 → x ≠ 106 → (x < 126 ∨ 130 < x) → (x < 147 ∨ x = 150 ∨ 159 < x) → Nf x = h_mi h x := fun x h1 h2 h3 h4 h5 h6 => by rw [f1 x h1 h2, f2 x h1 h3 h6, c1 x h4 h5]
  have g180 : ∀ j, Nf 180 j = h_mi h 180 j := fun j => by
    rw [f1 180 (by omega) (by omega), y.1 180 (by omega), u2_eq, u2_ne _ _ _ (by omega), c1 180 (by omega) (by omega)]
    by_cases w : j = kn
    · rw [w, up_eq, hm]
    · rw [up_ne _ _ w]
  have g172 : ∀ j, j < 144 → Nf 172 j = unR (h_mi h 174) kn j := fun j hj => by
    rw [← hNf, u2_ne _ _ _ (by omega), up_eq, cpR_at _ (by omega) (by omega) 144 0 _ (by omega) j, if_pos (by omega), f2 174 (by omega) (by omega) (by omega), c1 174 (by omega) (by omega)]
    show h_mi h 174 _ = h_mi h 174 (144 * kn + j)
    rw [show (144 * k + (j : Int) - 0).toNat = 144 * kn + j by omega]
  have yf := y.fix (Nf := Nf) (fun x h1 h2 h3 => f1 x (by omega) (by omega))
  generalize hM2 : (fun a => if 147 ≤ a ∧ a ≤ 159 ∧ a ≠ 150 then up2 (up2 N2 145 0 0) 180 kn 1 a else Nf a) = M2 at yf
  have m1 : ∀ x, 147 ≤ x → x ≤ 159 → M2 x = h_mi h x := fun x h1 h2 => by
    rw [← hM2]
    by_cases w : x = 150
    · show (if 147 ≤ x ∧ x ≤ 159 ∧ x ≠ 150 then _ else Nf x) = _
      rw [if_neg (by omega), g0 x (by omega) (by omega) (by omega) (by omega) (by omega) (by omega)]
    · show (if 147 ≤ x ∧ x ≤ 159 ∧ x ≠ 150 then _ else Nf x) = _
      rw [if_pos ⟨h1, h2, w⟩, u2_ne _ _ _ (by omega), u2_ne _ _ _ (by omega), c1 x (by omega) (by omega)]
  have m2 : ∀ x, (x < 147 ∨ 159 < x) → M2 x = Nf x := fun x hx => by
    rw [← hM2]
    show (if 147 ≤ x ∧ x ≤ 159 ∧ x ≠ 150 then _ else Nf x) = _
    rw [if_neg (by omega)]
  have sf : ∀ x r, FjM h x r E → SmF h (sM (sR h 106 4 t') Nf) x := fun x r f => by
    have fl := f.1.1.lt
    refine ⟨Nat.le_refl _, fun _ _ => ⟨rfl, rfl⟩, by rw [mr_sM, mrR_ne _ _ _ (by omega)], fun l hl => ?_, fun j hj => by rw [mi_sM, g0 _ (by omega) (by omega) (by omega) (by omega) (by omega) (by omega)], fun l hl => ?_⟩
    · have c := (f.2.2.2.1 l hl).1
      rw [mr_sM, mrR_ne _ _ _ (by omega)]
    · have c := (f.2.2.2.1 l hl).1
      rw [mi_sM, g0 _ (by omega) (by omega) (by omega) (by omega) (by omega) (by omega)]
  have tr : ∀ x, FjO h x → ∀ j, j ≤ 8 → M2 (x + j) = h_mi h (x + j) := fun x f j hj => by
    have fl := f.1.lt
    rw [m2 _ (by omega), g0 _ (by omega) (by omega) (by omega) (by omega) (by omega) (by omega)]
  have F0 : FjM (sM (sR h 106 4 t') Nf) t' 0 (fun r => if r = 0 then E (kn + 2) else E r) := fm.move (sf _ _ fm) yf m1 (tr _ fm.1) (by omega) (fun j _ => by rw [if_pos rfl])
  have sbf : SB Nf 0 (Nf 172) := (yf.sb (sb.e (m1 148 (by omega) (by omega)))).x g172
  have e147 : Nf 147 2 = h_mi h 147 (5 * (kn + 2) + 2) := by
    have := mvR_in (f := M2 147) (n := 5) (r := kn + 2) (q := 0) (j := 2) (by omega)
    rw [yf.2.1]
    exact this.trans (by rw [m1 147 (by omega) (by omega)])
  have f106 : Nf 106 = N1 106 := by rw [f1 106 (by omega) (by omega), f2 106 (by omega) (by omega) (by omega), c2 106 (by omega)]
  have f12 : ∀ j, j ≤ 3 → Nf (126 + j) = N1 (126 + j) := fun j hj => by rw [f1 _ (by omega) (by omega), f2 _ (by omega) (by omega) (by omega), c2 _ (by omega)]
  have cu : Cu (sM (sR h 106 4 t') Nf) t' (fun r => if r = 0 then E (kn + 2) else E r) := by
    refine ⟨⟨r1.m _, w1.m _, ?_, by rw [mi_sM, g0 138 (by omega) (by omega) (by omega) (by omega) (by omega) (by omega), g0 139 (by omega) (by omega) (by omega) (by omega) (by omega) (by omega)]; exact i.1.z0⟩, F0.1.1, by rw [mr_sM, mrR_eq, up_eq], ⟨F0.2.1, sbf, F0.2.2.2.2.1⟩, F0.2.2.1, F0.2.2.2.1, ?_⟩
    · have s0 : Stt (sR h 106 4 t') := i.1.st.sr (by omega)
      exact s0.sc (A := fun a => 43 ≤ a) (h1 := sM (sR h 106 4 t') Nf) ⟨rfl, rfl, rfl, rfl, rfl, fun a ha => ⟨g0 a (by omega) (by omega) (by omega) (by omega) (by omega) (by omega), rfl⟩⟩ (fun a ha => ha)
    · rw [mi_sM, e147]
      obtain ⟨p1, p2, p3⟩ := inn
      refine ⟨fun c hc => ?_, fun p hp => ?_, ?_⟩
      · rw [f12 0 (by omega), f12 1 (by omega), (n3 c hc).1, (n3 c hc).2, g172 c (by omega), g172 _ (by omega)]; exact p1 c hc
      · rw [f12 2 (by omega), f12 3 (by omega), (n4 p hp).1, (n4 p hp).2, g172 _ (by omega), g172 _ (by omega)]; exact p2 p hp
      · rw [f106, n2 5 (by omega) (by omega), n2 6 (by omega) (by omega), n2 7 (by omega) (by omega), n2 8 (by omega) (by omega), n2 9 (by omega) (by omega), n2 10 (by omega) (by omega), g172 _ (by omega), g172 _ (by omega), g172 _ (by omega), g172 _ (by omega), g172 _ (by omega), g172 _ (by omega)]; exact p3
  have d145 : ∀ j, j ≠ 0 → j ≠ 44 → Nf 145 j = h_mi h 145 j := fun j h1 h2 => by
    rw [← hNf, u2_no _ _ _ h2, up_ne _ _ (by omega), y.1 145 (by omega), u2_ne _ _ _ (by omega), u2_no _ _ _ h1, c1 145 (by omega) (by omega)]
  refine ⟨1, _, _, e2, e3, ⟨t', _, cu, F0.1, ?_, ?_, ⟨fun j hj => ?_, ?_, F0.2.2.2.2.2⟩, ⟨i3s.x g172, ?_⟩, ?_⟩, by show h_sz h ≤ _; omega, by show h_sl h ≤ _; omega⟩
  · exact i.2.2.1.e (by rw [mi_sM, g0 101 (by omega) (by omega) (by omega) (by omega) (by omega) (by omega)]) (by rw [mi_sM, d145 1 (by omega) (by omega)]) (g0 102 (by omega) (by omega) (by omega) (by omega) (by omega) (by omega)) (g0 146 (by omega) (by omega) (by omega) (by omega) (by omega) (by omega))
  · have e44 : Nf 145 44 = 0 := by rw [← hNf, u2_at]
    have e130 : ∀ j, Nf 130 j = N2 130 j := fun j => by rw [f1 130 (by omega) (by omega), f2 130 (by omega) (by omega) (by omega)]
    rw [mi_sM, e44]
    exact ⟨by rw [e130, ← hN1, u2_at], by omega, by rw [e130, ← hN1, u2_no _ _ _ (by omega), u2_at]; omega, fun j hj => by omega⟩
  · refine ((i.2.2.2.2.1.1 j hj).keep (h2 := sM (sR h 106 4 t') Nf) (E' := fun r => if r = 0 then E (kn + 2) else E r) z (by rw [mr_sM, mrR_ne _ _ _ (by omega)]) (g180 j) (fun m hm => by rw [mi_sM, g0 174 (by omega) (by omega) (by omega) (by omega) (by omega) (by omega)]) (Nat.le_refl _) (fun _ _ => ⟨rfl, rfl⟩) (fun c => ?_) (fun c x f => sf _ _ f) yf m1 tr (by omega) (fun l _ => by rw [if_neg (by omega)])).up (by omega)
    have ge := c.1
    exact ⟨by rw [mr_sM, mrR_ne _ _ _ (by omega)], fun m hm => by rw [mi_sM, g0 _ (by omega) (by omega) (by omega) (by omega) (by omega) (by omega)]⟩
  · rw [mr_sM, mrR_ne _ _ _ (by omega)]
    exact i.2.2.2.2.1.2.1
  · rw [mi_sM, g172 134 (by omega)]
    show h_mi h 174 (144 * kn + 134) ≤ _
    omega
  · obtain ⟨w1, w2, w3, w4, w5, w6⟩ := i.2.2.2.2.2.2
    exact ⟨w1, w2, by rw [mi_sM, g0 40 (by omega) (by omega) (by omega) (by omega) (by omega) (by omega)]; exact w3, w4, w5, w6⟩
/-- mark k is laid; H: the heap with the ice at a for it -/
theorem p_markl {H : HP} (cuH : Cu H t E) (foH : FjO H t) (tpH : TpO (h_mi H)) (ddH : DdG (h_mi H) (h_mi H 145 44) (h_mi H 175) (h_mi H 172)) (ssH : I3S (h_mi H 172) ∧ h_mi H 172 134 ≤ B) (lwH : LwO H L xs) (lnH : LnO (h_mi H) 0) {k : Int} (k0 : 0 ≤ k) (k3 : k ≤ 3) {a : Nat} (ha : h_mr H 144 k.toNat = a) (ic : IcO H a) (ot : ∀ j, j < 4 → j ≠ k.toNat → MkO H E B j ∧ (h_mr H 144 j = 0 ∨ h_mr H 144 j ≠ a)) (di : ∀ x j, x < 4 → j < 4 → x ≠ j → x ≠ k.toNat → j ≠ k.toNat → h_mr H 144 x = 0 ∨ h_mr H 144 x ≠ h_mr H 144 j) (pl : ∀ p, p ≤ 5 → (p = 0 ∨ (2 ≤ p ∧ h_mi H 180 (p - 2) ≠ 0)) → LnO (h_mi H) p) : ∃ h1 h2, ev 198 38 [vr a, vr 106] H = some (vr 0, h1) ∧ ev 199 251 [vr 145, vi k, vi 0] h1 = some (vi 1, h2) ∧ (∃ E', Inv h2 t E' B L xs) ∧ h_sz h2 = h_sz H ∧ h_sl h2 = h_sl H := by
  generalize hkn : k.toNat = kn at *
  have a1 := ic.1
  have lt := cuH.fj.lt
  have z := lwH.2.2.2.2.2
  have ik := cuH.cs.ik
  obtain ⟨N1, e1, n1, n2, n3, n4⟩ := c_38 ic.ik ik (by omega) (by omega) 198
  rw [cuH.ht] at e1
  have w1 : CSk (sR H a 4 t) := cuH.cs.sr (by omega)
  have r1 : RSk (sR H a 4 t) := cuH.rs.sr (by omega)
  have c1 : ∀ x, (x < a ∨ a + 4 < x) → N1 x = h_mi H x := fun x hx => n1 x (by omega) (by omega)
  obtain ⟨N, e3, y⟩ := (r_mark (E := E) 197 k 0 (sM (sR H a 4 t) N1) (r1.m _) (fun p p5 hp => by
    have := pl p p5 (by rw [mi_sM, c1 180 (by omega)] at hp; exact hp)
    exact this.e (c1 157 (by omega)) (c1 158 (by omega)))).2.2.2 ⟨k0, k3⟩ rfl
  rw [sM_sM] at e3
  rw [mi_sM, hkn] at y
  generalize hNf : va_up N 174 (cpR (N 172) 0 (144 * k) 144 0 (N 174)) = Nf at e3
  have f1 : ∀ x, x ≠ 174 → Nf x = N x := fun x h1 => by rw [← hNf, up_ne _ _ h1]
  have f2 : ∀ x, x ≠ 145 → x ≠ 180 → (x < 147 ∨ x = 150 ∨ 159 < x) → N x = N1 x := fun x h1 h2 h3 => by rw [y.1 x h3, u2_ne _ _ _ h2, u2_ne _ _ _ h1]
  have g0 : ∀ x, x ≠ 145 → x ≠ 174 → x ≠ 180 → (x < a ∨ a + 4 < x) → (x < 147 ∨ x = 150 ∨ 159 < x) → Nf x = h_mi H x := fun x h1 h2 h3 h5 h6 => by rw [f1 x h2, f2 x h1 h3 h6, c1 x h5]
  have ga : ∀ j, j ≤ 4 → Nf (a + j) = N1 (a + j) := fun j hj => by rw [f1 _ (by omega), f2 _ (by omega) (by omega) (by omega)]
  have g180 : Nf 180 = va_up (h_mi H 180) kn 1 := by rw [f1 180 (by omega), y.1 180 (by omega), u2_eq, u2_ne _ _ _ (by omega), c1 180 (by omega)]
  have g174 : ∀ j, Nf 174 j = if 144 * kn ≤ j ∧ j < 144 * kn + 144 then h_mi H 172 (j - 144 * kn) else h_mi H 174 j := fun j => by
    rw [← hNf, up_eq, cpR_at _ (by omega) (by omega) 144 0 _ (by omega) j, f2 172 (by omega) (by omega) (by omega), c1 172 (by omega), f2 174 (by omega) (by omega) (by omega), c1 174 (by omega)]
    by_cases w : 144 * kn ≤ j ∧ j < 144 * kn + 144
    · rw [if_pos w, if_pos (by omega), show ((0 : Int) + (j : Int) - 144 * k).toNat = j - 144 * kn by omega]
    · rw [if_neg w, if_neg (by omega)]
  have e174 : ∀ j, j < 144 → unR (Nf 174) kn j = h_mi H 172 j := fun j hj => by
    show Nf 174 (144 * kn + j) = _
    rw [g174, if_pos (by omega), show 144 * kn + j - 144 * kn = j by omega]
  have yf := y.fix (Nf := Nf) (fun x h1 h2 h3 => f1 x (by omega))
  generalize hM2 : (fun a => if 147 ≤ a ∧ a ≤ 159 ∧ a ≠ 150 then up2 (up2 N1 145 0 0) 180 kn 1 a else Nf a) = M2 at yf
  have m1 : ∀ x, 147 ≤ x → x ≤ 159 → M2 x = h_mi H x := fun x h1 h2 => by
    rw [← hM2]
    by_cases w : x = 150
    · show (if 147 ≤ x ∧ x ≤ 159 ∧ x ≠ 150 then _ else Nf x) = _
      rw [if_neg (by omega), g0 x (by omega) (by omega) (by omega) (by omega) (by omega)]
    · show (if 147 ≤ x ∧ x ≤ 159 ∧ x ≠ 150 then _ else Nf x) = _
      rw [if_pos ⟨h1, h2, w⟩, u2_ne _ _ _ (by omega), u2_ne _ _ _ (by omega), c1 x (by omega)]
  have m2 : ∀ x, (x < 147 ∨ 159 < x) → M2 x = Nf x := fun x hx => by
    rw [← hM2]
    show (if 147 ≤ x ∧ x ≤ 159 ∧ x ≠ 150 then _ else Nf x) = _
    rw [if_neg (by omega)]
  have ff : ∀ x, Fj x H → ∀ j, j ≤ 8 → Nf (x + j) = h_mi H (x + j) := fun x f j hj => by
    have fl := f.lt
    have d0 := fun m (hm : m ≤ 4) => ic.df f (i := j) (j := m) (by omega) hm
    have q0 := d0 0 (by omega)
    have q1 := d0 1 (by omega)
    have q2 := d0 2 (by omega)
    have q3 := d0 3 (by omega)
    have q4 := d0 4 (by omega)
    exact g0 _ (by omega) (by omega) (by omega) (by omega) (by omega)
  have sf : ∀ x r, FjM H x r E → SmF H (sM (sR H a 4 t) Nf) x := fun x r f => by
    have fl := f.1.1.lt
    have d0 := ic.df f.1.1 (i := 0) (j := 0) (by omega) (by omega)
    refine ⟨Nat.le_refl _, fun _ _ => ⟨rfl, rfl⟩, by rw [mr_sM, mrR_ne _ _ _ (by omega)], fun l hl => ?_, fun j hj => by rw [mi_sM, ff x f.1.1 j hj], fun l hl => ?_⟩
    · have c := (f.2.2.2.1 l hl).1
      have kl := f.1.1.2.2.2.2 l hl
      have q0 := ic.dl kl.1 kl.2.2 (e := 0) (j := 0) (by omega) (by omega)
      rw [mr_sM, mrR_ne _ _ _ (by omega)]
    · have c := (f.2.2.2.1 l hl).1
      have kl := f.1.1.2.2.2.2 l hl
      have d1 := fun m (hm : m ≤ 4) => ic.dl kl.1 kl.2.2 (e := 1) (j := m) (by omega) hm
      have q0 := d1 0 (by omega)
      have q1 := d1 1 (by omega)
      have q2 := d1 2 (by omega)
      have q3 := d1 3 (by omega)
      have q4 := d1 4 (by omega)
      rw [mi_sM, g0 _ (by omega) (by omega) (by omega) (by omega) (by omega)]
  have tr : ∀ x, FjO H x → ∀ j, j ≤ 8 → M2 (x + j) = h_mi H (x + j) := fun x f j hj => by
    have fl := f.1.lt
    rw [m2 _ (by omega), ff x f.1 j hj]
  have fm : FjM H t 0 E := ⟨foH, cuH.vm.1, cuH.fn, cuH.lc, cuH.vm.2.2, lnH⟩
  have F0 : FjM (sM (sR H a 4 t) Nf) t 0 (fun r => if r = kn + 2 then E 0 else E r) := fm.keep (sf _ _ fm) yf m1 (tr _ fm.1) (by omega) (fun j _ => by rw [if_neg (by omega)])
  have Fk : FjM (sM (sR H a 4 t) Nf) t (kn + 2) (fun r => if r = kn + 2 then E 0 else E r) := fm.move (sf _ _ fm) yf m1 (tr _ fm.1) (by omega) (fun j _ => by rw [if_pos rfl])
  have n172 : Nf 172 = h_mi H 172 := g0 172 (by omega) (by omega) (by omega) (by omega) (by omega)
  have e147 : Nf 147 2 = h_mi H 147 2 := by rw [yf.2.1, mvR_out (by omega), m1 147 (by omega) (by omega)]
  have k147 : Nf 147 (5 * (kn + 2) + 2) = h_mi H 147 2 := by
    rw [yf.2.1, mvR_in (by omega), m1 147 (by omega) (by omega)]
  have cu : Cu (sM (sR H a 4 t) Nf) t (fun r => if r = kn + 2 then E 0 else E r) := by
    refine ⟨⟨r1.m _, w1.m _, ?_, by rw [mi_sM, g0 138 (by omega) (by omega) (by omega) (by omega) (by omega), g0 139 (by omega) (by omega) (by omega) (by omega) (by omega)]; exact cuH.z0⟩, F0.1.1, by rw [mr_sM, mrR_ne _ _ _ (by omega)]; exact cuH.ht, ⟨F0.2.1, ?_, F0.2.2.2.2.1⟩, F0.2.2.1, F0.2.2.2.1, ?_⟩
    · have s0 : Stt (sR H a 4 t) := cuH.st.sr (by omega)
      exact s0.sc (A := fun a => 43 ≤ a) (h1 := sM (sR H a 4 t) Nf) ⟨rfl, rfl, rfl, rfl, rfl, fun x hx => ⟨g0 x (by omega) (by omega) (by omega) (by omega) (by omega), rfl⟩⟩ (fun a ha => ha)
    · rw [mi_sM, n172]
      exact yf.sb2 (by omega) (cuH.vm.2.1.e (m1 148 (by omega) (by omega)))
    · rw [mi_sM, n172, e147]
      exact cuH.ic.cg (g0 106 (by omega) (by omega) (by omega) (by omega) (by omega)) (fun j hj => g0 _ (by omega) (by omega) (by omega) (by omega) (by omega))
  have d145 : ∀ j, j ≠ 0 → Nf 145 j = h_mi H 145 j := fun j h1 => by
    rw [f1 145 (by omega), y.1 145 (by omega), u2_ne _ _ _ (by omega), u2_no _ _ _ h1, c1 145 (by omega)]
  have m44 : ∀ j, h_mr (sM (sR H a 4 t) Nf) 144 j = h_mr H 144 j := fun j => by rw [mr_sM, mrR_ne _ _ _ (by omega)]
  refine ⟨_, _, e1, e3, ⟨_, cu, F0.1, ?_, ?_, ⟨fun j hj => ?_, fun x j hx hj hn => ?_, F0.2.2.2.2.2⟩, ?_, ?_⟩, rfl, rfl⟩
  · exact tpH.e (by rw [mi_sM, g0 101 (by omega) (by omega) (by omega) (by omega) (by omega)]) (by rw [mi_sM, d145 1 (by omega)]) (g0 102 (by omega) (by omega) (by omega) (by omega) (by omega)) (g0 146 (by omega) (by omega) (by omega) (by omega) (by omega))
  · rw [mi_sM, d145 44 (by omega), n172, g0 175 (by omega) (by omega) (by omega) (by omega) (by omega)]
    obtain ⟨u1, u2, u3, u4⟩ := ddH
    have e130 : ∀ x, 130 ≤ x → x ≤ 133 → Nf x = h_mi H x := fun x h1 h2 => g0 x (by omega) (by omega) (by omega) (by omega) (by omega)
    refine ⟨by rw [e130 130 (by omega) (by omega)]; exact u1, u2, by rw [e130 130 (by omega) (by omega)]; exact u3, fun j hj => ?_⟩
    obtain ⟨⟨b1, b2⟩, b3⟩ := u4 j hj
    refine ⟨⟨yf.sb2 (by omega) (b1.e (m1 148 (by omega) (by omega))), b2⟩, ?_⟩
    rw [e130 130 (by omega) (by omega)]
    unfold UnD at b3 ⊢
    rw [e130 131 (by omega) (by omega), e130 132 (by omega) (by omega), e130 133 (by omega) (by omega), e147]
    exact b3
  · by_cases w : j = kn
    · subst w
      refine Or.inr ⟨by rw [mi_sM, g180, up_eq], ?_, ?_, ⟨?_, ssH.1.x e174, ?_⟩, ?_⟩
      · rw [m44, ha]
        obtain ⟨q1, q2, q3, q4, q5⟩ := ic
        exact ⟨q1, q2, q3, q4, fun m hm => by rw [mr_sM, mrR_f, up_eq, up_ne _ _ (by omega)]; exact q5 m hm⟩
      · rw [m44, ha, mr_sM, mrR_f, up_eq, up_eq]
        exact Fk
      · exact (yf.sb (cuH.vm.2.1.e (m1 148 (by omega) (by omega)))).x e174
      · rw [mi_sM]
        have := e174 134 (by omega)
        show unR (Nf 174) j 134 ≤ B
        rw [this]; exact ssH.2
      · rw [m44, ha, mi_sM, k147]
        obtain ⟨p1, p2, p3⟩ := cuH.ic
        have ga0 := ga 0 (by omega)
        rw [Nat.add_zero] at ga0
        refine ⟨fun c hc => ?_, fun p hp => ?_, ?_⟩
        · rw [ga 1 (by omega), show a + 1 + 1 = a + 2 by omega, ga 2 (by omega), e174 _ (by omega), e174 _ (by omega)]
          have := n3 c hc
          rw [show a + 1 + 1 = a + 2 by omega] at this
          rw [this.1, this.2]; exact p1 c hc
        · rw [show a + 1 + 2 = a + 3 by omega, ga 3 (by omega), show a + 1 + 3 = a + 4 by omega, ga 4 (by omega), e174 _ (by omega), e174 _ (by omega)]
          have := n4 p hp
          rw [show a + 1 + 2 = a + 3 by omega, show a + 1 + 3 = a + 4 by omega] at this
          rw [this.1, this.2]; exact p2 p hp
        · rw [ga0, n2 5 (by omega) (by omega), n2 6 (by omega) (by omega), n2 7 (by omega) (by omega), n2 8 (by omega) (by omega), n2 9 (by omega) (by omega), n2 10 (by omega) (by omega), e174 _ (by omega), e174 _ (by omega), e174 _ (by omega), e174 _ (by omega), e174 _ (by omega), e174 _ (by omega)]; exact p3
    · obtain ⟨mj, nj⟩ := ot j hj w
      refine mj.keep (h2 := sM (sR H a 4 t) Nf) (E' := fun r => if r = kn + 2 then E 0 else E r) z (m44 j) (by rw [mi_sM, g180, up_ne _ _ w]) (fun m hm => by rw [mi_sM, g174, if_neg (by omega)]) (Nat.le_refl _) (fun _ _ => ⟨rfl, rfl⟩) (fun c => ?_) (fun c x f => sf _ _ f) yf m1 tr (by omega) (fun l _ => by rw [if_neg (by omega)])
      have ge := c.1
      have na : a ≠ h_mr H 144 j := fun q => nj.elim (fun q2 => by omega) (fun q2 => q2 q.symm)
      refine ⟨by rw [mr_sM, mrR_ne _ _ _ (fun q => na q.symm)], fun m hm => ?_⟩
      have d1 := fun x (hx : x ≤ 4) => ic.di c na (i := m) (j := x) hm hx
      have q0 := d1 0 (by omega)
      have q1 := d1 1 (by omega)
      have q2 := d1 2 (by omega)
      have q3 := d1 3 (by omega)
      have q4 := d1 4 (by omega)
      rw [mi_sM, g0 _ (by omega) (by omega) (by omega) (by omega) (by omega)]
  · rw [m44, m44]
    by_cases w1 : x = kn
    · subst w1
      rw [ha]
      rcases (ot j hj (fun q => hn q.symm)).2 with q | q
      · exact Or.inr (by omega)
      · exact Or.inr (fun q2 => q q2.symm)
    · by_cases w2 : j = kn
      · subst w2
        rw [ha]
        exact (ot x hx w1).2
      · exact di x j hx hj hn w1 w2
  · rw [mi_sM, n172]; exact ssH
  · obtain ⟨w1, w2, w3, w4, w5, w6⟩ := lwH
    exact ⟨w1, w2, by rw [mi_sM, g0 40 (by omega) (by omega) (by omega) (by omega) (by omega)]; exact w3, w4, w5, w6⟩
end
