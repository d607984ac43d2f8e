/-! pairs of calls as the law makes them: mark, toll, winter -/
section
variable {h : HP} {t : Nat} {E : EE} {B : Int} {L : Nat} {xs : Nat → Int}
theorem b_mark (i : Inv h t E B L xs) (k back : Int) : Pb h 138 251 [vi k, vi back] [vi k, vi back] (Nx h B L xs) := by
  have z := i.2.2.2.2.2.2.2.2.2.2.2
  by_cases c : 0 ≤ k ∧ k ≤ 3
  · have mk := i.2.2.2.2.1.1 k.toNat (by omega)
    by_cases hb : back = 0
    · rcases mk with ⟨m1, m2⟩ | ⟨m1, ic, fm, sb, inn⟩
      · obtain ⟨h1, e1, ex, s1, s2, ik, t4⟩ := c_36 (h := h) 197 t (by omega)
        have i1 := i.ex ex
        have kb := ik.1
        have ikH : IcK (sR h1 144 k.toNat (h_sz h)) (h_sz h) (h_sz h + 1) := ⟨ik.1, fun j hj => ⟨by rw [mrR_ne _ _ _ (by omega)]; exact (ik.2 j hj).1, (ik.2 j hj).2⟩⟩
        have wH : CSk (sR h1 144 k.toNat (h_sz h)) := i1.1.cs.sr (by omega)
        obtain ⟨N1, e2, n1, _⟩ := c_38 ikH wH.ik (by omega) (by omega) 198
        obtain ⟨x1, x2, x3, _⟩ := ex.2 40 (by omega)
        obtain ⟨y1, _⟩ := ex.2 145 (by omega)
        refine (p_mark i k back).b (v := vi 1) (h1 := sM (sR (sR h1 144 k.toNat (h_sz h)) (h_sz h) 4 (h_mr (sR h1 144 k.toNat (h_sz h)) 106 4)) N1) ?_ ⟨x1, x2, ?_, y1⟩
        · rw [v_138, q_138_0 (w := (i.1).cs), df (by omega), dt (by omega), dt c.1, dt hb, m2]
          simp only [zb, decide_true]
          have ea := Ex.alo h 3 0 11
          rw [q_138_52 (w := i.1.cs.ex ea z) (ht := (congrFun (ea.2 106 (by omega)).2.2.2.2 4).trans i.1.ht), isKc (show h_kd (alo h 3 0 11) (h_sz h) = 3 by rw [kd_alo, up_eq]), e1]
          simp only [zb, bV_s]
          rw [q_138_63 (w := i1.1.cs), isKc kb, dt c.1, dt (show k < 4 by omega), e2]
          simp only [zb, bV_s]
          rw [q_138_79]
        · rw [mi_sM, n1 40 (by omega) (by omega)]; exact x3
      · have ge := ic.1
        obtain ⟨N1, e2, n1, _⟩ := c_38 ic.ik i.1.cs.ik (by omega) (by omega) 198
        refine (p_mark i k back).b (v := vi 1) (h1 := sM (sR h (h_mr h 144 k.toNat) 4 (h_mr h 106 4)) N1) ?_ ⟨rfl, rfl, n1 40 (by omega) (by omega), rfl⟩
        rw [v_138, q_138_0 (w := (i.1).cs), df (by omega), dt (by omega), dt c.1, dt hb, df (show ¬ h_mr h 144 k.toNat = 0 by omega), isKc ic.2.2.1, e2]
        simp only [zb, bV_s]
        rw [q_138_79]
    · rcases mk with ⟨m1, m2⟩ | ⟨m1, ic, fm, ⟨sb, i3s, nb⟩, inn⟩
      · refine (p_mark i k back).b (v := vi 0) (h1 := h) ?_ (Lw1.rf h)
        rw [v_138, q_138_0 (w := (i.1).cs), df (by omega), dt (by omega), dt c.1, df hb, m2]
        rfl
      · have ge := ic.1
        obtain ⟨N1, e1, n1, _⟩ := c_38 i.1.cs.ik ic.ik (by omega) (by omega) 198
        have w1 : CSk (sR h 106 4 (h_mr h (h_mr h 144 k.toNat) 4)) := i.1.cs.sr (by omega)
        refine (p_mark i k back).b (v := vi 1) (h1 := sM (sR h 106 4 (h_mr h (h_mr h 144 k.toNat) 4)) (up2 (up2 N1 130 3 0) 130 4 0)) ?_ ⟨rfl, rfl, ?_, rfl⟩
        · rw [v_138, q_138_0 (w := (i.1).cs), df (by omega), dt (by omega), dt c.1, df hb, df (show ¬ h_mr h 144 k.toNat = 0 by omega), e1]
          simp only [zb, bV_s]
          rw [q_138_36 (w := w1.m _), v_12, q_12_0 (w := w1.m _), bV_s, q_138_43]
          simp only [sI_sM]
        · rw [mi_sM, u2_ne _ _ _ (by omega), u2_ne _ _ _ (by omega), n1 40 (by omega) (by omega)]
  · refine (p_mark i k back).b (v := vi 0) (h1 := h) ?_ (Lw1.rf h)
    rw [v_138, q_138_0 (w := (i.1).cs)]
    by_cases w : k < 0
    · rw [dt w]; rfl
    · rw [df w, df (by omega)]; rfl
theorem Inv.sl (i : Inv h t E B L xs) {a : Nat} (ha : 43 ≤ a) (j : Nat) (v : Int) : Inv (sL h a j v) t E B L xs := by
  obtain ⟨⟨⟨c1, c2, c3, c4⟩, cr⟩, fo, tp, dd, ms, ss, lw⟩ := i
  have st : Stt (sL h a j v) := fun b b1 b2 => by
    obtain ⟨s1, s2, s3, s4, s5⟩ := c3 b b1 b2
    exact ⟨s1, s2, s3, by rw [mlL_ne _ _ _ (by omega)]; exact s4, s5⟩
  exact ⟨⟨⟨c1, c2, st, c4⟩, cr⟩, fo, tp, dd, ms, ss, lw⟩
/-- a call that may throw, on both sides -/
def Pt (h : HP) (kl kr : Nat) (as : List AV) (P : HP → Prop) : Prop := ∃ x h1 b h2, ev 199 kl (vr 100 :: (as ++ [vr 181])) h = some (vi x, h1) ∧ Lw1 h h1 ∧ ev 199 kr (vr 145 :: as) h1 = some (vi b, h2) ∧ (RSk h2 ∧ h_mi h2 145 0 = x) ∧ (x = 0 → h_kd h2 181 = 12 ∧ h_ln h2 181 = 1 ∧ h_ml h2 181 0 = b) ∧ P h2
theorem b_toll (i : Inv h t E B L xs) (l row : Int) : Pt h 266 232 [vi l, vi row] (Nx h B L xs) := by
  have kk := k_toll i.1 192 l row
  have lw := i.2.2.2.2.2.2
  have k100 : isK h 100 8 = true := isKc (i.1.cs.1 _ (List.mem_of_getElem? (i := 0) rfl)).1
  by_cases ok : tollOk (h_mi h) l row
  · obtain ⟨h1, e1, s⟩ := kk.1 ok
    have i1 := i.sq s
    have lw1 := i1.2.2.2.2.2.2
    have rr := Sq.rr i.1 s
    generalize hV : tollV (h_mi h) E l row = V at e1
    have i2 := i1.sl (a := 181) (by omega) 0 V
    have ok1 : tollOk (h_mi (sL h1 181 0 V)) l row := by
      have : tollOk (h_mi h1) l row := by
        unfold tollOk at ok ⊢
        have a1 := rr 147 (by omega) (by omega)
        have a2 := rr 172 (by omega) (by omega)
        have a3 : ndV (h_mi h1) l = ndV (h_mi h) l := by unfold ndV; rw [rr 154 (by omega) (by omega), rr 155 (by omega) (by omega)]
        have a4 : tnV (h_mi h1) row = tnV (h_mi h) row := tnV_rr rr row
        rw [a1, a2, a3, a4]; exact ok
      exact this
    obtain ⟨N, e2, q, n0⟩ := (r_toll (E := E) 192 l row (sL h1 181 0 V) i2.1.rs i2.1.vm).1 ok1
    have eV : tollV (h_mi (sL h1 181 0 V)) E l row = V := by rw [← hV]; exact tollV_rr rr E l row
    rw [eV] at e2
    have i3 := i2.qa q
    have ll := Lw1.sq i.1.fj.lt s
    have e266 : ev 199 266 [vr 100, vi l, vi row, vr 181] h = some (vi 0, sL h1 181 0 V) := by
      show ev (198 + 1) 266 [vr 100, vi l, vi row, vr 181] h = _
      rw [v_266, q_266_0, k100]
      show bX (ev (192 + 6) 128 [vr 100, vi l, vi row] h) _ _ = _
      rw [e1]
      show run (198 + 1) md_266 8 [vr 100, vi l, vi row, vr 181, vu] [vi V, vi 0, vr 181] h1 = _
      have ib : inb h1 181 0 = true := by unfold inb; rw [lw1.2.2.2.2.1]; rfl
      rw [q_266_8, isKc lw1.2.2.2.1, ib]
      rfl
    refine ⟨0, sL h1 181 0 V, V, sM (sL h1 181 0 V) N, e266, ll, e2, ⟨i3.1.rs, n0⟩, fun _ => ⟨lw1.2.2.2.1, lw1.2.2.2.2.1, ?_⟩, ⟨t, E, i3.up (by omega)⟩, ?_, ?_⟩
    · show h_ml (sL h1 181 0 V) 181 0 = V
      rw [mlL_eq, up_eq]
    · obtain ⟨N1, y, rfl, _⟩ := s
      show h_sz h ≤ _; omega
    · obtain ⟨N1, y, rfl, _⟩ := s
      show h_sl h ≤ _; omega
  · have i1 := i.ex (Ex.exH h)
    have e1 := kk.2 ok
    obtain ⟨N, e2, q, n0⟩ := (r_toll (E := E) 192 l row (exH h) i1.1.rs i1.1.vm).2 ok
    have z := lw.2.2.2.2.2
    refine ⟨1, exH h, 0, sM (exH h) N, ?_, ⟨((Ex.exH h).2 40 (by omega)).1, rfl, rfl, ((Ex.exH h).2 145 (by omega)).1⟩, e2, ⟨(i1.qa q).1.rs, n0⟩, fun u => absurd u (by omega), ⟨t, E, (i1.qa q).up (by omega)⟩, by show h_sz h + 1 ≤ _; omega, by show h_sl h + 6 ≤ _; omega⟩
    show ev (198 + 1) 266 [vr 100, vi l, vi row, vr 181] h = _
    rw [v_266, q_266_0, k100]
    show bX (ev (192 + 6) 128 [vr 100, vi l, vi row] h) _ _ = _
    rw [e1]
    show run (198 + 1) md_266 13 [vr 100, vi l, vi row, vr 181, vu] [vr (h_sz (exH h) - 1)] (exH h) = _
    rw [s_266_13, s_266_15, s_266_16]
theorem b_winter (i : Inv h t E B L xs) (a b c d : Int) : Pt h 267 250 [vi a, vi b, vi c, vi d] (Nx h B L xs) := by
  have kk := k_winter i.1 192 a b c d
  have lw := i.2.2.2.2.2.2
  have k100 : isK h 100 8 = true := isKc (i.1.cs.1 _ (List.mem_of_getElem? (i := 0) rfl)).1
  by_cases ok : wiOk (h_mi h) a b c d
  · obtain ⟨h1, e1, s⟩ := kk.1 ok
    have i1 := i.sq s
    have lw1 := i1.2.2.2.2.2.2
    have rr := Sq.rr i.1 s
    generalize hV : winterV (h_mi h) E a b c d = V at e1
    have i2 := i1.sl (a := 181) (by omega) 0 V
    have ok1 : wiOk (h_mi (sL h1 181 0 V)) a b c d := by
      have : wiOk (h_mi h1) a b c d := by
        unfold wiOk at ok ⊢
        rw [rr 147 (by omega) (by omega)]; exact ok
      exact this
    obtain ⟨N, g, e2, q, n0⟩ := (r_winter (E := E) 191 a b c d (sL h1 181 0 V) i2.1.rs i2.1.vm).1 ok1
    have eV : winterV (h_mi (sL h1 181 0 V)) E a b c d = V := by rw [← hV]; exact winterV_rr rr E a b c d
    rw [eV] at e2
    have i3 := (i2.sl (a := 145) (by omega) 53 g).qa (N := N) q
    have ll := Lw1.sq i.1.fj.lt s
    have e267 : ev 199 267 [vr 100, vi a, vi b, vi c, vi d, vr 181] h = some (vi 0, sL h1 181 0 V) := by
      show ev (198 + 1) 267 [vr 100, vi a, vi b, vi c, vi d, vr 181] h = _
      rw [v_267, q_267_0, k100]
      show bX (ev (192 + 6) 137 [vr 100, vi a, vi b, vi c, vi d] h) _ _ = _
      rw [e1]
      show run (198 + 1) md_267 12 [vr 100, vi a, vi b, vi c, vi d, vr 181, vu] [vi V, vi 0, vr 181] h1 = _
      have ib : inb h1 181 0 = true := by unfold inb; rw [lw1.2.2.2.2.1]; rfl
      rw [q_267_12, isKc lw1.2.2.2.1, ib]
      rfl
    refine ⟨0, sL h1 181 0 V, V, sM (sL (sL h1 181 0 V) 145 53 g) N, e267, ll, e2, ⟨i3.1.rs, n0⟩, fun _ => ⟨lw1.2.2.2.1, lw1.2.2.2.2.1, ?_⟩, ⟨t, E, i3.up (by omega)⟩, ?_, ?_⟩
    · show h_ml (sL (sL h1 181 0 V) 145 53 g) 181 0 = V
      rw [mlL_ne _ _ _ (by omega), mlL_eq, up_eq]
    · obtain ⟨N1, y, rfl, _⟩ := s
      show h_sz h ≤ _; omega
    · obtain ⟨N1, y, rfl, _⟩ := s
      show h_sl h ≤ _; omega
  · have i1 := i.ex (Ex.exH h)
    have e1 := kk.2 ok
    obtain ⟨N, e2, q, n0⟩ := (r_winter (E := E) 191 a b c d (exH h) i1.1.rs i1.1.vm).2 ok
    have z := lw.2.2.2.2.2
    refine ⟨1, exH h, 0, sM (exH h) N, ?_, ⟨((Ex.exH h).2 40 (by omega)).1, rfl, rfl, ((Ex.exH h).2 145 (by omega)).1⟩, e2, ⟨(i1.qa q).1.rs, n0⟩, fun u => absurd u (by omega), ⟨t, E, (i1.qa q).up (by omega)⟩, by show h_sz h + 1 ≤ _; omega, by show h_sl h + 6 ≤ _; omega⟩
    show ev (198 + 1) 267 [vr 100, vi a, vi b, vi c, vi d, vr 181] h = _
    rw [v_267, q_267_0, k100]
    show bX (ev (192 + 6) 137 [vr 100, vi a, vi b, vi c, vi d] h) _ _ = _
    rw [e1]
    show run (198 + 1) md_267 17 [vr 100, vi a, vi b, vi c, vi d, vr 181, vu] [vr (h_sz (exH h) - 1)] (exH h) = _
    rw [s_267_17, s_267_19, s_267_20]
end
