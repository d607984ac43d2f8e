/-! lines are read: laws on both sides -/
section
variable {hc hr : HP} {f : Nat → Int} {n l p t b : Nat} {e : Nat → (Nat → Int) → Int}
/-- a heap with new cells, and the fjord's own links changed: the reader still stands -/
theorem CL.gw {h h1 : HP} {q : Int} (c : CL h f n p q) (sz : 182 ≤ h_sz h) (t2 : 182 ≤ t) (g : ∀ a, a < h_sz h → h_kd h1 a = h_kd h a ∧ h_ln h1 a = h_ln h a ∧ h_mi h1 a = h_mi h a ∧ h_ml h1 a = h_ml h a ∧ (a ≠ t → h_mr h1 a = h_mr h a)) : CL h1 f n p q := by
  obtain ⟨w, st, tk, m8⟩ := c
  refine ⟨⟨fun q hq => ?_, fun q hq => ?_⟩, fun a x1 x2 => ?_, ?_, by rw [(g 103 (by omega)).2.2.1]; exact m8⟩
  · have all : CSk_t.all (fun q => decide (q.1 < 182)) = true := by decide +kernel
    have b := of_decide_eq_true (List.all_eq_true.mp all q hq)
    obtain ⟨a1, a2, _⟩ := g q.1 (by omega)
    rw [a1, a2]; exact w.1 q hq
  · have all : CSk_r.all (fun q => decide (q.1 < 182)) = true := by decide +kernel
    have b := of_decide_eq_true (List.all_eq_true.mp all q hq)
    obtain ⟨_, _, _, _, a5⟩ := g q.1 (by omega)
    rw [a5 (by omega)]; exact w.2 q hq
  · obtain ⟨a1, a2, a3, a4, a5⟩ := g a (by omega)
    rw [a1, a2, a3, a4, a5 (by omega)]
    exact st a x1 x2
  · obtain ⟨a1, a2, a3, a4, a5⟩ := g 101 (by omega)
    obtain ⟨b1, b2, b3, b4, b5⟩ := g 102 (by omega)
    unfold CTk
    rw [a3, a4, a5 (by omega), b3]
    exact tk
theorem CRel.ml {h h1 : HP} (g : CRel h h1) {a : Nat} (ha : a ≠ 101) : h_ml h1 a = h_ml h a := by
  obtain ⟨r, x, N, rfl, _⟩ := g
  exact up_ne _ _ ha
theorem RRel.ml {h h1 : HP} (g : RRel h h1) {a : Nat} (ha : a ≠ 145) : h_ml h1 a = h_ml h a := by
  obtain ⟨x, N, rfl, _⟩ := g
  exact up_ne _ _ ha
theorem ln_70 (X : XX hc hr f n p t e) (x : TX f n l) (p1 : p ≤ n) (hb : b ≤ t) (bz : b ≤ h_sz hc) (tk : tkK f n p ≠ 0) {D : Nat} (hD : 60 ≤ D) (d : Nat) : LOx f n t b D 70 [vr 103, vr t, vi (l : Int)] (d + 4) 169 [vr 145, vi (l : Int)] hc hr p := by
  obtain ⟨cl, rl, c, m, nm, y, ⟨c1, c2, c3⟩, mm, nc, nr⟩ := X
  obtain ⟨d0, rfl⟩ : ∃ d0, D = d0 + 2 := ⟨D - 2, by omega⟩
  have t2 := y.1.2
  have tz := y.1.1.2.1
  have sz : 182 ≤ h_sz hc := by omega
  have hl := x.2.2
  have p2 := (tk_n (f := f) p1).2.1
  have lp := tk_l p1 tk
  have n1000 := x.2.1
  obtain ⟨h0, e0, g0, q0⟩ := k_71 cl x p1 d0 (i_shl 1 (l : Int))
  obtain ⟨h1, e1, g1, q1⟩ := k_89 q0 x p1 (D := d0 + 1) (by omega)
  have m38 : h_mi h1 38 l = st_facts.getD l 0 := (q1.2.1 38 (by omega) (by omega)).2.2.1 l
  generalize hS : sI (sI h1 103 4 0) 103 7 (st_facts.getD l 0) = S
  have st : ev (d0 + 2) 70 [vr 103, vr t, vi (l : Int)] hc = bV (ev (d0 + 1) 72 [vr 103, vi 0, vi 0] S) fun h1 => run (d0 + 1 + 1) md_70 47 [vr 103, vr t, vi (l : Int)] [] h1 := by
    rw [v_70, q_70_0 (t := t) (w := cl.1) (st := cl.2.1), df (show ¬ (l : Int) < 0 by omega), dt (show (l : Int) < 4 by omega), e0]
    show run (d0 + 1 + 1) md_70 20 [vr 103, vr t, vi (l : Int)] [] _ = _
    rw [q_70_20 (t := t) (w := q0.1), e1, bV_s, q_70_27 (t := t) (w := q1.1) (st := q1.2.1), dt (show 0 ≤ (l : Int) by omega), dt (show (l : Int) < 4 by omega), Int.toNat_natCast, m38, hS]
    rfl
  have qS := (q1.s3 (j := 4) (by omega) 0).s3 (j := 7) (by omega) (st_facts.getD l 0)
  rw [hS] at qS
  have k01 : Kp (sI h0 103 6 (i_or (h_mi hc 103 6) (i_shl 1 (l : Int)))) S := by
    rw [← hS]; exact (g1.kp.tr (Kp.s103 _ (by omega) _)).tr (Kp.s103 _ (by omega) _)
  have S4 : h_mi S 103 4 = 0 := by rw [← hS, miI_eq, up_ne _ _ (by omega), miI_eq, up_eq]
  have S7 : h_mi S 103 7 = st_facts.getD l 0 := by rw [← hS, miI_eq, up_eq]
  have wbS : Wb b hc S := ((Wb.of g0).s3 6 _).tr (k01.wb b)
  have s0 := g0.sh
  have z1 : h_sz S = h_sz hc := k01.1.2.2.1.trans s0.2.2.1
  have z2 : h_sl S = h_sl hc := k01.1.2.2.2.trans s0.2.2.2.1
  have o2 := y.2.2.2.2.2.1 l hl
  have lk := y.2.2.2.1 l hl
  have i4 : i_add 4 (l : Int) = ((4 + l : Nat) : Int) := by rw [ia (by omega) (by omega)]; omega
  have b0 : decide (0 ≤ ((4 + l : Nat) : Int)) = true := dt (by omega)
  have b1 : decide (((4 + l : Nat) : Int) < 24) = true := dt (by omega)
  -- the class, ended with a fault in the law
  have cf : ∀ q h2, q ≠ 0 → ev (d0 + 1) 72 [vr 103, vi 0, vi 0] S = some (vr 0, h2) → CE S h2 f n q → ∃ p', p' ≤ n ∧ ev (d0 + 2) 70 [vr 103, vr t, vi (l : Int)] hc = some (vr 0, h2) ∧ CL h2 f n p' q ∧ Wb b hc h2 ∧ h_sz h2 = h_sz hc ∧ h_sl h2 = h_sl hc := fun q h2 qn ee ce => by
    obtain ⟨cr, ⟨p', pp, ct⟩, m8, _⟩ := ce
    have w2 := cr.cs qS.1
    refine ⟨p', pp, ?_, ⟨w2, cr.st qS.2.1, ct, m8⟩, wbS.tr (cr.kp.wb b), cr.kp.1.2.2.1.trans z1, cr.kp.1.2.2.2.trans z2⟩
    rw [st, ee, bV_s, q_70_47 (t := t) (w := w2), m8, dt qn]
    exact q_70_77 ..
  by_cases o : i_and (h_mi hc 103 6) (i_shl 1 (l : Int)) = 0
  · rw [if_pos o] at qS
    have le := o2.mp o
    have cS : CT S f n l (tkE f n p) 0 := ⟨qS.1, qS.2.1, qS.2.2.1, qS.2.2.2, S4, S7⟩
    have rl6 : RL (sI hr 145 26 (l : Int)) f n p := ⟨rl.1, rl.2.si (by omega) (by omega)⟩
    obtain ⟨k1, a1, u1, r1, _⟩ := s_152 rl6 x p1 (d + 2)
    have k24 : h_mi k1 145 24 = (c : Int) := by rw [u1.f (by omega) (by omega) (by omega) (by omega) (by omega) (by omega), miI_eq, up_ne _ _ (by omega)]; exact c1
    have k26 : h_mi k1 145 26 = (l : Int) := by rw [u1.f (by omega) (by omega) (by omega) (by omega) (by omega) (by omega), miI_eq, up_eq]
    generalize hT : sI (sI k1 157 (4 + l) (c : Int)) 161 0 0 = T
    have sr : ev (d + 4) 169 [vr 145, vi (l : Int)] hr = bI (run (d + 1 + 2) md_159 11 [vr 145, vi ((0 : Nat) : Int), vi 1, vu, vu, vu] [] T) fun r1 h1 => run (d + 3 + 1) md_169 50 [vr 145, vi (l : Int)] [vi r1] h1 := by
      rw [v_169, q_169_0 (w := rl.1), i4, b0, b1, Int.toNat_natCast, dt le, a1]
      show run (d + 3 + 1) md_169 34 [vr 145, vi (l : Int)] [] k1 = _
      rw [q_169_34 (w := r1.1), i4, b0, b1, Int.toNat_natCast, k24]
      show bI (ev (d + 2 + 1) 159 [vr 145] (sI k1 157 (4 + l) (c : Int))) _ = _
      rw [v_159, q_159_0 (h := sI k1 157 (4 + l) (c : Int)) (w := r1.1), hT]
      rfl
    have rT : RL T f n (tkE f n p) := by rw [← hT]; exact (r1.sn (by omega) (by omega) _).sn (by omega) (by omega) _
    have T24 : h_mi T 145 24 = (c : Int) := by rw [← hT, miI_ne _ _ _ (by omega), miI_ne _ _ _ (by omega)]; exact k24
    have T26 : h_mi T 145 26 = (l : Int) := by rw [← hT, miI_ne _ _ _ (by omega), miI_ne _ _ _ (by omega)]; exact k26
    have rtT : RT T f n l (tkE f n p) c := ⟨rT.1, rT.2, T24, T26, c2⟩
    have rp : Rp 0 0 T := ⟨fun _ => by rw [← hT, miI_eq, up_eq], fun _ => Or.inl rfl⟩
    have rdT : Rd hr T := by rw [← hT]; exact ((((Rd.rf hr).s145 (by omega) (by omega) _).tr u1.rd).si (by omega) (by omega) (by show 4 ≤ 4 + l; omega) (by show 4 + l < 2 * 4; omega) _).s161 _ _
    rcases cl_all x 5 0 rfl 0 (by omega) (tkE f n p) p2 with ⟨q, qn, cx0, rx0⟩ | ⟨p', cs, rs, e', ⟨l1, l2, l3, l4⟩, ⟨m1, m2, m3⟩, nt, co, ro⟩
    · obtain ⟨h2, e2, ce⟩ := cx0 (d0 + 1) S 0 (by show 45 ≤ d0 + 1; omega) cS (Nat.zero_le _)
      obtain ⟨k2, a2, rr, m9⟩ := rx0 (d + 1) T c vu vu vu rtT (by omega) rp
      obtain ⟨p', pp, ee, c2', wb2, zz1, zz2⟩ := cf q h2 qn e2 ce
      refine ln_f x qn (by omega) ee c2' pp wb2 zz1 zz2 (h2 := k2) ?_ (rdT.tr rr.rd) m9
      rw [sr, a2, bI_s, q_169_50 (w := rr.rs rT.1)]
      rfl
    · obtain ⟨h2, e2, cg⟩ := co (d0 + 1) S 0 (by show 45 ≤ d0 + 1; omega) cS (Nat.zero_le _)
      obtain ⟨k2, x3, x4, x5, a2, rg, cmp⟩ := ro (d + 1) T c vu vu vu rtT (by omega) rp
      obtain ⟨cr, ct2, wr2⟩ := cg
      obtain ⟨rr, rt2, wrr, _, _⟩ := rg
      have e2' : ev (d0 + 1) 72 [vr 103, vi 0, vi 0] S = some (vr 0, h2) := e2
      have kp2 := k01.tr cr.kp
      have fo2 : FjO h2 t := by
        have j := (y.1.1.1.kp cl.1 g0.kp)
        have j' : Fj t (sI h0 103 6 (i_or (h_mi hc 103 6) (i_shl 1 (l : Int)))) := j
        have mt : h_mr h2 t = h_mr hc t := (kp2.2.1 t (by omega)).trans (s0.2.2.2.2.1 t (by omega))
        have zz : h_sz h2 = h_sz hc := kp2.1.2.2.1.trans s0.2.2.1
        exact ⟨j'.kp q0.1 kp2, by omega, fun j hj => by rw [mt, zz]; exact y.1.1.2.2 j hj⟩
      have zz1 : h_sz h2 = h_sz hc := cr.kp.1.2.2.1.trans z1
      have zz2 : h_sl h2 = h_sl hc := cr.kp.1.2.2.2.trans z2
      have m24 : h_mi h2 103 4 = ((cs.length : Nat) : Int) := by have := ct2.2.2.2.2.1; rw [Nat.zero_add] at this; exact this
      obtain ⟨hA, eA, ⟨sA, slA⟩, gA, mA1, mA2, kdA, mrA, kdB, lnB, miB⟩ := c_mk (l := l) ct2.1 (show cs.length < 1000 by omega) (by omega) m24 ct2.2.2.2.1 fo2 t2 hl (d0 + 1)
      have eAll : ev (d0 + 2) 70 [vr 103, vr t, vi (l : Int)] hc = some (vr 0, hA) := by rw [st, e2', bV_s, eA]
      have c2c : CL h2 f n p' 0 := ⟨ct2.1, ct2.2.1, ct2.2.2.1, ct2.2.2.2.1⟩
      have cA : CL hA f n p' 0 := c2c.gw (by omega) t2 gA
      have wbA : Wb b hc hA := (wbS.tr (cr.kp.wb b)).tr ⟨by omega, fun a ha => by
        obtain ⟨x1, x2, x3, x4, x5⟩ := gA a (by omega)
        exact ⟨⟨x1, x2⟩, fun _ => x5 (by omega), fun _ _ => x4, fun _ _ _ => x3⟩⟩
      obtain ⟨h3, e3, g3, q3⟩ := k_79 cA x l2 (D := d0 + 2 + 1) (by omega) 59
      have s3 := g3.sh
      have wb3 := wbA.tr (Wb.of (b := b) g3)
      have p5 := (tk_n (f := f) l2).2.1
      -- the reference, behind the law
      have a3 : run (d + 1 + 2) md_159 11 [vr 145, vi ((0 : Nat) : Int), vi 1, vu, vu, vu] [] T = run (d + 1 + 2) md_159 409 [vr 145, vi ((0 : Nat) : Int), vi 0, x3, x4, x5] [vi (bb (tkK f n p' = 3 ∧ f (tB f n p') = 59))] k2 := by
        rw [a2, show ((popD (h_mi T 160) 0 : Nat) : Int) = ((0 : Nat) : Int) from rfl, r_no rt2 x l2 (d + 1) (by omega) x3 x4 x5 (by rcases js_e nt with z | z; exact Or.inl z; exact Or.inr ⟨z, cmp (by omega) z⟩), q_159_363 (w := rt2.1), r_154 rt2.1 rt2.2.1 x.2.1 l2]
        cases decide (bb (tkK f n p' = 3 ∧ f (tB f n p') = 41) = 0) <;> rfl
      by_cases sm : smP f n p'
      · obtain ⟨k3, a4, u4, r4, _⟩ := s_152 (⟨rt2.1, rt2.2.1⟩ : RL k2 f n p') x l2 (d + 1)
        rw [if_pos (show tkK f n p' = 3 ∧ f (tB f n p') = 59 from sm)] at q3
        have l5 := tk_l l2 (show tkK f n p' ≠ 0 by rw [sm.1]; omega)
        have k324 : h_mi k3 145 24 = ((c + rs.length : Nat) : Int) := by rw [u4.f (by omega) (by omega) (by omega) (by omega) (by omega) (by omega)]; exact rt2.2.2.1
        have e169 : ev (d + 4) 169 [vr 145, vi (l : Int)] hr = some (vi 1, sI k3 158 (4 + l) ((c + rs.length : Nat) : Int)) := by
          rw [sr, a3, q_159_409 (w := rt2.1), bb_dt (show tkK f n p' = 3 ∧ f (tB f n p') = 59 from sm), a4]
          show bI (run (d + 1 + 2) md_159 416 [vr 145, vi ((0 : Nat) : Int), vi 0, x3, x4, x5] [] k3) _ = _
          rw [q_159_416, bI_s, q_169_50 (w := r4.1), i4, b0, b1, Int.toNat_natCast, k324]
          rfl
        have krT : ∀ a, 147 ≤ a → a ≤ 156 → h_mi (sI k3 158 (4 + l) ((c + rs.length : Nat) : Int)) a = h_mi hr a := fun a z1 z2 => by
          obtain ⟨g, N, hN, n1, n2, n3⟩ := rr
          rw [miI_ne _ _ _ (by omega), u4.sh.2.2.2.2.2.2 a (by omega), hN]
          show N a = _
          rw [n1 a (by omega) (by omega) (by omega) (by omega), ← hT, miI_ne _ _ _ (by omega), miI_ne _ _ _ (by omega), u1.sh.2.2.2.2.2.2 a (by omega), miI_ne _ _ _ (by omega)]
        have k37 : h_mi k3 157 = va_up (h_mi hr 157) (4 + l) (c : Int) := by
          obtain ⟨g, N, hN, n1, n2, n3⟩ := rr
          rw [u4.sh.2.2.2.2.2.2 157 (by omega), hN]
          show N 157 = _
          rw [n1 157 (by omega) (by omega) (by omega) (by omega), ← hT, miI_ne _ _ _ (by omega), miI_eq, u1.sh.2.2.2.2.2.2 157 (by omega), miI_ne _ _ _ (by omega)]
        have k38 : h_mi k3 158 = h_mi hr 158 := by
          obtain ⟨g, N, hN, n1, n2, n3⟩ := rr
          rw [u4.sh.2.2.2.2.2.2 158 (by omega), hN]
          show N 158 = _
          rw [n1 158 (by omega) (by omega) (by omega) (by omega), ← hT, miI_ne _ _ _ (by omega), miI_ne _ _ _ (by omega), u1.sh.2.2.2.2.2.2 158 (by omega), miI_ne _ _ _ (by omega)]
        have T159 : h_mi T 159 = h_mi hr 159 := by
          rw [← hT, miI_ne _ _ _ (by omega), miI_ne _ _ _ (by omega), u1.sh.2.2.2.2.2.2 159 (by omega), miI_ne _ _ _ (by omega)]
        have k39 : h_mi k3 159 = h_mi k2 159 := u4.sh.2.2.2.2.2.2 159 (by omega)
        have rs1 : 1 ≤ rs.length := m2.1
        have mt : h_mr h2 t = h_mr hc t := (kp2.2.1 t (by omega)).trans (s0.2.2.2.2.1 t (by omega))
        have mi2 : ∀ a, a ≠ 101 → a ≠ 103 → a ≠ 104 → h_mi h2 a = h_mi hc a := fun a z1 z2 z3 => by
          rw [kp2.2.2.2.1 a z1 z2 z3, miI_ne _ _ _ z2]; exact g0.mi z1 z2
        have y2 : YY hA (sI k3 158 (4 + l) ((c + rs.length : Nat) : Int)) t (c + rs.length) (fun j => if j = l then e' else e j) := by
          refine y.law hl (c' := c + rs.length) ?_ (fun i hi => ?_) ?_ (fun j hj jl => ?_) ?_ krT (fun j hj => ?_) ?_ ?_ (by omega) c2 (fun j hj => ?_) ?_ m3 ?_
          · refine ⟨⟨y.1.1.1.1, by rw [(gA t (by omega)).1]; exact fo2.1.2.1, fun i hi => ?_, fun i hi => ?_, fun i hi => ?_⟩, by omega, fun i hi => ?_⟩
            · obtain ⟨x1, x2, _⟩ := gA (t + (i + 1)) (by have := fo2.2.1; omega)
              rw [x1, x2]; exact fo2.1.2.2.1 i hi
            · rw [mA1 _ (by omega)]; exact fo2.1.2.2.2.1 i hi
            · by_cases z : i = l
              · rw [z, mA2, kdA, mrA, kdB]; exact ⟨rfl, rfl, rfl⟩
              · have lz := fo2.2.2 i hi
                have nt' : h_mr h2 t (i + 15) ≠ t := fun q => by
                  have := (fo2.1.2.2.2.2 i hi).1
                  rw [q, fo2.1.2.1] at this; omega
                rw [mA1 _ (by omega), (gA (h_mr h2 t (i + 15)) (by omega)).1, (gA (h_mr h2 t (i + 15)) (by omega)).2.2.2.2 nt', (gA (h_mr h2 t (i + 15) + 1) lz).1]
                exact fo2.1.2.2.2.2 i hi
            · by_cases z : i = l
              · rw [z, mA2]; omega
              · rw [mA1 _ (by omega)]; have := fo2.2.2 i hi; omega
          · rw [(gA (t + i) (by have := fo2.2.1; omega)).2.2.1]; exact mi2 _ (by omega) (by omega) (by omega)
          · rw [mA2]
            refine ⟨Or.inr (by omega), fun j => cs.getD j 0, ?_, fun j hj => ?_⟩
            · rw [lnB]; exact WgL.of m1 (by omega) (by omega)
            · rw [lnB] at hj
              rw [miB j hj]
              have := wr2.2 j hj
              rw [Nat.zero_add] at this
              exact this
          · have lz := fo2.2.2 j hj
            rw [mt] at lz
            obtain ⟨x1, x2, x3, _⟩ := gA (h_mr hc t (j + 15) + 1) lz
            have l0 := (y.2.2.2.1 j hj).1.1
            exact ⟨by rw [mA1 _ (by omega), mt], by rw [x2, kp2.1.2.1]; exact congrFun s0.2.1 _, by rw [x3]; exact mi2 _ (by omega) (by omega) (by omega)⟩
          · rw [(gA 103 (by omega)).2.2.1, kp2.2.2.2.2, miI_eq, up_eq]
          · rw [miI_ne _ _ _ (by omega), k37, up_ne _ _ hj, miI_eq, up_ne _ _ hj, k38]; exact ⟨rfl, rfl⟩
          · rw [miI_ne _ _ _ (by omega), k37, up_eq]
          · rw [miI_eq, up_eq]
          · rw [miI_ne _ _ _ (by omega), k39, wrr.1 j hj, T159]
          · have N7 : h_mi (sI k3 158 (4 + l) ((c + rs.length : Nat) : Int)) 157 (4 * 1 + l) = (c : Int) := by rw [miI_ne _ _ _ (by omega), k37, show 4 * 1 + l = 4 + l by omega, up_eq]
            have N8 : h_mi (sI k3 158 (4 + l) ((c + rs.length : Nat) : Int)) 158 (4 * 1 + l) = ((c + rs.length : Nat) : Int) := by rw [show 4 * 1 + l = 4 + l by omega, miI_eq, up_eq]
            have N9 : h_mi (sI k3 158 (4 + l) ((c + rs.length : Nat) : Int)) 159 = h_mi k2 159 := by rw [miI_ne _ _ _ (by omega), k39]
            unfold LR
            rw [N7, N8, N9, show ((c + rs.length : Nat) : Int) - (c : Int) = ((rs.length : Nat) : Int) by omega]
            refine Or.inr ⟨by omega, by omega, by omega, fun j => rs.getD j 0, WkL.of m2 (by omega), fun j j0 j1 => ?_⟩
            rw [show ((c : Int) + j).toNat = c + j.toNat by omega]
            exact wrr.2 j.toNat (by omega)
          · rw [miI_ne _ _ _ (by omega), u4.f (by omega) (by omega) (by omega) (by omega) (by omega) (by omega), rr.fl (by omega) (by omega) (by omega) (by omega) (by omega) (by omega), ← hT, miI_ne _ _ _ (by omega), miI_ne _ _ _ (by omega), u1.f (by omega) (by omega) (by omega) (by omega) (by omega) (by omega), miI_eq, up_ne _ _ (by omega)]
        refine Or.inr ⟨h3, _, _, _, ⟨?_, p5⟩, ⟨_, eAll, e3, cA.1⟩, wb3, ⟨?_, ?_⟩, e169, ((rdT.tr rr.rd).tr u4.rd).si (by omega) (by omega) (by show 4 ≤ 4 + l; omega) (by show 4 + l < 2 * 4; omega) _, q3, r4.sn (by omega) (by omega) _, c + rs.length, m, nm, y2.kc cA.1 g3.kp, ⟨?_, by omega, by omega⟩, ?_, ?_, ?_⟩
        · omega
        · rw [s3.2.2.1]; omega
        · rw [s3.2.2.2.1]; omega
        · rw [miI_ne _ _ _ (by omega)]; exact k324
        · rw [krT 147 (by omega) (by omega)]; exact mm
        · have n1 := (nc.qt g0)
          refine NmC.qt (h := hA) ⟨?_, fun j hj => ?_⟩ g3
          · rw [(gA 103 (by omega)).2.2.1, cr.f (by omega) (by omega), ← hS, miI_eq, up_ne _ _ (by omega), miI_eq, up_ne _ _ (by omega), g1.f (by omega), miI_eq, up_ne _ _ (by omega)]; exact n1.1
          · rw [(gA 105 (by omega)).2.2.2.1, cr.ml (by omega), ← hS]
            show h_ml h1 105 j = _
            rw [g1.sh.2.2.2.2.2 105 (by omega)]
            exact n1.2 j hj
        · refine NmR.sn (NmR.rq (h := k2) ⟨?_, fun j hj => ?_⟩ u4) (by omega) _
          · rw [rr.fl (by omega) (by omega) (by omega) (by omega) (by omega) (by omega), ← hT, miI_ne _ _ _ (by omega), miI_ne _ _ _ (by omega), u1.f (by omega) (by omega) (by omega) (by omega) (by omega) (by omega), miI_eq, up_ne _ _ (by omega)]; exact nr.1
          · rw [rr.ml (by omega), ← hT]
            show h_ml k1 150 j = _
            rw [u1.sh.2.2.2.2.2.1 150 (by omega)]
            exact nr.2 j hj
      · obtain ⟨k3, a4, f4⟩ := s_155 (⟨rt2.1, rt2.2.1⟩ : RL k2 f n p') x l2 (d + 2) (k := 1) (by omega) (by omega)
        rw [if_neg (show ¬ (tkK f n p' = 3 ∧ f (tB f n p') = 59) from sm), show fq 0 1 (tB f n p') = 1 + 16 * ((tB f n p' : Nat) : Int) from if_pos rfl] at q3
        refine Or.inl ⟨_, h3, k3, _, by omega, p5, ⟨_, eAll, e3, cA.1⟩, wb3, q3, ⟨by rw [s3.2.2.1]; omega, by rw [s3.2.2.2.1]; omega⟩, ?_, (rdT.tr rr.rd).tr f4.1.rd, f4.2⟩
        rw [sr, a3, q_159_409 (w := rt2.1), bb_df (show ¬ (tkK f n p' = 3 ∧ f (tB f n p') = 59) from sm), a4]
        show bI (run (d + 1 + 2) md_159 423 [vr 145, vi ((0 : Nat) : Int), vi 0, x3, x4, x5] [vi 0] k3) _ = _
        rw [q_159_423]
        show run (d + 3 + 1) md_169 50 [vr 145, vi (l : Int)] [vi 0] k3 = _
        rw [q_169_50 (w := f4.1.rs rt2.1)]
        rfl
  · rw [if_neg o, show fq 0 3 (tB f n p) = 3 + 16 * ((tB f n p : Nat) : Int) from if_pos rfl] at qS
    have le : ¬ h_mi hr 158 (4 + l) ≤ h_mi hr 157 (4 + l) := fun z => o (o2.mpr z)
    have we : WE S f n l (3 + 16 * ((tB f n p : Nat) : Int)) := ⟨qS.1, qS.2.1, ⟨CRel.rf S, ⟨_, p2, qS.2.2.1⟩, qS.2.2.2, by omega, by omega⟩, S7⟩
    obtain ⟨h2, e2, ce⟩ := (w_all x (show (3 + 16 * ((tB f n p : Nat) : Int)) ≠ 0 by omega) 5 0 rfl).2 (d0 + 1) S (by omega) we
    obtain ⟨p', pp, ee, c2', wb2, zz1, zz2⟩ := cf _ h2 (by omega) e2 ce
    obtain ⟨k2, a2, f2⟩ := s_155 rl x p1 (d + 3) (k := 3) (by omega) (by omega)
    refine ln_f x (by omega) (by omega) ee c2' pp wb2 zz1 zz2 (h2 := k2) ?_ f2.1.rd f2.2
    rw [v_169, q_169_0 (w := rl.1), i4, b0, b1, Int.toNat_natCast, df le, a2]
    exact q_169_24 ..
end
