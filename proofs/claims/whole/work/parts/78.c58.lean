/-! lines are read: a place on the water -/
theorem Fj.qt {t : Nat} {h h1 : HP} (j : Fj t h) (w : CSk h) (g : Qt h h1) : Fj t h1 := by
  obtain ⟨j1, j2, j3, j4, j5⟩ := j
  obtain ⟨s1, s2, _, _, s5, _⟩ := g.sh
  have mt : h_mr h1 t = h_mr h t := s5 t (by omega)
  have k6 : h_kd h 101 = 6 := (w.1 _ (List.mem_of_getElem? (i := 1) rfl)).1
  refine ⟨j1, by rw [s1]; exact j2, fun i hi => by rw [s1, s2]; exact j3 i hi, fun i hi => by rw [mt]; exact j4 i hi, fun i hi => ?_⟩
  obtain ⟨u1, u2, u3⟩ := j5 i hi
  have nn : h_mr h t (i + 15) ≠ 101 := fun z => by rw [z, k6] at u1; omega
  rw [mt, s1, s5 _ nn]
  exact ⟨u1, u2, u3⟩
section
variable {h : HP} {f : Nat → Int} {n l p t a2 : Nat} {q : Int}
/-- the grid and the row that a place is looked up in -/
def Gd (h : HP) (t a2 : Nat) (W H : Int) : Prop := Fj t h ∧ 182 ≤ t ∧ (h_mi h t 0 = W ∧ h_mi h t 1 = H) ∧ (1 ≤ W ∧ W ≤ 10 ∧ 1 ≤ H ∧ H ≤ 6) ∧ (a2 = t + 1 ∨ a2 = t + 2)
theorem Gd.qt {h1 : HP} {W H : Int} (d : Gd h t a2 W H) (w : CSk h) (g : Qt h h1) : Gd h1 t a2 W H := ⟨d.1.qt w g, d.2.1, by have z := d.2.1; rw [g.mi (a := t) (by omega) (by omega)]; exact d.2.2.1, d.2.2.2⟩
theorem Gd.kb {W H : Int} (d : Gd h t a2 W H) : isK h a2 11 = true ∧ h_ln h a2 = 60 := by
  obtain ⟨j, _, _, _, e⟩ := d
  rcases e with z | z
  · have := j.2.2.1 0 (by omega)
    rw [z]; exact ⟨isKc this.1, this.2⟩
  · have := j.2.2.1 1 (by omega)
    rw [z]; exact ⟨isKc this.1, this.2⟩
/-- what follows the two numbers -/
theorem k_81t {W H : Int} (c : CL h f n p q) (g : Gd h t a2 W H) (d : Nat) {x y : Int} (x0 : 0 ≤ x) (x1 : x < 10) (y0 : 0 ≤ y) (y1 : y < 6) {b : Nat} (b1 : b ≤ 1000) : ∃ h1, run (d + 1) md_81 32 [vr 103, vr t, vr a2, vi x, vi (b : Int), vu, vu] [vi y] h = some (vi (10 * y + x), h1) ∧ Qt h h1 ∧ CL h1 f n p (if h_mi h a2 (10 * y + x).toNat = 0 then q else fq q 3 b) := by
  have kb := g.kb
  rw [q_81_32, v_141, q_141_0, bI_s, im (by omega) (by omega), ia (by omega) (by omega), show y * 10 + x = 10 * y + x by omega, q_81_40 (w := c.1), kb.1]
  unfold inb
  rw [kb.2, dt (show 0 ≤ 10 * y + x by omega), dt (show 10 * y + x < ((60 : Nat) : Int) by omega)]
  by_cases z : h_mi h a2 (10 * y + x).toNat = 0
  · rw [dt z, if_pos z]
    refine ⟨h, ?_, Qt.rf h, c⟩
    exact q_81_56 ..
  · obtain ⟨h0, e0, g0, c0⟩ := k_84 c d (k := 3) (b := b) (by omega) (by omega) b1
    rw [df z, if_neg z, e0]
    refine ⟨h0, ?_, g0, c0⟩
    exact q_81_56 ..
theorem fq_n (q : Int) (k : Int) (b : Nat) (k0 : 1 ≤ k) (j : Int) (b' : Nat) : fq (fq q k b) j b' = fq q k b := by
  unfold fq
  by_cases z : q = 0
  · rw [if_pos z, if_neg (by omega)]
  · rw [if_neg z, if_neg z]
noncomputable def kdN (f : Nat → Int) (n p : Nat) : Int := @ite _ (tkK f n p = 2) (Classical.propDecidable _) 4 1
theorem kdN_e (f : Nat → Int) (n p : Nat) : (if tkK f n p = 2 then (4 : Int) else 1) = kdN f n p := by
  unfold kdN
  by_cases z : tkK f n p = 2
  · rw [if_pos z, if_pos z]
  · rw [if_neg z, if_neg z]
theorem kdN_b (f : Nat → Int) (n p : Nat) : 1 ≤ kdN f n p ∧ kdN f n p ≤ 4 := by
  unfold kdN
  split <;> omega
theorem k_81a {W H : Int} (c : CL h f n p q) (x : TX f n l) (p1 : p ≤ n) {D : Nat} (hD : 7 ≤ D) (g : Gd h t a2 W H) (y : ¬ nuP f n p 0 (W - 1)) : ∃ p' z h1, ev D 81 [vr 103, vr t, vr a2] h = some (vi z, h1) ∧ (p' ≤ n ∧ 0 ≤ z ∧ z < 60) ∧ Qt h h1 ∧ CL h1 f n p' (fq q (kdN f n p) (tB f n p)) := by
  obtain ⟨d, rfl⟩ : ∃ d, D = d + 1 := ⟨D - 1, by omega⟩
  obtain ⟨u1, u2, u3, u4⟩ := g.2.2.2.1
  have b := tB_b (f := f) p1
  have b2 := x.2.1
  obtain ⟨h1, e1, g1, c1⟩ := k_80n c x p1 (D := d) (by omega) y
  rw [kdN_e] at c1
  have gd1 := g.qt c.1 g1
  have i1 : i_sub W 1 = W - 1 := is_ (by omega) (by omega)
  have i2 : i_sub H 1 = H - 1 := is_ (by omega) (by omega)
  have st : ev (d + 1) 81 [vr 103, vr t, vr a2] h = bI (ev d 80 [vr 103, vi 0, vi (H - 1)] h1) fun r1 h1 => run (d + 1) md_81 32 [vr 103, vr t, vr a2, vi 0, vi ((tB f n p : Nat) : Int), vu, vu] [vi r1] h1 := by
    rw [v_81, q_81_0 (t := t) (w := c.1) (f := g.1), g.2.2.1.1, i1, e1, bI_s, q_81_11 (t := t) (w := c1.1) (f := gd1.1), gd1.2.2.1.2, i2, k_f4 c1]
  by_cases y2 : nuP f n p 0 (H - 1)
  · obtain ⟨h2, e2, g2, c2⟩ := k_80y c1 x p1 (D := d) (by omega) y2
    have gd2 := gd1.qt c1.1 g2
    obtain ⟨h3, e3, g3, c3⟩ := k_81t c2 gd2 d (x := 0) (y := tkN f n p) (by omega) (by omega) y2.2.1 (by have := y2.2.2; omega) (b := tB f n p) (by omega)
    rw [fq_n _ _ _ (kdN_b f n p).1, ite_self] at c3
    exact ⟨_, _, h3, by rw [st, e2, bI_s, e3], ⟨(tk_n p1).2.1, by have := y2.2.1; omega, by have := y2.2.2; omega⟩, (g1.tr g2).tr g3, c3⟩
  · obtain ⟨h2, e2, g2, c2⟩ := k_80n c1 x p1 (D := d) (by omega) y2
    rw [fq_n _ _ _ (kdN_b f n p).1] at c2
    have gd2 := gd1.qt c1.1 g2
    obtain ⟨h3, e3, g3, c3⟩ := k_81t c2 gd2 d (x := 0) (y := 0) (by omega) (by omega) (by omega) (by omega) (b := tB f n p) (by omega)
    rw [fq_n _ _ _ (kdN_b f n p).1, ite_self] at c3
    exact ⟨_, _, h3, by rw [st, e2, bI_s, e3], ⟨p1, by omega, by omega⟩, (g1.tr g2).tr g3, c3⟩
theorem k_81c {W H : Int} (c : CL h f n p q) (x : TX f n l) (p1 : p ≤ n) {D : Nat} (hD : 7 ≤ D) (g : Gd h t a2 W H) (y : nuP f n p 0 (W - 1)) : (¬ nuP f n (tkE f n p) 0 (H - 1) → ∃ z h1, ev D 81 [vr 103, vr t, vr a2] h = some (vi z, h1) ∧ (0 ≤ z ∧ z < 60) ∧ Qt h h1 ∧ CL h1 f n (tkE f n p) (fq q (kdN f n (tkE f n p)) (tB f n (tkE f n p)))) ∧ (nuP f n (tkE f n p) 0 (H - 1) → ∃ h1, ev D 81 [vr 103, vr t, vr a2] h = some (vi (10 * tkN f n (tkE f n p) + tkN f n p), h1) ∧ Qt h h1 ∧ CL h1 f n (tkE f n (tkE f n p)) (if h_mi h a2 (10 * tkN f n (tkE f n p) + tkN f n p).toNat = 0 then q else fq q 3 (tB f n (tkE f n p)))) := by
  obtain ⟨d, rfl⟩ : ∃ d, D = d + 1 := ⟨D - 1, by omega⟩
  obtain ⟨u1, u2, u3, u4⟩ := g.2.2.2.1
  obtain ⟨y1, y2, y3⟩ := y
  have p2 := (tk_n (f := f) p1).2.1
  have b := tB_b (f := f) p2
  have b2 := x.2.1
  obtain ⟨h1, e1, g1, c1⟩ := k_80y c x p1 (D := d) (by omega) ⟨y1, y2, y3⟩
  have gd1 := g.qt c.1 g1
  have i1 : i_sub W 1 = W - 1 := is_ (by omega) (by omega)
  have i2 : i_sub H 1 = H - 1 := is_ (by omega) (by omega)
  have st : ev (d + 1) 81 [vr 103, vr t, vr a2] h = bI (ev d 80 [vr 103, vi 0, vi (H - 1)] h1) fun r1 h1 => run (d + 1) md_81 32 [vr 103, vr t, vr a2, vi (tkN f n p), vi ((tB f n (tkE f n p) : Nat) : Int), vu, vu] [vi r1] h1 := by
    rw [v_81, q_81_0 (t := t) (w := c.1) (f := g.1), g.2.2.1.1, i1, e1, bI_s, q_81_11 (t := t) (w := c1.1) (f := gd1.1), gd1.2.2.1.2, i2, k_f4 c1]
  refine ⟨fun z => ?_, fun z => ?_⟩
  · obtain ⟨h2, e2, g2, c2⟩ := k_80n c1 x p2 (D := d) (by omega) z
    rw [kdN_e] at c2
    have gd2 := gd1.qt c1.1 g2
    obtain ⟨h3, e3, g3, c3⟩ := k_81t c2 gd2 d (x := tkN f n p) (y := 0) y2 (by omega) (by omega) (by omega) (b := tB f n (tkE f n p)) (by omega)
    rw [fq_n _ _ _ (kdN_b f n _).1, ite_self] at c3
    exact ⟨_, h3, by rw [st, e2, bI_s, e3], ⟨by omega, by omega⟩, (g1.tr g2).tr g3, c3⟩
  · obtain ⟨z1, z2, z3⟩ := z
    obtain ⟨h2, e2, g2, c2⟩ := k_80y c1 x p2 (D := d) (by omega) ⟨z1, z2, z3⟩
    have gd2 := gd1.qt c1.1 g2
    obtain ⟨h3, e3, g3, c3⟩ := k_81t c2 gd2 d (x := tkN f n p) (y := tkN f n (tkE f n p)) y2 (by omega) z2 (by omega) (b := tB f n (tkE f n p)) (by omega)
    have ta : a2 ≠ 101 ∧ a2 ≠ 103 := by have := g.2.1; have := g.2.2.2.2; omega
    rw [(g1.tr g2).mi ta.1 ta.2] at c3
    exact ⟨h3, by rw [st, e2, bI_s, e3], (g1.tr g2).tr g3, c3⟩
end
