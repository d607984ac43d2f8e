/-! lines are read: ground -/
section
variable {h : HP} {f : Nat → Int} {n l p t : Nat} {q : Int}
theorem fq_q (q0 : q ≠ 0) (k : Int) (b : Nat) : fq q k b = q := if_neg q0
/-- after a fault, a place is read on -/
theorem k_81w {a2 : Nat} {W H : Int} (c : CL h f n p q) (q0 : q ≠ 0) (x : TX f n l) (p1 : p ≤ n) {D : Nat} (hD : 7 ≤ D) (g : Gd h t a2 W H) : ∃ p' z h1, ev D 81 [vr 103, vr t, vr a2] h = some (vi z, h1) ∧ (p' ≤ n ∧ 0 ≤ z ∧ z < 60) ∧ Qt h h1 ∧ CL h1 f n p' q := by
  have p2 := (tk_n (f := f) p1).2.1
  have p3 := (tk_n (f := f) p2).2.1
  obtain ⟨u1, u2, u3, u4⟩ := g.2.2.2.1
  by_cases a : nuP f n p 0 (W - 1)
  · by_cases b : nuP f n (tkE f n p) 0 (H - 1)
    · obtain ⟨h1, e1, g1, c1⟩ := (k_81c c x p1 hD g a).2 b
      rw [fq_q q0, ite_self] at c1
      have ax := a.2; have bx := b.2
      exact ⟨_, _, h1, e1, ⟨p3, by omega, by omega⟩, g1, c1⟩
    · obtain ⟨z, h1, e1, z1, g1, c1⟩ := (k_81c c x p1 hD g a).1 b
      rw [fq_q q0] at c1
      exact ⟨_, z, h1, e1, ⟨p2, z1⟩, g1, c1⟩
  · have := k_81a c x p1 hD g a
    rw [fq_q q0] at this
    exact this
theorem Gd.a1 {W H : Int} {a2 : Nat} (g : Gd h t a2 W H) : 182 ≤ a2 := by
  have := g.2.1; have := g.2.2.2.2; omega
/-- a line of ground, class -/
theorem k_65 {W H : Int} (c : CL h f n p 0) (x : TX f n l) (p1 : p ≤ n) {D : Nat} (hD : 8 ≤ D) (g : Gd h t (t + 1) W H) (v : Int) : (∀ q, plF f n (tkE f n p) W H (h_mi h (t + 1)) q → ∃ p' z h1, ev D 65 [vr 103, vr t, vi v] h = some (vr 0, sI h1 (t + 1) z v) ∧ p' ≤ n ∧ Qt h h1 ∧ CL (sI h1 (t + 1) z v) f n p' q) ∧ (plO f n (tkE f n p) W H (h_mi h (t + 1)) → ∃ h1, ev D 65 [vr 103, vr t, vi v] h = some (vr 0, sI h1 (t + 1) (10 * tkN f n (tkE f n (tkE f n p)) + tkN f n (tkE f n p)).toNat v) ∧ Qt h h1 ∧ CL (sI h1 (t + 1) (10 * tkN f n (tkE f n (tkE f n p)) + tkN f n (tkE f n p)).toNat v) f n (tkE f n (tkE f n (tkE f n p))) 0) := by
  obtain ⟨d, rfl⟩ : ∃ d, D = d + 1 := ⟨D - 1, by omega⟩
  have p2 := (tk_n (f := f) p1).2.1
  have t2 := g.2.1
  obtain ⟨h1, e1, g1, c1⟩ := k_89 c x p1 (D := d) (by omega)
  have gd1 := g.qt c.1 g1
  have rowe : h_mi h1 (t + 1) = h_mi h (t + 1) := g1.mi (by omega) (by omega)
  have k8 := k_81 c1 x p2 (D := d) (by omega) gd1
  rw [rowe] at k8
  have st : ∀ h2 z, ev d 81 [vr 103, vr t, vr (t + 1)] h1 = some (vi z, h2) → 0 ≤ z → z < 60 → Fj t h2 → ev (d + 1) 65 [vr 103, vr t, vi v] h = some (vr 0, sI h2 (t + 1) z.toNat v) := fun h2 z e z0 z1 j => by
    rw [v_65, q_65_0 (t := t) (w := c.1), e1, bV_s, q_65_7 (t := t) (w := c1.1) (f := gd1.1), e, bI_s, q_65_16 (t := t) (f := j), dt z0, dt z1]
    rfl
  refine ⟨fun q pf => ?_, fun po => ?_⟩
  · obtain ⟨p', z, h2, e2, ⟨z1, z2, z3⟩, g2, c2⟩ := k8.1 q pf
    exact ⟨p', z.toNat, h2, st h2 z e2 z2 z3 (gd1.qt c1.1 g2).1, z1, g1.tr g2, c2.sn (by omega) _⟩
  · obtain ⟨h2, e2, g2, c2⟩ := k8.2 po
    obtain ⟨u1, u2, u3, u4⟩ := g.2.2.2.1
    have ax := po.1.2; have bx := po.2.1.2
    exact ⟨h2, st h2 _ e2 (by omega) (by omega) (gd1.qt c1.1 g2).1, g1.tr g2, c2.sn (by omega) _⟩
theorem RL.sn (r : RL h f n p) {a j : Nat} (ha : a ≠ 145) (hb : a ≠ 146) (v : Int) : RL (sI h a j v) f n p := ⟨r.1, r.2.si hb (Or.inl ha)⟩
/-- a line of ground, reference -/
theorem s_172 {W H : Int} {row : Nat → Int} (r : RL h f n p) (x : TX f n l) (p1 : p ≤ n) (d : Nat) (v : Int) (g : GdR h W H) (hr : ∀ j, j < 60 → row j = h_mi h 148 (60 + j) ∧ 0 ≤ row j) : (∀ q, plF f n (tkE f n p) W H row q → ∃ h1, ev (d + 4) 172 [vr 145, vi v] h = some (vi 0, h1) ∧ RF h h1 q) ∧ (plO f n (tkE f n p) W H row → ∃ h1, RQ h h1 ∧ ((tkK f n (tkE f n (tkE f n (tkE f n p))) = 3 ∧ f (tB f n (tkE f n (tkE f n (tkE f n p)))) = 59 → ∃ h2, ev (d + 4) 172 [vr 145, vi v] h = some (vi 1, h2) ∧ RQ (sI h1 148 (60 + (10 * tkN f n (tkE f n (tkE f n p)) + tkN f n (tkE f n p)).toNat) v) h2 ∧ RL h2 f n (tkE f n (tkE f n (tkE f n (tkE f n p))))) ∧ (¬ (tkK f n (tkE f n (tkE f n (tkE f n p))) = 3 ∧ f (tB f n (tkE f n (tkE f n (tkE f n p)))) = 59) → ∃ h2, ev (d + 4) 172 [vr 145, vi v] h = some (vi 0, h2) ∧ RF (sI h1 148 (60 + (10 * tkN f n (tkE f n (tkE f n p)) + tkN f n (tkE f n p)).toNat) v) h2 (1 + 16 * ((tB f n (tkE f n (tkE f n (tkE f n p))) : Nat) : Int))))) := by
  have p2 := (tk_n (f := f) p1).2.1
  have p3 := (tk_n (f := f) p2).2.1
  have p4 := (tk_n (f := f) p3).2.1
  obtain ⟨h1, e1, g1, r1, _⟩ := s_152 r x p1 (d + 2)
  have m7 := g1.sh.2.2.2.2.2.2 147 (by omega)
  have gd1 : GdR h1 W H := ⟨by rw [m7]; exact g.1, g.2⟩
  have s1 := s_171 (row := row) r1 x p2 d 0 gd1 (fun j hj => by rw [if_pos rfl, g1.sh.2.2.2.2.2.2 148 (by omega)]; exact hr j hj)
  refine ⟨fun q pf => ?_, fun po => ?_⟩
  · obtain ⟨h2, e2, f2⟩ := s1.1 q pf
    refine ⟨h2, ?_, RF.tr g1 f2⟩
    rw [v_172, q_172_0 (w := r.1), e1, bV_s, q_172_4 (w := r1.1), e2, bI_s, q_172_9 (w := f2.1.rs r1.1)]
    rfl
  · obtain ⟨h2, e2, g2, r2, m2⟩ := s1.2 po
    obtain ⟨_, u1, u2, u3, u4⟩ := g
    have ax := po.1.2; have bx := po.2.1.2
    have r3 := r2.sn (a := 148) (j := 60 + (10 * tkN f n (tkE f n (tkE f n p)) + tkN f n (tkE f n p)).toNat) (by omega) (by omega) v
    have st : ev (d + 4) 172 [vr 145, vi v] h = bI (ev (d + 3) 168 [vr 145] (sI h2 148 (60 + (10 * tkN f n (tkE f n (tkE f n p)) + tkN f n (tkE f n p)).toNat) v)) fun r1 h1 => run (d + 3 + 1) md_172 28 [vr 145, vi v] [vi r1] h1 := by
      rw [v_172, q_172_0 (w := r.1), e1, bV_s, q_172_4 (w := r1.1), e2, bI_s, q_172_9 (w := r2.1), m2, dt (show 0 ≤ 60 + (10 * tkN f n (tkE f n (tkE f n p)) + tkN f n (tkE f n p)) by omega), dt (show 60 + (10 * tkN f n (tkE f n (tkE f n p)) + tkN f n (tkE f n p)) < 360 by omega), show (60 + (10 * tkN f n (tkE f n (tkE f n p)) + tkN f n (tkE f n p))).toNat = 60 + (10 * tkN f n (tkE f n (tkE f n p)) + tkN f n (tkE f n p)).toNat by omega]
      rfl
    refine ⟨h2, g1.tr g2, fun y => ?_, fun y => ?_⟩
    · obtain ⟨h4, e4, g4, r4⟩ := s_168y r3 x p4 (d + 1) y
      refine ⟨h4, ?_, g4, r4⟩
      rw [st, e4, bI_s, q_172_28]; rfl
    · obtain ⟨h4, e4, f4⟩ := s_168n r3 x p4 (d + 1) y
      refine ⟨h4, ?_, f4⟩
      rw [st, e4, bI_s, q_172_28]; rfl
end
