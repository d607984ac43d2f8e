/-! lines are read: groves -/
section
variable {h : HP} {f : Nat → Int} {n l p t : Nat} {q : Int}
def wdP (f : Nat → Int) (n p : Nat) (w : Int) : Prop := tkK f n p = 1 ∧ tkW f n p = w
def vF (f : Nat → Int) (n p : Nat) (W H : Int) (row : Nat → Int) (q : Int) : Prop := (¬ nuP f n p 1 9 ∧ q = kdN f n p + 16 * ((tB f n p : Nat) : Int)) ∨ (nuP f n p 1 9 ∧ ((¬ wdP f n (tkE f n p) 47 ∧ q = 1 + 16 * ((tB f n (tkE f n p) : Nat) : Int)) ∨ (wdP f n (tkE f n p) 47 ∧ plF f n (tkE f n (tkE f n p)) W H row q)))
def vO (f : Nat → Int) (n p : Nat) (W H : Int) (row : Nat → Int) : Prop := nuP f n p 1 9 ∧ wdP f n (tkE f n p) 47 ∧ plO f n (tkE f n (tkE f n p)) W H row
theorem v_cs (f : Nat → Int) (n p : Nat) (W H : Int) (row : Nat → Int) : (∃ q, vF f n p W H row q) ∨ vO f n p W H row := by
  by_cases a : nuP f n p 1 9
  · by_cases b : wdP f n (tkE f n p) 47
    · rcases pl_c f n (tkE f n (tkE f n p)) W H row with ⟨q, c⟩ | c
      · exact Or.inl ⟨q, Or.inr ⟨a, Or.inr ⟨b, c⟩⟩⟩
      · exact Or.inr ⟨a, b, c⟩
    · exact Or.inl ⟨_, Or.inr ⟨a, Or.inl ⟨b, rfl⟩⟩⟩
  · exact Or.inl ⟨_, Or.inl ⟨a, rfl⟩⟩
/-- the cell that a grove's place names -/
noncomputable def plZ (f : Nat → Int) (n p : Nat) : Int := 10 * tkN f n (tkE f n p) + tkN f n p
theorem k_66 {W H : Int} (c : CL h f n p 0) (x : TX f n l) (p1 : p ≤ n) {D : Nat} (hD : 8 ≤ D) (g : Gd h t (t + 2) W H) : (∀ q, vF f n (tkE f n p) W H (h_mi h (t + 2)) q → ∃ p' z v h1, ev D 66 [vr 103, vr t] h = some (vr 0, sI h1 (t + 2) z v) ∧ p' ≤ n ∧ Qt h h1 ∧ CL (sI h1 (t + 2) z v) f n p' q) ∧ (vO f n (tkE f n p) W H (h_mi h (t + 2)) → ∃ h1, ev D 66 [vr 103, vr t] h = some (vr 0, sI h1 (t + 2) (plZ f n (tkE f n (tkE f n (tkE f n p)))).toNat (tkN f n (tkE f n p))) ∧ Qt h h1 ∧ CL (sI h1 (t + 2) (plZ f n (tkE f n (tkE f n (tkE f n p)))).toNat (tkN f n (tkE f n p))) f n (tkE f n (tkE f n (tkE f n (tkE f n (tkE f n p))))) 0) := by
  obtain ⟨d, rfl⟩ : ∃ d, D = d + 1 := ⟨D - 1, by omega⟩
  have p2 := (tk_n (f := f) p1).2.1
  have p3 := (tk_n (f := f) p2).2.1
  have p4 := (tk_n (f := f) p3).2.1
  have t2 := g.2.1
  have f0 : ∀ (k : Int) (b : Nat), fq 0 k b = k + 16 * (b : Int) := fun k b => if_pos rfl
  obtain ⟨h1, e1, g1, c1⟩ := k_89 c x p1 (D := d) (by omega)
  have gd1 := g.qt c.1 g1
  -- from the two values on
  have st : ∀ (h2 h3 h4 : HP) (v z : Int), ev d 80 [vr 103, vi 1, vi 9] h1 = some (vi v, h2) → ev d 78 [vr 103, vr 5] h2 = some (vr 0, h3) → ev d 81 [vr 103, vr t, vr (t + 2)] h3 = some (vi z, h4) → CSk h2 → CSk h3 → Fj t h3 → Fj t h4 → 0 ≤ z → z < 60 → ev (d + 1) 66 [vr 103, vr t] h = some (vr 0, sI h4 (t + 2) z.toNat v) := fun h2 h3 h4 v z a b e w2 w3 j3 j4 z0 z1 => by
    rw [v_66, q_66_0 (t := t) (w := c.1), e1, bV_s, q_66_7 (t := t) (w := c1.1), a, bI_s, q_66_14 (t := t) (w := w2), b, bV_s, q_66_22 (t := t) (w := w3) (f := j3), e, bI_s, q_66_31 (t := t) (f := j4), dt z0, dt z1]
    rfl
  refine ⟨fun q vf => ?_, fun ⟨a, b, e⟩ => ?_⟩
  · rcases vf with ⟨a, rfl⟩ | ⟨a, vf⟩
    · obtain ⟨h2, e2, g2, c2⟩ := k_80n c1 x p2 (D := d) (by omega) a
      rw [kdN_e, f0] at c2
      have q0 : kdN f n (tkE f n p) + 16 * ((tB f n (tkE f n p) : Nat) : Int) ≠ 0 := by have := (kdN_b f n (tkE f n p)).1; omega
      obtain ⟨h3, e3, g3, c3⟩ := k_78 c2 x p2 (D := d) (by omega) (a := 4) (by omega)
      rw [fq_q q0, ite_self] at c3
      have gd3 := (gd1.qt c1.1 g2).qt c2.1 g3
      obtain ⟨p', z, h4, e4, ⟨z1, z2, z3⟩, g4, c4⟩ := k_81w c3 q0 x p3 (D := d) (by omega) gd3
      exact ⟨p', z.toNat, 1, h4, st h2 h3 h4 1 z e2 e3 e4 c2.1 c3.1 gd3.1 (gd3.qt c3.1 g4).1 z2 z3, z1, ((g1.tr g2).tr g3).tr g4, c4.sn (by omega) _⟩
    · obtain ⟨h2, e2, g2, c2⟩ := k_80y c1 x p2 (D := d) (by omega) a
      obtain ⟨h3, e3, g3, c3⟩ := k_78 c2 x p3 (D := d) (by omega) (a := 4) (by omega)
      have gd3 := (gd1.qt c1.1 g2).qt c2.1 g3
      have g123 := (g1.tr g2).tr g3
      rcases vf with ⟨b, rfl⟩ | ⟨b, pf⟩
      · rw [if_neg (show ¬ (tkK f n (tkE f n (tkE f n p)) = 1 ∧ tkW f n (tkE f n (tkE f n p)) = sml (4 + 1)) from b), f0] at c3
        obtain ⟨p', z, h4, e4, ⟨z1, z2, z3⟩, g4, c4⟩ := k_81w c3 (by omega) x p4 (D := d) (by omega) gd3
        exact ⟨p', z.toNat, _, h4, st h2 h3 h4 _ z e2 e3 e4 c2.1 c3.1 gd3.1 (gd3.qt c3.1 g4).1 z2 z3, z1, g123.tr g4, c4.sn (by omega) _⟩
      · rw [if_pos (show tkK f n (tkE f n (tkE f n p)) = 1 ∧ tkW f n (tkE f n (tkE f n p)) = sml (4 + 1) from b)] at c3
        have k8 := k_81 c3 x p4 (D := d) (by omega) gd3
        rw [g123.mi (a := t + 2) (by omega) (by omega)] at k8
        obtain ⟨p', z, h4, e4, ⟨z1, z2, z3⟩, g4, c4⟩ := k8.1 q pf
        exact ⟨p', z.toNat, _, h4, st h2 h3 h4 _ z e2 e3 e4 c2.1 c3.1 gd3.1 (gd3.qt c3.1 g4).1 z2 z3, z1, g123.tr g4, c4.sn (by omega) _⟩
  · obtain ⟨h2, e2, g2, c2⟩ := k_80y c1 x p2 (D := d) (by omega) a
    obtain ⟨h3, e3, g3, c3⟩ := k_78 c2 x p3 (D := d) (by omega) (a := 4) (by omega)
    have gd3 := (gd1.qt c1.1 g2).qt c2.1 g3
    have g123 := (g1.tr g2).tr g3
    rw [if_pos (show tkK f n (tkE f n (tkE f n p)) = 1 ∧ tkW f n (tkE f n (tkE f n p)) = sml (4 + 1) from b)] at c3
    have k8 := k_81 c3 x p4 (D := d) (by omega) gd3
    rw [g123.mi (a := t + 2) (by omega) (by omega)] at k8
    obtain ⟨h4, e4, g4, c4⟩ := k8.2 e
    obtain ⟨u1, u2, u3, u4⟩ := g.2.2.2.1
    have ax := e.1.2; have bx := e.2.1.2
    have r := st h2 h3 h4 _ _ e2 e3 e4 c2.1 c3.1 gd3.1 (gd3.qt c3.1 g4).1 (by omega) (by omega)
    exact ⟨h4, r, g123.tr g4, c4.sn (by omega) _⟩
theorem s_173 {W H : Int} {row : Nat → Int} (r : RL h f n p) (x : TX f n l) (p1 : p ≤ n) (d : Nat) (g : GdR h W H) (hr : ∀ j, j < 60 → row j = h_mi h 149 (60 + j) ∧ 0 ≤ row j) : (∀ q, vF f n (tkE f n p) W H row q → ∃ h1, ev (d + 4) 173 [vr 145] h = some (vi 0, h1) ∧ RF h h1 q) ∧ (vO f n (tkE f n p) W H row → ∃ h1, RQ h h1 ∧ RL h1 f n (tkE f n (tkE f n (tkE f n (tkE f n (tkE f n p))))) ∧ ev (d + 4) 173 [vr 145] h = bI (ev (d + 3) 168 [vr 145] (sI h1 149 (60 + (plZ f n (tkE f n (tkE f n (tkE f n p)))).toNat) (tkN f n (tkE f n p)))) fun r1 h1 => run (d + 3 + 1) md_173 55 [vr 145, vi (tkN f n (tkE f n p))] [vi r1] h1) := by
  have p2 := (tk_n (f := f) p1).2.1
  have p3 := (tk_n (f := f) p2).2.1
  have p4 := (tk_n (f := f) p3).2.1
  obtain ⟨h1, e1, g1, r1, _⟩ := s_152 r x p1 (d + 2)
  have st1 : ev (d + 4) 173 [vr 145] h = bI (ev (d + 3) 166 [vr 145, vi 1, vi 9] h1) fun r1 h1 => run (d + 3 + 1) md_173 11 [vr 145, vu] [vi r1] h1 := by
    rw [v_173, q_173_0 (w := r.1), e1, bV_s, q_173_4 (w := r1.1)]
  have st2 : nuP f n (tkE f n p) 1 9 → ∃ h2, RQ h h2 ∧ RL h2 f n (tkE f n (tkE f n p)) ∧ ev (d + 4) 173 [vr 145] h = bI (ev (d + 3) 167 [vr 145, vl 47] h2) fun r1 h1 => run (d + 3 + 1) md_173 28 [vr 145, vi (tkN f n (tkE f n p))] [vi r1] h1 := fun a => by
    obtain ⟨h2, e2, g2, r2, m2⟩ := s_166y r1 x p2 (d + 1) a
    refine ⟨h2, g1.tr g2, r2, ?_⟩
    rw [st1, e2, bI_s, q_173_11 (w := r2.1), m2]; rfl
  have st3 : nuP f n (tkE f n p) 1 9 → wdP f n (tkE f n (tkE f n p)) 47 → ∃ h3, RQ h h3 ∧ RL h3 f n (tkE f n (tkE f n (tkE f n p))) ∧ ev (d + 4) 173 [vr 145] h = bI (ev (d + 3) 171 [vr 145, vi 1] h3) fun r1 h1 => run (d + 3 + 1) md_173 36 [vr 145, vi (tkN f n (tkE f n p))] [vi r1] h1 := fun a b => by
    obtain ⟨h2, g2, r2, e2⟩ := st2 a
    obtain ⟨h3, e3, g3, r3⟩ := s_167y r2 x p3 (d + 1) b
    refine ⟨h3, g2.tr g3, r3, ?_⟩
    rw [e2, e3, bI_s, q_173_28 (w := r3.1)]; rfl
  have s171 : ∀ h3, RQ h h3 → RL h3 f n (tkE f n (tkE f n (tkE f n p))) → _ := fun h3 (g3 : RQ h h3) (r3 : RL h3 f n (tkE f n (tkE f n (tkE f n p)))) => s_171 (row := row) (W := W) (H := H) r3 x p4 d 1 ⟨by rw [g3.sh.2.2.2.2.2.2 147 (by omega)]; exact g.1, g.2⟩ (fun j hj => by rw [if_neg (by omega), g3.sh.2.2.2.2.2.2 149 (by omega)]; exact hr j hj)
  refine ⟨fun q vf => ?_, fun ⟨a, b, e⟩ => ?_⟩
  · rcases vf with ⟨a, rfl⟩ | ⟨a, ⟨b, rfl⟩ | ⟨b, pf⟩⟩
    · obtain ⟨h2, e2, f2⟩ := s_166n r1 x p2 (d + 1) a
      rw [kdN_e] at f2
      refine ⟨h2, ?_, RF.tr g1 f2⟩
      rw [st1, e2, bI_s, q_173_11 (w := f2.1.rs r1.1)]; rfl
    · obtain ⟨h2, g2, r2, e2⟩ := st2 a
      obtain ⟨h3, e3, f3⟩ := s_167n r2 x p3 (d + 1) b
      refine ⟨h3, ?_, RF.tr g2 f3⟩
      rw [e2, e3, bI_s, q_173_28 (w := f3.1.rs r2.1)]; rfl
    · obtain ⟨h3, g3, r3, e3⟩ := st3 a b
      obtain ⟨h4, e4, f4⟩ := (s171 h3 g3 r3).1 q pf
      refine ⟨h4, ?_, RF.tr g3 f4⟩
      rw [e3, e4, bI_s, q_173_36 (w := f4.1.rs r3.1)]; rfl
  · obtain ⟨h3, g3, r3, e3⟩ := st3 a b
    obtain ⟨h4, e4, g4, r4, m4⟩ := (s171 h3 g3 r3).2 e
    obtain ⟨_, u1, u2, u3, u4⟩ := g
    have ax := e.1.2; have bx := e.2.1.2
    have m4 : h_mi h4 145 39 = 60 + plZ f n (tkE f n (tkE f n (tkE f n p))) := m4
    have zb0 : 0 ≤ plZ f n (tkE f n (tkE f n (tkE f n p))) ∧ plZ f n (tkE f n (tkE f n (tkE f n p))) < 60 := by unfold plZ; omega
    refine ⟨h4, g3.tr g4, r4, ?_⟩
    rw [e3, e4, bI_s, q_173_36 (w := r4.1), m4, dt (show 0 ≤ 60 + plZ f n (tkE f n (tkE f n (tkE f n p))) by omega), dt (show 60 + plZ f n (tkE f n (tkE f n (tkE f n p))) < 360 by omega), show (60 + plZ f n (tkE f n (tkE f n (tkE f n p)))).toNat = 60 + (plZ f n (tkE f n (tkE f n (tkE f n p)))).toNat by omega]
    rfl
end
