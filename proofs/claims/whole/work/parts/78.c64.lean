/-! lines are read: piers, the class -/
def pr4 (h : HP) (t m : Nat) (a b c : Int) : HP := sI (sI (sI (sI h (t + 3) m a) (t + 4) m b) (t + 5) m c) t 12 ((m + 1 : Nat) : Int)
theorem k_19 {h : HP} {t m : Nat} (j : Fj t h) (e : h_mi h t 12 = (m : Int)) (m6 : m < 6) (d : Nat) (a b c : Int) : ev d 19 [vr t, vi a, vi b, vi c] h = some (vr 0, pr4 h t m a b c) := by
  rw [v_19, q_19_0 (t := t) (f := j), e, df (show ¬ 6 ≤ (m : Int) by omega), dt (show 0 ≤ (m : Int) by omega), dt (show (m : Int) < 6 by omega), Int.toNat_natCast, ia (by omega) (by omega)]
  rfl
section
variable {h : HP} {f : Nat → Int} {n l p t : Nat} {q : Int}
theorem CL.p4 (c : CL h f n p q) (ht : 182 ≤ t) (m : Nat) (a b e : Int) : CL (pr4 h t m a b e) f n p q := (((c.sn (by omega) a).sn (by omega) b).sn (by omega) e).sn (by omega) _
theorem Fj.qn {h1 : HP} (j : Fj t h) (w : CSk h) (g : Qn h h1) : Fj t h1 := by
  obtain ⟨h0, g0, e | ⟨m, v, u, e⟩⟩ := g
  · subst e; exact j.qt w g0
  · have j1 : Fj t h0 := j.qt w g0
    have j0 : Fj t (sI (sL h0 105 m v) 103 5 u) := j1
    have w1 : CSk h0 := g0.cs w
    have w0 : CSk (sI (sL h0 105 m v) 103 5 u) := w1
    exact j0.qt w0 e
/-- what a pier's line may have wrong, from its name on -/
def prF (f : Nat → Int) (n p : Nat) (nm : Nat → Int) (m : Nat) (q : Int) : Prop := (¬ nmP f n p ∧ q = 1 + 16 * ((tB f n p : Nat) : Int)) ∨ (nmP f n p ∧ dpN nm m (tkW f n p) ∧ q = 3 + 16 * ((tB f n p : Nat) : Int)) ∨ (nmP f n p ∧ ¬ dpN nm m (tkW f n p) ∧ ((¬ 0 ≤ gw f n (tkE f n p) 2 ∧ q = 1 + 16 * ((tB f n (tkE f n p) : Nat) : Int)) ∨ (0 ≤ gw f n (tkE f n p) 2 ∧ ((¬ 0 ≤ gw f n (tkE f n (tkE f n p)) 3 ∧ q = 1 + 16 * ((tB f n (tkE f n (tkE f n p)) : Nat) : Int)) ∨ (0 ≤ gw f n (tkE f n (tkE f n p)) 3 ∧ ((¬ wdP f n (tkE f n (tkE f n (tkE f n p))) 8529643 ∧ q = 1 + 16 * ((tB f n (tkE f n (tkE f n (tkE f n p))) : Nat) : Int)) ∨ (wdP f n (tkE f n (tkE f n (tkE f n p))) 8529643 ∧ ¬ nuP f n (tkE f n (tkE f n (tkE f n (tkE f n p)))) 0 99 ∧ q = kdN f n (tkE f n (tkE f n (tkE f n (tkE f n p)))) + 16 * ((tB f n (tkE f n (tkE f n (tkE f n (tkE f n p)))) : Nat) : Int))))))))
def prO (f : Nat → Int) (n p : Nat) (nm : Nat → Int) (m : Nat) : Prop := nmP f n p ∧ ¬ dpN nm m (tkW f n p) ∧ 0 ≤ gw f n (tkE f n p) 2 ∧ 0 ≤ gw f n (tkE f n (tkE f n p)) 3 ∧ wdP f n (tkE f n (tkE f n (tkE f n p))) 8529643 ∧ nuP f n (tkE f n (tkE f n (tkE f n (tkE f n p)))) 0 99
theorem k_67 {m k : Nat} {nm : Nat → Int} (c : CL h f n p 0) (x : TX f n l) (p1 : p ≤ n) {D : Nat} (hD : 8 ≤ D) (j : Fj t h) (ht : 182 ≤ t) (hm : h_mi h t 12 = (k : Int)) (k6 : k < 6) (m1 : m ≤ 12) (nc : NmC h m nm) : (∀ q, prF f n (tkE f n p) nm m q → ∃ p' h1 a b e, ev D 67 [vr 103, vr t] h = some (vr 0, pr4 h1 t k a b e) ∧ p' ≤ n ∧ Qn h h1 ∧ CL (pr4 h1 t k a b e) f n p' q) ∧ (prO f n (tkE f n p) nm m → ∃ h1, ev D 67 [vr 103, vr t] h = some (vr 0, pr4 h1 t k (gw f n (tkE f n (tkE f n p)) 2) (gw f n (tkE f n (tkE f n (tkE f n p))) 3) (tkN f n (tkE f n (tkE f n (tkE f n (tkE f n (tkE f n p))))))) ∧ Qn h h1 ∧ CL (pr4 h1 t k (gw f n (tkE f n (tkE f n p)) 2) (gw f n (tkE f n (tkE f n (tkE f n p))) 3) (tkN f n (tkE f n (tkE f n (tkE f n (tkE f n (tkE f n p))))))) f n (tkE f n (tkE f n (tkE f n (tkE f n (tkE f n (tkE f n p)))))) 0 ∧ NmC h1 (m + 1) (va_up nm m (tkW f n (tkE f n p)))) := by
  obtain ⟨d, rfl⟩ : ∃ d, D = d + 1 := ⟨D - 1, by omega⟩
  have p2 := (tk_n (f := f) p1).2.1
  have p3 := (tk_n (f := f) p2).2.1
  have p4 := (tk_n (f := f) p3).2.1
  have p5 := (tk_n (f := f) p4).2.1
  have p6 := (tk_n (f := f) p5).2.1
  have f0 : ∀ (k : Int) (b : Nat), fq 0 k b = k + 16 * (b : Int) := fun k b => if_pos rfl
  obtain ⟨h1, e1, g1, c1⟩ := k_89 c x p1 (D := d) (by omega)
  have k8 := k_83 c1 x p2 (D := d) (by omega) m1 (nc.qt g1)
  have st : ∀ (h2 h3 h4 h5 h6 : HP) (a b e : Int), ev d 83 [vr 103] h1 = some (vr 0, h2) → ev d 82 [vr 103, vi 2] h2 = some (vi a, h3) → ev d 82 [vr 103, vi 3] h3 = some (vi b, h4) → ev d 78 [vr 103, vr 7] h4 = some (vr 0, h5) → ev d 80 [vr 103, vi 0, vi 99] h5 = some (vi e, h6) → CSk h2 → CSk h3 → CSk h4 → CSk h5 → Qn h h6 → ev (d + 1) 67 [vr 103, vr t] h = some (vr 0, pr4 h6 t k a b e) := fun h2 h3 h4 h5 h6 a b e r1 r2 r3 r4 r5 w2 w3 w4 w5 g6 => by
    have j6 := j.qn c.1 g6
    have m6 : h_mi h6 t 12 = (k : Int) := by rw [g6.mi (b := t) (by omega) (by omega)]; exact hm
    rw [v_67, q_67_0 (t := t) (w := c.1) (f := j), hm, dt (show (k : Int) < 6 by omega), e1]
    show run (d + 1) md_67 29 [vr 103, vr t, vu, vu] [] h1 = _
    rw [q_67_29 (t := t) (w := c1.1), r1, bV_s, q_67_33 (t := t) (w := w2), r2, bI_s, q_67_38 (t := t) (w := w3), r3, bI_s, q_67_44 (t := t) (w := w4), r4, bV_s, q_67_52 (t := t) (w := w5), r5, bI_s, q_67_62 (t := t) (f := j6), k_19 j6 m6 k6, bV_s, q_67_65]
  -- after a fault
  have w80 : ∀ (h2 h3 h4 h5 : HP) (a b : Int) (p' : Nat) (q : Int), q ≠ 0 → ev d 83 [vr 103] h1 = some (vr 0, h2) → ev d 82 [vr 103, vi 2] h2 = some (vi a, h3) → ev d 82 [vr 103, vi 3] h3 = some (vi b, h4) → ev d 78 [vr 103, vr 7] h4 = some (vr 0, h5) → CSk h2 → CSk h3 → CSk h4 → Qn h h5 → p' ≤ n → CL h5 f n p' q → ∃ p' h1 a b e, ev (d + 1) 67 [vr 103, vr t] h = some (vr 0, pr4 h1 t k a b e) ∧ p' ≤ n ∧ Qn h h1 ∧ CL (pr4 h1 t k a b e) f n p' q := fun h2 h3 h4 h5 a b p' q q0 r1 r2 r3 r4 w2 w3 w4 g5 pp c5 => by
    obtain ⟨p7, v, h6, r5, p8, g6, c6⟩ := k_80w c5 q0 x pp (D := d) (by omega) 0 99
    exact ⟨p7, h6, a, b, v, st h2 h3 h4 h5 h6 a b v r1 r2 r3 r4 r5 w2 w3 w4 c5.1 (g5.qt g6), p8, g5.qt g6, c6.p4 ht _ _ _ _⟩
  have w78 : ∀ (h2 h3 h4 : HP) (a b : Int) (p' : Nat) (q : Int), q ≠ 0 → ev d 83 [vr 103] h1 = some (vr 0, h2) → ev d 82 [vr 103, vi 2] h2 = some (vi a, h3) → ev d 82 [vr 103, vi 3] h3 = some (vi b, h4) → CSk h2 → CSk h3 → Qn h h4 → p' ≤ n → CL h4 f n p' q → ∃ p' h1 a b e, ev (d + 1) 67 [vr 103, vr t] h = some (vr 0, pr4 h1 t k a b e) ∧ p' ≤ n ∧ Qn h h1 ∧ CL (pr4 h1 t k a b e) f n p' q := fun h2 h3 h4 a b p' q q0 r1 r2 r3 w2 w3 g4 pp c4 => by
    obtain ⟨h5, r4, g5, c5⟩ := k_78w c4 q0 x pp (D := d) (by omega) (a := 6) (by omega)
    exact w80 h2 h3 h4 h5 a b _ q q0 r1 r2 r3 r4 w2 w3 c4.1 (g4.qt g5) (tk_n pp).2.1 c5
  have w3 : ∀ (h2 h3 : HP) (a : Int) (p' : Nat) (q : Int), q ≠ 0 → ev d 83 [vr 103] h1 = some (vr 0, h2) → ev d 82 [vr 103, vi 2] h2 = some (vi a, h3) → CSk h2 → Qn h h3 → p' ≤ n → CL h3 f n p' q → ∃ p' h1 a b e, ev (d + 1) 67 [vr 103, vr t] h = some (vr 0, pr4 h1 t k a b e) ∧ p' ≤ n ∧ Qn h h1 ∧ CL (pr4 h1 t k a b e) f n p' q := fun h2 h3 a p' q q0 r1 r2 w2 g3 pp c3 => by
    obtain ⟨p7, b, h4, r3, p8, g4, c4⟩ := k_82w c3 q0 x pp (D := d) (by omega) (g := 3) (by omega)
    exact w78 h2 h3 h4 a b _ q q0 r1 r2 r3 w2 c3.1 (g3.qt g4) p8 c4
  have w2 : ∀ (h2 : HP) (p' : Nat) (q : Int), q ≠ 0 → ev d 83 [vr 103] h1 = some (vr 0, h2) → Qn h h2 → p' ≤ n → CL h2 f n p' q → ∃ p' h1 a b e, ev (d + 1) 67 [vr 103, vr t] h = some (vr 0, pr4 h1 t k a b e) ∧ p' ≤ n ∧ Qn h h1 ∧ CL (pr4 h1 t k a b e) f n p' q := fun h2 p' q q0 r1 g2 pp c2 => by
    obtain ⟨p7, a, h3, r2, p8, g3, c3⟩ := k_82w c2 q0 x pp (D := d) (by omega) (g := 2) (by omega)
    exact w3 h2 h3 a _ q q0 r1 r2 c2.1 (g2.qt g3) p8 c3
  have qn : ∀ {h2 : HP}, Qn h1 h2 → Qn h h2 := fun {h2} g => by
    obtain ⟨h0, g0, e⟩ := g
    exact ⟨h0, g1.tr g0, e⟩
  refine ⟨fun q pf => ?_, fun ⟨a, b, s2, s3, s4, s5⟩ => ?_⟩
  · rcases pf with ⟨a, rfl⟩ | ⟨a, b, rfl⟩ | ⟨a, b, pf⟩
    · obtain ⟨h2, r1, g2, c2⟩ := k8.1 a
      rw [f0] at c2
      exact w2 h2 _ _ (by omega) r1 (qn g2) p2 c2
    · obtain ⟨h2, r1, g2, c2⟩ := k8.2.1 a b
      rw [f0] at c2
      exact w2 h2 _ _ (by omega) r1 (qn g2) p3 c2
    · obtain ⟨h2, r1, g2, c2, _⟩ := k8.2.2 a b
      have kg := k_82 c2 x p3 (D := d) (by omega) (g := 2) (by omega)
      rcases pf with ⟨a, rfl⟩ | ⟨a, pf⟩
      · obtain ⟨h3, r2, g3, c3⟩ := kg.2 a
        rw [f0] at c3
        exact w3 h2 h3 _ _ _ (by omega) r1 r2 c2.1 ((qn g2).qt g3) p3 c3
      · obtain ⟨h3, r2, g3, c3⟩ := kg.1 a
        have kh := k_82 c3 x p4 (D := d) (by omega) (g := 3) (by omega)
        rcases pf with ⟨b, rfl⟩ | ⟨b, pf⟩
        · obtain ⟨h4, r3, g4, c4⟩ := kh.2 b
          rw [f0] at c4
          exact w78 h2 h3 h4 _ _ _ _ (by omega) r1 r2 r3 c2.1 c3.1 (((qn g2).qt g3).qt g4) p4 c4
        · obtain ⟨h4, r3, g4, c4⟩ := kh.1 b
          obtain ⟨h5, r4, g5, c5⟩ := k_78 c4 x p5 (D := d) (by omega) (a := 6) (by omega)
          rcases pf with ⟨e, rfl⟩ | ⟨e, u, rfl⟩
          · rw [if_neg (show ¬ (tkK f n (tkE f n (tkE f n (tkE f n (tkE f n p)))) = 1 ∧ tkW f n (tkE f n (tkE f n (tkE f n (tkE f n p)))) = sml (6 + 1)) from e), f0] at c5
            exact w80 h2 h3 h4 h5 _ _ _ _ (by omega) r1 r2 r3 r4 c2.1 c3.1 c4.1 ((((qn g2).qt g3).qt g4).qt g5) p6 c5
          · rw [if_pos (show tkK f n (tkE f n (tkE f n (tkE f n (tkE f n p)))) = 1 ∧ tkW f n (tkE f n (tkE f n (tkE f n (tkE f n p)))) = sml (6 + 1) from e)] at c5
            obtain ⟨h6, r5, g6, c6⟩ := k_80n c5 x p6 (D := d) (by omega) u
            rw [kdN_e, f0] at c6
            have gg := ((((qn g2).qt g3).qt g4).qt g5).qt g6
            exact ⟨_, h6, _, _, _, st h2 h3 h4 h5 h6 _ _ _ r1 r2 r3 r4 r5 c2.1 c3.1 c4.1 c5.1 gg, p6, gg, c6.p4 ht _ _ _ _⟩
  · obtain ⟨h2, r1, g2, c2, n2⟩ := k8.2.2 a b
    obtain ⟨h3, r2, g3, c3⟩ := (k_82 c2 x p3 (D := d) (by omega) (g := 2) (by omega)).1 s2
    obtain ⟨h4, r3, g4, c4⟩ := (k_82 c3 x p4 (D := d) (by omega) (g := 3) (by omega)).1 s3
    obtain ⟨h5, r4, g5, c5⟩ := k_78 c4 x p5 (D := d) (by omega) (a := 6) (by omega)
    rw [if_pos (show tkK f n (tkE f n (tkE f n (tkE f n (tkE f n p)))) = 1 ∧ tkW f n (tkE f n (tkE f n (tkE f n (tkE f n p)))) = sml (6 + 1) from s4)] at c5
    obtain ⟨h6, r5, g6, c6⟩ := k_80y c5 x p6 (D := d) (by omega) s5
    have gg := ((((qn g2).qt g3).qt g4).qt g5).qt g6
    exact ⟨h6, st h2 h3 h4 h5 h6 _ _ _ r1 r2 r3 r4 r5 c2.1 c3.1 c4.1 c5.1 gg, gg, c6.p4 ht _ _ _ _, (((n2.qt g3).qt g4).qt g5).qt g6⟩
end
