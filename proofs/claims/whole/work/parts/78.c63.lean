/-! lines are read: the class goes on after a fault -/
section
variable {h : HP} {f : Nat → Int} {n l p : Nat} {q : Int}
theorem k_80w (c : CL h f n p q) (q0 : q ≠ 0) (x : TX f n l) (p1 : p ≤ n) {D : Nat} (hD : 6 ≤ D) (lo hi : Int) : ∃ p' v h1, ev D 80 [vr 103, vi lo, vi hi] h = some (vi v, h1) ∧ p' ≤ n ∧ Qt h h1 ∧ CL h1 f n p' q := by
  by_cases y : nuP f n p lo hi
  · obtain ⟨h1, e1, g1, c1⟩ := k_80y c x p1 hD y
    exact ⟨_, _, h1, e1, (tk_n p1).2.1, g1, c1⟩
  · obtain ⟨h1, e1, g1, c1⟩ := k_80n c x p1 hD y
    rw [fq_q q0] at c1
    exact ⟨_, _, h1, e1, p1, g1, c1⟩
theorem k_82w (c : CL h f n p q) (q0 : q ≠ 0) (x : TX f n l) (p1 : p ≤ n) {D : Nat} (hD : 6 ≤ D) {g : Int} (hg : g = 2 ∨ g = 3 ∨ g = 4) : ∃ p' v h1, ev D 82 [vr 103, vi g] h = some (vi v, h1) ∧ p' ≤ n ∧ Qt h h1 ∧ CL h1 f n p' q := by
  have k := k_82 c x p1 hD hg
  by_cases y : 0 ≤ gw f n p g
  · obtain ⟨h1, e1, g1, c1⟩ := k.1 y
    exact ⟨_, _, h1, e1, (tk_n p1).2.1, g1, c1⟩
  · obtain ⟨h1, e1, g1, c1⟩ := k.2 y
    rw [fq_q q0] at c1
    exact ⟨_, _, h1, e1, p1, g1, c1⟩
theorem k_78w (c : CL h f n p q) (q0 : q ≠ 0) (x : TX f n l) (p1 : p ≤ n) {D : Nat} (hD : 6 ≤ D) {a : Nat} (ha : a < 35) : ∃ h1, ev D 78 [vr 103, vr (a + 1)] h = some (vr 0, h1) ∧ Qt h h1 ∧ CL h1 f n (tkE f n p) q := by
  obtain ⟨h1, e1, g1, c1⟩ := k_78 c x p1 hD ha
  rw [fq_q q0, ite_self] at c1
  exact ⟨h1, e1, g1, c1⟩
theorem k_79w (c : CL h f n p q) (q0 : q ≠ 0) (x : TX f n l) (p1 : p ≤ n) {D : Nat} (hD : 6 ≤ D) (v : Int) : ∃ h1, ev D 79 [vr 103, vi v] h = some (vr 0, h1) ∧ Qt h h1 ∧ CL h1 f n (tkE f n p) q := by
  obtain ⟨h1, e1, g1, c1⟩ := k_79 c x p1 hD v
  rw [fq_q q0, ite_self] at c1
  exact ⟨h1, e1, g1, c1⟩
/-- the reader's own has changed, and the names -/
def Qn (h h1 : HP) : Prop := ∃ h0, Qt h h0 ∧ (h1 = h0 ∨ ∃ m v u, Qt (sI (sL h0 105 m v) 103 5 u) h1)
theorem Qn.of {h1 : HP} (g : Qt h h1) : Qn h h1 := ⟨h1, g, Or.inl rfl⟩
theorem Qn.qt {h1 h2 : HP} (a : Qn h h1) (g : Qt h1 h2) : Qn h h2 := by
  obtain ⟨h0, g0, e | ⟨m, v, u, e⟩⟩ := a
  · subst e; exact ⟨h2, g0.tr g, Or.inl rfl⟩
  · exact ⟨h0, g0, Or.inr ⟨m, v, u, e.tr g⟩⟩
theorem Qn.mi {h1 : HP} (a : Qn h h1) {b : Nat} (b1 : b ≠ 101) (b3 : b ≠ 103) : h_mi h1 b = h_mi h b := by
  obtain ⟨h0, g0, e | ⟨m, v, u, e⟩⟩ := a
  · subst e; exact g0.mi b1 b3
  · rw [e.mi b1 b3, miI_ne _ _ _ b3]; exact g0.mi b1 b3
theorem Qn.sh {h1 : HP} (a : Qn h h1) : h_kd h1 = h_kd h ∧ h_ln h1 = h_ln h ∧ h_sz h1 = h_sz h ∧ h_sl h1 = h_sl h ∧ (∀ a, a ≠ 101 → h_mr h1 a = h_mr h a) ∧ ∀ a, a ≠ 101 → a ≠ 105 → h_ml h1 a = h_ml h a := by
  obtain ⟨h0, g0, e | ⟨m, v, u, e⟩⟩ := a
  · subst e
    obtain ⟨s1, s2, s3, s4, s5, s6⟩ := g0.sh
    exact ⟨s1, s2, s3, s4, s5, fun a h1 _ => s6 a h1⟩
  · obtain ⟨s1, s2, s3, s4, s5, s6⟩ := g0.sh
    obtain ⟨t1, t2, t3, t4, t5, t6⟩ := e.sh
    exact ⟨t1.trans s1, t2.trans s2, t3.trans s3, t4.trans s4, fun a h1 => (t5 a h1).trans (s5 a h1), fun a h1 h2 => by rw [t6 a h1, show h_ml (sI (sL h0 105 m v) 103 5 u) a = h_ml h0 a from mlL_ne _ _ _ h2]; exact s6 a h1⟩
/-- a name, with or without a fault before -/
theorem k_83 {m : Nat} {nm : Nat → Int} (c : CL h f n p q) (x : TX f n l) (p1 : p ≤ n) {D : Nat} (hD : 6 ≤ D) (m1 : m ≤ 12) (nc : NmC h m nm) : (¬ nmP f n p → ∃ h1, ev D 83 [vr 103] h = some (vr 0, h1) ∧ Qn h h1 ∧ CL h1 f n p (fq q 1 (tB f n p))) ∧ (nmP f n p → dpN nm m (tkW f n p) → ∃ h1, ev D 83 [vr 103] h = some (vr 0, h1) ∧ Qn h h1 ∧ CL h1 f n (tkE f n p) (fq q 3 (tB f n p))) ∧ (nmP f n p → ¬ dpN nm m (tkW f n p) → ∃ h1, ev D 83 [vr 103] h = some (vr 0, h1) ∧ Qn h h1 ∧ CL h1 f n (tkE f n p) q ∧ NmC h1 (m + 1) (va_up nm m (tkW f n p))) := by
  refine ⟨fun y => ?_, fun y z => ?_, fun y z => ?_⟩
  · obtain ⟨d, rfl⟩ : ∃ d, D = d + 1 := ⟨D - 1, by omega⟩
    obtain ⟨h1, e1, g1, c1⟩ := k_83n c x p1 d y
    exact ⟨h1, e1, Qn.of g1, c1⟩
  · obtain ⟨h0, h1, e1, g0, g1, c1, _⟩ := k_83y c x p1 hD y m1 nc
    rw [if_pos z] at c1
    exact ⟨h1, e1, ⟨h0, g0, Or.inr ⟨_, _, _, g1⟩⟩, c1⟩
  · obtain ⟨h0, h1, e1, g0, g1, c1, n1⟩ := k_83y c x p1 hD y m1 nc
    rw [if_neg z] at c1
    exact ⟨h1, e1, ⟨h0, g0, Or.inr ⟨_, _, _, g1⟩⟩, c1, n1⟩
end
