/-! lines are read: the class's small steps -/
/-- only the token and the fault changed -/
def Qt (h h1 : HP) : Prop := ∃ r g N, h1 = cH h r g N ∧ (∀ a, a ≠ 101 → a ≠ 103 → N a = h_mi h a) ∧ ∀ j, j ≠ 8 → N 103 j = h_mi h 103 j
def fq (q k : Int) (b : Nat) : Int := if q = 0 then k + 16 * (b : Int) else q
theorem Qt.rf (h : HP) : Qt h h := ⟨_, _, _, (cH_self h).symm, fun _ _ _ => rfl, fun _ _ => rfl⟩
theorem Qt.tr {h h1 h2 : HP} (p : Qt h h1) (q : Qt h1 h2) : Qt h h2 := by
  obtain ⟨r, g, N, rfl, a1, a2⟩ := p
  obtain ⟨r2, g2, N2, rfl, b1, b2⟩ := q
  exact ⟨r2, g2, N2, cH_cH _ _ _ _ _ _ _, fun a h1 h2 => (b1 a h1 h2).trans (a1 a h1 h2), fun j h1 => (b2 j h1).trans (a2 j h1)⟩
theorem Qt.cs {h h1 : HP} (p : Qt h h1) (w : CSk h) : CSk h1 := by
  obtain ⟨r, g, N, rfl, _⟩ := p
  exact w.c _ _ _
theorem Qt.st {h h1 : HP} (p : Qt h h1) (w : Stt h) : Stt h1 := by
  obtain ⟨r, g, N, rfl, a1, _⟩ := p
  exact w.c _ _ (fun a ha => a1 a (by omega) (by omega))
theorem Qt.f {h h1 : HP} (p : Qt h h1) {j : Nat} (j8 : j ≠ 8) : h_mi h1 103 j = h_mi h 103 j := by
  obtain ⟨r, g, N, rfl, _, a2⟩ := p
  exact a2 j j8
theorem Qt.mi {h h1 : HP} (p : Qt h h1) {a : Nat} (h1' : a ≠ 101) (h3 : a ≠ 103) : h_mi h1 a = h_mi h a := by
  obtain ⟨r, g, N, rfl, a1, _⟩ := p
  exact a1 a h1' h3
theorem Qt.sh {h h1 : HP} (p : Qt h h1) : h_kd h1 = h_kd h ∧ h_ln h1 = h_ln h ∧ h_sz h1 = h_sz h ∧ h_sl h1 = h_sl h ∧ (∀ a, a ≠ 101 → h_mr h1 a = h_mr h a) ∧ ∀ a, a ≠ 101 → h_ml h1 a = h_ml h a := by
  obtain ⟨r, g, N, rfl, _, _⟩ := p
  exact ⟨rfl, rfl, rfl, rfl, fun a ha => up_ne _ _ ha, fun a ha => up_ne _ _ ha⟩
theorem Qt.s8 {h h1 : HP} (p : Qt h h1) (v : Int) : Qt h (sI h1 103 8 v) := by
  obtain ⟨r, g, N, rfl, a1, a2⟩ := p
  exact ⟨r, g, up2 N 103 8 v, rfl, fun a x y => by rw [u2_ne _ _ _ (by omega)]; exact a1 a x y, fun j x => by rw [u2_no _ _ _ x]; exact a2 j x⟩
section
variable {h : HP} {f : Nat → Int} {n l p : Nat} {q : Int}
/-- the class at a token of a line, with its fault -/
def CL (h : HP) (f : Nat → Int) (n p : Nat) (q : Int) : Prop := CSk h ∧ Stt h ∧ CTk h f n p ∧ h_mi h 103 8 = q
theorem CL.qt {h1 : HP} {p' : Nat} {q' : Int} (c : CL h f n p q) (g : Qt h h1) (t : CTk h1 f n p') (e : h_mi h1 103 8 = q') : CL h1 f n p' q' := ⟨g.cs c.1, g.st c.2.1, t, e⟩
theorem k_84 (c : CL h f n p q) (d : Nat) {k : Int} {b : Nat} (k0 : 0 ≤ k) (k1 : k ≤ 10) (b1 : b ≤ 1000) : ∃ h1, ev d 84 [vr 103, vi k, vi (b : Int)] h = some (vr 0, h1) ∧ Qt h h1 ∧ CL h1 f n p (fq q k b) := by
  by_cases z : q = 0
  · have e := c_84z c.1 d (b := b) (c.2.2.2.trans z) k0 k1 b1
    have g : Qt h (sI h 103 8 (k + 16 * (b : Int))) := (Qt.rf h).s8 _
    exact ⟨_, e, g, c.qt g (c.2.2.1.si (by omega) (by omega)) (by rw [miI_eq, up_eq]; unfold fq; rw [if_pos z])⟩
  · exact ⟨h, c_84n c.1 d k b (by rw [c.2.2.2]; exact z), Qt.rf h, by unfold fq; rw [if_neg z]; exact c⟩
theorem k_89 (c : CL h f n p q) (x : TX f n l) (p1 : p ≤ n) {D : Nat} (hD : 5 ≤ D) : ∃ h1, ev D 89 [vr 101] h = some (vr 0, h1) ∧ Qt h h1 ∧ CL h1 f n (tkE f n p) q := by
  obtain ⟨d, rfl⟩ : ∃ d, D = d + 5 := ⟨D - 5, by omega⟩
  obtain ⟨N, r, g, e, n1, n2, ct⟩ := c_89 c.1 c.2.1 d c.2.2.1.1 c.2.2.1.2.1 c.2.2.1.2.2.2.2.2.2.2.2 x.1 x.2.1 (tk_n p1).2.1
  have gq : Qt h (cH h r g N) := ⟨r, g, N, rfl, fun a h1 _ => n1 a h1, fun j _ => by rw [n1 103 (by omega)]⟩
  exact ⟨_, e, gq, c.qt gq ct (by show N 103 8 = q; rw [n1 103 (by omega)]; exact c.2.2.2)⟩
theorem k_f4 (c : CL h f n p q) : h_mi h 101 4 = ((tB f n p : Nat) : Int) := c.2.2.1.2.2.2.1
theorem k_79 (c : CL h f n p q) (x : TX f n l) (p1 : p ≤ n) {D : Nat} (hD : 6 ≤ D) (v : Int) : ∃ h1, ev D 79 [vr 103, vi v] h = some (vr 0, h1) ∧ Qt h h1 ∧ CL h1 f n (tkE f n p) (if tkK f n p = 3 ∧ f (tB f n p) = v then q else fq q 1 (tB f n p)) := by
  obtain ⟨d, rfl⟩ : ∃ d, D = d + 1 := ⟨D - 1, by omega⟩
  have b := tB_b (f := f) p1
  have b2 := x.2.1
  rw [v_79, q_79_0 (w := c.1), c_90 c.1 c.2.2.1, bI_s, q_79_8 (w := c.1)]
  by_cases z : tkK f n p = 3 ∧ f (tB f n p) = v
  · obtain ⟨h1, e1, g1, c1⟩ := k_89 c x p1 (D := d) (by omega)
    rw [bb_nt z, if_pos z]
    simp only [zb]
    rw [q_79_23 (w := c.1), e1, bV_s, q_79_30]
    exact ⟨h1, rfl, g1, c1⟩
  · obtain ⟨h0, e0, g0, c0⟩ := k_84 c d (k := 1) (b := tB f n p) (by omega) (by omega) (by omega)
    obtain ⟨h1, e1, g1, c1⟩ := k_89 c0 x p1 (D := d) (by omega)
    rw [bb_nf z, if_neg z, k_f4 c, e0]
    simp only [zb, bV_s]
    rw [q_79_23 (w := c0.1), e1, bV_s, q_79_30]
    exact ⟨h1, rfl, g0.tr g1, c1⟩
theorem k_78 (c : CL h f n p q) (x : TX f n l) (p1 : p ≤ n) {D : Nat} (hD : 6 ≤ D) {a : Nat} (ha : a < 35) : ∃ h1, ev D 78 [vr 103, vr (a + 1)] h = some (vr 0, h1) ∧ Qt h h1 ∧ CL h1 f n (tkE f n p) (if tkK f n p = 1 ∧ tkW f n p = sml (a + 1) then q else fq q 1 (tB f n p)) := by
  obtain ⟨d, rfl⟩ : ∃ d, D = d + 1 := ⟨D - 1, by omega⟩
  have b := tB_b (f := f) p1
  have b2 := x.2.1
  have m : (h_mr h 101 7 = a + 1 ↔ tkK f n p = 1 ∧ tkW f n p = sml (a + 1)) ∧ h_mr h 101 7 ≤ 35 := by
    by_cases k1 : tkK f n p = 1
    · rw [(c.2.2.1.2.2.2.2.1 k1).2]
      exact ⟨⟨fun y => ⟨k1, (enW_is ha).mp y⟩, fun y => (enW_is ha).mpr y.2⟩, enW_b _⟩
    · rw [c.2.2.1.2.2.2.2.2.1 k1]
      exact ⟨⟨fun y => by omega, fun y => absurd y.1 k1⟩, by omega⟩
  rw [v_78, q_78_0 (w := c.1), dt (show a + 1 ≤ 35 by omega), dt m.2]
  by_cases z : tkK f n p = 1 ∧ tkW f n p = sml (a + 1)
  · obtain ⟨h1, e1, g1, c1⟩ := k_89 c x p1 (D := d) (by omega)
    rw [dt (m.1.mpr z), if_pos z]
    simp only [zb, Bool.and_self]
    rw [q_78_23 (w := c.1), e1, bV_s, q_78_30]
    exact ⟨h1, rfl, g1, c1⟩
  · obtain ⟨h0, e0, g0, c0⟩ := k_84 c d (k := 1) (b := tB f n p) (by omega) (by omega) (by omega)
    obtain ⟨h1, e1, g1, c1⟩ := k_89 c0 x p1 (D := d) (by omega)
    rw [df (fun y => z (m.1.mp y)), if_neg z, k_f4 c, e0]
    simp only [zb, bV_s, Bool.and_self]
    rw [q_78_23 (w := c0.1), e1, bV_s, q_78_30]
    exact ⟨h1, rfl, g0.tr g1, c1⟩
/-- a number within bounds -/
def nuP (f : Nat → Int) (n p : Nat) (lo hi : Int) : Prop := tkK f n p = 2 ∧ lo ≤ tkN f n p ∧ tkN f n p ≤ hi
theorem k_80y (c : CL h f n p q) (x : TX f n l) (p1 : p ≤ n) {D : Nat} (hD : 6 ≤ D) {lo hi : Int} (y : nuP f n p lo hi) : ∃ h1, ev D 80 [vr 103, vi lo, vi hi] h = some (vi (tkN f n p), h1) ∧ Qt h h1 ∧ CL h1 f n (tkE f n p) q := by
  obtain ⟨d, rfl⟩ : ∃ d, D = d + 1 := ⟨D - 1, by omega⟩
  obtain ⟨h1, e1, g1, c1⟩ := k_89 c x p1 (D := d) (by omega)
  refine ⟨h1, ?_, g1, c1⟩
  rw [v_80, q_80_0 (w := c.1), c.2.2.1.2.2.1, y.1, c.2.2.1.2.2.2.2.2.2.1 y.1, df (show ¬ tkN f n p < lo by have := y.2.1; omega), dt y.2.2, e1]
  show run (d + 1) md_80 64 _ [] h1 = _
  rw [q_80_64]
theorem k_80n (c : CL h f n p q) (x : TX f n l) (p1 : p ≤ n) {D : Nat} (hD : 6 ≤ D) {lo hi : Int} (y : ¬ nuP f n p lo hi) : ∃ h1, ev D 80 [vr 103, vi lo, vi hi] h = some (vi lo, h1) ∧ Qt h h1 ∧ CL h1 f n p (fq q (if tkK f n p = 2 then 4 else 1) (tB f n p)) := by
  obtain ⟨d, rfl⟩ : ∃ d, D = d + 1 := ⟨D - 1, by omega⟩
  have b := tB_b (f := f) p1
  have b2 := x.2.1
  rw [v_80, q_80_0 (w := c.1), c.2.2.1.2.2.1, k_f4 c]
  by_cases k2 : tkK f n p = 2
  · obtain ⟨h1, e1, g1, c1⟩ := k_84 c d (k := 4) (b := tB f n p) (by omega) (by omega) (by omega)
    rw [if_pos k2, c.2.2.1.2.2.2.2.2.2.1 k2, k2, dt (show srt 2 = 3 from rfl), e1]
    simp only [zb, bV_s]
    rw [q_80_55]
    by_cases z : tkN f n p < lo
    · rw [dt z]; exact ⟨h1, rfl, g1, c1⟩
    · rw [df z, df (show ¬ tkN f n p ≤ hi from fun u => y ⟨k2, by omega, u⟩)]; exact ⟨h1, rfl, g1, c1⟩
  · obtain ⟨h1, e1, g1, c1⟩ := k_84 c d (k := 1) (b := tB f n p) (by omega) (by omega) (by omega)
    have s3 : srt (tkK f n p) ≠ 3 := by rcases tk_c f n p with z | z | z | z | z <;> rw [z] at k2 ⊢ <;> first | exact absurd rfl k2 | decide
    rw [if_neg k2, df s3, e1]
    simp only [zb, bV_s]
    rw [q_80_23]
    exact ⟨h1, rfl, g1, c1⟩
end
