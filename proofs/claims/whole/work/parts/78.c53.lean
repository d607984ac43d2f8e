/-! laws are read: the class goes on after a fault -/
def WE (h : HP) (f : Nat → Int) (n l : Nat) (q : Int) : Prop := CSk h ∧ Stt h ∧ CE h h f n q ∧ h_mi h 103 7 = st_facts.getD l 0
section
variable {h h1 : HP} {f : Nat → Int} {n l : Nat} {q : Int}
theorem WE.go (w : WE h f n l q) (e : CE h h1 f n q) : WE h1 f n l q := ⟨e.1.cs w.1, e.1.st w.2.1, ⟨CRel.rf h1, e.2⟩, (e.1.f (by omega) (by omega)).trans w.2.2.2⟩
theorem CE.tr {h0 : HP} (a : CE h0 h f n q) (b : CE h h1 f n q) : CE h0 h1 f n q := ⟨a.1.tr b.1, b.2⟩
theorem w_part (x : TX f n l) (q0 : q ≠ 0) {dp : Nat} (hd : dp ≤ 5) (i4 : dp < 5 → ∀ D h, 6 * (5 - (dp + 1)) + 10 ≤ D → WE h f n l q → ∃ h1, ev D 73 [vr 103, vi ((dp + 1 : Nat) : Int)] h = some (vr 0, h1) ∧ CE h h1 f n q) (i0 : dp < 5 → ∀ D h, 6 * (5 - (dp + 1)) + 15 ≤ D → WE h f n l q → ∃ h1, ev D 72 [vr 103, vi 0, vi ((dp + 1 : Nat) : Int)] h = some (vr 0, h1) ∧ CE h h1 f n q) {D : Nat} (hD : 6 * (5 - dp) + 10 ≤ D) (w : WE h f n l q) : ∃ h1, ev D 73 [vr 103, vi (dp : Int)] h = some (vr 0, h1) ∧ CE h h1 f n q := by
  obtain ⟨d, rfl⟩ : ∃ d, D = d + 7 := ⟨D - 7, by omega⟩
  have w' := w
  obtain ⟨ws, wt, we, wm⟩ := w'
  obtain ⟨p, p1, t⟩ := we.2.1
  have hf : h_mi h 103 8 ≠ 0 := by rw [we.2.2.1]; exact q0
  have c74 := c_74 ws wt t (d + 5) x.2.2 wm
  by_cases ns : stP f n p l
  · have e0 : ev (d + 7) 73 [vr 103, vi (dp : Int)] h = run (d + 6 + 1) md_73 4 [vr 103, vi (dp : Int)] [vi 1] h := by rw [v_73, q_73_0 (w := ws), c74.1 ns, bI_s]
    by_cases h5 : dp = 5
    · subst h5
      refine ⟨h, ?_, we⟩
      rw [e0, q_73_4 (w := ws), c_84n ws _ _ _ hf]
      show run (d + 6 + 1) md_73 39 _ [] h = _
      rw [q_73_39, q_73_181]
    · have hd : dp < 5 := by omega
      rcases ns with z | ⟨z, y⟩ | ⟨z, y⟩
      · obtain ⟨h1, e1, g1⟩ := we.lay ws (h_mi h 101 5) (d + 6)
        obtain ⟨h2, e2, g2⟩ := g1.go ws wt x (D := d + 6) (by omega)
        refine ⟨h2, ?_, g2⟩
        rw [e0, q_73_4 (w := ws), t.2.2.1, z, e1, dt (show (dp : Int) < 5 by omega)]
        show run (d + 6 + 1) md_73 64 [vr 103, vi (dp : Int)] [] h1 = _
        rw [q_73_64 (w := g1.1.cs ws), e2, bV_s, q_73_71, q_73_181]
      · obtain ⟨h1, e1, g1⟩ := we.go ws wt x (D := d + 6) (by omega)
        obtain ⟨h2, e2, g2⟩ := i0 hd (d + 6) h1 (by omega) (w.go g1)
        have g2 := g1.tr g2
        obtain ⟨h3, e3, g3⟩ := g2.go ws wt x (D := d + 6) (by omega)
        refine ⟨h3, ?_, g3⟩
        obtain ⟨u1, ⟨p2, u2, u3⟩, u4, u5⟩ := g2
        have w2 := u1.cs ws
        have fin : run (d + 6 + 1) md_73 124 [vr 103, vi (dp : Int)] [] h2 = some (vr 0, h3) := by rw [q_73_124 (w := w2), e3, bV_s, q_73_131, q_73_181]
        rw [e0, q_73_4 (w := ws), t.2.2.1, z, e1, dt (show (dp : Int) < 5 by omega)]
        show run (d + 6 + 1) md_73 92 [vr 103, vi (dp : Int)] [] h1 = _
        rw [q_73_92 (w := g1.1.cs ws), i1 hd, e2, bV_s, q_73_100 (w := w2), c_90 w2 u3, bI_s, q_73_109 (w := w2), c_84n w2 _ _ _ (by rw [u4]; exact q0), bV_s, fin]
        cases decide (bb (tkK f n p2 = 3 ∧ f (tB f n p2) = 41) ≠ 0) <;> rfl
      · by_cases nn : tkW f n p = 10631
        · have e27 : h_mr h 101 7 = 27 := by rw [(t.2.2.2.2.1 z).2]; exact (enW_is (c := 26) (by omega)).mpr nn
          obtain ⟨h1, e1, g1⟩ := we.go ws wt x (D := d + 6) (by omega)
          obtain ⟨h2, e2, g2⟩ := i4 hd (d + 6) h1 (by omega) (w.go g1)
          have g2 := g1.tr g2
          obtain ⟨h3, e3, g3⟩ := g2.lay ws (-19) (d + 6)
          refine ⟨h3, ?_, g3⟩
          rw [e0, q_73_4 (w := ws), t.2.2.1, z, e27, e1, dt (show (dp : Int) < 5 by omega)]
          show run (d + 6 + 1) md_73 154 [vr 103, vi (dp : Int)] [] h1 = _
          rw [q_73_154 (w := g1.1.cs ws), i1 hd, e2, bV_s, q_73_161 (w := g2.1.cs ws), e3, bV_s, q_73_167, q_73_181]
        · have y : 0 ≤ fcI l (tkW f n p) := y.resolve_left nn
          have n0 : enW (tkW f n p) ≠ 0 := fun z => by rw [fcI_0 z] at y; omega
          obtain ⟨a, a1, e1, e2, kd, mi⟩ := wd_c wt t z n0
          have n27 : a + 1 ≠ 27 := fun z => nn (by rw [e2, show a = 26 by omega]; rfl)
          obtain ⟨h1, e3, g1⟩ := we.lay ws (i_sub (-1) (h_mi h (a + 1) 3)) (d + 5)
          obtain ⟨h2, e4, g2⟩ := g1.go ws wt x (D := d + 6) (by omega)
          refine ⟨h2, ?_, g2⟩
          have e76 : ev (d + 6) 76 [vr 103] h = some (vr 0, h1) := by
            rw [v_76, q_76_0 (w := ws), e1, df (by omega), kd, e3]
            exact q_76_22 ..
          rw [e0, q_73_4 (w := ws), t.2.2.1, z, e1, e76, dt (show (dp : Int) < 5 by omega), dt (show a + 1 ≤ 35 by omega), df n27]
          show run (d + 6 + 1) md_73 174 [vr 103, vi (dp : Int)] [] h1 = _
          rw [q_73_174 (w := g1.1.cs ws), e4, bV_s, q_73_181]
  · refine ⟨h, ?_, we⟩
    rw [v_73, q_73_0 (w := ws), c74.2 ns, bI_s, q_73_4 (w := ws), c_84n ws _ 1 _ hf]
    show run (d + 6 + 1) md_73 19 _ [] h = _
    rw [q_73_19, q_73_181]
theorem w_all (x : TX f n l) (q0 : q ≠ 0) : ∀ k dp : Nat, dp + k = 5 → (∀ D h, 6 * (5 - dp) + 10 ≤ D → WE h f n l q → ∃ h1, ev D 73 [vr 103, vi (dp : Int)] h = some (vr 0, h1) ∧ CE h h1 f n q) ∧ ∀ D h, 6 * (5 - dp) + 15 ≤ D → WE h f n l q → ∃ h1, ev D 72 [vr 103, vi 0, vi (dp : Int)] h = some (vr 0, h1) ∧ CE h h1 f n q := by
  have st : ∀ dp : Nat, (∀ D h, 6 * (5 - dp) + 10 ≤ D → WE h f n l q → ∃ h1, ev D 73 [vr 103, vi (dp : Int)] h = some (vr 0, h1) ∧ CE h h1 f n q) → ∀ D h, 6 * (5 - dp) + 15 ≤ D → WE h f n l q → ∃ h1, ev D 72 [vr 103, vi 0, vi (dp : Int)] h = some (vr 0, h1) ∧ CE h h1 f n q := fun dp i D h hD w => by
    have up : ∀ (L : Nat), L ≤ 3 → (∀ D h, 6 * (5 - dp) + 10 + (5 - (L + 1)) ≤ D → WE h f n l q → ∃ h1, ev D 72 [vr 103, vi ((L + 1 : Nat) : Int), vi (dp : Int)] h = some (vr 0, h1) ∧ CE h h1 f n q) → ∀ D h, 6 * (5 - dp) + 10 + (5 - L) ≤ D → WE h f n l q → ∃ h1, ev D 72 [vr 103, vi (L : Int), vi (dp : Int)] h = some (vr 0, h1) ∧ CE h h1 f n q := fun L hL j D h hD w => by
      obtain ⟨d, rfl⟩ : ∃ d, D = d + 1 := ⟨D - 1, by omega⟩
      obtain ⟨h1, e1, g1⟩ := j d h (by omega) w
      refine ⟨h1, ?_, g1⟩
      rw [c_en w.1 hL (h2 := h1) (by rw [ia (by omega) (by omega)]; exact e1), c_lf (g1.1.cs w.1) (by rw [g1.2.2.1]; exact q0)]
    have l4 : ∀ D h, 6 * (5 - dp) + 10 + (5 - 4) ≤ D → WE h f n l q → ∃ h1, ev D 72 [vr 103, vi ((4 : Nat) : Int), vi (dp : Int)] h = some (vr 0, h1) ∧ CE h h1 f n q := fun D h hD w => by
      obtain ⟨d, rfl⟩ : ∃ d, D = d + 1 := ⟨D - 1, by omega⟩
      obtain ⟨h1, e1, g1⟩ := i d h (by omega) w
      refine ⟨h1, ?_, g1⟩
      rw [v_72, q_72_0 (w := w.1), e1]
      exact q_72_10 ..
    exact up 0 (by omega) (up 1 (by omega) (up 2 (by omega) (up 3 (by omega) l4))) D h (by omega) w
  intro k
  induction k with
  | zero =>
    intro dp hk
    have a : ∀ D h, 6 * (5 - dp) + 10 ≤ D → WE h f n l q → ∃ h1, ev D 73 [vr 103, vi (dp : Int)] h = some (vr 0, h1) ∧ CE h h1 f n q := fun D h hD w => w_part x q0 (by omega) (fun z => absurd z (by omega)) (fun z => absurd z (by omega)) hD w
    exact ⟨a, st dp a⟩
  | succ k ik =>
    intro dp hk
    have b := ik (dp + 1) (by omega)
    have a : ∀ D h, 6 * (5 - dp) + 10 ≤ D → WE h f n l q → ∃ h1, ev D 73 [vr 103, vi (dp : Int)] h = some (vr 0, h1) ∧ CE h h1 f n q := fun D h hD w => w_part x q0 (by omega) (fun _ => b.1) (fun _ => b.2) hD w
    exact ⟨a, st dp a⟩
end
