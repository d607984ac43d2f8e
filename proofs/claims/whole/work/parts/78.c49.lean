/-! laws are read: the class's first token of a part -/
section
variable {h h0 : HP} {f : Nat → Int} {n l p s : Nat} {q : Int}
theorem c_lay (c : CT h f n l p s) (s1 : s < 1000) (v : Int) (d : Nat) : ∃ h1, ev d 77 [vr 103, vi v] h = some (vr 0, h1) ∧ CG h h1 f n l p s [v] := by
  have e := c_77 c.1 d v c.2.2.2.2.1 s1
  have g : CRel h (sI (sI h 104 s v) 103 4 ((s + 1 : Nat) : Int)) := ((CRel.rf h).si (Or.inl rfl)).si (Or.inr ⟨rfl, Or.inl rfl⟩)
  refine ⟨_, e, g, c.go g ((c.2.2.1.si (by omega) (by omega)).si (by omega) (by omega)) (by rw [miI_eq, up_ne _ _ (by omega), miI_ne _ _ _ (by omega)]; exact c.2.2.2.1) (by rw [miI_eq, up_eq]; rfl), ?_⟩
  rw [miI_ne _ _ _ (by omega), miI_eq]
  exact Wr.one _ _ _
theorem c_go (c : CT h f n l p s) (x : TX f n l) (p1 : p ≤ n) {D : Nat} (hD : 5 ≤ D) : ∃ h1, ev D 89 [vr 101] h = some (vr 0, h1) ∧ CG h h1 f n l (tkE f n p) s [] := by
  obtain ⟨d, rfl⟩ : ∃ d, D = d + 5 := ⟨D - 5, by omega⟩
  obtain ⟨h1, e, g, t, a, b⟩ := c_adv c.1 c.2.1 d c.2.2.1 x.1 x.2.1 p1
  refine ⟨h1, e, g, c.go g t (by rw [a]; exact c.2.2.2.1) (by rw [a]; exact c.2.2.2.2.1), ?_⟩
  rw [b]; exact Wr.nil _ _
theorem CE.lay (w : CSk h0) (e : CE h0 h f n q) (v : Int) (d : Nat) : ∃ h1, ev d 77 [vr 103, vi v] h = some (vr 0, h1) ∧ CE h0 h1 f n q := by
  obtain ⟨g, ⟨p, p1, t⟩, fq, s0, s1⟩ := e
  obtain ⟨h1, e1, g1, t1, s2, f1⟩ := c_77w (g.cs w) d v s0 s1 t
  exact ⟨h1, e1, g.tr g1, ⟨p, p1, t1⟩, f1.trans fq, s2⟩
theorem CE.go (w : CSk h0) (st : Stt h0) (x : TX f n l) (e : CE h0 h f n q) {D : Nat} (hD : 5 ≤ D) : ∃ h1, ev D 89 [vr 101] h = some (vr 0, h1) ∧ CE h0 h1 f n q := by
  obtain ⟨d, rfl⟩ : ∃ d, D = d + 5 := ⟨D - 5, by omega⟩
  obtain ⟨g, ⟨p, p1, t⟩, fq, s0⟩ := e
  obtain ⟨h1, e1, g1, t1, a, b⟩ := c_adv (g.cs w) (g.st st) d t x.1 x.2.1 p1
  exact ⟨h1, e1, g.tr g1, ⟨_, (tk_n p1).2.1, t1⟩, by rw [a]; exact fq, by rw [a]; exact s0⟩
theorem c_fl (c : CT h f n l p s) (x : TX f n l) (p1 : p ≤ n) (s1 : s ≤ p) (d : Nat) {k : Int} (k0 : 0 ≤ k) (k1 : k ≤ 10) : ∃ h1, ev d 84 [vr 103, vi k, vi (h_mi h 101 4)] h = some (vr 0, h1) ∧ CE h h1 f n (k + 16 * ((tB f n p : Nat) : Int)) := by
  have b := tB_b (f := f) p1
  have b2 := x.2.1
  have e := c_84z c.1 d (b := tB f n p) c.2.2.2.1 k0 k1 (by omega)
  refine ⟨_, by rw [c.2.2.1.2.2.2.1]; exact e, (CRel.rf h).si (Or.inr ⟨rfl, Or.inr rfl⟩), ⟨p, p1, c.2.2.1.si (by omega) (by omega)⟩, by rw [miI_eq, up_eq], ?_⟩
  rw [miI_eq, up_ne _ _ (by omega), c.2.2.2.2.1]
  omega
theorem c_st (c : CT h f n l p s) (x : TX f n l) (d : Nat) (dp : Int) (ns : stP f n p l) : ev (d + 2) 73 [vr 103, vi dp] h = run (d + 2) md_73 4 [vr 103, vi dp] [vi 1] h := by
  rw [v_73, q_73_0 (w := c.1), (c_74 c.1 c.2.1 c.2.2.1 d x.2.2 c.2.2.2.2.2).1 ns, bI_s]
theorem c_st0 (c : CT h f n l p s) (x : TX f n l) (p1 : p ≤ n) (s1 : s ≤ p) (d : Nat) (dp : Int) (ns : ¬ stP f n p l) : ∃ h1, ev (d + 2) 73 [vr 103, vi dp] h = some (vr 0, h1) ∧ CE h h1 f n (1 + 16 * ((tB f n p : Nat) : Int)) := by
  obtain ⟨h1, e1, g1⟩ := c_fl c x p1 s1 (d + 1) (k := 1) (by omega) (by omega)
  refine ⟨h1, ?_, g1⟩
  rw [v_73, q_73_0 (w := c.1), (c_74 c.1 c.2.1 c.2.2.1 d x.2.2 c.2.2.2.2.2).2 ns, bI_s, q_73_4 (w := c.1), e1]
  show run (d + 1 + 1) md_73 19 [vr 103, vi dp] [] h1 = _
  rw [q_73_19, q_73_181]
theorem c_st5 (c : CT h f n l p s) (x : TX f n l) (p1 : p ≤ n) (s1 : s ≤ p) (d : Nat) (ns : stP f n p l) : ∃ h1, ev (d + 2) 73 [vr 103, vi ((5 : Nat) : Int)] h = some (vr 0, h1) ∧ CE h h1 f n (5 + 16 * ((tB f n p : Nat) : Int)) := by
  obtain ⟨h1, e1, g1⟩ := c_fl c x p1 s1 (d + 1) (k := 5) (by omega) (by omega)
  refine ⟨h1, ?_, g1⟩
  rw [c_st c x d _ ns, q_73_4 (w := c.1), e1]
  show run (d + 1 + 1) md_73 39 [vr 103, vi ((5 : Nat) : Int)] [] h1 = _
  rw [q_73_39, q_73_181]
theorem c_nu (c : CT h f n l p s) (x : TX f n l) (p1 : p ≤ n) (s1 : s ≤ p) (d : Nat) {dp : Nat} (hd : dp < 5) (k : tkK f n p = 2) : ∃ h1, ev (d + 7) 73 [vr 103, vi (dp : Int)] h = some (vr 0, h1) ∧ CG h h1 f n l (tkE f n p) s [tkN f n p] := by
  have tn := (tk_n (f := f) p1).2.2 (by omega)
  have tb := tB_b (f := f) p1
  have x2 := x.2.1
  obtain ⟨h1, e1, g1⟩ := c_lay c (by omega) (tkN f n p) (d + 6)
  obtain ⟨h2, e2, g2⟩ := c_go g1.2.1 x p1 (D := d + 6) (by omega)
  refine ⟨h2, ?_, g1.tr g2⟩
  rw [c_st c x (d + 5) _ (Or.inl k), q_73_4 (w := c.1), c.2.2.1.2.2.1, k, c.2.2.1.2.2.2.2.2.2.1 k, e1, dt (show (dp : Int) < 5 by omega)]
  show run (d + 6 + 1) md_73 64 [vr 103, vi (dp : Int)] [] h1 = _
  rw [q_73_64 (w := g1.2.1.1), e2, bV_s, q_73_71, q_73_181]
theorem c_fa (c : CT h f n l p s) (x : TX f n l) (p1 : p ≤ n) (s1 : s ≤ p) (d : Nat) {dp : Nat} (hd : dp < 5) (k : tkK f n p = 1) (y : 0 ≤ fcI l (tkW f n p)) : ∃ h1, ev (d + 7) 73 [vr 103, vi (dp : Int)] h = some (vr 0, h1) ∧ CG h h1 f n l (tkE f n p) s [-1 - fcI l (tkW f n p)] := by
  have tn := (tk_n (f := f) p1).2.2 (by omega)
  have tb := tB_b (f := f) p1
  have x2 := x.2.1
  have n0 : enW (tkW f n p) ≠ 0 := fun z => by rw [fcI_0 z] at y; omega
  obtain ⟨a, a1, e1, e2, kd, mi⟩ := wd_c c.2.1 c.2.2.1 k n0
  have fc := fcI_c a1 x.2.2
  have fe : en_fact.getD a 0 = fcI l (tkW f n p) := by rw [e2] at y ⊢; exact fc.2 y
  have b8 := (fcI_al x.2.2 y).2
  have n27 : a + 1 ≠ 27 := fun z => by
    have : a = 26 := by omega
    rw [e2, this, show sml (26 + 1) = 10631 from rfl, fcI_not] at y; omega
  obtain ⟨h1, e3, g1⟩ := c_lay c (by omega) (-1 - fcI l (tkW f n p)) (d + 5)
  obtain ⟨h2, e4, g2⟩ := c_go g1.2.1 x p1 (D := d + 6) (by omega)
  refine ⟨h2, ?_, g1.tr g2⟩
  have e76 : ev (d + 6) 76 [vr 103] h = some (vr 0, h1) := by
    rw [v_76, q_76_0 (w := c.1), e1, df (by omega), kd, mi 3, (smi_f a a1).1, fe, is_ (by omega) (by omega), e3]
    exact q_76_22 ..
  rw [c_st c x (d + 5) _ (Or.inr (Or.inr ⟨k, Or.inr y⟩)), q_73_4 (w := c.1), c.2.2.1.2.2.1, k, e1, e76, dt (show (dp : Int) < 5 by omega), dt (show a + 1 ≤ 35 by omega), df n27]
  show run (d + 6 + 1) md_73 174 [vr 103, vi (dp : Int)] [] h1 = _
  rw [q_73_174 (w := g1.2.1.1), e4, bV_s, q_73_181]
theorem c_no (c : CT h f n l p s) (x : TX f n l) (p1 : p ≤ n) (d : Nat) {dp : Nat} (hd : dp < 5) (k : tkK f n p = 1) (y : tkW f n p = 10631) : ∃ h1, ev (d + 7) 73 [vr 103, vi (dp : Int)] h = run (d + 7) md_73 154 [vr 103, vi (dp : Int)] [] h1 ∧ CG h h1 f n l (tkE f n p) s [] := by
  obtain ⟨h1, e1, g1⟩ := c_go c x p1 (D := d + 6) (by omega)
  refine ⟨h1, ?_, g1⟩
  have e2 : h_mr h 101 7 = 27 := by rw [(c.2.2.1.2.2.2.2.1 k).2]; exact (enW_is (c := 26) (by omega)).mpr y
  rw [c_st c x (d + 5) _ (Or.inr (Or.inr ⟨k, Or.inl y⟩)), q_73_4 (w := c.1), c.2.2.1.2.2.1, k, e2, e1, dt (show (dp : Int) < 5 by omega)]
  rfl
theorem c_pa (c : CT h f n l p s) (x : TX f n l) (p1 : p ≤ n) (d : Nat) {dp : Nat} (hd : dp < 5) (k : tkK f n p = 3) (y : f (tB f n p) = 40) : ∃ h1, ev (d + 7) 73 [vr 103, vi (dp : Int)] h = run (d + 7) md_73 92 [vr 103, vi (dp : Int)] [] h1 ∧ CG h h1 f n l (tkE f n p) s [] := by
  obtain ⟨h1, e1, g1⟩ := c_go c x p1 (D := d + 6) (by omega)
  refine ⟨h1, ?_, g1⟩
  rw [c_st c x (d + 5) _ (Or.inr (Or.inl ⟨k, y⟩)), q_73_4 (w := c.1), c.2.2.1.2.2.1, k, e1, dt (show (dp : Int) < 5 by omega)]
  rfl
end
