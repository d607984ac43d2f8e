/-! the reader: all lines -/
section
variable {hc hr : HP} {f : Nat → Int} {n p t b : Nat} {e : Nat → (Nat → Int) → Int}
/-- all lines from here on: one fault, or both at the end -/
def LPx (f : Nat → Int) (n t b D d : Nat) (hc hr : HP) (p : Nat) (x1 x2 : Int) (x4 : Nat) : Prop :=
  (∃ q h1 h2, q ≠ 0 ∧ run (D + 2) md_63 64 [vr 103, vi x1, vi x2, vr t, vi (x4 : Int)] [] hc = some (vi q, sR h1 103 3 t) ∧ Wb b hc h1 ∧ CSk h1 ∧ Stt h1 ∧ (h_sz h1 + p ≤ h_sz hc + n + 2 ∧ h_sl h1 + 2 * p ≤ h_sl hc + 2 * n + 1001) ∧ (∀ v1, run (d + 4 + 1) md_179 108 [vr 145, v1] [] hr = some (vi 0, h2)) ∧ Rd hr h2 ∧ h_mi h2 145 9 = q) ∨
  (∃ h1 h2 p' e', run (D + 2) md_63 64 [vr 103, vi x1, vi x2, vr t, vi (x4 : Int)] [] hc = some (vi 0, sR h1 103 3 t) ∧ p' ≤ n ∧ Wb b hc h1 ∧ (h_sz h1 + p ≤ h_sz hc + n ∧ h_sl h1 + 2 * p ≤ h_sl hc + 2 * n) ∧ (∀ v1, run (d + 4 + 1) md_179 108 [vr 145, v1] [] hr = some (vi 1, h2)) ∧ Rd hr h2 ∧ XX h1 h2 f n p' t e')
theorem k_64f {h : HP} {q : Int} {D : Nat} (w : CSk h) (m8 : h_mi h 103 8 = q) (q0 : q ≠ 0) (x1 x2 x4 : Int) : run (D + 2) md_63 64 [vr 103, vi x1, vi x2, vr t, vi x4] [] h = some (vi q, sR h 103 3 t) := by
  rw [q_63_64 (w := w), m8]
  by_cases z : 1000 ≤ x4
  · rw [dt z]; rfl
  · rw [df z, dt q0]; rfl
theorem lp_all (x : ∀ l, l < 4 → TX f n l) (hb : b ≤ t) {D : Nat} (hD : 60 ≤ D) (d : Nat) (x1 x2 : Int) : ∀ (k p : Nat) (hc hr : HP) (e : Nat → (Nat → Int) → Int) (x4 : Nat), n - p ≤ k → p ≤ n → b ≤ h_sz hc → x4 ≤ p → XX hc hr f n p t e → LPx f n t b D d hc hr p x1 x2 x4 := by
  intro k
  induction k with
  | zero =>
    intro p hc hr e x4 hk p1 bz x4p X
    have X' := X
    obtain ⟨cl, rl, _⟩ := X'
    have k0 : tkK f n p = 0 := Classical.byContradiction fun z => by have := tk_l p1 z; have := (tk_n (f := f) p1).2.1; omega
    refine Or.inr ⟨hc, hr, p, e, ?_, p1, Wb.rf b hc, ⟨by omega, by omega⟩, fun v1 => ?_, Rd.rf hr, X⟩
    · rw [q_63_64 (w := cl.1), cl.2.2.2, cl.2.2.1.2.2.1, k0]
      by_cases z : 1000 ≤ (x4 : Int)
      · rw [dt z]; rfl
      · rw [df z]; rfl
    · rw [q_179_108 (w := rl.1), rl.2.2.2.2.1, dt k0]; rfl
  | succ k ik =>
    intro p hc hr e x4 hk p1 bz x4p X
    have X' := X
    obtain ⟨cl, rl, _⟩ := X'
    have n1 := (x 0 (by omega)).2.1
    by_cases k0 : tkK f n p = 0
    · refine Or.inr ⟨hc, hr, p, e, ?_, p1, Wb.rf b hc, ⟨by omega, by omega⟩, fun v1 => ?_, Rd.rf hr, X⟩
      · rw [q_63_64 (w := cl.1), cl.2.2.2, cl.2.2.1.2.2.1, k0]
        by_cases z : 1000 ≤ (x4 : Int)
        · rw [dt z]; rfl
        · rw [df z]; rfl
      · rw [q_179_108 (w := rl.1), rl.2.2.2.2.1, dt k0]; rfl
    · have pl := tk_l p1 k0
      have pn := (tk_n (f := f) p1).2.1
      have s3 : srt (tkK f n p) ≠ 0 := by
        rcases tk_c f n p with z | z | z | z | z <;> rw [z] at k0 ⊢ <;> first | exact absurd rfl k0 | decide
      have step : ∀ h0 h1, ev (D + 1) 64 [vr 103, vr t] hc = some (vr 0, h0) → ev (D + 1) 79 [vr 103, vi 59] h0 = some (vr 0, h1) → CSk h0 → run (D + 2) md_63 64 [vr 103, vi x1, vi x2, vr t, vi (x4 : Int)] [] hc = run (D + 2) md_63 64 [vr 103, vi x1, vi x2, vr t, vi ((x4 + 1 : Nat) : Int)] [] h1 := fun h0 h1 a1 a2 a3 => by
        rw [q_63_64 (w := cl.1), cl.2.2.2, cl.2.2.1.2.2.1, df (show ¬ 1000 ≤ (x4 : Int) by omega), df s3, a1]
        show run (D + 1 + 1) md_63 94 [vr 103, vi x1, vi x2, vr t, vi (x4 : Int)] [] h0 = _
        rw [q_63_94 (w := a3), a2, bV_s, q_63_100, ia (by omega) (by omega)]
        rfl
      rcases ln_all X x p1 hb bz k0 hD d with ⟨q, h1, h2, p', q0, pp, ⟨h0, a1, a2, a3⟩, wb, c1, ⟨z1, z2⟩, er, rd, m9⟩ | ⟨h1, h2, p', e', ⟨pp1, pp2⟩, ⟨h0, a1, a2, a3⟩, wb, ⟨z1, z2⟩, er, rd, X1⟩
      · refine Or.inl ⟨q, h1, h2, q0, ?_, wb, c1.1, c1.2.1, ⟨by omega, by omega⟩, er, rd, m9⟩
        rw [step h0 h1 a1 a2 a3]
        exact k_64f c1.1 c1.2.2.2 q0 _ _ _
      · have wz := wb.1
        rcases ik p' h1 h2 e' (x4 + 1) (by omega) pp2 (by omega) (by omega) X1 with ⟨q, h3, h4, q0, ec, wb3, w3, st3, ⟨y1, y2⟩, er3, rd3, m9⟩ | ⟨h3, h4, p3, e3, ec, pp3, wb3, ⟨y1, y2⟩, er3, rd3, X3⟩
        · exact Or.inl ⟨q, h3, h4, q0, (step h0 h1 a1 a2 a3).trans ec, wb.tr wb3, w3, st3, ⟨by omega, by omega⟩, fun v1 => (er v1).trans (er3 _), rd.tr rd3, m9⟩
        · exact Or.inr ⟨h3, h4, p3, e3, (step h0 h1 a1 a2 a3).trans ec, pp3, wb.tr wb3, ⟨by omega, by omega⟩, fun v1 => (er v1).trans (er3 _), rd.tr rd3, X3⟩
/-- what the first line may have wrong -/
def hdF (f : Nat → Int) (n p0 p1 p2 p3 : Nat) (q : Int) : Prop := (¬ wdP f n p0 3396901 ∧ q = 1 + 16 * ((tB f n p0 : Nat) : Int)) ∨ (wdP f n p0 3396901 ∧ ((¬ nuP f n p1 2 10 ∧ q = kdN f n p1 + 16 * ((tB f n p1 : Nat) : Int)) ∨ (nuP f n p1 2 10 ∧ ((¬ nuP f n p2 1 6 ∧ q = kdN f n p2 + 16 * ((tB f n p2 : Nat) : Int)) ∨ (nuP f n p2 1 6 ∧ ¬ smP f n p3 ∧ q = 1 + 16 * ((tB f n p3 : Nat) : Int))))))
def hdO (f : Nat → Int) (n p0 p1 p2 p3 : Nat) : Prop := wdP f n p0 3396901 ∧ nuP f n p1 2 10 ∧ nuP f n p2 1 6 ∧ smP f n p3
theorem hdF_0 {p0 p1 p2 p3 : Nat} {q : Int} (h : hdF f n p0 p1 p2 p3 q) : q ≠ 0 := by
  have k1 := kdN_b f n p1
  have k2 := kdN_b f n p2
  rcases h with ⟨_, z⟩ | ⟨_, ⟨_, z⟩ | ⟨_, ⟨_, z⟩ | ⟨_, _, z⟩⟩⟩ <;> omega
theorem hd_c (f : Nat → Int) (n p0 p1 p2 p3 : Nat) : (∃ q, hdF f n p0 p1 p2 p3 q) ∨ hdO f n p0 p1 p2 p3 := by
  by_cases a : wdP f n p0 3396901
  · by_cases b : nuP f n p1 2 10
    · by_cases c : nuP f n p2 1 6
      · by_cases d : smP f n p3
        · exact Or.inr ⟨a, b, c, d⟩
        · exact Or.inl ⟨_, Or.inr ⟨a, Or.inr ⟨b, Or.inr ⟨c, d, rfl⟩⟩⟩⟩
      · exact Or.inl ⟨_, Or.inr ⟨a, Or.inr ⟨b, Or.inl ⟨c, rfl⟩⟩⟩⟩
    · exact Or.inl ⟨_, Or.inr ⟨a, Or.inl ⟨b, rfl⟩⟩⟩
  · exact Or.inl ⟨_, Or.inl ⟨a, rfl⟩⟩
/-- the first line, class -/
theorem k_hd {h : HP} {l p0 p1 p2 p3 p4 : Nat} (e1 : tkE f n p0 = p1) (e2 : tkE f n p1 = p2) (e3 : tkE f n p2 = p3) (e4 : tkE f n p3 = p4) (c : CL h f n p0 0) (x : TX f n l) (q0 : p0 ≤ n) {D : Nat} (hD : 8 ≤ D) : (∀ q, hdF f n p0 p1 p2 p3 q → ∃ W H h1 p', run (D + 1) md_63 22 [vr 103, vu, vu, vu, vu] [] h = run (D + 1) md_63 51 [vr 103, vi W, vi H, vu, vu] [] h1 ∧ p' ≤ n ∧ Qt h h1 ∧ CL h1 f n p' q) ∧ (hdO f n p0 p1 p2 p3 → ∃ h1, run (D + 1) md_63 22 [vr 103, vu, vu, vu, vu] [] h = run (D + 1) md_63 51 [vr 103, vi (tkN f n p1), vi (tkN f n p2), vu, vu] [] h1 ∧ Qt h h1 ∧ CL h1 f n p4 0) := by
  have q1 : p1 ≤ n := e1 ▸ (tk_n (f := f) q0).2.1
  have q2 : p2 ≤ n := e2 ▸ (tk_n (f := f) q1).2.1
  have q3 : p3 ≤ n := e3 ▸ (tk_n (f := f) q2).2.1
  have q4 : p4 ≤ n := e4 ▸ (tk_n (f := f) q3).2.1
  have f0 : ∀ (k : Int) (b : Nat), fq 0 k b = k + 16 * (b : Int) := fun k b => if_pos rfl
  have w44 : ∀ hx p' q x1 z, q ≠ 0 → p' ≤ n → CL hx f n p' q → ∃ h1 p'', run (D + 1) md_63 44 [vr 103, vi x1, vu, vu, vu] [vi z] hx = run (D + 1) md_63 51 [vr 103, vi x1, vi z, vu, vu] [] h1 ∧ p'' ≤ n ∧ Qt hx h1 ∧ CL h1 f n p'' q := fun hx p' q x1 z qn pp cx => by
    obtain ⟨h1, r1, g1, c1⟩ := k_79w cx qn x pp (D := D) (by omega) 59
    exact ⟨h1, _, by rw [q_63_44 (w := cx.1), r1, bV_s], (tk_n pp).2.1, g1, c1⟩
  have w36 : ∀ hx p' q z, q ≠ 0 → p' ≤ n → CL hx f n p' q → ∃ H h1 p'', run (D + 1) md_63 36 [vr 103, vu, vu, vu, vu] [vi z] hx = run (D + 1) md_63 51 [vr 103, vi z, vi H, vu, vu] [] h1 ∧ p'' ≤ n ∧ Qt hx h1 ∧ CL h1 f n p'' q := fun hx p' q z qn pp cx => by
    obtain ⟨p9, v, h1, r1, pp1, g1, c1⟩ := k_80w cx qn x pp (D := D) (by omega) 1 6
    obtain ⟨h2, p8, r2, pp2, g2, c2⟩ := w44 h1 p9 q z v qn pp1 c1
    exact ⟨v, h2, p8, by rw [q_63_36 (w := cx.1), r1, bI_s, r2], pp2, g1.tr g2, c2⟩
  obtain ⟨h1, r1, g1, c1⟩ := k_78 c x q0 (D := D) (by omega) (a := 0) (by omega)
  have s1 : run (D + 1) md_63 22 [vr 103, vu, vu, vu, vu] [] h = bI (ev D 80 [vr 103, vi 2, vi 10] h1) fun r1 h1 => run (D + 1) md_63 36 [vr 103, vu, vu, vu, vu] [vi r1] h1 := by
    rw [q_63_22 (w := c.1), r1, bV_s, q_63_29 (w := c1.1)]
  rw [e1] at c1
  refine ⟨fun q hf => ?_, fun ⟨a, b, u, v⟩ => ?_⟩
  · have qn := hdF_0 hf
    rcases hf with ⟨a, rfl⟩ | ⟨a, hf⟩
    · rw [if_neg (show ¬ (tkK f n p0 = 1 ∧ tkW f n p0 = sml (0 + 1)) from a), f0] at c1
      obtain ⟨p9, v, h2, r2, pp2, g2, c2⟩ := k_80w c1 qn x q1 (D := D) (by omega) 2 10
      obtain ⟨H, h3, p8, r3, pp3, g3, c3⟩ := w36 h2 p9 _ v qn pp2 c2
      exact ⟨v, H, h3, p8, by rw [s1, r2, bI_s, r3], pp3, (g1.tr g2).tr g3, c3⟩
    · rw [if_pos (show tkK f n p0 = 1 ∧ tkW f n p0 = sml (0 + 1) from a)] at c1
      rcases hf with ⟨b, rfl⟩ | ⟨b, hf⟩
      · obtain ⟨h2, r2, g2, c2⟩ := k_80n c1 x q1 (D := D) (by omega) b
        rw [kdN_e, f0] at c2
        obtain ⟨H, h3, p8, r3, pp3, g3, c3⟩ := w36 h2 p1 _ 2 qn q1 c2
        exact ⟨2, H, h3, p8, by rw [s1, r2, bI_s, r3], pp3, (g1.tr g2).tr g3, c3⟩
      · obtain ⟨h2, r2, g2, c2⟩ := k_80y c1 x q1 (D := D) (by omega) b
        rw [e2] at c2
        rcases hf with ⟨u, rfl⟩ | ⟨u, v, rfl⟩
        · obtain ⟨h3, r3, g3, c3⟩ := k_80n c2 x q2 (D := D) (by omega) u
          rw [kdN_e, f0] at c3
          obtain ⟨h4, p8, r4, pp4, g4, c4⟩ := w44 h3 p2 _ (tkN f n p1) 1 qn q2 c3
          exact ⟨_, 1, h4, p8, by rw [s1, r2, bI_s, q_63_36 (w := c2.1), r3, bI_s, r4], pp4, ((g1.tr g2).tr g3).tr g4, c4⟩
        · obtain ⟨h3, r3, g3, c3⟩ := k_80y c2 x q2 (D := D) (by omega) u
          rw [e3] at c3
          obtain ⟨h4, r4, g4, c4⟩ := k_79 c3 x q3 (D := D) (by omega) 59
          rw [if_neg (show ¬ (tkK f n p3 = 3 ∧ f (tB f n p3) = 59) from v), f0, e4] at c4
          exact ⟨_, _, h4, p4, by rw [s1, r2, bI_s, q_63_36 (w := c2.1), r3, bI_s, q_63_44 (w := c3.1), r4, bV_s], q4, ((g1.tr g2).tr g3).tr g4, c4⟩
  · rw [if_pos (show tkK f n p0 = 1 ∧ tkW f n p0 = sml (0 + 1) from a)] at c1
    obtain ⟨h2, r2, g2, c2⟩ := k_80y c1 x q1 (D := D) (by omega) b
    rw [e2] at c2
    obtain ⟨h3, r3, g3, c3⟩ := k_80y c2 x q2 (D := D) (by omega) u
    rw [e3] at c3
    obtain ⟨h4, r4, g4, c4⟩ := k_79 c3 x q3 (D := D) (by omega) 59
    rw [if_pos (show tkK f n p3 = 3 ∧ f (tB f n p3) = 59 from v), e4] at c4
    exact ⟨h4, by rw [s1, r2, bI_s, q_63_36 (w := c2.1), r3, bI_s, q_63_44 (w := c3.1), r4, bV_s], ((g1.tr g2).tr g3).tr g4, c4⟩
/-- the first line, reference -/
theorem s_hd {h : HP} {l p0 p1 p2 p3 p4 : Nat} (e1 : tkE f n p0 = p1) (e2 : tkE f n p1 = p2) (e3 : tkE f n p2 = p3) (e4 : tkE f n p3 = p4) (r : RL h f n p0) (x : TX f n l) (q0 : p0 ≤ n) (d : Nat) : (∀ q, hdF f n p0 p1 p2 p3 q → ∃ h1, run (d + 4 + 1) md_179 44 [vr 145, vu] [] h = some (vi 0, h1) ∧ Rd h h1 ∧ h_mi h1 145 9 = q) ∧ (hdO f n p0 p1 p2 p3 → ∃ h1 h2 h3, run (d + 4 + 1) md_179 44 [vr 145, vu] [] h = run (d + 4 + 1) md_179 108 [vr 145, vu] [] h3 ∧ RQ h h1 ∧ RQ (sI h1 147 5 (tkN f n p1)) h2 ∧ RQ (sI h2 147 6 (tkN f n p2)) h3 ∧ RL h3 f n p4) := by
  have q1 : p1 ≤ n := e1 ▸ (tk_n (f := f) q0).2.1
  have q2 : p2 ≤ n := e2 ▸ (tk_n (f := f) q1).2.1
  have q3 : p3 ≤ n := e3 ▸ (tk_n (f := f) q2).2.1
  have st2 : wdP f n p0 3396901 → ∃ h1, RQ h h1 ∧ RL h1 f n p1 ∧ run (d + 4 + 1) md_179 44 [vr 145, vu] [] h = bI (ev (d + 4) 166 [vr 145, vi 2, vi 10] h1) fun r1 h1 => run (d + 4 + 1) md_179 61 [vr 145, vu] [vi r1] h1 := fun a => by
    obtain ⟨h1, a1, g1, r1⟩ := s_167y r x q0 (d + 2) a
    rw [e1] at r1
    refine ⟨h1, g1, r1, ?_⟩
    rw [q_179_44 (w := r.1), a1, bI_s, q_179_51 (w := r1.1)]; rfl
  have st3 : wdP f n p0 3396901 → nuP f n p1 2 10 → ∃ h1, RQ h h1 ∧ RL (sI h1 147 5 (tkN f n p1)) f n p2 ∧ run (d + 4 + 1) md_179 44 [vr 145, vu] [] h = bI (ev (d + 4) 166 [vr 145, vi 1, vi 6] (sI h1 147 5 (tkN f n p1))) fun r1 h1 => run (d + 4 + 1) md_179 83 [vr 145, vu] [vi r1] h1 := fun a b => by
    obtain ⟨h1, g1, r1, a1⟩ := st2 a
    obtain ⟨h2, a2, g2, r2, m2⟩ := s_166y r1 x q1 (d + 2) b
    rw [e2] at r2
    refine ⟨h2, g1.tr g2, r2.sn (by omega) (by omega) _, ?_⟩
    rw [a1, a2, bI_s, q_179_61 (w := r2.1), m2]; rfl
  have st4 : wdP f n p0 3396901 → nuP f n p1 2 10 → nuP f n p2 1 6 → ∃ h1 h2, RQ h h1 ∧ RQ (sI h1 147 5 (tkN f n p1)) h2 ∧ RL (sI h2 147 6 (tkN f n p2)) f n p3 ∧ run (d + 4 + 1) md_179 44 [vr 145, vu] [] h = bI (ev (d + 4) 168 [vr 145] (sI h2 147 6 (tkN f n p2))) fun r1 h1 => run (d + 4 + 1) md_179 103 [vr 145, vu] [vi r1] h1 := fun a b c => by
    obtain ⟨h1, g1, r1, a1⟩ := st3 a b
    obtain ⟨h2, a2, g2, r2, m2⟩ := s_166y r1 x q2 (d + 2) c
    rw [e3] at r2
    refine ⟨h1, h2, g1, g2, r2.sn (by omega) (by omega) _, ?_⟩
    rw [a1, a2, bI_s, q_179_83 (w := r2.1), m2]; rfl
  have rd5 : ∀ {h1 : HP} (v : Int), Rd h h1 → Rd h (sI h1 147 5 v) := fun v g => g.si (by omega) (by omega) (by show 5 ≤ 5; omega) (by show 5 < 2 * 5; omega) v
  have rd6 : ∀ {h1 : HP} (v : Int), Rd h h1 → Rd h (sI h1 147 6 v) := fun v g => g.si (by omega) (by omega) (by show 5 ≤ 6; omega) (by show 6 < 2 * 5; omega) v
  refine ⟨fun q hf => ?_, fun ⟨a, b, u, v⟩ => ?_⟩
  · rcases hf with ⟨a, rfl⟩ | ⟨a, ⟨b, rfl⟩ | ⟨b, ⟨u, rfl⟩ | ⟨u, v, rfl⟩⟩⟩
    · obtain ⟨h1, a1, f1⟩ := s_167n r x q0 (d + 2) a
      refine ⟨h1, ?_, f1.1.rd, f1.2⟩
      rw [q_179_44 (w := r.1), a1, bI_s, q_179_51 (w := f1.1.rs r.1)]; rfl
    · obtain ⟨h1, g1, r1, a1⟩ := st2 a
      obtain ⟨h2, a2, f2⟩ := s_166n r1 x q1 (d + 2) b
      rw [kdN_e] at f2
      refine ⟨h2, ?_, g1.rd.tr f2.1.rd, f2.2⟩
      rw [a1, a2, bI_s, q_179_61 (w := f2.1.rs r1.1)]; rfl
    · obtain ⟨h1, g1, r1, a1⟩ := st3 a b
      obtain ⟨h2, a2, f2⟩ := s_166n r1 x q2 (d + 2) u
      rw [kdN_e] at f2
      refine ⟨h2, ?_, (rd5 _ g1.rd).tr f2.1.rd, f2.2⟩
      rw [a1, a2, bI_s, q_179_83 (w := f2.1.rs r1.1)]; rfl
    · obtain ⟨h1, h2, g1, g2, r2, a2⟩ := st4 a b u
      obtain ⟨h3, a3, f3⟩ := s_168n r2 x q3 (d + 2) v
      refine ⟨h3, ?_, (rd6 _ ((rd5 _ g1.rd).tr g2.rd)).tr f3.1.rd, f3.2⟩
      rw [a2, a3, bI_s, q_179_103]; rfl
  · obtain ⟨h1, h2, g1, g2, r2, a2⟩ := st4 a b u
    obtain ⟨h3, a3, g3, r3⟩ := s_168y r2 x q3 (d + 2) v
    rw [e4] at r3
    refine ⟨h1, h2, h3, ?_, g1, g2, g3, r3⟩
    rw [a2, a3, bI_s, q_179_103]; rfl
end
