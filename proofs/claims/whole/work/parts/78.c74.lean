/-! lines are read: which line -/
section
variable {hc hr h : HP} {f : Nat → Int} {n l p t b : Nat} {e : Nat → (Nat → Int) → Int} {q : Int}
/-- one line, in the loops -/
def LNx (f : Nat → Int) (n t b D d : Nat) (hc hr : HP) (p : Nat) : Prop :=
  (∃ q h1 h2 p', q ≠ 0 ∧ p' ≤ n ∧ (∃ h0, ev (D + 1) 64 [vr 103, vr t] hc = some (vr 0, h0) ∧ ev (D + 1) 79 [vr 103, vi 59] h0 = some (vr 0, h1) ∧ CSk h0) ∧ Wb b hc h1 ∧ CL h1 f n p' q ∧ (h_sz h1 ≤ h_sz hc + 2 ∧ h_sl h1 ≤ h_sl hc + 1001) ∧ (∀ v1, run (d + 4 + 1) md_179 108 [vr 145, v1] [] hr = some (vi 0, h2)) ∧ Rd hr h2 ∧ h_mi h2 145 9 = q) ∨
  (∃ h1 h2 p' e', (p + 2 ≤ p' ∧ p' ≤ n) ∧ (∃ h0, ev (D + 1) 64 [vr 103, vr t] hc = some (vr 0, h0) ∧ ev (D + 1) 79 [vr 103, vi 59] h0 = some (vr 0, h1) ∧ CSk h0) ∧ Wb b hc h1 ∧ (h_sz h1 + p ≤ h_sz hc + p' ∧ h_sl h1 + 2 * p ≤ h_sl hc + 2 * p') ∧ (∀ v1, run (d + 4 + 1) md_179 108 [vr 145, v1] [] hr = run (d + 4 + 1) md_179 108 [vr 145, vi 1] [] h2) ∧ Rd hr h2 ∧ XX h1 h2 f n p' t e')
theorem lo_ln {D K d K' : Nat} {as bs : List AV} (o : LOx f n t b D K as (d + 4) K' bs hc hr p) (c : ∀ h0, ev D K as hc = some (vr 0, h0) → ev (D + 1) 64 [vr 103, vr t] hc = some (vr 0, h0)) (r : ∀ v1, run (d + 4 + 1) md_179 108 [vr 145, v1] [] hr = bI (ev (d + 4) K' bs hr) fun r1 h1 => run (d + 4 + 1) md_179 296 [vr 145, v1] [vi r1] h1) : LNx f n t b D d hc hr p := by
  rcases o with ⟨q, h1, h2, p', q0, pp, ⟨h0, a1, a2, a3⟩, wb, cl, sz, er, rd, m9⟩ | ⟨h1, h2, p', e', pp, ⟨h0, a1, a2, a3⟩, wb, sz, er, rd, X⟩
  · refine Or.inl ⟨q, h1, h2, p', q0, pp, ⟨h0, c h0 a1, a2, a3⟩, wb, cl, sz, fun v1 => ?_, rd, m9⟩
    rw [r v1, er, bI_s, q_179_296]; rfl
  · refine Or.inr ⟨h1, h2, p', e', pp, ⟨h0, c h0 a1, a2, a3⟩, wb, sz, fun v1 => ?_, rd, X⟩
    rw [r v1, er, bI_s, q_179_296]; rfl
theorem u_108 (r : RL h f n p) (k0 : tkK f n p ≠ 0) (d : Nat) (v1 : AV) : run (d + 1) md_179 108 [vr 145, v1] [] h = run (d + 1) md_179 122 [vr 145, v1] [vi (bb (tkK f n p = 1 ∧ tkW f n p = 365321))] h := by
  rw [q_179_108 (w := r.1), r.2.2.2.2.1, df k0, r_153 r.1 r.2]; rfl
theorem u_122 (r : RL h f n p) (z : ¬ (tkK f n p = 1 ∧ tkW f n p = 365321)) (d : Nat) (v1 : AV) : run (d + 1) md_179 122 [vr 145, v1] [vi (bb (tkK f n p = 1 ∧ tkW f n p = 365321))] h = run (d + 1) md_179 140 [vr 145, v1] [vi (bb (tkK f n p = 1 ∧ tkW f n p = 375050))] h := by
  rw [q_179_122 (w := r.1), bb_df z, r_153 r.1 r.2]; rfl
theorem u_140 (r : RL h f n p) (z : ¬ (tkK f n p = 1 ∧ tkW f n p = 375050)) (d : Nat) (v1 : AV) : run (d + 1) md_179 140 [vr 145, v1] [vi (bb (tkK f n p = 1 ∧ tkW f n p = 375050))] h = run (d + 1) md_179 158 [vr 145, v1] [vi (bb (tkK f n p = 1 ∧ tkW f n p = 1473512789))] h := by
  rw [q_179_140 (w := r.1), bb_df z, r_153 r.1 r.2]; rfl
theorem u_158 (r : RL h f n p) (z : ¬ (tkK f n p = 1 ∧ tkW f n p = 1473512789)) (d : Nat) (v1 : AV) : run (d + 1) md_179 158 [vr 145, v1] [vi (bb (tkK f n p = 1 ∧ tkW f n p = 1473512789))] h = run (d + 1) md_179 175 [vr 145, v1] [vi (bb (tkK f n p = 1 ∧ tkW f n p = 237980745))] h := by
  rw [q_179_158 (w := r.1), bb_df z, r_153 r.1 r.2]; rfl
theorem u_175 (r : RL h f n p) (z : ¬ (tkK f n p = 1 ∧ tkW f n p = 237980745)) (d : Nat) (v1 : AV) : run (d + 1) md_179 175 [vr 145, v1] [vi (bb (tkK f n p = 1 ∧ tkW f n p = 237980745))] h = run (d + 1) md_179 192 [vr 145, v1] [vi (bb (tkK f n p = 1 ∧ tkW f n p = 247162))] h := by
  rw [q_179_175 (w := r.1), bb_df z, r_153 r.1 r.2]; rfl
theorem u_192 (r : RL h f n p) (z : ¬ (tkK f n p = 1 ∧ tkW f n p = 247162)) (d : Nat) (v1 : AV) : run (d + 1) md_179 192 [vr 145, v1] [vi (bb (tkK f n p = 1 ∧ tkW f n p = 247162))] h = run (d + 1) md_179 209 [vr 145, v1] [vi (bb (tkK f n p = 1 ∧ tkW f n p = 3554408))] h := by
  rw [q_179_192 (w := r.1), bb_df z, r_153 r.1 r.2]; rfl
theorem u_209 (r : RL h f n p) (z : ¬ (tkK f n p = 1 ∧ tkW f n p = 3554408)) (d : Nat) (v1 : AV) : run (d + 1) md_179 209 [vr 145, v1] [vi (bb (tkK f n p = 1 ∧ tkW f n p = 3554408))] h = run (d + 1) md_179 227 [vr 145, v1] [vi (bb (tkK f n p = 1 ∧ tkW f n p = 259868))] h := by
  rw [q_179_209 (w := r.1), bb_df z, r_153 r.1 r.2]; rfl
theorem u_227 (r : RL h f n p) (z : ¬ (tkK f n p = 1 ∧ tkW f n p = 259868)) (d : Nat) (v1 : AV) : run (d + 1) md_179 227 [vr 145, v1] [vi (bb (tkK f n p = 1 ∧ tkW f n p = 259868))] h = run (d + 1) md_179 245 [vr 145, v1] [vi (bb (tkK f n p = 1 ∧ tkW f n p = 10408315))] h := by
  rw [q_179_227 (w := r.1), bb_df z, r_153 r.1 r.2]; rfl
theorem u_245 (r : RL h f n p) (z : ¬ (tkK f n p = 1 ∧ tkW f n p = 10408315)) (d : Nat) (v1 : AV) : run (d + 1) md_179 245 [vr 145, v1] [vi (bb (tkK f n p = 1 ∧ tkW f n p = 10408315))] h = run (d + 1) md_179 263 [vr 145, v1] [vi (bb (tkK f n p = 1 ∧ tkW f n p = 3379448))] h := by
  rw [q_179_245 (w := r.1), bb_df z, r_153 r.1 r.2]; rfl
theorem u_263 (r : RL h f n p) (z : ¬ (tkK f n p = 1 ∧ tkW f n p = 3379448)) (d : Nat) (v1 : AV) : run (d + 1) md_179 263 [vr 145, v1] [vi (bb (tkK f n p = 1 ∧ tkW f n p = 3379448))] h = run (d + 1) md_179 281 [vr 145, v1] [vi (bb (tkK f n p = 1 ∧ tkW f n p = 262768))] h := by
  rw [q_179_263 (w := r.1), bb_df z, r_153 r.1 r.2]; rfl
theorem v64_rock (c : CL h f n p q) (k1 : tkK f n p = 1) (w1 : tkW f n p = 365321) (D : Nat) (h0 : HP) (e0 : ev D 65 [vr 103, vr t, vi 1] h = some (vr 0, h0)) : ev (D + 1) 64 [vr 103, vr t] h = some (vr 0, h0) := by
  have m7 : h_mr h 101 7 = 2 := by rw [(c.2.2.1.2.2.2.2.1 k1).2]; exact (enW_is (c := 1) (by omega)).mpr w1
  have s := c.2.1 2 (by omega) (by omega)
  have kd : isK h 2 20 = true := isKc s.1
  have m4 : h_mi h 2 4 = 1 := s.2.2.1 4
  have m39 : h_mi h 39 ((1 : Int).toNat) = 1 := (c.2.1 39 (by omega) (by omega)).2.2.1 1
  rw [v_64, q_64_0 (t := t) (w := c.1) (st := c.2.1), m7, kd, m4, m39, e0]
  show run (D + 1) md_64 94 [vr 103, vr t, vr 2] [] h0 = _
  rw [q_64_94, q_64_162]
theorem v64_salt (c : CL h f n p q) (k1 : tkK f n p = 1) (w1 : tkW f n p = 375050) (D : Nat) (h0 : HP) (e0 : ev D 65 [vr 103, vr t, vi 2] h = some (vr 0, h0)) : ev (D + 1) 64 [vr 103, vr t] h = some (vr 0, h0) := by
  have m7 : h_mr h 101 7 = 3 := by rw [(c.2.2.1.2.2.2.2.1 k1).2]; exact (enW_is (c := 2) (by omega)).mpr w1
  have s := c.2.1 3 (by omega) (by omega)
  have kd : isK h 3 20 = true := isKc s.1
  have m4 : h_mi h 3 4 = 2 := s.2.2.1 4
  have m39 : h_mi h 39 ((2 : Int).toNat) = 2 := (c.2.1 39 (by omega) (by omega)).2.2.1 2
  rw [v_64, q_64_0 (t := t) (w := c.1) (st := c.2.1), m7, kd, m4, m39, e0]
  show run (D + 1) md_64 103 [vr 103, vr t, vr 3] [] h0 = _
  rw [q_64_103, q_64_162]
theorem v64_curr (c : CL h f n p q) (k1 : tkK f n p = 1) (w1 : tkW f n p = 1473512789) (D : Nat) (h0 : HP) (e0 : ev D 66 [vr 103, vr t] h = some (vr 0, h0)) : ev (D + 1) 64 [vr 103, vr t] h = some (vr 0, h0) := by
  have m7 : h_mr h 101 7 = 4 := by rw [(c.2.2.1.2.2.2.2.1 k1).2]; exact (enW_is (c := 3) (by omega)).mpr w1
  have s := c.2.1 4 (by omega) (by omega)
  have kd : isK h 4 20 = true := isKc s.1
  have m4 : h_mi h 4 4 = 3 := s.2.2.1 4
  have m39 : h_mi h 39 ((3 : Int).toNat) = 3 := (c.2.1 39 (by omega) (by omega)).2.2.1 3
  rw [v_64, q_64_0 (t := t) (w := c.1) (st := c.2.1), m7, kd, m4, m39, e0]
  show run (D + 1) md_64 111 [vr 103, vr t, vr 4] [] h0 = _
  rw [q_64_111, q_64_162]
theorem v64_pour (c : CL h f n p q) (k1 : tkK f n p = 1) (w1 : tkW f n p = 237980745) (D : Nat) (h0 : HP) (e0 : ev D 67 [vr 103, vr t] h = some (vr 0, h0)) : ev (D + 1) 64 [vr 103, vr t] h = some (vr 0, h0) := by
  have m7 : h_mr h 101 7 = 6 := by rw [(c.2.2.1.2.2.2.2.1 k1).2]; exact (enW_is (c := 5) (by omega)).mpr w1
  have s := c.2.1 6 (by omega) (by omega)
  have kd : isK h 6 20 = true := isKc s.1
  have m4 : h_mi h 6 4 = 5 := s.2.2.1 4
  have m39 : h_mi h 39 ((5 : Int).toNat) = 4 := (c.2.1 39 (by omega) (by omega)).2.2.1 5
  rw [v_64, q_64_0 (t := t) (w := c.1) (st := c.2.1), m7, kd, m4, m39, e0]
  show run (D + 1) md_64 119 [vr 103, vr t, vr 6] [] h0 = _
  rw [q_64_119, q_64_162]
theorem v64_load (c : CL h f n p q) (k1 : tkK f n p = 1) (w1 : tkW f n p = 247162) (D : Nat) (h0 : HP) (e0 : ev D 68 [vr 103, vr t] h = some (vr 0, h0)) : ev (D + 1) 64 [vr 103, vr t] h = some (vr 0, h0) := by
  have m7 : h_mr h 101 7 = 8 := by rw [(c.2.2.1.2.2.2.2.1 k1).2]; exact (enW_is (c := 7) (by omega)).mpr w1
  have s := c.2.1 8 (by omega) (by omega)
  have kd : isK h 8 20 = true := isKc s.1
  have m4 : h_mi h 8 4 = 7 := s.2.2.1 4
  have m39 : h_mi h 39 ((7 : Int).toNat) = 5 := (c.2.1 39 (by omega) (by omega)).2.2.1 7
  rw [v_64, q_64_0 (t := t) (w := c.1) (st := c.2.1), m7, kd, m4, m39, e0]
  show run (D + 1) md_64 127 [vr 103, vr t, vr 8] [] h0 = _
  rw [q_64_127, q_64_162]
theorem v64_l0 (c : CL h f n p q) (k1 : tkK f n p = 1) (w1 : tkW f n p = 3554408) (D : Nat) (h0 : HP) (e0 : ev D 70 [vr 103, vr t, vi 0] h = some (vr 0, h0)) : ev (D + 1) 64 [vr 103, vr t] h = some (vr 0, h0) := by
  have m7 : h_mr h 101 7 = 11 := by rw [(c.2.2.1.2.2.2.2.1 k1).2]; exact (enW_is (c := 10) (by omega)).mpr w1
  have s := c.2.1 11 (by omega) (by omega)
  have kd : isK h 11 20 = true := isKc s.1
  have m4 : h_mi h 11 4 = 10 := s.2.2.1 4
  have m39 : h_mi h 39 ((10 : Int).toNat) = 7 := (c.2.1 39 (by omega) (by omega)).2.2.1 10
  have m2 : h_mi h 11 2 = 0 := s.2.2.1 2
  rw [v_64, q_64_0 (t := t) (w := c.1) (st := c.2.1), m7, kd, m4, m39, m2, e0]
  show run (D + 1) md_64 147 [vr 103, vr t, vr 11] [] h0 = _
  rw [q_64_147, q_64_162]
theorem v64_l1 (c : CL h f n p q) (k1 : tkK f n p = 1) (w1 : tkW f n p = 259868) (D : Nat) (h0 : HP) (e0 : ev D 70 [vr 103, vr t, vi 1] h = some (vr 0, h0)) : ev (D + 1) 64 [vr 103, vr t] h = some (vr 0, h0) := by
  have m7 : h_mr h 101 7 = 12 := by rw [(c.2.2.1.2.2.2.2.1 k1).2]; exact (enW_is (c := 11) (by omega)).mpr w1
  have s := c.2.1 12 (by omega) (by omega)
  have kd : isK h 12 20 = true := isKc s.1
  have m4 : h_mi h 12 4 = 11 := s.2.2.1 4
  have m39 : h_mi h 39 ((11 : Int).toNat) = 8 := (c.2.1 39 (by omega) (by omega)).2.2.1 11
  have m2 : h_mi h 12 2 = 1 := s.2.2.1 2
  rw [v_64, q_64_0 (t := t) (w := c.1) (st := c.2.1), m7, kd, m4, m39, m2, e0]
  show run (D + 1) md_64 147 [vr 103, vr t, vr 12] [] h0 = _
  rw [q_64_147, q_64_162]
theorem v64_l2 (c : CL h f n p q) (k1 : tkK f n p = 1) (w1 : tkW f n p = 10408315) (D : Nat) (h0 : HP) (e0 : ev D 70 [vr 103, vr t, vi 2] h = some (vr 0, h0)) : ev (D + 1) 64 [vr 103, vr t] h = some (vr 0, h0) := by
  have m7 : h_mr h 101 7 = 13 := by rw [(c.2.2.1.2.2.2.2.1 k1).2]; exact (enW_is (c := 12) (by omega)).mpr w1
  have s := c.2.1 13 (by omega) (by omega)
  have kd : isK h 13 20 = true := isKc s.1
  have m4 : h_mi h 13 4 = 12 := s.2.2.1 4
  have m39 : h_mi h 39 ((12 : Int).toNat) = 9 := (c.2.1 39 (by omega) (by omega)).2.2.1 12
  have m2 : h_mi h 13 2 = 2 := s.2.2.1 2
  rw [v_64, q_64_0 (t := t) (w := c.1) (st := c.2.1), m7, kd, m4, m39, m2, e0]
  show run (D + 1) md_64 147 [vr 103, vr t, vr 13] [] h0 = _
  rw [q_64_147, q_64_162]
theorem v64_l3 (c : CL h f n p q) (k1 : tkK f n p = 1) (w1 : tkW f n p = 3379448) (D : Nat) (h0 : HP) (e0 : ev D 70 [vr 103, vr t, vi 3] h = some (vr 0, h0)) : ev (D + 1) 64 [vr 103, vr t] h = some (vr 0, h0) := by
  have m7 : h_mr h 101 7 = 14 := by rw [(c.2.2.1.2.2.2.2.1 k1).2]; exact (enW_is (c := 13) (by omega)).mpr w1
  have s := c.2.1 14 (by omega) (by omega)
  have kd : isK h 14 20 = true := isKc s.1
  have m4 : h_mi h 14 4 = 13 := s.2.2.1 4
  have m39 : h_mi h 39 ((13 : Int).toNat) = 10 := (c.2.1 39 (by omega) (by omega)).2.2.1 13
  have m2 : h_mi h 14 2 = 3 := s.2.2.1 2
  rw [v_64, q_64_0 (t := t) (w := c.1) (st := c.2.1), m7, kd, m4, m39, m2, e0]
  show run (D + 1) md_64 147 [vr 103, vr t, vr 14] [] h0 = _
  rw [q_64_147, q_64_162]
theorem v64_mild (c : CL h f n p q) (k1 : tkK f n p = 1) (w1 : tkW f n p = 262768) (D : Nat) (h0 : HP) (e0 : ev D 69 [vr 103, vr t] h = some (vr 0, h0)) : ev (D + 1) 64 [vr 103, vr t] h = some (vr 0, h0) := by
  have m7 : h_mr h 101 7 = 15 := by rw [(c.2.2.1.2.2.2.2.1 k1).2]; exact (enW_is (c := 14) (by omega)).mpr w1
  have s := c.2.1 15 (by omega) (by omega)
  have kd : isK h 15 20 = true := isKc s.1
  have m4 : h_mi h 15 4 = 14 := s.2.2.1 4
  have m39 : h_mi h 39 ((14 : Int).toNat) = 6 := (c.2.1 39 (by omega) (by omega)).2.2.1 14
  rw [v_64, q_64_0 (t := t) (w := c.1) (st := c.2.1), m7, kd, m4, m39, e0]
  show run (D + 1) md_64 135 [vr 103, vr t, vr 15] [] h0 = _
  rw [q_64_135, q_64_162]
theorem u_rock (r : RL h f n p) (k1 : tkK f n p = 1) (w1 : tkW f n p = 365321) (d : Nat) (v1 : AV) : run (d + 4 + 1) md_179 108 [vr 145, v1] [] h = bI (ev (d + 4) 172 [vr 145, vi 1] h) fun r1 h1 => run (d + 4 + 1) md_179 296 [vr 145, v1] [vi r1] h1 := by
  rw [u_108 r (by omega) (d + 4) v1, q_179_122 (w := r.1), bb_dt (show tkK f n p = 1 ∧ tkW f n p = 365321 from ⟨k1, w1⟩)]
  simp only [zb, q_179_130]
theorem u_salt (r : RL h f n p) (k1 : tkK f n p = 1) (w1 : tkW f n p = 375050) (d : Nat) (v1 : AV) : run (d + 4 + 1) md_179 108 [vr 145, v1] [] h = bI (ev (d + 4) 172 [vr 145, vi 2] h) fun r1 h1 => run (d + 4 + 1) md_179 296 [vr 145, v1] [vi r1] h1 := by
  rw [u_108 r (by omega) (d + 4) v1, u_122 r (by omega) (d + 4) v1, q_179_140 (w := r.1), bb_dt (show tkK f n p = 1 ∧ tkW f n p = 375050 from ⟨k1, w1⟩)]
  simp only [zb, q_179_148]
theorem u_curr (r : RL h f n p) (k1 : tkK f n p = 1) (w1 : tkW f n p = 1473512789) (d : Nat) (v1 : AV) : run (d + 4 + 1) md_179 108 [vr 145, v1] [] h = bI (ev (d + 4) 173 [vr 145] h) fun r1 h1 => run (d + 4 + 1) md_179 296 [vr 145, v1] [vi r1] h1 := by
  rw [u_108 r (by omega) (d + 4) v1, u_122 r (by omega) (d + 4) v1, u_140 r (by omega) (d + 4) v1, q_179_158 (w := r.1), bb_dt (show tkK f n p = 1 ∧ tkW f n p = 1473512789 from ⟨k1, w1⟩)]
  simp only [zb, q_179_165]
theorem u_pour (r : RL h f n p) (k1 : tkK f n p = 1) (w1 : tkW f n p = 237980745) (d : Nat) (v1 : AV) : run (d + 4 + 1) md_179 108 [vr 145, v1] [] h = bI (ev (d + 4) 177 [vr 145] h) fun r1 h1 => run (d + 4 + 1) md_179 296 [vr 145, v1] [vi r1] h1 := by
  rw [u_108 r (by omega) (d + 4) v1, u_122 r (by omega) (d + 4) v1, u_140 r (by omega) (d + 4) v1, u_158 r (by omega) (d + 4) v1, q_179_175 (w := r.1), bb_dt (show tkK f n p = 1 ∧ tkW f n p = 237980745 from ⟨k1, w1⟩)]
  simp only [zb, q_179_182]
theorem u_load (r : RL h f n p) (k1 : tkK f n p = 1) (w1 : tkW f n p = 247162) (d : Nat) (v1 : AV) : run (d + 4 + 1) md_179 108 [vr 145, v1] [] h = bI (ev (d + 4) 178 [vr 145] h) fun r1 h1 => run (d + 4 + 1) md_179 296 [vr 145, v1] [vi r1] h1 := by
  rw [u_108 r (by omega) (d + 4) v1, u_122 r (by omega) (d + 4) v1, u_140 r (by omega) (d + 4) v1, u_158 r (by omega) (d + 4) v1, u_175 r (by omega) (d + 4) v1, q_179_192 (w := r.1), bb_dt (show tkK f n p = 1 ∧ tkW f n p = 247162 from ⟨k1, w1⟩)]
  simp only [zb, q_179_199]
theorem u_l0 (r : RL h f n p) (k1 : tkK f n p = 1) (w1 : tkW f n p = 3554408) (d : Nat) (v1 : AV) : run (d + 4 + 1) md_179 108 [vr 145, v1] [] h = bI (ev (d + 4) 169 [vr 145, vi 0] h) fun r1 h1 => run (d + 4 + 1) md_179 296 [vr 145, v1] [vi r1] h1 := by
  rw [u_108 r (by omega) (d + 4) v1, u_122 r (by omega) (d + 4) v1, u_140 r (by omega) (d + 4) v1, u_158 r (by omega) (d + 4) v1, u_175 r (by omega) (d + 4) v1, u_192 r (by omega) (d + 4) v1, q_179_209 (w := r.1), bb_dt (show tkK f n p = 1 ∧ tkW f n p = 3554408 from ⟨k1, w1⟩)]
  simp only [zb, q_179_217]
theorem u_l1 (r : RL h f n p) (k1 : tkK f n p = 1) (w1 : tkW f n p = 259868) (d : Nat) (v1 : AV) : run (d + 4 + 1) md_179 108 [vr 145, v1] [] h = bI (ev (d + 4) 169 [vr 145, vi 1] h) fun r1 h1 => run (d + 4 + 1) md_179 296 [vr 145, v1] [vi r1] h1 := by
  rw [u_108 r (by omega) (d + 4) v1, u_122 r (by omega) (d + 4) v1, u_140 r (by omega) (d + 4) v1, u_158 r (by omega) (d + 4) v1, u_175 r (by omega) (d + 4) v1, u_192 r (by omega) (d + 4) v1, u_209 r (by omega) (d + 4) v1, q_179_227 (w := r.1), bb_dt (show tkK f n p = 1 ∧ tkW f n p = 259868 from ⟨k1, w1⟩)]
  simp only [zb, q_179_235]
theorem u_l2 (r : RL h f n p) (k1 : tkK f n p = 1) (w1 : tkW f n p = 10408315) (d : Nat) (v1 : AV) : run (d + 4 + 1) md_179 108 [vr 145, v1] [] h = bI (ev (d + 4) 169 [vr 145, vi 2] h) fun r1 h1 => run (d + 4 + 1) md_179 296 [vr 145, v1] [vi r1] h1 := by
  rw [u_108 r (by omega) (d + 4) v1, u_122 r (by omega) (d + 4) v1, u_140 r (by omega) (d + 4) v1, u_158 r (by omega) (d + 4) v1, u_175 r (by omega) (d + 4) v1, u_192 r (by omega) (d + 4) v1, u_209 r (by omega) (d + 4) v1, u_227 r (by omega) (d + 4) v1, q_179_245 (w := r.1), bb_dt (show tkK f n p = 1 ∧ tkW f n p = 10408315 from ⟨k1, w1⟩)]
  simp only [zb, q_179_253]
theorem u_l3 (r : RL h f n p) (k1 : tkK f n p = 1) (w1 : tkW f n p = 3379448) (d : Nat) (v1 : AV) : run (d + 4 + 1) md_179 108 [vr 145, v1] [] h = bI (ev (d + 4) 169 [vr 145, vi 3] h) fun r1 h1 => run (d + 4 + 1) md_179 296 [vr 145, v1] [vi r1] h1 := by
  rw [u_108 r (by omega) (d + 4) v1, u_122 r (by omega) (d + 4) v1, u_140 r (by omega) (d + 4) v1, u_158 r (by omega) (d + 4) v1, u_175 r (by omega) (d + 4) v1, u_192 r (by omega) (d + 4) v1, u_209 r (by omega) (d + 4) v1, u_227 r (by omega) (d + 4) v1, u_245 r (by omega) (d + 4) v1, q_179_263 (w := r.1), bb_dt (show tkK f n p = 1 ∧ tkW f n p = 3379448 from ⟨k1, w1⟩)]
  simp only [zb, q_179_271]
theorem u_mild (r : RL h f n p) (k1 : tkK f n p = 1) (w1 : tkW f n p = 262768) (d : Nat) (v1 : AV) : run (d + 4 + 1) md_179 108 [vr 145, v1] [] h = bI (ev (d + 4) 170 [vr 145] h) fun r1 h1 => run (d + 4 + 1) md_179 296 [vr 145, v1] [vi r1] h1 := by
  rw [u_108 r (by omega) (d + 4) v1, u_122 r (by omega) (d + 4) v1, u_140 r (by omega) (d + 4) v1, u_158 r (by omega) (d + 4) v1, u_175 r (by omega) (d + 4) v1, u_192 r (by omega) (d + 4) v1, u_209 r (by omega) (d + 4) v1, u_227 r (by omega) (d + 4) v1, u_245 r (by omega) (d + 4) v1, u_263 r (by omega) (d + 4) v1, q_179_281 (w := r.1), bb_dt (show tkK f n p = 1 ∧ tkW f n p = 262768 from ⟨k1, w1⟩)]
  simp only [zb, q_179_288]
def lnW (w : Int) : Prop := w = 365321 ∨ w = 375050 ∨ w = 1473512789 ∨ w = 237980745 ∨ w = 247162 ∨ w = 3554408 ∨ w = 259868 ∨ w = 10408315 ∨ w = 3379448 ∨ w = 262768
theorem st_ck : ((List.range 35).all fun a => decide (st_switch.getD a 0 = 0) || decide (sml (a + 1) = 365321) || decide (sml (a + 1) = 375050) || decide (sml (a + 1) = 1473512789) || decide (sml (a + 1) = 237980745) || decide (sml (a + 1) = 247162) || decide (sml (a + 1) = 3554408) || decide (sml (a + 1) = 259868) || decide (sml (a + 1) = 10408315) || decide (sml (a + 1) = 3379448) || decide (sml (a + 1) = 262768)) = true := by decide +kernel
theorem ln_no (X : XX hc hr f n p t e) (x : TX f n l) (p1 : p ≤ n) (tk : tkK f n p ≠ 0) (z : ¬ (tkK f n p = 1 ∧ lnW (tkW f n p))) {D : Nat} (hD : 60 ≤ D) (d : Nat) : LNx f n t b D d hc hr p := by
  obtain ⟨cl, rl, c, m, nm, y, _⟩ := X
  have bb := tB_b (f := f) p1
  have b2 := x.2.1
  obtain ⟨h0, e0, g0, q0⟩ := k_84 cl D (k := 1) (b := tB f n p) (by omega) (by omega) (by omega)
  rw [show fq 0 1 (tB f n p) = 1 + 16 * ((tB f n p : Nat) : Int) from if_pos rfl] at q0
  obtain ⟨h1, e1, g1, q1⟩ := k_79w q0 (by omega) x p1 (D := D + 1) (by omega) 59
  obtain ⟨h2, e2, f2⟩ := s_155 rl x p1 (d + 4) (k := 1) (by omega) (by omega)
  have s0 := g0.sh; have s1 := g1.sh
  unfold lnW at z
  refine Or.inl ⟨_, h1, h2, _, by omega, (tk_n p1).2.1, ⟨h0, ?_, e1, q0.1⟩, (Wb.of g0).tr (Wb.of g1), q1, ⟨by rw [s1.2.2.1, s0.2.2.1]; omega, by rw [s1.2.2.2.1, s0.2.2.2.1]; omega⟩, fun v1 => ?_, f2.1.rd, f2.2⟩
  · rw [v_64, q_64_0 (t := t) (w := cl.1) (st := cl.2.1), k_f4 cl, e0]
    by_cases n0 : h_mr hc 101 7 = 0
    · rw [dt n0]
      exact q_64_24 ..
    · have k1 : tkK f n p = 1 := Classical.byContradiction fun k => n0 (cl.2.2.1.2.2.2.2.2.1 k)
      obtain ⟨a, a1, m7, w1, kd, mi⟩ := wd_c cl.2.1 cl.2.2.1 k1 (fun u => n0 (by rw [(cl.2.2.1.2.2.2.2.1 k1).2, u]))
      have m4 : h_mi hc (a + 1) 4 = (a : Int) := by
        rw [mi 4]; unfold smiS; rw [if_pos (by omega)]
        show ((a + 1 : Nat) : Int) - 1 = (a : Int)
        omega
      have m39 : h_mi hc 39 a = st_switch.getD a 0 := (cl.2.1 39 (by omega) (by omega)).2.2.1 a
      have sw := List.all_eq_true.mp st_ck a (List.mem_range.mpr a1)
      simp only [Bool.or_eq_true, decide_eq_true_eq, ← w1] at sw
      have s0' : st_switch.getD a 0 = 0 := by omega
      rw [df n0, m7, kd, m4, dt (show 0 ≤ (a : Int) by omega), dt (show (a : Int) < 35 by omega), Int.toNat_natCast, m39, s0']
      show run (D + 1) md_64 162 [vr 103, vr t, vr (a + 1)] [] h0 = _
      rw [q_64_162]
  · rw [u_108 rl tk (d + 4) v1, u_122 rl (by omega) (d + 4) v1, u_140 rl (by omega) (d + 4) v1, u_158 rl (by omega) (d + 4) v1, u_175 rl (by omega) (d + 4) v1, u_192 rl (by omega) (d + 4) v1, u_209 rl (by omega) (d + 4) v1, u_227 rl (by omega) (d + 4) v1, u_245 rl (by omega) (d + 4) v1, u_263 rl (by omega) (d + 4) v1, q_179_281 (w := rl.1), bb_df (show ¬ (tkK f n p = 1 ∧ tkW f n p = 262768) by omega), e2]
    show run (d + 4 + 1) md_179 296 [vr 145, v1] [vi 0] h2 = _
    rw [q_179_296]; rfl
theorem ln_all (X : XX hc hr f n p t e) (x : ∀ l, l < 4 → TX f n l) (p1 : p ≤ n) (hb : b ≤ t) (bz : b ≤ h_sz hc) (tk : tkK f n p ≠ 0) {D : Nat} (hD : 60 ≤ D) (d : Nat) : LNx f n t b D d hc hr p := by
  by_cases z : tkK f n p = 1 ∧ lnW (tkW f n p)
  · obtain ⟨k1, w⟩ := z
    have X' := X
    obtain ⟨cl, rl, _⟩ := X'
    rcases w with w | w | w | w | w | w | w | w | w | w
    · exact lo_ln (ln_65 X (x 0 (by omega)) p1 hb tk (v := 1) (by omega) (by omega) (D := D) (by omega) d) (fun h0 e0 => v64_rock cl k1 w D h0 e0) (fun v1 => u_rock rl k1 w d v1)
    · exact lo_ln (ln_65 X (x 0 (by omega)) p1 hb tk (v := 2) (by omega) (by omega) (D := D) (by omega) d) (fun h0 e0 => v64_salt cl k1 w D h0 e0) (fun v1 => u_salt rl k1 w d v1)
    · exact lo_ln (ln_66 X (x 0 (by omega)) p1 hb tk (D := D) (by omega) d) (fun h0 e0 => v64_curr cl k1 w D h0 e0) (fun v1 => u_curr rl k1 w d v1)
    · exact lo_ln (ln_67 X (x 0 (by omega)) p1 hb tk (D := D) (by omega) d) (fun h0 e0 => v64_pour cl k1 w D h0 e0) (fun v1 => u_pour rl k1 w d v1)
    · exact lo_ln (ln_68 X (x 0 (by omega)) p1 hb tk (D := D) (by omega) d) (fun h0 e0 => v64_load cl k1 w D h0 e0) (fun v1 => u_load rl k1 w d v1)
    · exact lo_ln (ln_70 X (x 0 (by omega)) p1 hb bz tk (D := D) hD d) (fun h0 e0 => v64_l0 cl k1 w D h0 e0) (fun v1 => u_l0 rl k1 w d v1)
    · exact lo_ln (ln_70 X (x 1 (by omega)) p1 hb bz tk (D := D) hD d) (fun h0 e0 => v64_l1 cl k1 w D h0 e0) (fun v1 => u_l1 rl k1 w d v1)
    · exact lo_ln (ln_70 X (x 2 (by omega)) p1 hb bz tk (D := D) hD d) (fun h0 e0 => v64_l2 cl k1 w D h0 e0) (fun v1 => u_l2 rl k1 w d v1)
    · exact lo_ln (ln_70 X (x 3 (by omega)) p1 hb bz tk (D := D) hD d) (fun h0 e0 => v64_l3 cl k1 w D h0 e0) (fun v1 => u_l3 rl k1 w d v1)
    · exact lo_ln (ln_69 X (x 0 (by omega)) p1 hb tk (D := D) (by omega) d) (fun h0 e0 => v64_mild cl k1 w D h0 e0) (fun v1 => u_mild rl k1 w d v1)
  · exact ln_no X (x 0 (by omega)) p1 tk z hD d
end
