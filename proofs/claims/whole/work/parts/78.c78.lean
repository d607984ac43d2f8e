/-! the reader: the whole text, on both sides -/
section
variable {h hr : HP} {f : Nat → Int} {n : Nat}
/-- what the class's reader begins with -/
def CB (h : HP) (f : Nat → Int) (n : Nat) : Prop := CSk h ∧ Stt h ∧ 182 ≤ h_sz h ∧ h_mi h 101 1 = (n : Int) ∧ ∀ j, j < n → h_mi h 102 j = f j
def RB (hr : HP) (f : Nat → Int) (n : Nat) : Prop := RSk hr ∧ h_mi hr 145 1 = (n : Int) ∧ h_mi hr 146 = f
/-- the class begins -/
theorem k_bg (c : CB h f n) (x : ∀ l, l < 4 → TX f n l) {D : Nat} (hD : 8 ≤ D) : ∃ h1, ev (D + 1) 63 [vr 103] h = run (D + 1) md_63 22 [vr 103, vu, vu, vu, vu] [] h1 ∧ CL h1 f n 0 0 ∧ (∀ b, Wb b h h1) ∧ (h_sz h1 = h_sz h ∧ h_sl h1 = h_sl h) ∧ h_mi h1 103 5 = 0 ∧ h_mi h1 103 6 = 0 := by
  obtain ⟨w, st, z, c1, c2⟩ := c
  have x0 := x 0 (by omega)
  obtain ⟨d, rfl⟩ : ∃ d, D = d + 6 := ⟨D - 6, by omega⟩
  generalize hS : sI (sI (sI (sI h 103 8 0) 103 5 0) 103 6 0) 101 2 0 = S
  have wS : CSk S := by rw [← hS]; exact w
  have stS : Stt S := fun a a1 a2 => by
    obtain ⟨s1, s2, s3, s4, s5⟩ := st a a1 a2
    rw [← hS]
    exact ⟨s1, s2, fun k => by rw [miI_ne _ _ _ (by omega), miI_ne _ _ _ (by omega), miI_ne _ _ _ (by omega), miI_ne _ _ _ (by omega)]; exact s3 k, s4, s5⟩
  have S1 : h_mi S 101 1 = (n : Int) := by rw [← hS, miI_eq, up_ne _ _ (by omega), miI_ne _ _ _ (by omega), miI_ne _ _ _ (by omega), miI_ne _ _ _ (by omega)]; exact c1
  have S2 : h_mi S 101 2 = ((0 : Nat) : Int) := by rw [← hS, miI_eq, up_eq]; rfl
  have S3 : ∀ j, j < n → h_mi S 102 j = f j := fun j hj => by rw [← hS, miI_ne _ _ _ (by omega), miI_ne _ _ _ (by omega), miI_ne _ _ _ (by omega), miI_ne _ _ _ (by omega)]; exact c2 j hj
  obtain ⟨N, r, g, e, n1, n2, ct⟩ := c_89 wS stS d S1 S2 S3 x0.1 x0.2.1 (Nat.zero_le n)
  have g1 : Qt S (cH S r g N) := ⟨r, g, N, rfl, fun a h1 _ => n1 a h1, fun j _ => by rw [n1 103 (by omega)]⟩
  have S8 : h_mi S 103 8 = 0 := by rw [← hS, miI_ne _ _ _ (by omega), miI_eq, up_ne _ _ (by omega), miI_eq, up_ne _ _ (by omega), miI_eq, up_eq]
  have S5 : h_mi S 103 5 = 0 := by rw [← hS, miI_ne _ _ _ (by omega), miI_eq, up_ne _ _ (by omega), miI_eq, up_eq]
  have S6 : h_mi S 103 6 = 0 := by rw [← hS, miI_ne _ _ _ (by omega), miI_eq, up_eq]
  have s := g1.sh
  have zS : h_sz S = h_sz h ∧ h_sl S = h_sl h := by rw [← hS]; exact ⟨rfl, rfl⟩
  have wbS : ∀ b, Wb b h S := fun b => by
    rw [← hS]
    have a := (((Wb.rf b h).s3 8 0).s3 5 0).s3 6 0
    exact ⟨a.1, fun x hx => by
      obtain ⟨a1, a2, a3, a4⟩ := a.2 x hx
      exact ⟨a1, a2, a3, fun y z u => by rw [miI_ne _ _ _ y]; exact a4 y z u⟩⟩
  refine ⟨cH S r g N, ?_, ⟨g1.cs wS, g1.st stS, ct, by show N 103 8 = 0; rw [n1 103 (by omega)]; exact S8⟩, fun b => (wbS b).tr (Wb.of g1), ⟨s.2.2.1.trans zS.1, s.2.2.2.1.trans zS.2⟩, by show N 103 5 = 0; rw [n1 103 (by omega)]; exact S5, by show N 103 6 = 0; rw [n1 103 (by omega)]; exact S6⟩
  rw [v_63, q_63_0 (w := w), v_88, q_88_0 (h := sI (sI (sI h 103 8 0) 103 5 0) 103 6 0) (w := w), hS, e, bV_s, q_88_9, bV_s]
/-- the reference begins -/
theorem s_bg (r : RB hr f n) (x : ∀ l, l < 4 → TX f n l) (d : Nat) : ∃ h1, ev (d + 4 + 1) 179 [vr 145] hr = run (d + 4 + 1) md_179 44 [vr 145, vu] [] h1 ∧ RL h1 f n 0 ∧ Rd (sI hr 145 1 0) h1 ∧ h_mi h1 145 14 = 0 ∧ h_mi h1 145 25 = 0 ∧ h_mi h1 145 24 = 1000 ∧ (h_mi h1 147 7 = 0 ∧ h_mi h1 147 8 = 0 ∧ h_mi h1 147 9 = 0) ∧ (∀ c, c < 60 → h_mi h1 148 (60 + c) = 0 ∧ h_mi h1 149 (60 + c) = 0) ∧ ∀ l, l < 4 → h_mi h1 157 (4 + l) = 1000 ∧ h_mi h1 158 (4 + l) = 1000 := by
  obtain ⟨w, r1, r2⟩ := r
  have x0 := x 0 (by omega)
  obtain ⟨N, e0, p0, p1, p2, p3, p4, p5⟩ := m_156 w (r := 1) (by omega) (d + 4)
  generalize hS : sI (sI (sI (sI (sI (sI (sM hr N) 145 14 0) 145 25 0) 145 24 1000) 145 3 (n : Int)) 145 1 0) 145 4 0 = S
  have wS : RSk S := by rw [← hS]; exact w
  have Sn : ∀ a, a ≠ 145 → h_mi S a = N a := fun a ha => by rw [← hS, miI_ne _ _ _ ha, miI_ne _ _ _ ha, miI_ne _ _ _ ha, miI_ne _ _ _ ha, miI_ne _ _ _ ha, miI_ne _ _ _ ha, mi_sM]
  have N5 : N 145 = h_mi hr 145 := p0 145 (by omega) (by omega) (by omega) (by omega) (by omega)
  have S3 : h_mi S 145 3 = (n : Int) := by rw [← hS, miI_eq, up_ne _ _ (by omega), miI_eq, up_ne _ _ (by omega), miI_eq, up_eq]
  have S4 : h_mi S 145 4 = ((0 : Nat) : Int) := by rw [← hS, miI_eq, up_eq]; rfl
  have S1 : h_mi S 145 1 = 0 := by rw [← hS, miI_eq, up_ne _ _ (by omega), miI_eq, up_eq]
  have S14 : h_mi S 145 14 = 0 := by rw [← hS, miI_eq, up_ne _ _ (by omega), miI_eq, up_ne _ _ (by omega), miI_eq, up_ne _ _ (by omega), miI_eq, up_ne _ _ (by omega), miI_eq, up_ne _ _ (by omega), miI_eq, up_eq]
  have S25 : h_mi S 145 25 = 0 := by rw [← hS, miI_eq, up_ne _ _ (by omega), miI_eq, up_ne _ _ (by omega), miI_eq, up_ne _ _ (by omega), miI_eq, up_ne _ _ (by omega), miI_eq, up_eq]
  have S24 : h_mi S 145 24 = 1000 := by rw [← hS, miI_eq, up_ne _ _ (by omega), miI_eq, up_ne _ _ (by omega), miI_eq, up_ne _ _ (by omega), miI_eq, up_eq]
  have S44 : h_mi S 145 44 = h_mi hr 145 44 := by rw [← hS, miI_eq, up_ne _ _ (by omega), miI_eq, up_ne _ _ (by omega), miI_eq, up_ne _ _ (by omega), miI_eq, up_ne _ _ (by omega), miI_eq, up_ne _ _ (by omega), miI_eq, up_ne _ _ (by omega), mi_sM, N5]
  have rdS : Rd (sI hr 145 1 0) S := by
    refine ⟨by rw [← hS]; exact ⟨rfl, rfl, rfl, rfl, rfl⟩, fun a _ _ => by rw [← hS]; rfl, fun a ha => ?_, fun j hj => ?_, fun a j a1 a2 hj => ?_⟩
    · rw [Sn a (by omega), miI_ne _ _ _ (by omega), p0 a (by omega) (by omega) (by omega) (by omega) (by omega)]
    · rcases hj with z | z
      · rw [z, S1, miI_eq, up_eq]
      · rw [z, S44, miI_eq, up_ne _ _ (by omega)]
    · rw [Sn a (by omega), miI_ne _ _ _ (by omega)]
      by_cases z1 : a = 147
      · subst z1; have hj' : j < 5 ∨ 2 * 5 ≤ j := hj; rw [p1, if_neg (by omega), if_neg (by omega), if_neg (by omega)]
      · by_cases z2 : a = 148
        · subst z2; have hj' : j < 60 ∨ 2 * 60 ≤ j := hj; rw [p2, if_neg (by omega)]
        · by_cases z3 : a = 149
          · subst z3; have hj' : j < 60 ∨ 2 * 60 ≤ j := hj; rw [p3, if_neg (by omega)]
          · by_cases z4 : a = 157
            · subst z4; have hj' : j < 4 ∨ 2 * 4 ≤ j := hj; rw [p4, if_neg (by omega)]
            · by_cases z5 : a = 158
              · subst z5; have hj' : j < 4 ∨ 2 * 4 ≤ j := hj; rw [p5, if_neg (by omega)]
              · rw [p0 a z1 z2 z3 z4 z5]
  have S6 : h_mi S 146 = f := by rw [Sn 146 (by omega), p0 146 (by omega) (by omega) (by omega) (by omega) (by omega)]; exact r2
  obtain ⟨N2, g, e, a1, a2, rt⟩ := m_152 wS (d + 3) S3 S4 S6 x0.2.1 (Nat.zero_le n)
  have g1 : RQ S (sM (sL S 145 7 g) N2) := ⟨g, N2, rfl, a1, fun j h1 h2 h3 h4 _ _ => a2 j h1 h2 h3 h4⟩
  have fN : ∀ a, a ≠ 145 → h_mi (sM (sL S 145 7 g) N2) a = N a := fun a ha => by rw [mi_sM, a1 a ha, Sn a ha]
  refine ⟨sM (sL S 145 7 g) N2, ?_, ⟨g1.rs wS, rt⟩, rdS.tr g1.rd, ?_, ?_, ?_, ⟨?_, ?_, ?_⟩, fun c hc => ⟨?_, ?_⟩, fun l hl => ⟨?_, ?_⟩⟩
  · have e0' : ev (d + 4) 156 [vr 145, vi 1] hr = some (vr 0, sM hr N) := e0
    rw [v_179, q_179_0 (w := w), e0', bV_s, q_179_5 (h := sM hr N) (w := w.m _), mi_sM, N5, r1]
    rw [hS]
    show bV (ev (d + 3 + 1) 152 [vr 145] S) _ = _
    rw [e, bV_s]
  · rw [g1.f (by omega) (by omega) (by omega) (by omega) (by omega) (by omega)]; exact S14
  · rw [g1.f (by omega) (by omega) (by omega) (by omega) (by omega) (by omega)]; exact S25
  · rw [g1.f (by omega) (by omega) (by omega) (by omega) (by omega) (by omega)]; exact S24
  · rw [fN 147 (by omega), p1, if_neg (by omega), if_neg (by omega), if_pos (by omega)]
  · rw [fN 147 (by omega), p1, if_neg (by omega), if_neg (by omega), if_pos (by omega)]
  · rw [fN 147 (by omega), p1, if_neg (by omega), if_neg (by omega), if_pos (by omega)]
  · rw [fN 148 (by omega), p2, if_pos (by omega)]
  · rw [fN 149 (by omega), p3, if_pos (by omega)]
  · rw [fN 157 (by omega), p4, if_pos (by omega)]; rfl
  · rw [fN 158 (by omega), p5, if_pos (by omega)]; rfl
end
section
variable {h hr : HP} {f : Nat → Int} {n : Nat}
theorem z_and (l : Nat) (hl : l < 4) : i_and 0 (i_shl 1 (l : Int)) = 0 := by
  have : l = 0 ∨ l = 1 ∨ l = 2 ∨ l = 3 := by omega
  rcases this with z | z | z | z <;> subst z <;> decide +kernel
/-- the text on both sides: one fault, or one fjord -/
def RAx (f : Nat → Int) (n D d : Nat) (h hr : HP) : Prop :=
  (∃ q h1 h2, q ≠ 0 ∧ ev (D + 2) 63 [vr 103] h = some (vi q, sR h1 103 3 (h_sz h)) ∧ Wb (h_sz h) h h1 ∧ CSk h1 ∧ Stt h1 ∧ (h_sz h1 ≤ h_sz h + 1050 ∧ h_sl h1 ≤ h_sl h + 5000) ∧ ev (d + 4 + 1) 179 [vr 145] hr = some (vi 0, h2) ∧ Rd (sI hr 145 1 0) h2 ∧ h_mi h2 145 9 = q) ∨
  (∃ h1 h2 p' e', ev (D + 2) 63 [vr 103] h = some (vi 0, sR h1 103 3 (h_sz h)) ∧ Wb (h_sz h) h h1 ∧ (h_sz h1 ≤ h_sz h + 1050 ∧ h_sl h1 ≤ h_sl h + 5000) ∧ ev (d + 4 + 1) 179 [vr 145] hr = some (vi 1, h2) ∧ Rd (sI hr 145 1 0) h2 ∧ p' ≤ n ∧ XX h1 h2 f n p' (h_sz h) e')
theorem rd_all (c : CB h f n) (r : RB hr f n) (x : ∀ l, l < 4 → TX f n l) {D : Nat} (hD : 60 ≤ D) (d : Nat) : RAx f n D d h hr := by
  have z := c.2.2.1
  have x0 := x 0 (by omega)
  have n1 := x0.2.1
  obtain ⟨h1, e1, c1, wb1, ⟨sz1, sl1⟩, m5, m6⟩ := k_bg c x (D := D + 1) (by omega)
  obtain ⟨k1, a1, r1, rd1, o14, o25, o24, ⟨o7, o8, o9⟩, oc, ol⟩ := s_bg r x d
  obtain ⟨p1, t1⟩ : ∃ p1, tkE f n 0 = p1 := ⟨_, rfl⟩
  obtain ⟨p2, t2⟩ : ∃ p2, tkE f n p1 = p2 := ⟨_, rfl⟩
  obtain ⟨p3, t3⟩ : ∃ p3, tkE f n p2 = p3 := ⟨_, rfl⟩
  obtain ⟨p4, t4⟩ : ∃ p4, tkE f n p3 = p4 := ⟨_, rfl⟩
  have q1 : p1 ≤ n := t1 ▸ (tk_n (f := f) (Nat.zero_le n)).2.1
  have q2 : p2 ≤ n := t2 ▸ (tk_n (f := f) q1).2.1
  have q3 : p3 ≤ n := t3 ▸ (tk_n (f := f) q2).2.1
  have q4 : p4 ≤ n := t4 ▸ (tk_n (f := f) q3).2.1
  have kh := k_hd t1 t2 t3 t4 c1 x0 (Nat.zero_le n) (D := D + 1) (by omega)
  have sh := s_hd t1 t2 t3 t4 r1 x0 (Nat.zero_le n) d
  -- the new fjord
  have mkf : ∀ (W H : Int) (h2 : HP) (p' : Nat) (q : Int), run (D + 1 + 1) md_63 22 [vr 103, vu, vu, vu, vu] [] h1 = run (D + 1 + 1) md_63 51 [vr 103, vi W, vi H, vu, vu] [] h2 → Qt h1 h2 → CL h2 f n p' q → ∃ h3, ev (D + 2) 63 [vr 103] h = run (D + 2) md_63 64 [vr 103, vi W, vi H, vr (h_sz h), vi ((0 : Nat) : Int)] [] h3 ∧ CL h3 f n p' q ∧ Wb (h_sz h) h h3 ∧ (h_sz h3 = h_sz h + 19 ∧ h_sl h3 = h_sl h + 19 + 227 - 19) ∧ h_mi h3 103 = h_mi h2 103 ∧ FjO h3 (h_sz h) ∧ (h_mi h3 (h_sz h) 0 = W ∧ h_mi h3 (h_sz h) 1 = H ∧ ∀ j, 2 ≤ j → h_mi h3 (h_sz h) j = 0) ∧ (∀ i, 1 ≤ i → i ≤ 10 → ∀ j, h_mi h3 (h_sz h + i) j = 0) ∧ ∀ l, l < 4 → LC h3 (h_mr h3 (h_sz h) (l + 15)) l (dfl l) := fun W H h2 p' q er g2 c2 => by
    have s2 := g2.sh
    have zz : h_sz h2 = h_sz h := s2.2.2.1.trans sz1
    have zl : h_sl h2 = h_sl h := s2.2.2.2.1.trans sl1
    obtain ⟨h3, e3, ex, y1, y2, fo, f0, f1, lc⟩ := c_18 (h := h2) D W H (Or.inr (by omega))
    rw [zz] at e3 y1 fo f0 f1 lc
    have kd : isK (alo h2 2 0 19) (h_sz h) 2 = true := isKc (by rw [kd_alo, zz, up_eq])
    refine ⟨h3, ?_, c2.gw (t := h_sz h) (by omega) z (fun a ha => by obtain ⟨b1, b2, b3, b4, b5⟩ := ex.2 a ha; exact ⟨b1, b2, b3, b4, fun _ => b5⟩), ((wb1 _).tr (Wb.of g2)).tr (ex.wb (by omega)), ⟨y1, by omega⟩, (ex.2 103 (by omega)).2.2.1, fo, f0, f1, lc⟩
    rw [e1, er, q_63_51, zz, q_63_54, kd]
    show bV (ev (D + 1) 18 [vr (h_sz h), vi W, vi H] (alo h2 2 0 19)) _ = _
    rw [e3, bV_s, q_63_60]
    rfl
  rcases hd_c f n 0 p1 p2 p3 with ⟨q, hf⟩ | ho
  · obtain ⟨W, H, h2, p', er, pp, g2, c2⟩ := kh.1 q hf
    obtain ⟨k2, a2, rd2, m9⟩ := sh.1 q hf
    obtain ⟨h3, e3, c3, wb3, ⟨y1, y2⟩, _⟩ := mkf W H h2 p' q er g2 c2
    refine Or.inl ⟨q, h3, k2, hdF_0 hf, ?_, wb3, c3.1, c3.2.1, ⟨by omega, by omega⟩, a1.trans a2, rd1.tr rd2, m9⟩
    rw [e3]
    exact k_64f c3.1 c3.2.2.2 (hdF_0 hf) _ _ _
  · obtain ⟨h2, er, g2, c2⟩ := kh.2 ho
    obtain ⟨k2, k3, k4, a2, u2, u3, u4, r4⟩ := sh.2 ho
    obtain ⟨h3, e3, c3, wb3, ⟨y1, y2⟩, m3, fo, ⟨f0, f0', f0''⟩, f1, lc⟩ := mkf _ _ h2 p4 0 er g2 c2
    obtain ⟨v1, v2, v3, v4⟩ := ho
    have w2 := v2.2; have w3 := v3.2
    have nn : ∀ a, a ≠ 145 → a ≠ 147 → h_mi k4 a = h_mi k1 a := fun a b1 b2 => by
      rw [u4.sh.2.2.2.2.2.2 a b1, miI_ne _ _ _ b2, u3.sh.2.2.2.2.2.2 a b1, miI_ne _ _ _ b2, u2.sh.2.2.2.2.2.2 a b1]
    have n7 : ∀ j, j ≠ 5 → j ≠ 6 → h_mi k4 147 j = h_mi k1 147 j := fun j b1 b2 => by
      rw [u4.sh.2.2.2.2.2.2 147 (by omega), miI_eq, up_ne _ _ b2, u3.sh.2.2.2.2.2.2 147 (by omega), miI_eq, up_ne _ _ b1, u2.sh.2.2.2.2.2.2 147 (by omega)]
    have n75 : h_mi k4 147 5 = tkN f n p1 := by
      rw [u4.sh.2.2.2.2.2.2 147 (by omega), miI_eq, up_ne _ _ (by omega), u3.sh.2.2.2.2.2.2 147 (by omega), miI_eq, up_eq]
    have n76 : h_mi k4 147 6 = tkN f n p2 := by
      rw [u4.sh.2.2.2.2.2.2 147 (by omega), miI_eq, up_eq]
    have nf : ∀ j, j = 14 ∨ j = 24 ∨ j = 25 → h_mi k4 145 j = h_mi k1 145 j := fun j hj => by
      rw [u4.f (by omega) (by omega) (by omega) (by omega) (by omega) (by omega), miI_ne _ _ _ (by omega), u3.f (by omega) (by omega) (by omega) (by omega) (by omega) (by omega), miI_ne _ _ _ (by omega), u2.f (by omega) (by omega) (by omega) (by omega) (by omega) (by omega)]
    have e7 := n7 7 (by omega) (by omega)
    have e8 := n7 8 (by omega) (by omega)
    have e9 := n7 9 (by omega) (by omega)
    have e48 := nn 148 (by omega) (by omega)
    have e49 := nn 149 (by omega) (by omega)
    have e57 := nn 157 (by omega) (by omega)
    have e58 := nn 158 (by omega) (by omega)
    have m36 : h_mi h3 103 6 = 0 := by rw [m3, g2.f (by omega)]; exact m6
    have Y : YY h3 k4 (h_sz h) 1000 dfl := by
      refine ⟨⟨fo, z⟩, ?_, ?_, fun l hl => ⟨lc l hl, ?_, dfl_al l hl, ?_, ?_, ?_⟩, ?_⟩
      · refine ⟨⟨by rw [f0, n75], by rw [f0', n76], by rw [f0'' _ (by omega), e7, o7], by rw [f0'' _ (by omega), e8, o8], by rw [f0'' _ (by omega), e9, o9]⟩, fun i hi => ?_, fun i hi => ?_, fun i hi => ?_⟩
        · rw [f1 1 (by omega) (by omega), f1 2 (by omega) (by omega), e48, e49, (oc i hi).1, (oc i hi).2]; exact ⟨rfl, rfl⟩
        · rw [e7, o7] at hi; omega
        · rw [e8, o8] at hi; omega
      · unfold FB
        rw [show 5 * 1 = 5 from rfl, show 5 + 1 = 6 from rfl, show 5 + 2 = 7 from rfl, show 5 + 3 = 8 from rfl, show 5 + 4 = 9 from rfl, n75, n76, e7, e8, e9, o7, o8, o9]
        refine ⟨⟨by omega, by omega⟩, ⟨by omega, by omega⟩, by omega, by omega, by omega, fun i hi => ?_, fun i hi => by omega, fun i hi => by omega⟩
        rw [e48, e49, show 60 * 1 + i = 60 + i by omega, (oc i hi).1, (oc i hi).2]; omega
      · left
        rw [e57, e58, show 4 * 1 + l = 4 + l by omega, (ol l hl).1, (ol l hl).2]; exact ⟨rfl, rfl⟩
      · rw [e57, (ol l hl).1]; omega
      · rw [e57, e58, (ol l hl).1, (ol l hl).2]; omega
      · rw [e58, (ol l hl).2]; omega
      · unfold On
        rw [m36, e57, e58, nf 25 (by omega), o25]
        refine ⟨by omega, fun l hl => ?_, ⟨fun _ => rfl, fun _ => by decide +kernel⟩⟩
        rw [z_and l hl, (ol l hl).1, (ol l hl).2]; exact ⟨fun _ => by omega, fun _ => rfl⟩
    have X : XX h3 k4 f n p4 (h_sz h) dfl := ⟨c3, r4, 1000, 0, fun _ => 0, Y, ⟨by rw [nf 24 (by omega)]; exact o24, by omega, by omega⟩, by rw [e7, e8, o7, o8]; rfl, ⟨by rw [m3, g2.f (by omega)]; exact m5, fun j hj => by omega⟩, ⟨by rw [nf 14 (by omega)]; exact o14, fun j hj => by omega⟩⟩
    have rd5 : ∀ {h1 : HP} (v : Int), Rd k1 h1 → Rd k1 (sI h1 147 5 v) := fun v g => g.si (by omega) (by omega) (by show 5 ≤ 5; omega) (by show 5 < 2 * 5; omega) v
    have rd6 : ∀ {h1 : HP} (v : Int), Rd k1 h1 → Rd k1 (sI h1 147 6 v) := fun v g => g.si (by omega) (by omega) (by show 5 ≤ 6; omega) (by show 6 < 2 * 5; omega) v
    have rd4 : Rd k1 k4 := (rd6 _ ((rd5 _ u2.rd).tr u3.rd)).tr u4.rd
    rcases lp_all x (Nat.le_refl (h_sz h)) hD d (tkN f n p1) (tkN f n p2) (n - p4) p4 h3 k4 dfl 0 (Nat.le_refl _) q4 (by omega) (Nat.zero_le _) X with ⟨q, h5, k5, q0, ec, wb5, w5, st5, ⟨s1, s2⟩, er5, rd5', m9⟩ | ⟨h5, k5, p5, e5, ec, pp5, wb5, ⟨s1, s2⟩, er5, rd5', X5⟩
    · exact Or.inl ⟨q, h5, k5, q0, e3.trans ec, wb3.tr wb5, w5, st5, ⟨by omega, by omega⟩, (a1.trans a2).trans (er5 vu), (rd1.tr rd4).tr rd5', m9⟩
    · exact Or.inr ⟨h5, k5, p5, e5, e3.trans ec, wb3.tr wb5, ⟨by omega, by omega⟩, (a1.trans a2).trans (er5 vu), (rd1.tr rd4).tr rd5', pp5, X5⟩
end
