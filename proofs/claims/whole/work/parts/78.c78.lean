/-! the reader: the whole text, on both sides -/
section
variable {h hr : HP} {f : Nat → Int} {n : Nat}
/-- what the class's reader begins with -/
def CB (h : HP) (f : Nat → Int) (n : Nat) : Prop := CSk h ∧ Stt h ∧ 182 ≤ h_sz h ∧ h_mi h 101 1 = (n : Int) ∧ ∀ j, j < n → h_mi h 102 j = f j
def RB (hr : HP) (f : Nat → Int) (n : Nat) : Prop := RSk hr ∧ h_mi hr 145 1 = (n : Int) ∧ h_mi hr 146 = f
/-- the class begins -/
theorem k_bg (c : CB h f n) (x : ∀ l, l < 4 → TX f n l) {D : Nat} (hD : 8 ≤ D) : ∃ h1, ev (D + 1) 63 [vr 103] h = run (D + 1) md_63 22 [vr 103, vu, vu, vu, vu] [] h1 ∧ CL h1 f n 0 0 ∧ (∀ b, Wb b h h1) ∧ (h_sz h1 = h_sz h ∧ h_sl h1 = h_sl h) ∧ h_mi h1 103 5 = 0 ∧ h_mi h1 103 6 = 0 := by
  obtain ⟨w, st, z, c1, c2⟩ := c
  have x0 := x 0 (by omega)
  obtain ⟨d, rfl⟩ : ∃ d, D = d + 6 := ⟨D - 6, by omega⟩
  generalize hS : sI (sI (sI (sI h 103 8 0) 103 5 0) 103 6 0) 101 2 0 = S
  have wS : CSk S := by rw [← hS]; exact w
  have stS : Stt S := fun a a1 a2 => by
    obtain ⟨s1, s2, s3, s4, s5⟩ := st a a1 a2
    rw [← hS]
    exact ⟨s1, s2, fun k => by rw [miI_ne _ _ _ (by omega), miI_ne _ _ _ (by omega), miI_ne _ _ _ (by omega), miI_ne _ _ _ (by omega)]; exact s3 k, s4, s5⟩
  have S1 : h_mi S 101 1 = (n : Int) := by rw [← hS, miI_eq, up_ne _ _ (by omega), miI_ne _ _ _ (by omega), miI_ne _ _ _ (by omega), miI_ne _ _ _ (by omega)]; exact c1
  have S2 : h_mi S 101 2 = ((0 : Nat) : Int) := by rw [← hS, miI_eq, up_eq]; rfl
  have S3 : ∀ j, j < n → h_mi S 102 j = f j := fun j hj => by rw [← hS, miI_ne _ _ _ (by omega), miI_ne _ _ _ (by omega), miI_ne _ _ _ (by omega), miI_ne _ _ _ (by omega)]; exact c2 j hj
  obtain ⟨N, r, g, e, n1, n2, ct⟩ := c_89 wS stS d S1 S2 S3 x0.1 x0.2.1 (Nat.zero_le n)
  have g1 : Qt S (cH S r g N) := ⟨r, g, N, rfl, fun a h1 _ => n1 a h1, fun j _ => by rw [n1 103 (by omega)]⟩
  have S8 : h_mi S 103 8 = 0 := by rw [← hS, miI_ne _ _ _ (by omega), miI_eq, up_ne _ _ (by omega), miI_eq, up_ne _ _ (by omega), miI_eq, up_eq]
  have S5 : h_mi S 103 5 = 0 := by rw [← hS, miI_ne _ _ _ (by omega), miI_eq, up_ne _ _ (by omega), miI_eq, up_eq]
  have S6 : h_mi S 103 6 = 0 := by rw [← hS, miI_ne _ _ _ (by omega), miI_eq, up_eq]
  have s := g1.sh
  have zS : h_sz S = h_sz h ∧ h_sl S = h_sl h := by rw [← hS]; exact ⟨rfl, rfl⟩
  have wbS : ∀ b, Wb b h S := fun b => by
    rw [← hS]
    have a := (((Wb.rf b h).s3 8 0).s3 5 0).s3 6 0
    exact ⟨a.1, fun x hx => by
      obtain ⟨a1, a2, a3, a4⟩ := a.2 x hx
      exact ⟨a1, a2, a3, fun y z u => by rw [miI_ne _ _ _ y]; exact a4 y z u⟩⟩
  refine ⟨cH S r g N, ?_, ⟨g1.cs wS, g1.st stS, ct, by show N 103 8 = 0; rw [n1 103 (by omega)]; exact S8⟩, fun b => (wbS b).tr (Wb.of g1), ⟨s.2.2.1.trans zS.1, s.2.2.2.1.trans zS.2⟩, by show N 103 5 = 0; rw [n1 103 (by omega)]; exact S5, by show N 103 6 = 0; rw [n1 103 (by omega)]; exact S6⟩
  rw [v_63, q_63_0 (w := w), v_88, q_88_0 (h := sI (sI (sI h 103 8 0) 103 5 0) 103 6 0) (w := w), hS, e, bV_s, q_88_9, bV_s]
/-- the reference begins -/
theorem s_bg (r : RB hr f n) (x : ∀ l, l < 4 → TX f n l) (d : Nat) : ∃ h1, ev (d + 4 + 1) 179 [vr 145] hr = run (d + 4 + 1) md_179 44 [vr 145, vu] [] h1 ∧ RL h1 f n 0 ∧ Rd (sI hr 145 1 0) h1 ∧ h_mi h1 145 14 = 0 ∧ h_mi h1 145 25 = 0 ∧ h_mi h1 145 24 = 1000 ∧ (h_mi h1 147 7 = 0 ∧ h_mi h1 147 8 = 0 ∧ h_mi h1 147 9 = 0) ∧ (∀ c, c < 60 → h_mi h1 148 (60 + c) = 0 ∧ h_mi h1 149 (60 + c) = 0) ∧ ∀ l, l < 4 → h_mi h1 157 (4 + l) = 1000 ∧ h_mi h1 158 (4 + l) = 1000 := by
  obtain ⟨w, r1, r2⟩ := r
  have x0 := x 0 (by omega)
  obtain ⟨N, e0, p0, p1, p2, p3, p4, p5⟩ := m_156 w (r := 1) (by omega) (d + 4)
  generalize hS : sI (sI (sI (sI (sI (sI (sM hr N) 145 14 0) 145 25 0) 145 24 1000) 145 3 (n : Int)) 145 1 0) 145 4 0 = S
  have wS : RSk S := by rw [← hS]; exact w
  have Sn : ∀ a, a ≠ 145 → h_mi S a = N a := fun a ha => by rw [← hS, miI_ne _ _ _ ha, miI_ne _ _ _ ha, miI_ne _ _ _ ha, miI_ne _ _ _ ha, miI_ne _ _ _ ha, miI_ne _ _ _ ha, mi_sM]
  have N5 : N 145 = h_mi hr 145 := p0 145 (by omega) (by omega) (by omega) (by omega) (by omega)
  have S3 : h_mi S 145 3 = (n : Int) := by rw [← hS, miI_eq, up_ne _ _ (by omega), miI_eq, up_ne _ _ (by omega), miI_eq, up_eq]
  have S4 : h_mi S 145 4 = ((0 : Nat) : Int) := by rw [← hS, miI_eq, up_eq]; rfl
  have S1 : h_mi S 145 1 = 0 := by rw [← hS, miI_eq, up_ne _ _ (by omega), miI_eq, up_eq]
  have S14 : h_mi S 145 14 = 0 := by rw [← hS, miI_eq, up_ne _ _ (by omega), miI_eq, up_ne _ _ (by omega), miI_eq, up_ne _ _ (by omega), miI_eq, up_ne _ _ (by omega), miI_eq, up_ne _ _ (by omega), miI_eq, up_eq]
  have S25 : h_mi S 145 25 = 0 := by rw [← hS, miI_eq, up_ne _ _ (by omega), miI_eq, up_ne _ _ (by omega), miI_eq, up_ne _ _ (by omega), miI_eq, up_ne _ _ (by omega), miI_eq, up_eq]
  have S24 : h_mi S 145 24 = 1000 := by rw [← hS, miI_eq, up_ne _ _ (by omega), miI_eq, up_ne _ _ (by omega), miI_eq, up_ne _ _ (by omega), miI_eq, up_eq]
  have S44 : h_mi S 145 44 = h_mi hr 145 44 := by rw [← hS, miI_eq, up_ne _ _ (by omega), miI_eq, up_ne _ _ (by omega), miI_eq, up_ne _ _ (by omega), miI_eq, up_ne _ _ (by omega), miI_eq, up_ne _ _ (by omega), miI_eq, up_ne _ _ (by omega), mi_sM, N5]
  have rdS : Rd (sI hr 145 1 0) S := by
    refine ⟨by rw [← hS]; exact ⟨rfl, rfl, rfl, rfl, rfl⟩, fun a _ _ => by rw [← hS]; rfl, fun a ha => ?_, fun j hj => ?_, fun a j a1 a2 hj => ?_⟩
    · rw [Sn a (by omega), miI_ne _ _ _ (by omega), p0 a (by omega) (by omega) (by omega) (by omega) (by omega)]
    · rcases hj with z | z
      · rw [z, S1, miI_eq, up_eq]
      · rw [z, S44, miI_eq, up_ne _ _ (by omega)]
    · rw [Sn a (by omega), miI_ne _ _ _ (by omega)]
      by_cases z1 : a = 147
      · subst z1; have hj' : j < 5 ∨ 2 * 5 ≤ j := hj; rw [p1, if_neg (by omega), if_neg (by omega), if_neg (by omega)]
      · by_cases z2 : a = 148
        · subst z2; have hj' : j < 60 ∨ 2 * 60 ≤ j := hj; rw [p2, if_neg (by omega)]
        · by_cases z3 : a = 149
          · subst z3; have hj' : j < 60 ∨ 2 * 60 ≤ j := hj; rw [p3, if_neg (by omega)]
          · by_cases z4 : a = 157
            · subst z4; have hj' : j < 4 ∨ 2 * 4 ≤ j := hj; rw [p4, if_neg (by omega)]
            · by_cases z5 : a = 158
              · subst z5; have hj' : j < 4 ∨ 2 * 4 ≤ j := hj; rw [p5, if_neg (by omega)]
              · rw [p0 a z1 z2 z3 z4 z5]
  have S6 : h_mi S 146 = f := by rw [Sn 146 (by omega), p0 146 (by omega) (by omega) (by omega) (by omega) (by omega)]; exact r2
  obtain ⟨N2, g, e, a1, a2, rt⟩ := m_152 wS (d + 3) S3 S4 S6 x0.2.1 (Nat.zero_le n)
  have g1 : RQ S (sM (sL S 145 7 g) N2) := ⟨g, N2, rfl, a1, fun j h1 h2 h3 h4 _ _ => a2 j h1 h2 h3 h4⟩
  have fN : ∀ a, a ≠ 145 → h_mi (sM (sL S 145 7 g) N2) a = N a := fun a ha => by rw [mi_sM, a1 a ha, Sn a ha]
  refine ⟨sM (sL S 145 7 g) N2, ?_, ⟨g1.rs wS, rt⟩, rdS.tr g1.rd, ?_, ?_, ?_, ⟨?_, ?_, ?_⟩, fun c hc => ⟨?_, ?_⟩, fun l hl => ⟨?_, ?_⟩⟩
  · have e0' : ev (d + 4) 156 [vr 145, vi 1] hr = some (vr 0, sM hr N) := e0
    rw [v_179, q_179_0 (w := w), e0', bV_s, q_179_5 (h := sM hr N) (w := w.m _), mi_sM, N5, r1]
    show bV (ev (d + 3 + 1) 152 [vr 145] (sI (sI (sI (sI (sI (sI (sM hr N) 145 14 0) 145 25 0) 145 24 1000) 145 3 _) 145 1 0) 145 4 0)) _ = _
    rw [← hS] at e
    rw [← hS]
    sorry
  · rw [g1.f (by omega) (by omega) (by omega) (by omega) (by omega) (by omega)]; exact S14
  · rw [g1.f (by omega) (by omega) (by omega) (by omega) (by omega) (by omega)]; exact S25
  · rw [g1.f (by omega) (by omega) (by omega) (by omega) (by omega) (by omega)]; exact S24
  · rw [fN 147 (by omega), p1, if_neg (by omega), if_neg (by omega), if_pos (by omega)]
  · rw [fN 147 (by omega), p1, if_neg (by omega), if_neg (by omega), if_pos (by omega)]
  · rw [fN 147 (by omega), p1, if_neg (by omega), if_neg (by omega), if_pos (by omega)]
  · rw [fN 148 (by omega), p2, if_pos (by omega)]
  · rw [fN 149 (by omega), p3, if_pos (by omega)]
  · rw [fN 157 (by omega), p4, if_pos (by omega)]; rfl
  · rw [fN 158 (by omega), p5, if_pos (by omega)]; rfl
end
