/-! laws: parts, products, sums, tests, chains -/
def F1 (N : MM) : Nat → Int := fun j => N 171 (j + 1)
def RPa (rs : List Int) (e : (Nat → Int) → Int) (dep : Nat) : Prop := 1 ≤ rs.length ∧ ∀ (h : HP) (N : MM) (i k : Int) (d dd : Nat) (v4 v5 : AV), RSk h → (0 ≤ i ∧ i < 24) → d + dep ≤ 6 → Cd N k rs → k + rs.length ≤ N 158 i.toNat → N 158 i.toNat ≤ 6000 → ∃ N' x, run (dd + 2) md_163 14 [vr 145, vi i, vi (d : Int), vi k, v4, v5] [] (sM h N) = run (dd + 2) md_163 268 [vr 145, vi i, vi (d : Int), vi (k + rs.length - 1), vi x, vi (e (F1 N))] [] (sM h N') ∧ Rg (d + 1) N N'
def RCh (Pre : MM → Nat → Prop) (Post : MM → MM → Nat → Int → Prop) (rs : List Int) (e : (Nat → Int) → Int) (dep : Nat) : Prop := 1 ≤ rs.length ∧ ∀ (h : HP) (N : MM) (i k : Int) (d dd : Nat) (v4 v5 : AV), RSk h → (0 ≤ i ∧ i < 24) → d + dep ≤ 6 → Cd N k rs → k + rs.length ≤ N 158 i.toNat → N 158 i.toNat ≤ 6000 → (d = 0 ∨ N 170 d ≠ 1) → Pre N d → ∃ N' v4' v5', run (dd + 2) md_163 14 [vr 145, vi i, vi (d : Int), vi k, v4, v5] [] (sM h N) = run (dd + 2) md_163 14 [vr 145, vi i, vi (d : Int), vi (k + rs.length), v4', v5'] [] (sM h N') ∧ Rg d N N' ∧ N' 170 d = N 170 d ∧ Post N N' d (e (F1 N))
def Pr3 (N : MM) (d : Nat) : Prop := N 169 d = 0
def Pr2 (N : MM) (d : Nat) : Prop := N 169 d = 0 ∧ N 166 d = 0 ∧ N 167 d = 20
def Pr1 (N : MM) (d : Nat) : Prop := Pr2 N d ∧ N 165 d = 0
def Pr0 (N : MM) (d : Nat) : Prop := Pr1 N d ∧ N 163 d = 0
def Po3 (N N' : MM) (d : Nat) (v : Int) : Prop := N' 168 d = v ∧ ∀ a, 162 ≤ a → a ≤ 167 → N' a d = N a d
def Po2 (N N' : MM) (d : Nat) (v : Int) : Prop := PS N' d = v ∧ ∀ a, 162 ≤ a → a ≤ 165 → N' a d = N a d
def Po1 (N N' : MM) (d : Nat) (v : Int) : Prop := PT N' d = v ∧ ∀ a, 162 ≤ a → a ≤ 163 → N' a d = N a d
def Po0 (_ N' : MM) (d : Nat) (v : Int) : Prop := PK N' d = v
theorem F1.g {d : Nat} {N N' : MM} (g : Rg d N N') : F1 N' = F1 N := by unfold F1; rw [g.1 171 (by omega)]
theorem RPa.num {v : Int} (v0 : 0 ≤ v) (v1 : v ≤ 9999) : RPa [100 + v] (fun _ => v) 0 := by
  refine ⟨Nat.le_refl _, fun h N i k d dd v4 v5 w i0 hd c k1 k2 => ⟨N, 100 + v, ?_, Rg.rf _ _⟩⟩
  have kl : k + 1 ≤ N 158 i.toNat := k1
  rw [st_nu ⟨w, i0, ⟨c.1, by omega, k2⟩, by omega⟩ dd c.h v0 v1]
  show _ = run (dd + 2) md_163 268 [_, _, _, vi (k + 1 - 1), _, _] [] _
  rw [show k + 1 - 1 = k by omega]
theorem RPa.fact {f : Nat} (f1 : f ≤ 8) : RPa [((f + 1 : Nat) : Int)] (fun F => F f) 0 := by
  refine ⟨Nat.le_refl _, fun h N i k d dd v4 v5 w i0 hd c k1 k2 => ⟨N, ((f + 1 : Nat) : Int), ?_, Rg.rf _ _⟩⟩
  have kl : k + 1 ≤ N 158 i.toNat := k1
  rw [st_fa ⟨w, i0, ⟨c.1, by omega, k2⟩, by omega⟩ dd (f := f + 1) c.h (by omega) (by omega)]
  show _ = run (dd + 2) md_163 268 [_, _, _, vi (k + 1 - 1), _, _] [] _
  rw [show k + 1 - 1 = k by omega]
  rfl
theorem RPa.not {rs : List Int} {e : (Nat → Int) → Int} {dep : Nat} (s : RPa rs e dep) : RPa (30 :: rs) (fun F => if e F = 0 then 1 else 0) (dep + 1) := by
  obtain ⟨s1, s2⟩ := s
  refine ⟨by show 1 ≤ rs.length + 1; omega, fun h N i k d dd v4 v5 w i0 hd c k1 k2 => ?_⟩
  have ll : ((30 :: rs).length : Int) = rs.length + 1 := by show ((rs.length + 1 : Nat) : Int) = _; omega
  rw [ll] at k1 ⊢
  have e1 := st_op (N := N) (d := d) ⟨w, i0, ⟨c.1, by omega, k2⟩, by omega⟩ dd (by omega) c.h (Or.inr rfl) v4 v5
  rw [if_pos rfl] at e1
  generalize hP : opM (up2 N 170 (d + 1) 1) (d + 1) = P at e1
  have g1 : Rg (d + 1) N P := by rw [← hP]; exact ((Rg.rf _ N).u 170 1 (by omega) (Nat.le_refl _)).op (Nat.le_refl _)
  have p170 : P 170 (d + 1) = 1 := by
    rw [← hP]; unfold opM
    rw [u2_ne _ _ _ (by omega), u2_ne _ _ _ (by omega), u2_ne _ _ _ (by omega), u2_ne _ _ _ (by omega), u2_ne _ _ _ (by omega), u2_at]
  have e158 : P 158 = N 158 := g1.1 _ (by omega)
  obtain ⟨N', x, e2, g2⟩ := s2 h P i (k + 1) (d + 1) dd (vi 30) v5 w i0 (by omega) (c.t.g g1) (by rw [e158]; omega) (by rw [e158]; omega)
  rw [F1.g g1] at e2
  refine ⟨N', x, ?_, g1.tr (g2.dn (by omega))⟩
  rw [e1, e2, st_po w dd (by omega) (by rw [g2.2 170 (d + 1) (by omega)]; exact p170), show k + 1 + (rs.length : Int) - 1 = k + (rs.length + 1) - 1 by omega]
theorem RPa.par {rs : List Int} {e : (Nat → Int) → Int} {dep : Nat} (s : RCh Pr0 Po0 rs e dep) : RPa (28 :: (rs ++ [29])) e (dep + 1) := by
  obtain ⟨s1, s2⟩ := s
  refine ⟨by show 1 ≤ (rs ++ [29]).length + 1; omega, fun h N i k d dd v4 v5 w i0 hd c k1 k2 => ?_⟩
  have ll : ((28 :: (rs ++ [29])).length : Int) = rs.length + 2 := by show (((rs ++ [29]).length + 1 : Nat) : Int) = _; rw [List.length_append]; show ((rs.length + 1 + 1 : Nat) : Int) = _; omega
  rw [ll] at k1 ⊢
  have e1 := st_op (N := N) (d := d) ⟨w, i0, ⟨c.1, by omega, k2⟩, by omega⟩ dd (by omega) c.h (Or.inl rfl) v4 v5
  rw [if_neg (by omega)] at e1
  generalize hP : opM (up2 N 170 (d + 1) 0) (d + 1) = P at e1
  have g1 : Rg (d + 1) N P := by rw [← hP]; exact ((Rg.rf _ N).u 170 0 (by omega) (Nat.le_refl _)).op (Nat.le_refl _)
  have pp : P 170 (d + 1) = 0 ∧ Pr0 P (d + 1) := by
    rw [← hP]; unfold opM Pr0 Pr1 Pr2
    refine ⟨?_, ⟨⟨?_, ?_, ?_⟩, ?_⟩, ?_⟩ <;> simp (disch := omega) only [u2_ne, u2_at]
  have e158 : P 158 = N 158 := g1.1 _ (by omega)
  obtain ⟨N', x4, x5, e2, g2, q2, p2⟩ := s2 h P i (k + 1) (d + 1) dd (vi 28) v5 w i0 (by omega) (c.t.l.g g1) (by rw [e158]; omega) (by rw [e158]; omega) (Or.inr (by omega)) pp.2
  rw [F1.g g1] at p2
  have e158' : N' 158 = N 158 := (g2.1 _ (by omega)).trans e158
  have c29 : N' 159 (k + 1 + (rs.length : Int)).toNat = 29 := (c.t.r.g (g1.tr g2)).h
  have e3 := st_cl (N := N') (d := d) (k := k + 1 + rs.length) ⟨w, i0, ⟨by have := c.1; omega, by rw [e158']; omega, by rw [e158']; omega⟩, by omega⟩ dd c29 x4 x5
  refine ⟨teM N' (d + 1), 29, ?_, (g1.tr g2).te (Nat.le_refl _)⟩
  have p3 : PK N' (d + 1) = e (F1 N) := p2
  rw [e1, e2, e3, p3, show k + 1 + (rs.length : Int) = k + (rs.length + 2) - 1 by omega]
theorem RCh.one {rs : List Int} {e : (Nat → Int) → Int} {dep : Nat} (s : RPa rs e dep) : RCh Pr3 Po3 rs e dep := by
  obtain ⟨s1, s2⟩ := s
  refine ⟨s1, fun h N i k d dd v4 v5 w i0 hd c k1 k2 hn pr => ?_⟩
  obtain ⟨N', x, e1, g⟩ := s2 h N i k d dd v4 v5 w i0 hd c k1 k2
  have c0 := c.1
  have e2 := st_fe (h := h) (N := N') (i := i) (k := k + rs.length - 1) (d := d) w dd (by omega) (by omega) (by omega) (by rw [g.2 170 d (by omega)]; exact hn) x (e (F1 N))
  have p9 : N' 169 d = 0 := by rw [g.2 169 d (by omega)]; exact pr
  rw [if_pos p9, show k + (rs.length : Int) - 1 + 1 = k + rs.length by omega] at e2
  exact ⟨_, _, _, e1.trans e2, (g.dn (by omega)).u 168 _ (by omega) (Nat.le_refl _), by rw [u2_ne _ _ _ (by omega), g.2 170 d (by omega)], u2_at _ _ _ _, fun a h1 h2 => by rw [u2_ne _ _ _ (by omega), g.2 a d (by omega)]⟩
theorem RCh.mul {rs rs' : List Int} {e e' : (Nat → Int) → Int} {dep : Nat} (s : RCh Pr3 Po3 rs e dep) (s' : RPa rs' e' dep) : RCh Pr3 Po3 (rs ++ (22 :: rs')) (fun F => i_mul (e F) (e' F)) dep := by
  obtain ⟨s1, s2⟩ := s
  obtain ⟨t1, t2⟩ := s'
  refine ⟨by rw [List.length_append]; omega, fun h N i k d dd v4 v5 w i0 hd c k1 k2 hn pr => ?_⟩
  have ll : ((rs ++ (22 :: rs')).length : Int) = rs.length + rs'.length + 1 := by rw [List.length_append]; show ((rs.length + (rs'.length + 1) : Nat) : Int) = _; omega
  rw [ll] at k1 ⊢
  have c0 := c.1
  obtain ⟨N1, x4, x5, e1, g1, q1, p1⟩ := s2 h N i k d dd v4 v5 w i0 hd c.l (by omega) k2 hn pr
  have a1 : N1 158 = N 158 := g1.1 _ (by omega)
  have e2 := st_22 (N := N1) (d := d) (k := k + rs.length) ⟨w, i0, ⟨by omega, by rw [a1]; omega, by rw [a1]; omega⟩, by omega⟩ dd (c.r.g g1).h x4 x5
  have g2 : Rg d N (up2 N1 169 d 22) := g1.u 169 22 (by omega) (Nat.le_refl _)
  have a2 : up2 N1 169 d 22 158 = N 158 := g2.1 _ (by omega)
  obtain ⟨N3, x, e3, g3⟩ := t2 h (up2 N1 169 d 22) i (k + rs.length + 1) d dd (vi 22) x5 w i0 hd (c.r.t.g g2) (by rw [a2]; omega) (by rw [a2]; omega)
  have e4 := st_fe (h := h) (N := N3) (i := i) (k := k + rs.length + 1 + rs'.length - 1) (d := d) w dd (by omega) (by omega) (by omega) (by rw [g3.2 170 d (by omega), u2_ne _ _ _ (by omega), q1]; exact hn) x (e' (F1 (up2 N1 169 d 22)))
  have p9 : N3 169 d = 22 := by rw [g3.2 169 d (by omega), u2_at]
  have p8 : N3 168 d = e (F1 N) := by rw [g3.2 168 d (by omega), u2_ne _ _ _ (by omega)]; exact p1.1
  rw [if_neg (by omega), p8, F1.g g2, show k + (rs.length : Int) + 1 + rs'.length - 1 + 1 = k + (rs.length + rs'.length + 1) by omega] at e4
  rw [F1.g g2] at e3
  exact ⟨_, _, _, (e1.trans e2).trans (e3.trans e4), (g2.tr (g3.dn (by omega))).u 168 _ (by omega) (Nat.le_refl _), by rw [u2_ne _ _ _ (by omega), g3.2 170 d (by omega), u2_ne _ _ _ (by omega), q1], u2_at _ _ _ _, fun a h1 h2 => by rw [u2_ne _ _ _ (by omega), g3.2 a d (by omega), u2_ne _ _ _ (by omega)]; exact p1.2 a h1 h2⟩
theorem RCh.one2 {rs : List Int} {e : (Nat → Int) → Int} {dep : Nat} (s : RCh Pr3 Po3 rs e dep) : RCh Pr2 Po2 rs (fun F => i_add 0 (e F)) dep := by
  obtain ⟨s1, s2⟩ := s
  refine ⟨s1, fun h N i k d dd v4 v5 w i0 hd c k1 k2 hn pr => ?_⟩
  obtain ⟨N', x4, x5, e1, g, q, p⟩ := s2 h N i k d dd v4 v5 w i0 hd c k1 k2 hn pr.1
  refine ⟨N', x4, x5, e1, g, q, ?_, fun a h1 h2 => p.2 a h1 (by omega)⟩
  unfold PS
  rw [p.2 167 (by omega) (by omega), p.2 166 (by omega) (by omega), pr.2.1, pr.2.2, p.1]
  rfl
theorem RCh.add {rs rs' : List Int} {e e' : (Nat → Int) → Int} {dep : Nat} {o : Int} (ho : o = 20 ∨ o = 21) (s : RCh Pr2 Po2 rs e dep) (s' : RCh Pr3 Po3 rs' e' dep) : RCh Pr2 Po2 (rs ++ (o :: rs')) (fun F => if o = 21 then i_sub (e F) (e' F) else i_add (e F) (e' F)) dep := by
  obtain ⟨s1, s2⟩ := s
  obtain ⟨t1, t2⟩ := s'
  refine ⟨by rw [List.length_append]; omega, fun h N i k d dd v4 v5 w i0 hd c k1 k2 hn pr => ?_⟩
  have ll : ((rs ++ (o :: rs')).length : Int) = rs.length + rs'.length + 1 := by rw [List.length_append]; show ((rs.length + (rs'.length + 1) : Nat) : Int) = _; omega
  rw [ll] at k1 ⊢
  have c0 := c.1
  obtain ⟨N1, x4, x5, e1, g1, q1, p1⟩ := s2 h N i k d dd v4 v5 w i0 hd c.l (by omega) k2 hn pr
  have a1 : N1 158 = N 158 := g1.1 _ (by omega)
  have e2 := st_su (N := N1) (d := d) (k := k + rs.length) ⟨w, i0, ⟨by omega, by rw [a1]; omega, by rw [a1]; omega⟩, by omega⟩ dd (c.r.g g1).h ho x4 x5
  generalize hP : up2 (suM N1 d) 167 d o = P at e2
  have g2 : Rg d N P := by rw [← hP]; exact (g1.su (Nat.le_refl _)).u 167 o (by omega) (Nat.le_refl _)
  have f6 : P 166 d = PS N1 d := by rw [← hP]; unfold suM; simp (disch := omega) only [u2_ne, u2_at]
  have f7 : P 167 d = o := by rw [← hP, u2_at]
  have f9 : P 169 d = 0 := by rw [← hP]; unfold suM; simp (disch := omega) only [u2_ne, u2_at]
  have fo : ∀ a, 162 ≤ a → a ≤ 165 ∨ a = 170 → P a d = N1 a d := fun a h1 h2 => by rw [← hP]; unfold suM; simp (disch := omega) only [u2_ne]
  have a2 : P 158 = N 158 := g2.1 _ (by omega)
  obtain ⟨N3, y4, y5, e3, g3, q3, p3⟩ := t2 h P i (k + rs.length + 1) d dd (vi o) x5 w i0 hd (c.r.t.g g2) (by rw [a2]; omega) (by rw [a2]; omega) (by rw [fo 170 (by omega) (by omega), q1]; exact hn) f9
  rw [F1.g g2] at p3
  rw [show k + (rs.length : Int) + 1 + rs'.length = k + (rs.length + rs'.length + 1) by omega] at e3
  refine ⟨N3, y4, y5, (e1.trans e2).trans e3, g2.tr g3, by rw [q3, fo 170 (by omega) (by omega), q1], ?_, fun a h1 h2 => by rw [p3.2 a h1 (by omega), fo a h1 (by omega)]; exact p1.2 a h1 h2⟩
  unfold PS
  rw [p3.2 167 (by omega) (by omega), p3.2 166 (by omega) (by omega), f6, f7, p3.1, p1.1]
theorem RCh.one1 {rs : List Int} {e : (Nat → Int) → Int} {dep : Nat} (s : RCh Pr2 Po2 rs e dep) : RCh Pr1 Po1 rs e dep := by
  obtain ⟨s1, s2⟩ := s
  refine ⟨s1, fun h N i k d dd v4 v5 w i0 hd c k1 k2 hn pr => ?_⟩
  obtain ⟨N', x4, x5, e1, g, q, p⟩ := s2 h N i k d dd v4 v5 w i0 hd c k1 k2 hn pr.1
  refine ⟨N', x4, x5, e1, g, q, ?_, fun a h1 h2 => p.2 a h1 (by omega)⟩
  unfold PT
  rw [p.2 165 (by omega) (by omega), pr.2, if_neg (by omega), if_neg (by omega)]
  exact p.1
theorem RCh.cmp {rs rs' : List Int} {e e' : (Nat → Int) → Int} {dep : Nat} {o : Int} (ho : o = 24 ∨ o = 25) (s : RCh Pr2 Po2 rs e dep) (s' : RCh Pr2 Po2 rs' e' dep) : RCh Pr1 Po1 (rs ++ (o :: rs')) (fun F => if o = 24 then (if e F < e' F then 1 else 0) else (if e F = e' F then 1 else 0)) dep := by
  obtain ⟨s1, s2⟩ := s
  obtain ⟨t1, t2⟩ := s'
  refine ⟨by rw [List.length_append]; omega, fun h N i k d dd v4 v5 w i0 hd c k1 k2 hn pr => ?_⟩
  have ll : ((rs ++ (o :: rs')).length : Int) = rs.length + rs'.length + 1 := by rw [List.length_append]; show ((rs.length + (rs'.length + 1) : Nat) : Int) = _; omega
  rw [ll] at k1 ⊢
  have c0 := c.1
  obtain ⟨N1, x4, x5, e1, g1, q1, p1⟩ := s2 h N i k d dd v4 v5 w i0 hd c.l (by omega) k2 hn pr.1
  have a1 : N1 158 = N 158 := g1.1 _ (by omega)
  have e2 := st_cm (N := N1) (d := d) (k := k + rs.length) ⟨w, i0, ⟨by omega, by rw [a1]; omega, by rw [a1]; omega⟩, by omega⟩ dd (c.r.g g1).h ho x4 x5
  generalize hP : up2 (up2 (up2 (up2 (suM N1 d) 164 d (PS N1 d)) 165 d o) 166 d 0) 167 d 20 = P at e2
  have g2 : Rg d N P := by rw [← hP]; exact ((((g1.su (Nat.le_refl _)).u 164 _ (by omega) (Nat.le_refl _)).u 165 _ (by omega) (Nat.le_refl _)).u 166 _ (by omega) (Nat.le_refl _)).u 167 _ (by omega) (Nat.le_refl _)
  have f4 : P 164 d = PS N1 d := by rw [← hP]; simp (disch := omega) only [u2_ne, u2_at]
  have f5 : P 165 d = o := by rw [← hP]; simp (disch := omega) only [u2_ne, u2_at]
  have f6 : P 166 d = 0 := by rw [← hP]; simp (disch := omega) only [u2_ne, u2_at]
  have f7 : P 167 d = 20 := by rw [← hP, u2_at]
  have f9 : P 169 d = 0 := by rw [← hP]; unfold suM; simp (disch := omega) only [u2_ne, u2_at]
  have fo : ∀ a, 162 ≤ a → a ≤ 163 ∨ a = 170 → P a d = N1 a d := fun a h1 h2 => by rw [← hP]; unfold suM; simp (disch := omega) only [u2_ne]
  have a2 : P 158 = N 158 := g2.1 _ (by omega)
  obtain ⟨N3, y4, y5, e3, g3, q3, p3⟩ := t2 h P i (k + rs.length + 1) d dd (vi o) x5 w i0 hd (c.r.t.g g2) (by rw [a2]; omega) (by rw [a2]; omega) (by rw [fo 170 (by omega) (by omega), q1]; exact hn) ⟨f9, f6, f7⟩
  rw [F1.g g2] at p3
  rw [show k + (rs.length : Int) + 1 + rs'.length = k + (rs.length + rs'.length + 1) by omega] at e3
  refine ⟨N3, y4, y5, (e1.trans e2).trans e3, g2.tr g3, by rw [q3, fo 170 (by omega) (by omega), q1], ?_, fun a h1 h2 => by rw [p3.2 a h1 (by omega), fo a h1 (by omega)]; exact p1.2 a h1 (by omega)⟩
  unfold PT
  rw [p3.2 165 (by omega) (by omega), p3.2 164 (by omega) (by omega), f4, f5, p3.1, p1.1]
  rcases ho with z | z
  · subst z; rfl
  · subst z; rfl
theorem RCh.one0 {rs : List Int} {e : (Nat → Int) → Int} {dep : Nat} (s : RCh Pr1 Po1 rs e dep) : RCh Pr0 Po0 rs e dep := by
  obtain ⟨s1, s2⟩ := s
  refine ⟨s1, fun h N i k d dd v4 v5 w i0 hd c k1 k2 hn pr => ?_⟩
  obtain ⟨N', x4, x5, e1, g, q, p⟩ := s2 h N i k d dd v4 v5 w i0 hd c k1 k2 hn pr.1
  refine ⟨N', x4, x5, e1, g, q, ?_⟩
  unfold Po0 PK
  rw [p.2 163 (by omega) (by omega), pr.2, if_neg (by omega), if_neg (by omega)]
  exact p.1
theorem RCh.bo {rs rs' : List Int} {e e' : (Nat → Int) → Int} {dep : Nat} {o : Int} (ho : o = 26 ∨ o = 27) (s : RCh Pr0 Po0 rs e dep) (s' : RCh Pr1 Po1 rs' e' dep) : RCh Pr0 Po0 (rs ++ (o :: rs')) (fun F => if o = 26 then (if e F ≠ 0 ∧ e' F ≠ 0 then 1 else 0) else (if e F ≠ 0 ∨ e' F ≠ 0 then 1 else 0)) dep := by
  obtain ⟨s1, s2⟩ := s
  obtain ⟨t1, t2⟩ := s'
  refine ⟨by rw [List.length_append]; omega, fun h N i k d dd v4 v5 w i0 hd c k1 k2 hn pr => ?_⟩
  have ll : ((rs ++ (o :: rs')).length : Int) = rs.length + rs'.length + 1 := by rw [List.length_append]; show ((rs.length + (rs'.length + 1) : Nat) : Int) = _; omega
  rw [ll] at k1 ⊢
  have c0 := c.1
  obtain ⟨N1, x4, x5, e1, g1, q1, p1⟩ := s2 h N i k d dd v4 v5 w i0 hd c.l (by omega) k2 hn pr
  have p1 : PK N1 d = e (F1 N) := p1
  have a1 : N1 158 = N 158 := g1.1 _ (by omega)
  have e2 := st_bo (N := N1) (d := d) (k := k + rs.length) ⟨w, i0, ⟨by omega, by rw [a1]; omega, by rw [a1]; omega⟩, by omega⟩ dd (c.r.g g1).h ho x4 x5
  generalize hP : up2 (teM N1 d) 163 d o = P at e2
  have g2 : Rg d N P := by rw [← hP]; exact (g1.te (Nat.le_refl _)).u 163 _ (by omega) (Nat.le_refl _)
  have f2 : P 162 d = PK N1 d := by rw [← hP]; unfold teM; simp (disch := omega) only [u2_ne, u2_at]
  have f3 : P 163 d = o := by rw [← hP, u2_at]
  have f5 : P 165 d = 0 := by rw [← hP]; unfold teM; simp (disch := omega) only [u2_ne, u2_at]
  have f6 : P 166 d = 0 := by rw [← hP]; unfold teM; simp (disch := omega) only [u2_ne, u2_at]
  have f7 : P 167 d = 20 := by rw [← hP]; unfold teM; simp (disch := omega) only [u2_ne, u2_at]
  have f9 : P 169 d = 0 := by rw [← hP]; unfold teM suM; simp (disch := omega) only [u2_ne, u2_at]
  have f0 : P 170 d = N1 170 d := by rw [← hP]; unfold teM suM; simp (disch := omega) only [u2_ne]
  have a2 : P 158 = N 158 := g2.1 _ (by omega)
  obtain ⟨N3, y4, y5, e3, g3, q3, p3⟩ := t2 h P i (k + rs.length + 1) d dd (vi o) x5 w i0 hd (c.r.t.g g2) (by rw [a2]; omega) (by rw [a2]; omega) (by rw [f0, q1]; exact hn) ⟨⟨f9, f6, f7⟩, f5⟩
  rw [F1.g g2] at p3
  rw [show k + (rs.length : Int) + 1 + rs'.length = k + (rs.length + rs'.length + 1) by omega] at e3
  refine ⟨N3, y4, y5, (e1.trans e2).trans e3, g2.tr g3, by rw [q3, f0, q1], ?_⟩
  unfold Po0 PK
  rw [p3.2 163 (by omega) (by omega), p3.2 162 (by omega) (by omega), f2, f3, p3.1, p1]
  rcases ho with z | z
  · subst z; rfl
  · subst z; rfl
theorem WkL.of {rs : List Int} {e : (Nat → Int) → Int} {dep : Nat} (s : RCh Pr0 Po0 rs e dep) (hd : dep ≤ 6) : WkL (fun j => rs.getD j 0) rs.length e := by
  obtain ⟨s1, s2⟩ := s
  intro h N d i w i0 i1 k0 k1 k2 hc
  have o1 : ev (d + 1) 160 [vr 145, vi 0] (sM h N) = some (vr 0, sM h (opM N 0)) := m_160 w (d + 1) N 0 (by omega)
  have g0 : Rg 0 N (opM N 0) := (Rg.rf _ N).op (Nat.le_refl _)
  have p0 : Pr0 (opM N 0) 0 := by
    unfold opM Pr0 Pr1 Pr2
    refine ⟨⟨⟨?_, ?_, ?_⟩, ?_⟩, ?_⟩ <;> simp (disch := omega) only [u2_ne, u2_at]
  have e7 : opM N 0 157 = N 157 := g0.1 _ (by omega)
  have e8 : opM N 0 158 = N 158 := g0.1 _ (by omega)
  have cd : Cd N (N 157 i.toNat) rs := ⟨k0, fun j hj => by
    have := hc j (by omega) (by omega)
    rw [Int.toNat_natCast] at this
    exact this⟩
  obtain ⟨N', x4, x5, e1, g1, q1, p1⟩ := s2 h (opM N 0) i (N 157 i.toNat) 0 d vu vu w ⟨i0, i1⟩ (by omega) (cd.g g0) (by rw [e8]; omega) (by rw [e8]; omega) (Or.inl rfl) p0
  have p1 : PK N' 0 = e (F1 (opM N 0)) := p1
  rw [F1.g g0] at p1
  have e8' : N' 158 = N 158 := (g1.1 _ (by omega)).trans e8
  refine ⟨teM N' 0, ?_, fun a ha => ((g0.tr g1).te (Nat.le_refl _)).1 a (by unfold WkA at ha; omega)⟩
  have s2 : teM N' 0 162 0 = PK N' 0 := by unfold teM; rw [u2_ne _ _ _ (by omega), u2_ne _ _ _ (by omega), u2_ne _ _ _ (by omega), u2_at]
  rw [v_163, q_163_0 (w := w.m _), o1, bV_s, q_163_7 (w := w.m _), mi_sM, e7, dt i0, dt i1]
  show run (d + 2) md_163 14 [vr 145, vi i, vi ((0 : Nat) : Int), vi (N 157 i.toNat), vu, vu] [] (sM h (opM N 0)) = _
  have t0 : ev (d + 1) 162 [vr 145, vi 0] (sM h N') = some (vr 0, sM h (teM N' 0)) := m_162 w d N' 0 (by omega)
  rw [e1, q_163_14 (w := w.m _), mi_sM, e8', dt i0, dt i1, dt (by omega)]
  show (bV (ev (d + 1) 162 [vr 145, vi 0] (sM h N')) _) = _
  rw [t0, bV_s, q_163_340 (w := w.m _), mi_sM, s2, p1]
  rfl
