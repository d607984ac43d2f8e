/-! lines are read: pourers -/
/-- the reference: what is read stays as it was -/
def Rz (h h1 : HP) : Prop := Rd h h1 ∧ (∀ hc t c e, YY hc h t c e → YY hc h1 t c e) ∧ h_mi h1 147 = h_mi h 147 ∧ h_mi h1 145 24 = h_mi h 145 24
theorem Rz.tr {h h1 h2 : HP} (a : Rz h h1) (b : Rz h1 h2) : Rz h h2 := ⟨a.1.tr b.1, fun hc t c e y => b.2.1 hc t c e (a.2.1 hc t c e y), b.2.2.1.trans a.2.2.1, b.2.2.2.trans a.2.2.2⟩
theorem RQ.rz {h h1 : HP} (g : RQ h h1) : Rz h h1 := ⟨g.rd, fun _ _ c _ y => y.kr (g.kr c), g.sh.2.2.2.2.2.2 147 (by omega), g.f (by omega) (by omega) (by omega) (by omega) (by omega) (by omega)⟩
theorem Rz.pz {h h1 : HP} (g : Rz h h1) {a k : Nat} (ha : a = 151 ∨ a = 152 ∨ a = 153) (hk : h_mi h 147 7 = (k : Int)) (k6 : k < 6) (v : Int) : Rz h (sI h1 a (6 + k) v) := by
  obtain ⟨g1, g2, g3, g4⟩ := g
  have pa : pw a = 6 := by rcases ha with z | z | z <;> subst z <;> rfl
  exact ⟨g1.si (by omega) (by omega) (by omega) (by omega) v, fun hc t c e y => (g2 hc t c e y).pz ha (by rw [g3]; exact hk) v, by rw [miI_ne _ _ _ (by omega)]; exact g3, by rw [miI_ne _ _ _ (by omega)]; exact g4⟩
theorem Rz.lz {h h1 : HP} (g : Rz h h1) {a k : Nat} (ha : a = 154 ∨ a = 155 ∨ a = 156) (hk : h_mi h 147 8 = (k : Int)) (k6 : k < 7) (v : Int) : Rz h (sI h1 a (7 + k) v) := by
  obtain ⟨g1, g2, g3, g4⟩ := g
  have pa : pw a = 7 := by rcases ha with z | z | z <;> subst z <;> rfl
  exact ⟨g1.si (by omega) (by omega) (by omega) (by omega) v, fun hc t c e y => (g2 hc t c e y).lz ha (by rw [g3]; exact hk) v, by rw [miI_ne _ _ _ (by omega)]; exact g3, by rw [miI_ne _ _ _ (by omega)]; exact g4⟩
theorem Rz.nm {h h1 : HP} (g : Rz h h1) (m : Nat) (v u : Int) : Rz h (sI (sL h1 150 m v) 145 14 u) := by
  obtain ⟨g1, g2, g3, g4⟩ := g
  exact ⟨(g1.l150 m v).s145 (by omega) (by omega) u, fun hc t c e y => ((g2 hc t c e y).kr (Kr.l150 c h1 m v)).kr (Kr.s145 c _ (by omega) u), by rw [miI_ne _ _ _ (by omega)]; exact g3, by rw [miI_eq, up_ne _ _ (by omega)]; exact g4⟩
theorem gp2_b (w : Int) : gpV 2 w ≤ 1 := by
  unfold gpV
  repeat' split
  all_goals omega
theorem gp3_b (w : Int) : gpV 3 w ≤ 3 := by
  unfold gpV
  repeat' split
  all_goals omega
theorem gw2_b (f : Nat → Int) (n p : Nat) : gw f n p 2 ≤ 1 := by
  unfold gw
  split
  · exact gp2_b _
  · omega
theorem gw3_b (f : Nat → Int) (n p : Nat) : gw f n p 3 ≤ 3 := by
  unfold gw
  split
  · exact gp3_b _
  · omega
section
variable {h : HP} {f : Nat → Int} {n l p : Nat}
theorem NmR.sn {m : Nat} {nm : Nat → Int} (a : NmR h m nm) {b j : Nat} (hb : b ≠ 145) (v : Int) : NmR (sI h b j v) m nm := ⟨by rw [miI_ne _ _ _ (fun z => hb z.symm)]; exact a.1, a.2⟩
/-- the name of a pourer or a load, reference -/
theorem s_nm {m : Nat} {nm : Nat → Int} (r : RL h f n p) (x : TX f n l) (p1 : p ≤ n) (d : Nat) (m1 : m ≤ 12) (nr : NmR h m nm) : (¬ nmP f n p → ∃ h1, ev (d + 2) 165 [vr 145] h = some (vi 0, h1) ∧ Rz h h1 ∧ h_mi h1 145 9 = 1 + 16 * ((tB f n p : Nat) : Int) ∧ RSk h1) ∧ (nmP f n p → dpN nm m (tkW f n p) → ∃ h1, ev (d + 2) 165 [vr 145] h = some (vi 0, h1) ∧ Rz h h1 ∧ h_mi h1 145 9 = 3 + 16 * ((tB f n p : Nat) : Int) ∧ RSk h1) ∧ (nmP f n p → ¬ dpN nm m (tkW f n p) → ∃ h1, ev (d + 2) 165 [vr 145] h = some (vi 1, h1) ∧ Rz h h1 ∧ RL h1 f n (tkE f n p) ∧ NmR h1 (m + 1) (va_up nm m (tkW f n p))) := by
  refine ⟨fun y => ?_, fun y z => ?_, fun y z => ?_⟩
  · obtain ⟨h1, e1, f1⟩ := s_165n r x p1 d y
    exact ⟨h1, e1, f1.1.rz, f1.2, f1.1.rs r.1⟩
  · obtain ⟨h1, e1, f1⟩ := (s_165 r x p1 d y m1 nr).1 z
    exact ⟨h1, e1, f1.1.rz, f1.2, f1.1.rs r.1⟩
  · obtain ⟨h1, e1, g1, r1, n1⟩ := (s_165 r x p1 d y m1 nr).2 z
    exact ⟨h1, e1, ((RQ.rf h).rz.nm m _ _).tr g1.rz, r1, n1⟩
theorem s_177 {k m : Nat} {nm : Nat → Int} (r : RL h f n p) (x : TX f n l) (p1 : p ≤ n) (d : Nat) (hk : h_mi h 147 7 = (k : Int)) (k6 : k < 6) (m1 : m ≤ 12) (nr : NmR h m nm) : (∀ q, prF f n (tkE f n p) nm m q → ∃ h1, ev (d + 4) 177 [vr 145] h = some (vi 0, h1) ∧ Rd h h1 ∧ h_mi h1 145 9 = q) ∧ (prO f n (tkE f n p) nm m → ∃ hP, (RL hP f n (tkE f n (tkE f n (tkE f n (tkE f n (tkE f n (tkE f n p)))))) ∧ Rz h hP ∧ NmR hP (m + 1) (va_up nm m (tkW f n (tkE f n p))) ∧ h_mi hP 151 (6 + k) = gw f n (tkE f n (tkE f n p)) 2 ∧ h_mi hP 152 (6 + k) = gw f n (tkE f n (tkE f n (tkE f n p))) 3 ∧ h_mi hP 153 (6 + k) = tkN f n (tkE f n (tkE f n (tkE f n (tkE f n (tkE f n p)))))) ∧ ev (d + 4) 177 [vr 145] h = bI (ev (d + 3) 168 [vr 145] (sI hP 147 7 ((k + 1 : Nat) : Int))) fun r1 h1 => run (d + 3 + 1) md_177 141 [vr 145, vi ((6 + k : Nat) : Int)] [vi r1] h1) := by
  have p2 := (tk_n (f := f) p1).2.1
  have p3 := (tk_n (f := f) p2).2.1
  have p4 := (tk_n (f := f) p3).2.1
  have p5 := (tk_n (f := f) p4).2.1
  have p6 := (tk_n (f := f) p5).2.1
  have k0 : i_add 6 (k : Int) = ((6 + k : Nat) : Int) := by rw [ia (by omega) (by omega)]; omega
  have kN : (((6 + k : Nat) : Int)).toNat = 6 + k := Int.toNat_natCast _
  have b0 : decide (0 ≤ ((6 + k : Nat) : Int)) = true := dt (by omega)
  have b1 : decide (((6 + k : Nat) : Int) < 36) = true := dt (by omega)
  obtain ⟨h1, e1, g1, r1, _⟩ := s_152 r x p1 (d + 2)
  have st1 : ev (d + 4) 177 [vr 145] h = bI (ev (d + 3) 165 [vr 145] h1) fun r1 h1 => run (d + 3 + 1) md_177 31 [vr 145, vi ((6 + k : Nat) : Int)] [vi r1] h1 := by
    rw [v_177, q_177_0 (w := r.1), hk, k0, dt (show ((6 + k : Nat) : Int) ≠ 12 by omega), e1]
    show run (d + 3 + 1) md_177 27 [vr 145, vi ((6 + k : Nat) : Int)] [] h1 = _
    rw [q_177_27 (w := r1.1)]
  have sn := s_nm r1 x p2 (d + 1) m1 (nr.rq g1)
  -- after the name
  have st2 : nmP f n (tkE f n p) → ¬ dpN nm m (tkW f n (tkE f n p)) → ∃ h2, Rz h h2 ∧ RL h2 f n (tkE f n (tkE f n p)) ∧ NmR h2 (m + 1) (va_up nm m (tkW f n (tkE f n p))) ∧ ev (d + 4) 177 [vr 145] h = run (d + 3 + 1) md_177 45 [vr 145, vi ((6 + k : Nat) : Int)] [vi (gw f n (tkE f n (tkE f n p)) 2), vi ((6 + k : Nat) : Int), vr 151] h2 := fun a b => by
    obtain ⟨h2, e2, g2, r2, n2⟩ := sn.2.2 a b
    refine ⟨h2, g1.rz.tr g2, r2, n2, ?_⟩
    rw [st1, e2, bI_s, q_177_31 (w := r2.1), s_174 r2 (d + 2)]
    rfl
  have st3 : nmP f n (tkE f n p) → ¬ dpN nm m (tkW f n (tkE f n p)) → 0 ≤ gw f n (tkE f n (tkE f n p)) 2 → ∃ h3, Rz h h3 ∧ RL h3 f n (tkE f n (tkE f n (tkE f n p))) ∧ NmR h3 (m + 1) (va_up nm m (tkW f n (tkE f n p))) ∧ h_mi h3 151 (6 + k) = gw f n (tkE f n (tkE f n p)) 2 ∧ ev (d + 4) 177 [vr 145] h = run (d + 3 + 1) md_177 74 [vr 145, vi ((6 + k : Nat) : Int)] [vi (gw f n (tkE f n (tkE f n (tkE f n p))) 3), vi ((6 + k : Nat) : Int), vr 152] h3 := fun a b c => by
    obtain ⟨h2, g2, r2, n2, e2⟩ := st2 a b
    have r2' := r2.sn (a := 151) (j := 6 + k) (by omega) (by omega) (gw f n (tkE f n (tkE f n p)) 2)
    obtain ⟨h3, e3, g3, r3, _⟩ := s_152 r2' x p3 (d + 2)
    refine ⟨h3, (g2.pz (by omega) hk k6 _).tr g3.rz, r3, (n2.sn (by omega) _).rq g3, by rw [g3.sh.2.2.2.2.2.2 151 (by omega), miI_eq, up_eq], ?_⟩
    rw [e2, q_177_45 (w := r2.1), b0, b1, kN, up_eq, dt c, e3]
    show run (d + 3 + 1) md_177 65 [vr 145, vi ((6 + k : Nat) : Int)] [] h3 = _
    rw [q_177_65 (w := r3.1), s_175 r3 (d + 2)]
    rfl
  have st4 : nmP f n (tkE f n p) → ¬ dpN nm m (tkW f n (tkE f n p)) → 0 ≤ gw f n (tkE f n (tkE f n p)) 2 → 0 ≤ gw f n (tkE f n (tkE f n (tkE f n p))) 3 → ∃ h4, Rz h h4 ∧ RL h4 f n (tkE f n (tkE f n (tkE f n (tkE f n p)))) ∧ NmR h4 (m + 1) (va_up nm m (tkW f n (tkE f n p))) ∧ h_mi h4 151 (6 + k) = gw f n (tkE f n (tkE f n p)) 2 ∧ h_mi h4 152 (6 + k) = gw f n (tkE f n (tkE f n (tkE f n p))) 3 ∧ ev (d + 4) 177 [vr 145] h = bI (ev (d + 3) 167 [vr 145, vl 8529643] h4) fun r1 h1 => run (d + 3 + 1) md_177 101 [vr 145, vi ((6 + k : Nat) : Int)] [vi r1] h1 := fun a b c c2 => by
    obtain ⟨h3, g3, r3, n3, m3, e3⟩ := st3 a b c
    have r3' := r3.sn (a := 152) (j := 6 + k) (by omega) (by omega) (gw f n (tkE f n (tkE f n (tkE f n p))) 3)
    obtain ⟨h4, e4, g4, r4, _⟩ := s_152 r3' x p4 (d + 2)
    refine ⟨h4, (g3.pz (by omega) hk k6 _).tr g4.rz, r4, (n3.sn (by omega) _).rq g4, by rw [g4.sh.2.2.2.2.2.2 151 (by omega), miI_ne _ _ _ (by omega)]; exact m3, by rw [g4.sh.2.2.2.2.2.2 152 (by omega), miI_eq, up_eq], ?_⟩
    rw [e3, q_177_74 (w := r3.1), b0, b1, kN, up_eq, dt c2, e4]
    show run (d + 3 + 1) md_177 94 [vr 145, vi ((6 + k : Nat) : Int)] [] h4 = _
    rw [q_177_94 (w := r4.1)]
  have st5 : nmP f n (tkE f n p) → ¬ dpN nm m (tkW f n (tkE f n p)) → 0 ≤ gw f n (tkE f n (tkE f n p)) 2 → 0 ≤ gw f n (tkE f n (tkE f n (tkE f n p))) 3 → wdP f n (tkE f n (tkE f n (tkE f n (tkE f n p)))) 8529643 → ∃ h4, Rz h h4 ∧ RL h4 f n (tkE f n (tkE f n (tkE f n (tkE f n (tkE f n p))))) ∧ NmR h4 (m + 1) (va_up nm m (tkW f n (tkE f n p))) ∧ h_mi h4 151 (6 + k) = gw f n (tkE f n (tkE f n p)) 2 ∧ h_mi h4 152 (6 + k) = gw f n (tkE f n (tkE f n (tkE f n p))) 3 ∧ ev (d + 4) 177 [vr 145] h = bI (ev (d + 3) 166 [vr 145, vi 0, vi 99] h4) fun r1 h1 => run (d + 3 + 1) md_177 111 [vr 145, vi ((6 + k : Nat) : Int)] [vi r1] h1 := fun a b c c2 c3 => by
    obtain ⟨h3, g3, r3, n3, m3, m4, e3⟩ := st4 a b c c2
    obtain ⟨h4, e4, g4, r4⟩ := s_167y r3 x p5 (d + 1) c3
    refine ⟨h4, g3.tr g4.rz, r4, n3.rq g4, by rw [g4.sh.2.2.2.2.2.2 151 (by omega)]; exact m3, by rw [g4.sh.2.2.2.2.2.2 152 (by omega)]; exact m4, ?_⟩
    rw [e3, e4, bI_s, q_177_101 (w := r4.1)]
    rfl
  refine ⟨fun q pf => ?_, fun ⟨a, b, s2, s3, s4, s5⟩ => ?_⟩
  · rcases pf with ⟨a, rfl⟩ | ⟨a, b, rfl⟩ | ⟨a, b, ⟨s2, rfl⟩ | ⟨s2, ⟨s3, rfl⟩ | ⟨s3, ⟨s4, rfl⟩ | ⟨s4, s5, rfl⟩⟩⟩⟩
    · obtain ⟨h2, e2, g2, m2, w2⟩ := sn.1 a
      refine ⟨h2, ?_, (g1.rz.tr g2).1, m2⟩
      rw [st1, e2, bI_s, q_177_31 (w := w2)]; rfl
    · obtain ⟨h2, e2, g2, m2, w2⟩ := sn.2.1 a b
      refine ⟨h2, ?_, (g1.rz.tr g2).1, m2⟩
      rw [st1, e2, bI_s, q_177_31 (w := w2)]; rfl
    · obtain ⟨h2, g2, r2, n2, e2⟩ := st2 a b
      obtain ⟨h3, e3, f3⟩ := s_155 (r2.sn (a := 151) (j := 6 + k) (by omega) (by omega) (gw f n (tkE f n (tkE f n p)) 2)) x p3 (d + 3) (k := 1) (by omega) (by omega)
      refine ⟨h3, ?_, ((g2.pz (by omega) hk k6 _).tr f3.1.rz).1, f3.2⟩
      rw [e2, q_177_45 (w := r2.1), b0, b1, kN, up_eq, df s2, e3]
      exact q_177_60 ..
    · obtain ⟨h2, g2, r2, n2, m2, e2⟩ := st3 a b s2
      obtain ⟨h3, e3, f3⟩ := s_155 (r2.sn (a := 152) (j := 6 + k) (by omega) (by omega) (gw f n (tkE f n (tkE f n (tkE f n p))) 3)) x p4 (d + 3) (k := 1) (by omega) (by omega)
      refine ⟨h3, ?_, ((g2.pz (by omega) hk k6 _).tr f3.1.rz).1, f3.2⟩
      rw [e2, q_177_74 (w := r2.1), b0, b1, kN, up_eq, df s3, e3]
      exact q_177_89 ..
    · obtain ⟨h2, g2, r2, n2, m2, m3, e2⟩ := st4 a b s2 s3
      obtain ⟨h3, e3, f3⟩ := s_167n r2 x p5 (d + 1) s4
      refine ⟨h3, ?_, (g2.tr f3.1.rz).1, f3.2⟩
      rw [e2, e3, bI_s, q_177_101 (w := f3.1.rs r2.1)]; rfl
    · obtain ⟨h2, g2, r2, n2, m2, m3, e2⟩ := st5 a b s2 s3 s4
      obtain ⟨h3, e3, f3⟩ := s_166n r2 x p6 (d + 1) s5
      rw [kdN_e] at f3
      refine ⟨h3, ?_, (g2.tr f3.1.rz).1, f3.2⟩
      rw [e2, e3, bI_s, q_177_111 (w := f3.1.rs r2.1)]; rfl
  · obtain ⟨h2, g2, r2, n2, m2, m3, e2⟩ := st5 a b s2 s3 s4
    obtain ⟨h3, e3, g3, r3, m9⟩ := s_166y r2 x p6 (d + 1) s5
    have g23 := g2.tr g3.rz
    have m7 : h_mi h3 147 7 = (k : Int) := by rw [g23.2.2.1]; exact hk
    refine ⟨sI h3 153 (6 + k) (tkN f n (tkE f n (tkE f n (tkE f n (tkE f n (tkE f n p)))))), ⟨r3.sn (by omega) (by omega) _, g23.pz (by omega) hk k6 _, (n2.rq g3).sn (by omega) _, by rw [miI_ne _ _ _ (by omega), g3.sh.2.2.2.2.2.2 151 (by omega)]; exact m2, by rw [miI_ne _ _ _ (by omega), g3.sh.2.2.2.2.2.2 152 (by omega)]; exact m3, by rw [miI_eq, up_eq]⟩, ?_⟩
    rw [e2, e3, bI_s, q_177_111 (w := r3.1), b0, b1, kN, m9, m7, show i_add (k : Int) 1 = ((k + 1 : Nat) : Int) by rw [ia (by omega) (by omega)]; omega]
    rfl
end
