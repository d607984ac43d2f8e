/-! lines are read: loads on both sides -/
section
variable {h : HP} {f : Nat → Int} {n l p : Nat}
theorem s_178 {k m p2 p3 p4 p5 p6 p7 p8 : Nat} {nm : Nat → Int} (e2 : tkE f n p = p2) (e3 : tkE f n p2 = p3) (e4 : tkE f n p3 = p4) (e5 : tkE f n p4 = p5) (e6 : tkE f n p5 = p6) (e7 : tkE f n p6 = p7) (e8 : tkE f n p7 = p8) (r : RL h f n p) (x : TX f n l) (p1 : p ≤ n) (d : Nat) (hk : h_mi h 147 8 = (k : Int)) (k7 : k < 7) (m1 : m ≤ 12) (nr : NmR h m nm) : (∀ q, loF f n p2 p3 p4 p5 p6 p7 nm m q → ∃ h1, ev (d + 4) 178 [vr 145] h = some (vi 0, h1) ∧ Rd h h1 ∧ h_mi h1 145 9 = q) ∧ (loO f n p2 p3 p4 p5 p6 p7 nm m → ∃ hP, (RL hP f n p8 ∧ Rz h hP ∧ NmR hP (m + 1) (va_up nm m (tkW f n p2)) ∧ h_mi hP 154 (7 + k) = gw f n p3 4 ∧ h_mi hP 155 (7 + k) = tkN f n p5 ∧ h_mi hP 156 (7 + k) = tkN f n p7) ∧ ev (d + 4) 178 [vr 145] h = bI (ev (d + 3) 168 [vr 145] (sI hP 147 8 ((k + 1 : Nat) : Int))) fun r1 h1 => run (d + 3 + 1) md_178 144 [vr 145, vi ((7 + k : Nat) : Int)] [vi r1] h1) := by
  have q2 : p2 ≤ n := e2 ▸ (tk_n (f := f) p1).2.1
  have q3 : p3 ≤ n := e3 ▸ (tk_n (f := f) q2).2.1
  have q4 : p4 ≤ n := e4 ▸ (tk_n (f := f) q3).2.1
  have q5 : p5 ≤ n := e5 ▸ (tk_n (f := f) q4).2.1
  have q6 : p6 ≤ n := e6 ▸ (tk_n (f := f) q5).2.1
  have q7 : p7 ≤ n := e7 ▸ (tk_n (f := f) q6).2.1
  have k0 : i_add 7 (k : Int) = ((7 + k : Nat) : Int) := by rw [ia (by omega) (by omega)]; omega
  have kN : (((7 + k : Nat) : Int)).toNat = 7 + k := Int.toNat_natCast _
  have b0 : decide (0 ≤ ((7 + k : Nat) : Int)) = true := dt (by omega)
  have b1 : decide (((7 + k : Nat) : Int) < 42) = true := dt (by omega)
  obtain ⟨h1, a1, g1, r1, _⟩ := s_152 r x p1 (d + 2)
  rw [e2] at r1
  have st1 : ev (d + 4) 178 [vr 145] h = bI (ev (d + 3) 165 [vr 145] h1) fun r1 h1 => run (d + 3 + 1) md_178 31 [vr 145, vi ((7 + k : Nat) : Int)] [vi r1] h1 := by
    rw [v_178, q_178_0 (w := r.1), hk, k0, dt (show ((7 + k : Nat) : Int) ≠ 14 by omega), a1]
    show run (d + 3 + 1) md_178 27 [vr 145, vi ((7 + k : Nat) : Int)] [] h1 = _
    rw [q_178_27 (w := r1.1)]
  have sn := s_nm r1 x q2 (d + 1) m1 (nr.rq g1)
  have st2 : nmP f n p2 → ¬ dpN nm m (tkW f n p2) → ∃ h2, Rz h h2 ∧ RL h2 f n p3 ∧ NmR h2 (m + 1) (va_up nm m (tkW f n p2)) ∧ ev (d + 4) 178 [vr 145] h = run (d + 3 + 1) md_178 45 [vr 145, vi ((7 + k : Nat) : Int)] [vi (gw f n p3 4), vi ((7 + k : Nat) : Int), vr 154] h2 := fun a b => by
    obtain ⟨h2, a2, g2, r2, n2⟩ := sn.2.2 a b
    rw [e3] at r2
    refine ⟨h2, g1.rz.tr g2, r2, n2, ?_⟩
    rw [st1, a2, bI_s, q_178_31 (w := r2.1), s_176 r2 (d + 2)]
    rfl
  have st3 : nmP f n p2 → ¬ dpN nm m (tkW f n p2) → 0 ≤ gw f n p3 4 → ∃ h3, Rz h h3 ∧ RL h3 f n p4 ∧ NmR h3 (m + 1) (va_up nm m (tkW f n p2)) ∧ h_mi h3 154 (7 + k) = gw f n p3 4 ∧ ev (d + 4) 178 [vr 145] h = bI (ev (d + 3) 167 [vr 145, vl 4351291] h3) fun r1 h1 => run (d + 3 + 1) md_178 72 [vr 145, vi ((7 + k : Nat) : Int)] [vi r1] h1 := fun a b c => by
    obtain ⟨h2, g2, r2, n2, a2⟩ := st2 a b
    have r2' := r2.sn (a := 154) (j := 7 + k) (by omega) (by omega) (gw f n p3 4)
    obtain ⟨h3, a3, g3, r3, _⟩ := s_152 r2' x q3 (d + 2)
    rw [e4] at r3
    refine ⟨h3, (g2.lz (by omega) hk k7 _).tr g3.rz, r3, (n2.sn (by omega) _).rq g3, by rw [g3.sh.2.2.2.2.2.2 154 (by omega), miI_eq, up_eq], ?_⟩
    rw [a2, q_178_45 (w := r2.1), b0, b1, kN, up_eq, dt c, a3]
    show run (d + 3 + 1) md_178 65 [vr 145, vi ((7 + k : Nat) : Int)] [] h3 = _
    rw [q_178_65 (w := r3.1)]
  have st4 : nmP f n p2 → ¬ dpN nm m (tkW f n p2) → 0 ≤ gw f n p3 4 → wdP f n p4 4351291 → ∃ h4, Rz h h4 ∧ RL h4 f n p5 ∧ NmR h4 (m + 1) (va_up nm m (tkW f n p2)) ∧ h_mi h4 154 (7 + k) = gw f n p3 4 ∧ ev (d + 4) 178 [vr 145] h = bI (ev (d + 3) 166 [vr 145, vi 1, vi 50] h4) fun r1 h1 => run (d + 3 + 1) md_178 82 [vr 145, vi ((7 + k : Nat) : Int)] [vi r1] h1 := fun a b c c3 => by
    obtain ⟨h3, g3, r3, n3, m3, a3⟩ := st3 a b c
    obtain ⟨h4, a4, g4, r4⟩ := s_167y r3 x q4 (d + 1) c3
    rw [e5] at r4
    refine ⟨h4, g3.tr g4.rz, r4, n3.rq g4, by rw [g4.sh.2.2.2.2.2.2 154 (by omega)]; exact m3, ?_⟩
    rw [a3, a4, bI_s, q_178_72 (w := r4.1)]
    rfl
  have st5 : nmP f n p2 → ¬ dpN nm m (tkW f n p2) → 0 ≤ gw f n p3 4 → wdP f n p4 4351291 → nuP f n p5 1 50 → ∃ h5, Rz h h5 ∧ RL h5 f n p6 ∧ NmR h5 (m + 1) (va_up nm m (tkW f n p2)) ∧ h_mi h5 154 (7 + k) = gw f n p3 4 ∧ h_mi h5 155 (7 + k) = tkN f n p5 ∧ ev (d + 4) 178 [vr 145] h = bI (ev (d + 3) 167 [vr 145, vl 12532058] h5) fun r1 h1 => run (d + 3 + 1) md_178 104 [vr 145, vi ((7 + k : Nat) : Int)] [vi r1] h1 := fun a b c c3 c4 => by
    obtain ⟨h3, g3, r3, n3, m3, a3⟩ := st4 a b c c3
    obtain ⟨h4, a4, g4, r4, m9⟩ := s_166y r3 x q5 (d + 1) c4
    rw [e6] at r4
    refine ⟨sI h4 155 (7 + k) (tkN f n p5), (g3.tr g4.rz).lz (by omega) hk k7 _, r4.sn (by omega) (by omega) _, (n3.rq g4).sn (by omega) _, by rw [miI_ne _ _ _ (by omega), g4.sh.2.2.2.2.2.2 154 (by omega)]; exact m3, by rw [miI_eq, up_eq], ?_⟩
    rw [a3, a4, bI_s, q_178_82 (w := r4.1), b0, b1, kN, m9]
    rfl
  have st6 : nmP f n p2 → ¬ dpN nm m (tkW f n p2) → 0 ≤ gw f n p3 4 → wdP f n p4 4351291 → nuP f n p5 1 50 → wdP f n p6 12532058 → ∃ h5, Rz h h5 ∧ RL h5 f n p7 ∧ NmR h5 (m + 1) (va_up nm m (tkW f n p2)) ∧ h_mi h5 154 (7 + k) = gw f n p3 4 ∧ h_mi h5 155 (7 + k) = tkN f n p5 ∧ ev (d + 4) 178 [vr 145] h = bI (ev (d + 3) 166 [vr 145, vi 0, vi 99] h5) fun r1 h1 => run (d + 3 + 1) md_178 114 [vr 145, vi ((7 + k : Nat) : Int)] [vi r1] h1 := fun a b c c3 c4 c5 => by
    obtain ⟨h3, g3, r3, n3, m3, m4, a3⟩ := st5 a b c c3 c4
    obtain ⟨h4, a4, g4, r4⟩ := s_167y r3 x q6 (d + 1) c5
    rw [e7] at r4
    refine ⟨h4, g3.tr g4.rz, r4, n3.rq g4, by rw [g4.sh.2.2.2.2.2.2 154 (by omega)]; exact m3, by rw [g4.sh.2.2.2.2.2.2 155 (by omega)]; exact m4, ?_⟩
    rw [a3, a4, bI_s, q_178_104 (w := r4.1)]
    rfl
  refine ⟨fun q pf => ?_, fun ⟨a, b, s2, s3, s4, s5, s6⟩ => ?_⟩
  · rcases pf with ⟨a, rfl⟩ | ⟨a, b, rfl⟩ | ⟨a, b, ⟨s2, rfl⟩ | ⟨s2, ⟨s3, rfl⟩ | ⟨s3, ⟨s4, rfl⟩ | ⟨s4, ⟨s5, rfl⟩ | ⟨s5, s6, rfl⟩⟩⟩⟩⟩
    · obtain ⟨h2, a2, g2, m2, w2⟩ := sn.1 a
      refine ⟨h2, ?_, (g1.rz.tr g2).1, m2⟩
      rw [st1, a2, bI_s, q_178_31 (w := w2)]; rfl
    · obtain ⟨h2, a2, g2, m2, w2⟩ := sn.2.1 a b
      refine ⟨h2, ?_, (g1.rz.tr g2).1, m2⟩
      rw [st1, a2, bI_s, q_178_31 (w := w2)]; rfl
    · obtain ⟨h2, g2, r2, n2, a2⟩ := st2 a b
      obtain ⟨h3, a3, f3⟩ := s_155 (r2.sn (a := 154) (j := 7 + k) (by omega) (by omega) (gw f n p3 4)) x q3 (d + 3) (k := 1) (by omega) (by omega)
      refine ⟨h3, ?_, ((g2.lz (by omega) hk k7 _).tr f3.1.rz).1, f3.2⟩
      rw [a2, q_178_45 (w := r2.1), b0, b1, kN, up_eq, df s2, a3]
      exact q_178_60 ..
    · obtain ⟨h2, g2, r2, n2, m2, a2⟩ := st3 a b s2
      obtain ⟨h3, a3, f3⟩ := s_167n r2 x q4 (d + 1) s3
      refine ⟨h3, ?_, (g2.tr f3.1.rz).1, f3.2⟩
      rw [a2, a3, bI_s, q_178_72 (w := f3.1.rs r2.1)]; rfl
    · obtain ⟨h2, g2, r2, n2, m2, a2⟩ := st4 a b s2 s3
      obtain ⟨h3, a3, f3⟩ := s_166n r2 x q5 (d + 1) s4
      rw [kdN_e] at f3
      refine ⟨h3, ?_, (g2.tr f3.1.rz).1, f3.2⟩
      rw [a2, a3, bI_s, q_178_82 (w := f3.1.rs r2.1)]; rfl
    · obtain ⟨h2, g2, r2, n2, m2, m3, a2⟩ := st5 a b s2 s3 s4
      obtain ⟨h3, a3, f3⟩ := s_167n r2 x q6 (d + 1) s5
      refine ⟨h3, ?_, (g2.tr f3.1.rz).1, f3.2⟩
      rw [a2, a3, bI_s, q_178_104 (w := f3.1.rs r2.1)]; rfl
    · obtain ⟨h2, g2, r2, n2, m2, m3, a2⟩ := st6 a b s2 s3 s4 s5
      obtain ⟨h3, a3, f3⟩ := s_166n r2 x q7 (d + 1) s6
      rw [kdN_e] at f3
      refine ⟨h3, ?_, (g2.tr f3.1.rz).1, f3.2⟩
      rw [a2, a3, bI_s, q_178_114 (w := f3.1.rs r2.1)]; rfl
  · obtain ⟨h2, g2, r2, n2, m2, m3, a2⟩ := st6 a b s2 s3 s4 s5
    obtain ⟨h3, a3, g3, r3, m9⟩ := s_166y r2 x q7 (d + 1) s6
    rw [e8] at r3
    have g23 := g2.tr g3.rz
    have m7 : h_mi h3 147 8 = (k : Int) := by rw [g23.2.2.1]; exact hk
    refine ⟨sI h3 156 (7 + k) (tkN f n p7), ⟨r3.sn (by omega) (by omega) _, g23.lz (by omega) hk k7 _, (n2.rq g3).sn (by omega) _, by rw [miI_ne _ _ _ (by omega), g3.sh.2.2.2.2.2.2 154 (by omega)]; exact m2, by rw [miI_ne _ _ _ (by omega), g3.sh.2.2.2.2.2.2 155 (by omega)]; exact m3, by rw [miI_eq, up_eq]⟩, ?_⟩
    rw [a2, a3, bI_s, q_178_114 (w := r3.1), b0, b1, kN, m9, m7, show i_add (k : Int) 1 = ((k + 1 : Nat) : Int) by rw [ia (by omega) (by omega)]; omega]
    rfl
end
section
variable {hc hr : HP} {f : Nat → Int} {n l p t b : Nat} {e : Nat → (Nat → Int) → Int}
theorem YY.ld {c k : Nat} (y : YY hc hr t c e) (hk : h_mi hr 147 8 = (k : Int)) (k6 : k < 7) {u v w : Int} (e1 : h_mi hr 154 (7 + k) = u) (e2 : h_mi hr 155 (7 + k) = v) (e3 : h_mi hr 156 (7 + k) = w) (u1 : 0 ≤ u ∧ u ≤ 4) (v1 : 1 ≤ v ∧ v ≤ 50) (w1 : 0 ≤ w ∧ w ≤ 99) : YY (ld4 hc t k u (needK u v) w) (sI hr 147 8 ((k + 1 : Nat) : Int)) t c e := by
  have fx := y.2.1
  have fb := y.2.2.1
  have t2 := y.1.2
  show YY (sM hc (up2 (up2 (up2 (up2 (h_mi hc) (t + 6) k u) (t + 7) k (needK u v)) (t + 8) k w) t 13 ((k + 1 : Nat) : Int))) (sM hr (up2 (h_mi hr) 147 8 ((k + 1 : Nat) : Int))) t c e
  refine y.wr (fun a ha => by simp (disch := omega) only [u2_ne]) (fun a ha => u2_ne _ _ _ (by omega)) ?_ ?_
  · obtain ⟨⟨x1, x2, x3, x4, x5⟩, x6, x7, x8⟩ := fx
    unfold FX
    simp (disch := omega) only [u2_ne, u2_no, u2_at]
    refine ⟨⟨x1, x2, x3, trivial, x5⟩, x6, x7, fun p hp => ?_⟩
    by_cases q : p = k
    · subst q
      rw [u2_at, u2_at, u2_at, e1, e2, e3]; exact ⟨rfl, rfl, rfl⟩
    · rw [u2_no _ _ _ q, u2_no _ _ _ q, u2_no _ _ _ q]
      simp (disch := omega) only [u2_ne]
      exact x8 p (by omega)
  · obtain ⟨f1, f2, f3, f4, f5, f6, f7, f8⟩ := fb
    unfold FB
    simp (disch := omega) only [u2_ne, u2_no, u2_at, show 5 * 1 + 3 = 8 from rfl]
    refine ⟨f1, f2, f3, by omega, f5, f6, f7, fun p hp => ?_⟩
    by_cases q : p = k
    · subst q
      rw [show 7 * 1 + p = 7 + p by omega, e1, e2, e3]; exact ⟨u1, v1, w1⟩
    · exact f8 p (by show (p : Int) < h_mi hr 147 8; omega)
theorem Wb.l4 {h h1 : HP} (p : Wb b h h1) {t : Nat} (ht : b ≤ t) (m : Nat) (x y z : Int) : Wb b h (ld4 h1 t m x y z) := (((p.si (by omega) m x).si (by omega) m y).si (by omega) m z).si ht 13 _
theorem ln_68 (X : XX hc hr f n p t e) (x : TX f n l) (p1 : p ≤ n) (hb : b ≤ t) (tk : tkK f n p ≠ 0) {D : Nat} (hD : 8 ≤ D) (d : Nat) : LOx f n t b D 68 [vr 103, vr t] (d + 4) 178 [vr 145] hc hr p := by
  obtain ⟨cl, rl, c, m, nm, y, ⟨c1, c2, c3⟩, mm, nc, nr⟩ := X
  have t2 := y.1.2
  have fb := y.2.2.1
  have fbb := fb.b
  have bB := tB_b (f := f) p1
  have b2 := x.2.1
  obtain ⟨k, hk⟩ : ∃ k : Nat, h_mi hr 147 8 = (k : Int) := ⟨(h_mi hr 147 8).toNat, by omega⟩
  have hm : h_mi hc t 13 = (k : Int) := by rw [y.2.1.1.2.2.2.1]; exact hk
  have jf := y.1.1.1
  by_cases k7 : k < 7
  · have m1 : m ≤ 12 := by omega
    have l1 := tk_l p1 tk
    obtain ⟨p2, e2⟩ : ∃ p2, tkE f n p = p2 := ⟨_, rfl⟩
    have q2 := tk_n (f := f) p1
    rw [e2] at q2 l1
    obtain ⟨p3, e3⟩ : ∃ p3, tkE f n p2 = p3 := ⟨_, rfl⟩
    have q3 := tk_n (f := f) q2.2.1
    rw [e3] at q3
    obtain ⟨p4, e4⟩ : ∃ p4, tkE f n p3 = p4 := ⟨_, rfl⟩
    have q4 := tk_n (f := f) q3.2.1
    rw [e4] at q4
    obtain ⟨p5, e5⟩ : ∃ p5, tkE f n p4 = p5 := ⟨_, rfl⟩
    have q5 := tk_n (f := f) q4.2.1
    rw [e5] at q5
    obtain ⟨p6, e6⟩ : ∃ p6, tkE f n p5 = p6 := ⟨_, rfl⟩
    have q6 := tk_n (f := f) q5.2.1
    rw [e6] at q6
    obtain ⟨p7, e7⟩ : ∃ p7, tkE f n p6 = p7 := ⟨_, rfl⟩
    have q7 := tk_n (f := f) q6.2.1
    rw [e7] at q7
    obtain ⟨p8, e8⟩ : ∃ p8, tkE f n p7 = p8 := ⟨_, rfl⟩
    have q8 := tk_n (f := f) q7.2.1
    rw [e8] at q8
    have kk := k_68 e2 e3 e4 e5 e6 e7 e8 cl x p1 hD jf t2 hm k7 m1 nc
    have ss := s_178 e2 e3 e4 e5 e6 e7 e8 rl x p1 d hk k7 m1 nr
    rcases lo_c f n p2 p3 p4 p5 p6 p7 nm m with ⟨q, pf⟩ | po
    · obtain ⟨p', h1, u, v, w, e1, pp, g1, q1⟩ := kk.1 q pf
      obtain ⟨h2, a2, rd, m9⟩ := ss.1 q pf
      have s1 := g1.sh
      exact ln_f x (loF_0 pf) (by omega) e1 q1 pp ((g1.kp.wb b).l4 hb _ _ _ _) s1.2.2.1 s1.2.2.2.1 a2 rd m9
    · obtain ⟨h1, e1, g1, q1, n1⟩ := kk.2 po
      obtain ⟨hP, ⟨rP, zP, nP, mu, mv, mw⟩, eP⟩ := ss.2 po
      obtain ⟨v1, v2, v3, v4, v5, v6, v7⟩ := po
      have s1 := g1.sh
      have hk' : h_mi hP 147 8 = (k : Int) := by rw [zP.2.2.1]; exact hk
      have y1 : YY h1 hP t c e := zP.2.1 h1 t c e (y.kc cl.1 g1.kp)
      have y2 := y1.ld hk' k7 mu mv mw ⟨v3, (gw_b _ _ _ _).2⟩ v5.2 v7.2
      refine ln_end (d := d + 1) x (by omega) q8.2.1 ?_ e1 q1 ((g1.kp.wb b).l4 hb _ _ _ _) s1.2.2.1 s1.2.2.2.1 (hB := sI hP 147 8 ((k + 1 : Nat) : Int)) (rP.sn (by omega) (by omega) _) (fun r h2 hr2 er => ?_) (zP.1.si (by omega) (by omega) (by show 5 ≤ 8; omega) (by show 8 < 2 * 5; omega) _) y2 ?_ c2 ?_ (m := m + 1) (nm := va_up nm m (tkW f n p2)) ?_ ?_ (nP.sn (by omega) _)
      · omega
      · rw [eP, er, bI_s, q_178_144]
        rcases hr2 with z | z <;> subst z <;> rfl
      · rw [miI_ne _ _ _ (by omega), zP.2.2.2]; exact c1
      · omega
      · rw [miI_eq, up_eq, up_ne _ _ (by omega), zP.2.2.1]; omega
      · refine ⟨?_, n1.2⟩
        show h_mi (sI (sI (sI (sI h1 (t + 6) k _) (t + 7) k _) (t + 8) k _) t 13 _) 103 5 = _
        rw [miI_ne _ _ _ (by omega), miI_ne _ _ _ (by omega), miI_ne _ _ _ (by omega), miI_ne _ _ _ (by omega)]
        exact n1.1
  · have k6' : k = 7 := by omega
    obtain ⟨d', rfl⟩ : ∃ d', D = d' + 1 := ⟨D - 1, by omega⟩
    obtain ⟨h1, e1, g1, q1⟩ := k_84 cl d' (k := 5) (b := tB f n p) (by omega) (by omega) (by omega)
    obtain ⟨h2, e2, f2⟩ := s_155 rl x p1 (d + 3) (k := 5) (by omega) (by omega)
    have s1 := g1.sh
    rw [show fq 0 5 (tB f n p) = 5 + 16 * ((tB f n p : Nat) : Int) from if_pos rfl] at q1
    refine ln_f x (by omega) (by omega) (hA := h1) ?_ q1 p1 (Wb.of g1) s1.2.2.1 s1.2.2.2.1 (h2 := h2) ?_ f2.1.rd f2.2
    · rw [v_68, q_68_0 (t := t) (w := cl.1) (f := jf), hm, k6', df (show ¬ ((7 : Nat) : Int) < 7 by omega), k_f4 cl, e1]
      exact q_68_21 ..
    · rw [v_178, q_178_0 (w := rl.1), hk, k6', df (show ¬ i_add 7 ((7 : Nat) : Int) ≠ 14 from fun u => u (by decide)), e2]
      exact q_178_22 ..
end
