/-! lines are read: what may come once; mild -/
theorem bt_ck : ((List.range 32).all fun x => (List.range 5).all fun i => decide (0 ≤ i_or (x : Int) (i_shl 1 (i : Int)) ∧ i_or (x : Int) (i_shl 1 (i : Int)) < 32) && (List.range 5).all fun j => decide (i_and (i_or (x : Int) (i_shl 1 (i : Int))) (i_shl 1 (j : Int)) = 0 ↔ (j ≠ i ∧ i_and (x : Int) (i_shl 1 (j : Int)) = 0))) = true := by decide +kernel
theorem bt_a {x : Int} (x0 : 0 ≤ x) (x1 : x < 32) {i : Nat} (hi : i < 5) : (0 ≤ i_or x (i_shl 1 (i : Int)) ∧ i_or x (i_shl 1 (i : Int)) < 32) ∧ ∀ j : Nat, j < 5 → (i_and (i_or x (i_shl 1 (i : Int))) (i_shl 1 (j : Int)) = 0 ↔ (j ≠ i ∧ i_and x (i_shl 1 (j : Int)) = 0)) := by
  have a := List.all_eq_true.mp bt_ck x.toNat (List.mem_range.mpr (by omega))
  have b := List.all_eq_true.mp a i (List.mem_range.mpr hi)
  rw [show ((x.toNat : Nat) : Int) = x by omega, Bool.and_eq_true] at b
  refine ⟨of_decide_eq_true b.1, fun j hj => ?_⟩
  exact of_decide_eq_true (List.all_eq_true.mp b.2 j (List.mem_range.mpr hj))
theorem s16 : i_shl 1 ((4 : Nat) : Int) = 16 := by decide +kernel
section
variable {hc hr : HP} {f : Nat → Int} {n l p t b : Nat} {e : Nat → (Nat → Int) → Int}
theorem YY.om {c : Nat} (y : YY hc hr t c e) : YY (sI hc 103 6 (i_or (h_mi hc 103 6) 16)) (sI hr 145 25 1) t c e := by
  obtain ⟨fo, fx, fb, lk, ⟨o1, o2, o3⟩⟩ := y
  have t2 := fo.2
  have r9 : ∀ a, 147 ≤ a → a ≤ 159 → h_mi (sI hr 145 25 1) a = h_mi hr a := fun a h1 h2 => miI_ne _ _ _ (by omega)
  have bt := bt_a o1.1 o1.2 (i := 4) (by omega)
  rw [s16] at bt
  refine ⟨fo, (fx.ca (fun i _ => miI_ne _ _ _ (by omega))).r (fun a h1 h2 => r9 a h1 (by omega)), fb.r (fun a h1 h2 => r9 a h1 (by omega)), fun l hl => ?_, ?_⟩
  · obtain ⟨l1, l2, l3, l4⟩ := lk l hl
    have l0 := l1.1
    refine ⟨LC.cg (h := hc) l1 rfl (miI_ne _ _ _ (by show h_mr hc t (l + 15) + 1 ≠ 103; omega)), l2.ag (r9 _ (by omega) (by omega)) (r9 _ (by omega) (by omega)) (r9 _ (by omega) (by omega)), l3, ?_⟩
    rw [r9 157 (by omega) (by omega), r9 158 (by omega) (by omega)]; exact l4
  · unfold On
    rw [miI_eq, up_eq, miI_eq, up_eq, r9 157 (by omega) (by omega), r9 158 (by omega) (by omega)]
    refine ⟨bt.1, fun l hl => ?_, ?_⟩
    · rw [bt.2 l (by omega), ← o2 l hl]
      exact ⟨fun z => z.2, fun z => ⟨by omega, z⟩⟩
    · have := bt.2 4 (by omega)
      rw [s16] at this
      rw [this]
      exact ⟨fun z => absurd rfl z.1, fun z => absurd z (by omega)⟩
theorem YY.mi {c : Nat} (y : YY hc hr t c e) {v : Int} (v0 : 0 ≤ v) (v1 : v ≤ 10) : YY (sI hc t 14 v) (sI hr 147 9 v) t c e := by
  have fx := y.2.1
  have fb := y.2.2.1
  have t2 := y.1.2
  rw [sI_h, sI_h]
  refine y.wr (fun a ha => u2_ne _ _ _ (by omega)) (fun a ha => u2_ne _ _ _ (by omega)) ?_ ?_
  · unfold FX at fx ⊢
    simp (disch := omega) only [u2_ne, u2_no, u2_at]
    exact ⟨⟨fx.1.1, fx.1.2.1, fx.1.2.2.1, fx.1.2.2.2.1, trivial⟩, fx.2⟩
  · unfold FB at fb ⊢
    simp (disch := omega) only [u2_ne, u2_no, u2_at, show 5 * 1 + 4 = 9 from rfl]
    obtain ⟨f1, f2, f3, f4, f5, f6⟩ := fb
    exact ⟨f1, f2, f3, f4, ⟨v0, v1⟩, f6⟩
theorem ln_69 (X : XX hc hr f n p t e) (x : TX f n l) (p1 : p ≤ n) (hb : b ≤ t) (tk : tkK f n p ≠ 0) {D : Nat} (hD : 8 ≤ D) (d : Nat) : LOx f n t b D 69 [vr 103, vr t] (d + 4) 170 [vr 145] hc hr p := by
  obtain ⟨cl, rl, c, m, nm, y, ⟨c1, c2, c3⟩, mm, nc, nr⟩ := X
  obtain ⟨d0, rfl⟩ : ∃ d0, D = d0 + 2 := ⟨D - 2, by omega⟩
  have t2 := y.1.2
  have p2 := (tk_n (f := f) p1).2.1
  have p3 := (tk_n (f := f) p2).2.1
  obtain ⟨h0, e0, g0, q0⟩ := k_71 cl x p1 d0 16
  obtain ⟨h1, e1, g1, q1⟩ := k_89 q0 x p1 (D := d0 + 1) (by omega)
  have st : ev (d0 + 2) 69 [vr 103, vr t] hc = bI (ev (d0 + 1) 80 [vr 103, vi 0, vi 10] h1) fun r1 h1 => run (d0 + 1 + 1) md_69 21 [vr 103, vr t] [vi r1, vr t] h1 := by
    rw [v_69, q_69_0 (t := t) (w := cl.1), e0, bV_s, q_69_6 (t := t) (w := q0.1), e1, bV_s, q_69_13 (t := t) (w := q1.1)]
  have jf := y.1.1.1
  have j00 : Fj t h0 := jf.kp cl.1 g0.kp
  have j0 : Fj t (sI h0 103 6 (i_or (h_mi hc 103 6) 16)) := j00
  have j1 := j0.kp q0.1 g1.kp
  have wb1 : Wb b hc h1 := ((Wb.of g0).s3 6 _).tr (Wb.of g1)
  have s0 := g0.sh; have s1 := g1.sh
  have z1 : h_sz h1 = h_sz hc := s1.2.2.1.trans s0.2.2.1
  have z2 : h_sl h1 = h_sl hc := s1.2.2.2.1.trans s0.2.2.2.1
  by_cases o : i_and (h_mi hc 103 6) 16 = 0
  · rw [if_pos o] at q1
    have m5 : h_mi hr 145 25 = 0 := y.2.2.2.2.2.2.mp o
    have rl5 : RL (sI hr 145 25 1) f n p := ⟨rl.1, rl.2.si (by omega) (by omega)⟩
    obtain ⟨k1, a1, b1, r1, _⟩ := s_152 rl5 x p1 (d + 2)
    have sr : ev (d + 4) 170 [vr 145] hr = bI (ev (d + 3) 166 [vr 145, vi 0, vi 10] k1) fun r1 h1 => run (d + 3 + 1) md_170 29 [vr 145] [vi r1] h1 := by
      rw [v_170, q_170_0 (w := rl.1), dt m5, a1]
      show run (d + 3 + 1) md_170 22 [vr 145] [] k1 = _
      rw [q_170_22 (w := r1.1)]
    have rd1 : Rd hr k1 := ((Rd.rf hr).s145 (by omega) (by omega) 1).tr b1.rd
    by_cases nu : nuP f n (tkE f n p) 0 10
    · obtain ⟨h2, e2, g2, q2⟩ := k_80y q1 x p2 (D := d0 + 1) (by omega) nu
      obtain ⟨k2, a2, b2, r2, m9⟩ := s_166y r1 x p2 (d + 1) nu
      have j2 := j1.kp q1.1 g2.kp
      have s2 := g2.sh
      have l1 := tk_l p1 tk
      have l2 := (tk_n (f := f) p2).1
      have y0 : YY (sI h0 103 6 (i_or (h_mi hc 103 6) 16)) (sI hr 145 25 1) t c e := by
        have := (y.kc cl.1 g0.kp).om
        rw [g0.f (by omega)] at this
        exact this
      have y2 := ((((y0.kc q0.1 g1.kp).kc q1.1 g2.kp).kr (b1.kr c)).kr (b2.kr c)).mi nu.2.1 nu.2.2
      have n1 := (nc.qt g0)
      have n1' : NmC (sI h0 103 6 (i_or (h_mi hc 103 6) 16)) m nm := ⟨by rw [miI_eq, up_ne _ _ (by omega)]; exact n1.1, n1.2⟩
      have n2 := (n1'.qt g1).qt g2
      have nr1 : NmR (sI hr 145 25 1) m nm := ⟨by rw [miI_eq, up_ne _ _ (by omega)]; exact nr.1, nr.2⟩
      have nr2 := (nr1.rq b1).rq b2
      refine ln_end (hA := sI h2 t 14 (tkN f n (tkE f n p))) (hB := sI k2 147 9 (tkN f n (tkE f n p))) (d := d + 1) x (by omega) p3 (by omega) ?_ (q2.sn t2 _) ((wb1.tr (Wb.of g2)).si hb _ _) (s2.2.2.1.trans z1) (s2.2.2.2.1.trans z2) (r2.sn (by omega) (by omega) _) (fun r h5 hr2 er => ?_) ((rd1.tr b2.rd).si (by omega) (by omega) (by show 5 ≤ 9; omega) (by show 9 < 2 * 5; omega) _) y2 ?_ c2 (by omega) (m := m) (nm := nm) ?_ ⟨by rw [miI_ne _ _ _ (by omega)]; exact n2.1, n2.2⟩ (nr2.sn (by omega) _)
      · rw [st, e2, bI_s, q_69_21 (t := t) (f := j2)]
      · rw [sr, a2, bI_s, q_170_29 (w := r2.1), m9, er]
        show run (d + 3 + 1) md_170 49 [vr 145] [vi r] h5 = _
        rw [q_170_49]
        rcases hr2 with z | z <;> subst z <;> rfl
      · rw [miI_ne _ _ _ (by omega), b2.f (by omega) (by omega) (by omega) (by omega) (by omega) (by omega), b1.f (by omega) (by omega) (by omega) (by omega) (by omega) (by omega), miI_eq, up_ne _ _ (by omega)]; exact c1
      · rw [miI_eq, up_ne _ _ (by omega), up_ne _ _ (by omega), b2.sh.2.2.2.2.2.2 147 (by omega), b1.sh.2.2.2.2.2.2 147 (by omega), miI_ne _ _ _ (by omega)]; exact mm
    · obtain ⟨h2, e2, g2, q2⟩ := k_80n q1 x p2 (D := d0 + 1) (by omega) nu
      obtain ⟨k2, a2, f2⟩ := s_166n r1 x p2 (d + 1) nu
      rw [kdN_e] at f2 q2
      have j2 := j1.kp q1.1 g2.kp
      have s2 := g2.sh
      rw [show fq 0 (kdN f n (tkE f n p)) (tB f n (tkE f n p)) = kdN f n (tkE f n p) + 16 * ((tB f n (tkE f n p) : Nat) : Int) from if_pos rfl] at q2
      have kb := kdN_b f n (tkE f n p)
      refine ln_f x (by omega) (by omega) (hA := sI h2 t 14 0) ?_ (q2.sn t2 _) p2 ((wb1.tr (Wb.of g2)).si hb _ _) (s2.2.2.1.trans z1) (s2.2.2.2.1.trans z2) (h2 := k2) ?_ (rd1.tr f2.1.rd) f2.2
      · rw [st, e2, bI_s, q_69_21 (t := t) (f := j2)]
      · rw [sr, a2, bI_s, q_170_29 (w := f2.1.rs r1.1)]; rfl
  · rw [if_neg o, show fq 0 3 (tB f n p) = 3 + 16 * ((tB f n p : Nat) : Int) from if_pos rfl] at q1
    have m5 : h_mi hr 145 25 ≠ 0 := fun z => o (y.2.2.2.2.2.2.mpr z)
    obtain ⟨p', v, h2, e2, pp, g2, q2⟩ := k_80w q1 (by omega) x p2 (D := d0 + 1) (by omega) 0 10
    obtain ⟨k2, a2, f2⟩ := s_155 rl x p1 (d + 3) (k := 3) (by omega) (by omega)
    have j2 := j1.kp q1.1 g2.kp
    have s2 := g2.sh
    refine ln_f x (by omega) (by omega) (hA := sI h2 t 14 v) ?_ (q2.sn t2 _) pp ((wb1.tr (Wb.of g2)).si hb _ _) (s2.2.2.1.trans z1) (s2.2.2.2.1.trans z2) (h2 := k2) ?_ f2.1.rd f2.2
    · rw [st, e2, bI_s, q_69_21 (t := t) (f := j2)]
    · rw [v_170, q_170_0 (w := rl.1), df m5, a2]
      exact q_170_12 ..
end
