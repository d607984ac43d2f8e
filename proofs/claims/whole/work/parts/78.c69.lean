/-! lines are read: pourers on both sides; loads, the class -/
section
variable {hc hr : HP} {f : Nat → Int} {n l p t b : Nat} {e : Nat → (Nat → Int) → Int}
theorem prF_0 {nm : Nat → Int} {m : Nat} {q : Int} (h : prF f n p nm m q) : q ≠ 0 := by
  have k1 := kdN_b f n (tkE f n (tkE f n (tkE f n (tkE f n p))))
  rcases h with ⟨_, z⟩ | ⟨_, _, z⟩ | ⟨_, _, ⟨_, z⟩ | ⟨_, ⟨_, z⟩ | ⟨_, ⟨_, z⟩ | ⟨_, _, z⟩⟩⟩⟩ <;> omega
theorem pr_c (f : Nat → Int) (n p : Nat) (nm : Nat → Int) (m : Nat) : (∃ q, prF f n p nm m q) ∨ prO f n p nm m := by
  by_cases a : nmP f n p
  · by_cases b : dpN nm m (tkW f n p)
    · exact Or.inl ⟨_, Or.inr (Or.inl ⟨a, b, rfl⟩)⟩
    · by_cases c : 0 ≤ gw f n (tkE f n p) 2
      · by_cases d : 0 ≤ gw f n (tkE f n (tkE f n p)) 3
        · by_cases e : wdP f n (tkE f n (tkE f n (tkE f n p))) 8529643
          · by_cases g : nuP f n (tkE f n (tkE f n (tkE f n (tkE f n p)))) 0 99
            · exact Or.inr ⟨a, b, c, d, e, g⟩
            · exact Or.inl ⟨_, Or.inr (Or.inr ⟨a, b, Or.inr ⟨c, Or.inr ⟨d, Or.inr ⟨e, g, rfl⟩⟩⟩⟩)⟩
          · exact Or.inl ⟨_, Or.inr (Or.inr ⟨a, b, Or.inr ⟨c, Or.inr ⟨d, Or.inl ⟨e, rfl⟩⟩⟩⟩)⟩
        · exact Or.inl ⟨_, Or.inr (Or.inr ⟨a, b, Or.inr ⟨c, Or.inl ⟨d, rfl⟩⟩⟩)⟩
      · exact Or.inl ⟨_, Or.inr (Or.inr ⟨a, b, Or.inl ⟨c, rfl⟩⟩)⟩
  · exact Or.inl ⟨_, Or.inl ⟨a, rfl⟩⟩
theorem ln_67 (X : XX hc hr f n p t e) (x : TX f n l) (p1 : p ≤ n) (hb : b ≤ t) (tk : tkK f n p ≠ 0) {D : Nat} (hD : 8 ≤ D) (d : Nat) : LOx f n t b D 67 [vr 103, vr t] (d + 4) 177 [vr 145] hc hr p := by
  obtain ⟨cl, rl, c, m, nm, y, ⟨c1, c2, c3⟩, mm, nc, nr⟩ := X
  have t2 := y.1.2
  have fb := y.2.2.1
  have fbb := fb.b
  have bB := tB_b (f := f) p1
  have b2 := x.2.1
  obtain ⟨k, hk⟩ : ∃ k : Nat, h_mi hr 147 7 = (k : Int) := ⟨(h_mi hr 147 7).toNat, by omega⟩
  have hm : h_mi hc t 12 = (k : Int) := by rw [y.2.1.1.2.2.1]; exact hk
  have jf := y.1.1.1
  by_cases k6 : k < 6
  · have m1 : m ≤ 12 := by omega
    have kk := k_67 cl x p1 hD jf t2 hm k6 m1 nc
    have ss := s_177 rl x p1 d hk k6 m1 nr
    rcases pr_c f n (tkE f n p) nm m with ⟨q, pf⟩ | po
    · obtain ⟨p', h1, u, v, w, e1, pp, g1, q1⟩ := kk.1 q pf
      obtain ⟨h2, e2, rd, m9⟩ := ss.1 q pf
      have s1 := g1.sh
      exact ln_f x (prF_0 pf) (by omega) e1 q1 pp ((g1.kp.wb b).p4 hb _ _ _ _) s1.2.2.1 s1.2.2.2.1 e2 rd m9
    · obtain ⟨h1, e1, g1, q1, n1⟩ := kk.2 po
      obtain ⟨hP, ⟨rP, zP, nP, mu, mv, mw⟩, eP⟩ := ss.2 po
      obtain ⟨v1, v2, v3, v4, v5, v6⟩ := po
      have p2 := (tk_n (f := f) p1).2
      have p3 := (tk_n (f := f) p2.1)
      have p4 := (tk_n (f := f) p3.2.1)
      have p5 := (tk_n (f := f) p4.2.1)
      have p6 := (tk_n (f := f) p5.2.1)
      have p7 := (tk_n (f := f) p6.2.1)
      have l1 := tk_l p1 tk
      have s1 := g1.sh
      have hk' : h_mi hP 147 7 = (k : Int) := by rw [zP.2.2.1]; exact hk
      have y1 : YY h1 hP t c e := zP.2.1 h1 t c e (y.kc cl.1 g1.kp)
      have y2 := y1.pr hk' k6 mu mv mw ⟨v3, gw2_b _ _ _⟩ ⟨v4, gw3_b _ _ _⟩ v6.2
      refine ln_end (d := d + 1) x (by omega) p7.2.1 ?_ e1 q1 ((g1.kp.wb b).p4 hb _ _ _ _) s1.2.2.1 s1.2.2.2.1 (hB := sI hP 147 7 ((k + 1 : Nat) : Int)) (rP.sn (by omega) (by omega) _) (fun r h2 hr2 er => ?_) (zP.1.si (by omega) (by omega) (by show 5 ≤ 7; omega) (by show 7 < 2 * 5; omega) _) y2 ?_ c2 ?_ (m := m + 1) (nm := va_up nm m (tkW f n (tkE f n p))) ?_ ?_ (nP.sn (by omega) _)
      · omega
      · rw [eP, er, bI_s, q_177_141]
        rcases hr2 with z | z <;> subst z <;> rfl
      · rw [miI_ne _ _ _ (by omega), zP.2.2.2]; exact c1
      · omega
      · rw [miI_eq, up_eq, up_ne _ _ (by omega), zP.2.2.1]; omega
      · refine ⟨?_, n1.2⟩
        show h_mi (sI (sI (sI (sI h1 (t + 3) k _) (t + 4) k _) (t + 5) k _) t 12 _) 103 5 = _
        rw [miI_ne _ _ _ (by omega), miI_ne _ _ _ (by omega), miI_ne _ _ _ (by omega), miI_ne _ _ _ (by omega)]
        exact n1.1
  · have k6' : k = 6 := by omega
    obtain ⟨d', rfl⟩ : ∃ d', D = d' + 1 := ⟨D - 1, by omega⟩
    obtain ⟨h1, e1, g1, q1⟩ := k_84 cl d' (k := 5) (b := tB f n p) (by omega) (by omega) (by omega)
    obtain ⟨h2, e2, f2⟩ := s_155 rl x p1 (d + 3) (k := 5) (by omega) (by omega)
    have s1 := g1.sh
    rw [show fq 0 5 (tB f n p) = 5 + 16 * ((tB f n p : Nat) : Int) from if_pos rfl] at q1
    refine ln_f x (by omega) (by omega) (hA := h1) ?_ q1 p1 (Wb.of g1) s1.2.2.1 s1.2.2.2.1 (h2 := h2) ?_ f2.1.rd f2.2
    · rw [v_67, q_67_0 (t := t) (w := cl.1) (f := jf), hm, k6', df (show ¬ ((6 : Nat) : Int) < 6 by omega), k_f4 cl, e1]
      exact q_67_21 ..
    · rw [v_177, q_177_0 (w := rl.1), hk, k6', df (show ¬ i_add 6 ((6 : Nat) : Int) ≠ 12 from fun u => u (by decide)), e2]
      exact q_177_22 ..
end
def ld4 (h : HP) (t m : Nat) (a b c : Int) : HP := sI (sI (sI (sI h (t + 6) m a) (t + 7) m b) (t + 8) m c) t 13 ((m + 1 : Nat) : Int)
theorem k_20 {h : HP} {t m : Nat} (j : Fj t h) (e : h_mi h t 13 = (m : Int)) (m7 : m < 7) (d : Nat) (a b c : Int) : ∃ b', ev d 20 [vr t, vi a, vi b, vi c] h = some (vr 0, ld4 h t m a b' c) ∧ (-1000 ≤ b → b ≤ 1000 → b' = needK a b) := by
  rw [v_20, q_20_0 (t := t) (f := j), e, df (show ¬ 7 ≤ (m : Int) by omega), dt (show 0 ≤ (m : Int) by omega), dt (show (m : Int) < 7 by omega), Int.toNat_natCast, ia (x := (m : Int)) (by omega) (by omega)]
  unfold needK
  by_cases a1 : a = 1
  · rw [df (fun u => u a1), if_pos a1]
    exact ⟨_, rfl, fun u v => by rw [ia (by omega) (by omega)]⟩
  · rw [dt a1, if_neg a1]
    by_cases a2 : a = 2
    · rw [df (fun u => u a2), if_pos a2]
      exact ⟨_, rfl, fun u v => by rw [is_ (by omega) (by omega)]⟩
    · rw [dt a2, if_neg a2]
      exact ⟨_, rfl, fun u v => rfl⟩
/-- what a load's line may have wrong, from its name on -/
def loF (f : Nat → Int) (n p2 p3 p4 p5 p6 p7 : Nat) (nm : Nat → Int) (m : Nat) (q : Int) : Prop := (¬ nmP f n p2 ∧ q = 1 + 16 * ((tB f n p2 : Nat) : Int)) ∨ (nmP f n p2 ∧ dpN nm m (tkW f n p2) ∧ q = 3 + 16 * ((tB f n p2 : Nat) : Int)) ∨ (nmP f n p2 ∧ ¬ dpN nm m (tkW f n p2) ∧ ((¬ 0 ≤ gw f n p3 4 ∧ q = 1 + 16 * ((tB f n p3 : Nat) : Int)) ∨ (0 ≤ gw f n p3 4 ∧ ((¬ wdP f n p4 4351291 ∧ q = 1 + 16 * ((tB f n p4 : Nat) : Int)) ∨ (wdP f n p4 4351291 ∧ ((¬ nuP f n p5 1 50 ∧ q = kdN f n p5 + 16 * ((tB f n p5 : Nat) : Int)) ∨ (nuP f n p5 1 50 ∧ ((¬ wdP f n p6 12532058 ∧ q = 1 + 16 * ((tB f n p6 : Nat) : Int)) ∨ (wdP f n p6 12532058 ∧ ¬ nuP f n p7 0 99 ∧ q = kdN f n p7 + 16 * ((tB f n p7 : Nat) : Int))))))))))
def loO (f : Nat → Int) (n p2 p3 p4 p5 p6 p7 : Nat) (nm : Nat → Int) (m : Nat) : Prop := nmP f n p2 ∧ ¬ dpN nm m (tkW f n p2) ∧ 0 ≤ gw f n p3 4 ∧ wdP f n p4 4351291 ∧ nuP f n p5 1 50 ∧ wdP f n p6 12532058 ∧ nuP f n p7 0 99
theorem loF_0 {f : Nat → Int} {n p2 p3 p4 p5 p6 p7 : Nat} {nm : Nat → Int} {m : Nat} {q : Int} (h : loF f n p2 p3 p4 p5 p6 p7 nm m q) : q ≠ 0 := by
  have k1 := kdN_b f n p5
  have k2 := kdN_b f n p7
  rcases h with ⟨_, z⟩ | ⟨_, _, z⟩ | ⟨_, _, ⟨_, z⟩ | ⟨_, ⟨_, z⟩ | ⟨_, ⟨_, z⟩ | ⟨_, ⟨_, z⟩ | ⟨_, _, z⟩⟩⟩⟩⟩ <;> omega
theorem lo_c (f : Nat → Int) (n p2 p3 p4 p5 p6 p7 : Nat) (nm : Nat → Int) (m : Nat) : (∃ q, loF f n p2 p3 p4 p5 p6 p7 nm m q) ∨ loO f n p2 p3 p4 p5 p6 p7 nm m := by
  by_cases a : nmP f n p2
  · by_cases b : dpN nm m (tkW f n p2)
    · exact Or.inl ⟨_, Or.inr (Or.inl ⟨a, b, rfl⟩)⟩
    · by_cases c : 0 ≤ gw f n p3 4
      · by_cases d : wdP f n p4 4351291
        · by_cases e : nuP f n p5 1 50
          · by_cases g : wdP f n p6 12532058
            · by_cases i : nuP f n p7 0 99
              · exact Or.inr ⟨a, b, c, d, e, g, i⟩
              · exact Or.inl ⟨_, Or.inr (Or.inr ⟨a, b, Or.inr ⟨c, Or.inr ⟨d, Or.inr ⟨e, Or.inr ⟨g, i, rfl⟩⟩⟩⟩⟩)⟩
            · exact Or.inl ⟨_, Or.inr (Or.inr ⟨a, b, Or.inr ⟨c, Or.inr ⟨d, Or.inr ⟨e, Or.inl ⟨g, rfl⟩⟩⟩⟩⟩)⟩
          · exact Or.inl ⟨_, Or.inr (Or.inr ⟨a, b, Or.inr ⟨c, Or.inr ⟨d, Or.inl ⟨e, rfl⟩⟩⟩⟩)⟩
        · exact Or.inl ⟨_, Or.inr (Or.inr ⟨a, b, Or.inr ⟨c, Or.inl ⟨d, rfl⟩⟩⟩)⟩
      · exact Or.inl ⟨_, Or.inr (Or.inr ⟨a, b, Or.inl ⟨c, rfl⟩⟩)⟩
  · exact Or.inl ⟨_, Or.inl ⟨a, rfl⟩⟩
section
variable {h : HP} {f : Nat → Int} {n l p t : Nat} {q : Int}
theorem CL.l4 (c : CL h f n p q) (ht : 182 ≤ t) (m : Nat) (a b e : Int) : CL (ld4 h t m a b e) f n p q := (((c.sn (by omega) a).sn (by omega) b).sn (by omega) e).sn (by omega) _
/-- a load's line, class -/
theorem k_68 {m k p2 p3 p4 p5 p6 p7 p8 : Nat} {nm : Nat → Int} (e2 : tkE f n p = p2) (e3 : tkE f n p2 = p3) (e4 : tkE f n p3 = p4) (e5 : tkE f n p4 = p5) (e6 : tkE f n p5 = p6) (e7 : tkE f n p6 = p7) (e8 : tkE f n p7 = p8) (c : CL h f n p 0) (x : TX f n l) (p1 : p ≤ n) {D : Nat} (hD : 8 ≤ D) (j : Fj t h) (ht : 182 ≤ t) (hm : h_mi h t 13 = (k : Int)) (k7 : k < 7) (m1 : m ≤ 12) (nc : NmC h m nm) : (∀ q, loF f n p2 p3 p4 p5 p6 p7 nm m q → ∃ p' h1 a b e, ev D 68 [vr 103, vr t] h = some (vr 0, ld4 h1 t k a b e) ∧ p' ≤ n ∧ Qn h h1 ∧ CL (ld4 h1 t k a b e) f n p' q) ∧ (loO f n p2 p3 p4 p5 p6 p7 nm m → ∃ h1, ev D 68 [vr 103, vr t] h = some (vr 0, ld4 h1 t k (gw f n p3 4) (needK (gw f n p3 4) (tkN f n p5)) (tkN f n p7)) ∧ Qn h h1 ∧ CL (ld4 h1 t k (gw f n p3 4) (needK (gw f n p3 4) (tkN f n p5)) (tkN f n p7)) f n p8 0 ∧ NmC h1 (m + 1) (va_up nm m (tkW f n p2))) := by
  obtain ⟨d, rfl⟩ : ∃ d, D = d + 1 := ⟨D - 1, by omega⟩
  have q2 : p2 ≤ n := e2 ▸ (tk_n (f := f) p1).2.1
  have q3 : p3 ≤ n := e3 ▸ (tk_n (f := f) q2).2.1
  have q4 : p4 ≤ n := e4 ▸ (tk_n (f := f) q3).2.1
  have q5 : p5 ≤ n := e5 ▸ (tk_n (f := f) q4).2.1
  have q6 : p6 ≤ n := e6 ▸ (tk_n (f := f) q5).2.1
  have q7 : p7 ≤ n := e7 ▸ (tk_n (f := f) q6).2.1
  have f0 : ∀ (k : Int) (b : Nat), fq 0 k b = k + 16 * (b : Int) := fun k b => if_pos rfl
  obtain ⟨h1, a1, g1, c1⟩ := k_89 c x p1 (D := d) (by omega)
  rw [e2] at c1
  have k8 := k_83 c1 x q2 (D := d) (by omega) m1 (nc.qt g1)
  have st : ev (d + 1) 68 [vr 103, vr t] h = bV (ev d 83 [vr 103] h1) fun h1 => run (d + 1) md_68 33 [vr 103, vr t, vu, vu] [] h1 := by
    rw [v_68, q_68_0 (t := t) (w := c.1) (f := j), hm, dt (show (k : Int) < 7 by omega), a1]
    show run (d + 1) md_68 29 [vr 103, vr t, vu, vu] [] h1 = _
    rw [q_68_29 (t := t) (w := c1.1)]
  have fin : ∀ hx x2 x3 z, Qn h hx → ∃ b', run (d + 1) md_68 71 [vr 103, vr t, vi x2, vi x3] [vi z, vi x3, vi x2, vr t] hx = some (vr 0, ld4 hx t k x2 b' z) ∧ (-1000 ≤ x3 → x3 ≤ 1000 → b' = needK x2 x3) := fun hx x2 x3 z g => by
    have jx := j.qn c.1 g
    have mx : h_mi hx t 13 = (k : Int) := by rw [g.mi (b := t) (by omega) (by omega)]; exact hm
    obtain ⟨b', e1, e2⟩ := k_20 jx mx k7 d x2 x3 z
    refine ⟨b', ?_, e2⟩
    rw [q_68_71 (t := t) (f := jx), e1, bV_s, q_68_74]
  -- after a fault
  have w61 : ∀ hx p' q x2 x3, q ≠ 0 → Qn h hx → p' ≤ n → CL hx f n p' q → ∃ p'' h1 a b e, run (d + 1) md_68 61 [vr 103, vr t, vi x2, vi x3] [] hx = some (vr 0, ld4 h1 t k a b e) ∧ p'' ≤ n ∧ Qn h h1 ∧ CL (ld4 h1 t k a b e) f n p'' q := fun hx p' q x2 x3 q0 g pp cx => by
    obtain ⟨p9, v, h6, r5, p8, g6, c6⟩ := k_80w cx q0 x pp (D := d) (by omega) 0 99
    obtain ⟨b', ef, _⟩ := fin h6 x2 x3 v (g.qt g6)
    exact ⟨p9, h6, x2, b', v, by rw [q_68_61 (t := t) (w := cx.1), r5, bI_s, ef], p8, g.qt g6, c6.l4 ht _ _ _ _⟩
  have w53 : ∀ hx p' q x2 z, q ≠ 0 → Qn h hx → p' ≤ n → CL hx f n p' q → ∃ p'' h1 a b e, run (d + 1) md_68 53 [vr 103, vr t, vi x2, vu] [vi z] hx = some (vr 0, ld4 h1 t k a b e) ∧ p'' ≤ n ∧ Qn h h1 ∧ CL (ld4 h1 t k a b e) f n p'' q := fun hx p' q x2 z q0 g pp cx => by
    obtain ⟨h5, r4, g5, c5⟩ := k_78w cx q0 x pp (D := d) (by omega) (a := 9) (by omega)
    obtain ⟨p9, h6, u, v, w, ef, p8, g6, c6⟩ := w61 h5 _ q x2 z q0 (g.qt g5) (tk_n pp).2.1 c5
    exact ⟨p9, h6, u, v, w, by rw [q_68_53 (t := t) (w := cx.1), r4, bV_s, ef], p8, g6, c6⟩
  have w46 : ∀ hx p' q x2, q ≠ 0 → Qn h hx → p' ≤ n → CL hx f n p' q → ∃ p'' h1 a b e, run (d + 1) md_68 46 [vr 103, vr t, vi x2, vu] [] hx = some (vr 0, ld4 h1 t k a b e) ∧ p'' ≤ n ∧ Qn h h1 ∧ CL (ld4 h1 t k a b e) f n p'' q := fun hx p' q x2 q0 g pp cx => by
    obtain ⟨p9, v, h5, r4, p8, g5, c5⟩ := k_80w cx q0 x pp (D := d) (by omega) 1 50
    obtain ⟨p9, h6, u, v', w, ef, p8, g6, c6⟩ := w53 h5 _ q x2 v q0 (g.qt g5) p8 c5
    exact ⟨p9, h6, u, v', w, by rw [q_68_46 (t := t) (w := cx.1), r4, bI_s, ef], p8, g6, c6⟩
  have w38 : ∀ hx p' q z, q ≠ 0 → Qn h hx → p' ≤ n → CL hx f n p' q → ∃ p'' h1 a b e, run (d + 1) md_68 38 [vr 103, vr t, vu, vu] [vi z] hx = some (vr 0, ld4 h1 t k a b e) ∧ p'' ≤ n ∧ Qn h h1 ∧ CL (ld4 h1 t k a b e) f n p'' q := fun hx p' q z q0 g pp cx => by
    obtain ⟨h5, r4, g5, c5⟩ := k_78w cx q0 x pp (D := d) (by omega) (a := 8) (by omega)
    obtain ⟨p9, h6, u, v', w, ef, p8, g6, c6⟩ := w46 h5 _ q z q0 (g.qt g5) (tk_n pp).2.1 c5
    exact ⟨p9, h6, u, v', w, by rw [q_68_38 (t := t) (w := cx.1), r4, bV_s, ef], p8, g6, c6⟩
  have w33 : ∀ hx p' q, q ≠ 0 → Qn h hx → p' ≤ n → CL hx f n p' q → ∃ p'' h1 a b e, run (d + 1) md_68 33 [vr 103, vr t, vu, vu] [] hx = some (vr 0, ld4 h1 t k a b e) ∧ p'' ≤ n ∧ Qn h h1 ∧ CL (ld4 h1 t k a b e) f n p'' q := fun hx p' q q0 g pp cx => by
    obtain ⟨p9, v, h5, r4, p8, g5, c5⟩ := k_82w cx q0 x pp (D := d) (by omega) (g := 4) (by omega)
    obtain ⟨p9, h6, u, v', w, ef, p8, g6, c6⟩ := w38 h5 _ q v q0 (g.qt g5) p8 c5
    exact ⟨p9, h6, u, v', w, by rw [q_68_33 (t := t) (w := cx.1), r4, bI_s, ef], p8, g6, c6⟩
  have qn : ∀ {h2 : HP}, Qn h1 h2 → Qn h h2 := fun {h2} g => by
    obtain ⟨h0, g0, e⟩ := g
    exact ⟨h0, g1.tr g0, e⟩
  refine ⟨fun q pf => ?_, fun ⟨a, b, s2, s3, s4, s5, s6⟩ => ?_⟩
  · have q0 := loF_0 pf
    rcases pf with ⟨a, rfl⟩ | ⟨a, b, rfl⟩ | ⟨a, b, pf⟩
    · obtain ⟨h2, r1, g2, c2⟩ := k8.1 a
      rw [f0] at c2
      obtain ⟨p9, h6, u, v', w, ef, p8, g6, c6⟩ := w33 h2 _ _ q0 (qn g2) q2 c2
      exact ⟨p9, h6, u, v', w, by rw [st, r1, bV_s, ef], p8, g6, c6⟩
    · obtain ⟨h2, r1, g2, c2⟩ := k8.2.1 a b
      rw [f0] at c2
      obtain ⟨p9, h6, u, v', w, ef, p8, g6, c6⟩ := w33 h2 _ _ q0 (qn g2) (tk_n q2).2.1 c2
      exact ⟨p9, h6, u, v', w, by rw [st, r1, bV_s, ef], p8, g6, c6⟩
    · obtain ⟨h2, r1, g2, c2, _⟩ := k8.2.2 a b
      rw [e3] at c2
      have kg := k_82 c2 x q3 (D := d) (by omega) (g := 4) (by omega)
      rcases pf with ⟨a, rfl⟩ | ⟨a, pf⟩
      · obtain ⟨h3, r2, g3, c3⟩ := kg.2 a
        rw [f0] at c3
        obtain ⟨p9, h6, u, v', w, ef, p8, g6, c6⟩ := w38 h3 _ _ 0 q0 ((qn g2).qt g3) q3 c3
        exact ⟨p9, h6, u, v', w, by rw [st, r1, bV_s, q_68_33 (t := t) (w := c2.1), r2, bI_s, ef], p8, g6, c6⟩
      · obtain ⟨h3, r2, g3, c3⟩ := kg.1 a
        rw [e4] at c3
        have st3 : ev (d + 1) 68 [vr 103, vr t] h = run (d + 1) md_68 38 [vr 103, vr t, vu, vu] [vi (gw f n p3 4)] h3 := by rw [st, r1, bV_s, q_68_33 (t := t) (w := c2.1), r2, bI_s]
        have gg3 := (qn g2).qt g3
        obtain ⟨h4, r3, g4, c4⟩ := k_78 c3 x q4 (D := d) (by omega) (a := 8) (by omega)
        have st4 : ev (d + 1) 68 [vr 103, vr t] h = run (d + 1) md_68 46 [vr 103, vr t, vi (gw f n p3 4), vu] [] h4 := by rw [st3, q_68_38 (t := t) (w := c3.1), r3, bV_s]
        rw [e5] at c4
        rcases pf with ⟨b, rfl⟩ | ⟨b, pf⟩
        · rw [if_neg (show ¬ (tkK f n p4 = 1 ∧ tkW f n p4 = sml (8 + 1)) from b), f0] at c4
          obtain ⟨p9, h6, u, v', w, ef, p8, g6, c6⟩ := w46 h4 _ _ (gw f n p3 4) q0 (gg3.qt g4) q5 c4
          exact ⟨p9, h6, u, v', w, by rw [st4, ef], p8, g6, c6⟩
        · rw [if_pos (show tkK f n p4 = 1 ∧ tkW f n p4 = sml (8 + 1) from b)] at c4
          rcases pf with ⟨b5, rfl⟩ | ⟨b5, pf⟩
          · obtain ⟨h5, r4, g5, c5⟩ := k_80n c4 x q5 (D := d) (by omega) b5
            rw [kdN_e, f0] at c5
            obtain ⟨p9, h6, u, v', w, ef, p8, g6, c6⟩ := w53 h5 _ _ (gw f n p3 4) 1 q0 ((gg3.qt g4).qt g5) q5 c5
            exact ⟨p9, h6, u, v', w, by rw [st4, q_68_46 (t := t) (w := c4.1), r4, bI_s, ef], p8, g6, c6⟩
          · obtain ⟨h5, r4, g5, c5⟩ := k_80y c4 x q5 (D := d) (by omega) b5
            rw [e6] at c5
            obtain ⟨h6, r5, g6, c6⟩ := k_78 c5 x q6 (D := d) (by omega) (a := 9) (by omega)
            have st6 : ev (d + 1) 68 [vr 103, vr t] h = run (d + 1) md_68 61 [vr 103, vr t, vi (gw f n p3 4), vi (tkN f n p5)] [] h6 := by rw [st4, q_68_46 (t := t) (w := c4.1), r4, bI_s, q_68_53 (t := t) (w := c5.1), r5, bV_s]
            have gg6 := ((gg3.qt g4).qt g5).qt g6
            rw [e7] at c6
            rcases pf with ⟨b6, rfl⟩ | ⟨b6, b7, rfl⟩
            · rw [if_neg (show ¬ (tkK f n p6 = 1 ∧ tkW f n p6 = sml (9 + 1)) from b6), f0] at c6
              obtain ⟨p9, h7, u, v', w, ef, p8, g7, c7⟩ := w61 h6 _ _ (gw f n p3 4) (tkN f n p5) q0 gg6 q7 c6
              exact ⟨p9, h7, u, v', w, by rw [st6, ef], p8, g7, c7⟩
            · rw [if_pos (show tkK f n p6 = 1 ∧ tkW f n p6 = sml (9 + 1) from b6)] at c6
              obtain ⟨h7, r7, g7, c7⟩ := k_80n c6 x q7 (D := d) (by omega) b7
              rw [kdN_e, f0] at c7
              obtain ⟨b', ef, _⟩ := fin h7 (gw f n p3 4) (tkN f n p5) 0 (gg6.qt g7)
              exact ⟨_, h7, _, b', _, by rw [st6, q_68_61 (t := t) (w := c6.1), r7, bI_s, ef], q7, gg6.qt g7, c7.l4 ht _ _ _ _⟩
  · obtain ⟨h2, r1, g2, c2, n2⟩ := k8.2.2 a b
    rw [e3] at c2
    obtain ⟨h3, r2, g3, c3⟩ := (k_82 c2 x q3 (D := d) (by omega) (g := 4) (by omega)).1 s2
    rw [e4] at c3
    obtain ⟨h4, r3, g4, c4⟩ := k_78 c3 x q4 (D := d) (by omega) (a := 8) (by omega)
    rw [if_pos (show tkK f n p4 = 1 ∧ tkW f n p4 = sml (8 + 1) from s3), e5] at c4
    obtain ⟨h5, r4, g5, c5⟩ := k_80y c4 x q5 (D := d) (by omega) s4
    rw [e6] at c5
    obtain ⟨h6, r5, g6, c6⟩ := k_78 c5 x q6 (D := d) (by omega) (a := 9) (by omega)
    rw [if_pos (show tkK f n p6 = 1 ∧ tkW f n p6 = sml (9 + 1) from s5), e7] at c6
    obtain ⟨h7, r7, g7, c7⟩ := k_80y c6 x q7 (D := d) (by omega) s6
    rw [e8] at c7
    have gg := (((((qn g2).qt g3).qt g4).qt g5).qt g6).qt g7
    obtain ⟨b', ef, eb⟩ := fin h7 (gw f n p3 4) (tkN f n p5) (tkN f n p7) gg
    have s4' := s4.2
    rw [eb (by omega) (by omega)] at ef
    refine ⟨h7, ?_, gg, c7.l4 ht _ _ _ _, ((((n2.qt g3).qt g4).qt g5).qt g6).qt g7⟩
    rw [st, r1, bV_s, q_68_33 (t := t) (w := c2.1), r2, bI_s, q_68_38 (t := t) (w := c3.1), r3, bV_s, q_68_46 (t := t) (w := c4.1), r4, bI_s, q_68_53 (t := t) (w := c5.1), r5, bV_s, q_68_61 (t := t) (w := c6.1), r7, bI_s, ef]
end
