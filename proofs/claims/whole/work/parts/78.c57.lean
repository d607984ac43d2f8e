/-! lines are read: a name is kept -/
section
variable {h : HP} {f : Nat → Int} {n l p : Nat} {q : Int}
theorem CL.nm (c : CL h f n p q) (k : Nat) (v u : Int) : CL (sI (sL h 105 k v) 103 5 u) f n p q := by
  obtain ⟨w, st, t, e⟩ := c
  refine ⟨w, fun a h1 h2 => ?_, ?_, ?_⟩
  · obtain ⟨s1, s2, s3, s4, s5⟩ := st a h1 h2
    refine ⟨s1, s2, fun j => by rw [miI_ne _ _ _ (by omega)]; exact s3 j, ?_, s5⟩
    rw [show h_ml (sI (sL h 105 k v) 103 5 u) a = h_ml h a from mlL_ne _ _ _ (by omega)]; exact s4
  · have t' : CTk (sL h 105 k v) f n p := by
      obtain ⟨t1, t2, t3, t4, t5, t6, t7, t8, t9⟩ := t
      refine ⟨t1, t2, t3, t4, fun z => ?_, t6, t7, t8, t9⟩
      rw [mlL_ne _ _ _ (show 101 ≠ 105 by omega)]; exact t5 z
    exact t'.si (by omega) (by omega)
  · rw [miI_eq, up_ne _ _ (by omega)]; exact e
theorem NmC.ad {m : Nat} {nm : Nat → Int} (a : NmC h m nm) (v : Int) : NmC (sI (sL h 105 m v) 103 5 ((m + 1 : Nat) : Int)) (m + 1) (va_up nm m v) := by
  refine ⟨by rw [miI_eq, up_eq], fun j hj => ?_⟩
  rw [show h_ml (sI (sL h 105 m v) 103 5 ((m + 1 : Nat) : Int)) 105 = va_up (h_ml h 105) m v from mlL_eq _ _ _ _]
  by_cases z : j = m
  · rw [z, up_eq, up_eq]
  · rw [up_ne _ _ z, up_ne _ _ z]; exact a.2 j (by omega)
/-- a name that stands already -/
def dpN (nm : Nat → Int) (m : Nat) (w : Int) : Prop := ∃ j, 0 ≤ j ∧ j < m ∧ nm j = w
theorem k_83y {m : Nat} {nm : Nat → Int} (c : CL h f n p q) (x : TX f n l) (p1 : p ≤ n) {D : Nat} (hD : 6 ≤ D) (y : nmP f n p) (m1 : m ≤ 12) (nc : NmC h m nm) : ∃ h0 h1, ev D 83 [vr 103] h = some (vr 0, h1) ∧ Qt h h0 ∧ Qt (sI (sL h0 105 m (tkW f n p)) 103 5 ((m + 1 : Nat) : Int)) h1 ∧ CL h1 f n (tkE f n p) (@ite _ (dpN nm m (tkW f n p)) (Classical.propDecidable _) (fq q 3 (tB f n p)) q) ∧ NmC h1 (m + 1) (va_up nm m (tkW f n p)) := by
  obtain ⟨d, rfl⟩ : ∃ d, D = d + 1 := ⟨D - 1, by omega⟩
  obtain ⟨h0, e0, g0, c0⟩ := l_83 (a1 := h_mr h 101 7) (nm := nm) x p1 y.1 m1 d (m - 0) 0 h q rfl (by omega) c nc
  have nc0 := nc.qt g0
  have w6 : h_ml h0 101 6 = tkW f n p := (c0.2.2.1.2.2.2.2.1 y.1).1
  obtain ⟨h1, e1, g1, c1⟩ := k_89 (c0.nm m (tkW f n p) ((m + 1 : Nat) : Int)) x p1 (D := d) (by omega)
  refine ⟨h0, h1, ?_, g0, g1, c1, (nc0.ad _).qt g1⟩
  have fin : run (d + 1) md_83 46 [vr 103, vr (h_mr h 101 7), vi 0] [] h = some (vr 0, h1) := by
    refine Eq.trans e0 ?_
    rw [q_83_46 (w := c0.1), nc0.1, dt (show (m : Int) ≤ (m : Int) from Int.le_refl _), df (show ¬ 13 ≤ (m : Int) by omega), dt (show 0 ≤ (m : Int) by omega), dt (show (m : Int) < 13 by omega), Int.toNat_natCast, w6, ia (by omega) (by omega)]
    show bV (ev d 89 [vr 101] (sI (sL h0 105 m (tkW f n p)) 103 5 ((m + 1 : Nat) : Int))) _ = _
    rw [e1, bV_s, q_83_134]
  rw [v_83, q_83_0 (w := c.1), c.2.2.1.2.2.1, y.1, df (show ¬ srt 1 ≠ 2 from fun q => q rfl), fin]
  by_cases n0 : h_mr h 101 7 = 0
  · rw [dt n0]; rfl
  · obtain ⟨a, a1, e2, e3, kd, mi⟩ := wd_c c.2.1 c.2.2.1 y.1 (fun z => n0 (by rw [(c.2.2.1.2.2.2.2.1 y.1).2, z]))
    rw [df n0, e2, kd, mi 1, (smi_f a a1).2.1, dt ((rs_c a1).mpr (by rw [← e3]; exact y.2))]
    rfl
/-- the names so far, on the reference's side -/
def NmR (h : HP) (m : Nat) (nm : Nat → Int) : Prop := h_mi h 145 14 = (m : Int) ∧ ∀ j, j < m → h_ml h 150 j = nm j
theorem NmR.rq {h1 : HP} {m : Nat} {nm : Nat → Int} (a : NmR h m nm) (g : RQ h h1) : NmR h1 m nm := ⟨(g.f (by omega) (by omega) (by omega) (by omega) (by omega) (by omega)).trans a.1, fun j hj => by rw [g.sh.2.2.2.2.2.1 150 (by omega)]; exact a.2 j hj⟩
theorem NmR.ad {m : Nat} {nm : Nat → Int} (a : NmR h m nm) (v : Int) : NmR (sI (sL h 150 m v) 145 14 ((m + 1 : Nat) : Int)) (m + 1) (va_up nm m v) := by
  refine ⟨by rw [miI_eq, up_eq], fun j hj => ?_⟩
  rw [show h_ml (sI (sL h 150 m v) 145 14 ((m + 1 : Nat) : Int)) 150 = va_up (h_ml h 150) m v from mlL_eq _ _ _ _]
  by_cases z : j = m
  · rw [z, up_eq, up_eq]
  · rw [up_ne _ _ z, up_ne _ _ z]; exact a.2 j (by omega)
theorem RL.nm (r : RL h f n p) (k : Nat) (v u : Int) : RL (sI (sL h 150 k v) 145 14 u) f n p := by
  refine ⟨r.1, ?_⟩
  have t' : RTk (sL h 150 k v) f n p := by
    obtain ⟨t1, t2, t3, t4, t5, t6, t7⟩ := r.2
    refine ⟨t1, t2, t3, t4, fun z => ?_, t6, t7⟩
    rw [mlL_ne _ _ _ (show 145 ≠ 150 by omega)]; exact t5 z
  exact t'.si (by omega) (by omega)
theorem l_165 {m : Nat} {nm : Nat → Int} (r : RL h f n p) (k1 : tkK f n p = 1) (m1 : m ≤ 12) (nc : NmR h m nm) (d : Nat) : ∀ (k i : Nat), m - i = k → i ≤ m → ((¬ ∃ j, i ≤ j ∧ j < m ∧ nm j = tkW f n p) → run (d + 1) md_165 15 [vr 145, vi (i : Int)] [] h = run (d + 1) md_165 15 [vr 145, vi (m : Int)] [] h) ∧ ((∃ j, i ≤ j ∧ j < m ∧ nm j = tkW f n p) → ∃ i' : Int, run (d + 1) md_165 15 [vr 145, vi (i : Int)] [] h = bI (ev d 155 [vr 145, vi 3] h) fun r1 h1 => run (d + 1) md_165 42 [vr 145, vi i'] [vi r1] h1)
  | 0, i, hk, hi => by
    have : i = m := by omega
    subst this
    exact ⟨fun _ => rfl, fun ⟨j, j1, j2, _⟩ => by omega⟩
  | k + 1, i, hk, hi => by
    have w7 : h_ml h 145 7 = tkW f n p := r.2.2.2.2.2.1 k1
    have ix : i_add (i : Int) 1 = ((i + 1 : Nat) : Int) := by rw [ia (by omega) (by omega)]; rfl
    have ih := l_165 r k1 m1 nc d k (i + 1) (by omega) (by omega)
    rw [q_165_15 (w := r.1) (x1 := (i : Int)), nc.1, df (show ¬ (m : Int) ≤ (i : Int) by omega), dt (show 0 ≤ (i : Int) by omega), dt (show (i : Int) < 13 by omega), Int.toNat_natCast i, nc.2 i (by omega), w7, ix]
    by_cases z : nm i = tkW f n p
    · refine ⟨fun u => absurd ⟨i, Nat.le_refl _, by omega, z⟩ u, fun _ => ⟨(i : Int), ?_⟩⟩
      rw [df (show ¬ l_cmp (nm i) (tkW f n p) ≠ 0 from fun u => u ((lcmp_e _ _).mpr z))]; rfl
    · rw [dt (show l_cmp (nm i) (tkW f n p) ≠ 0 from fun u => z ((lcmp_e _ _).mp u))]
      refine ⟨fun u => ?_, fun ⟨j, j1, j2, j3⟩ => ?_⟩
      · have := ih.1 (fun ⟨j, j1, j2, j3⟩ => u ⟨j, by omega, j2, j3⟩)
        exact this
      · obtain ⟨i', e⟩ := ih.2 ⟨j, by have : j ≠ i := fun v => z (v ▸ j3); omega, j2, j3⟩
        exact ⟨i', e⟩
theorem s_165n (r : RL h f n p) (x : TX f n l) (p1 : p ≤ n) (d : Nat) (y : ¬ nmP f n p) : ∃ h1, ev (d + 2) 165 [vr 145] h = some (vi 0, h1) ∧ RF h h1 (1 + 16 * ((tB f n p : Nat) : Int)) := by
  obtain ⟨h1, e1, g1⟩ := s_155 r x p1 (d + 1) (k := 1) (by omega) (by omega)
  refine ⟨h1, ?_, g1⟩
  rw [v_165, q_165_0 (w := r.1), (s_164 r (d + 1)).2 y, bI_s, q_165_4 (w := r.1), e1]
  simp only [zb, bI_s]
  rw [q_165_12]; rfl
theorem s_165 {m : Nat} {nm : Nat → Int} (r : RL h f n p) (x : TX f n l) (p1 : p ≤ n) (d : Nat) (y : nmP f n p) (m1 : m ≤ 12) (nc : NmR h m nm) : (dpN nm m (tkW f n p) → ∃ h1, ev (d + 2) 165 [vr 145] h = some (vi 0, h1) ∧ RF h h1 (3 + 16 * ((tB f n p : Nat) : Int))) ∧ (¬ dpN nm m (tkW f n p) → ∃ h1, ev (d + 2) 165 [vr 145] h = some (vi 1, h1) ∧ RQ (sI (sL h 150 m (tkW f n p)) 145 14 ((m + 1 : Nat) : Int)) h1 ∧ RL h1 f n (tkE f n p) ∧ NmR h1 (m + 1) (va_up nm m (tkW f n p))) := by
  have w7 : h_ml h 145 7 = tkW f n p := r.2.2.2.2.2.1 y.1
  have lo := l_165 r y.1 m1 nc (d + 1) (m - 0) 0 rfl (by omega)
  have e0 : ev (d + 2) 165 [vr 145] h = run (d + 1 + 1) md_165 15 [vr 145, vi ((0 : Nat) : Int)] [] h := by
    rw [v_165, q_165_0 (w := r.1), (s_164 r (d + 1)).1 y, bI_s, q_165_4 (w := r.1)]; rfl
  refine ⟨fun u => ?_, fun u => ?_⟩
  · obtain ⟨i', e⟩ := lo.2 u
    obtain ⟨h1, e1, g1⟩ := s_155 r x p1 (d + 1) (k := 3) (by omega) (by omega)
    refine ⟨h1, ?_, g1⟩
    rw [e0, e, e1, bI_s, q_165_42]; rfl
  · have e := lo.1 u
    obtain ⟨h1, e1, g1, r1, _⟩ := s_152 (r.nm m (tkW f n p) ((m + 1 : Nat) : Int)) x p1 d
    refine ⟨h1, ?_, g1, r1, (nc.ad _).rq g1⟩
    rw [e0, e, q_165_15 (w := r.1), nc.1, dt (show (m : Int) ≤ (m : Int) from Int.le_refl _), dt (show 0 ≤ (m : Int) by omega), dt (show (m : Int) < 13 by omega), Int.toNat_natCast, w7, ia (by omega) (by omega)]
    show bV (ev (d + 1) 152 [vr 145] (sI (sL h 150 m (tkW f n p)) 145 14 ((m + 1 : Nat) : Int))) _ = _
    rw [e1, bV_s, q_165_76]
end
