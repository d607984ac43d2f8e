/-! marks: cells that stay -/
theorem RSk.sr {h : HP} (w : RSk h) {x j v : Nat} (hx : x < 145 ∨ 182 ≤ x) : RSk (sR h x j v) := ⟨w.1, fun q hq => by
  have all : RSk_r.all (fun q => decide (145 ≤ q.1 ∧ q.1 < 182)) = true := by decide +kernel
  have b := of_decide_eq_true (List.all_eq_true.mp all q hq)
  rw [mrR_ne _ _ _ (by omega)]
  exact w.2 q hq⟩
theorem CSk.sr {h : HP} (w : CSk h) {x j v : Nat} (hx : x = 144 ∨ 182 ≤ x ∨ (x = 106 ∧ j = 4) ∨ (x = 103 ∧ j = 3) ∨ (x = 101 ∧ j = 7)) : CSk (sR h x j v) := ⟨w.1, fun q hq => by
  have all : CSk_r.all (fun q => decide (q.1 ≠ 144 ∧ q.1 < 182 ∧ ¬ (q.1 = 106 ∧ q.2.1 = 4) ∧ ¬ (q.1 = 103 ∧ q.2.1 = 3) ∧ ¬ (q.1 = 101 ∧ q.2.1 = 7))) = true := by decide +kernel
  have b := of_decide_eq_true (List.all_eq_true.mp all q hq)
  have := w.2 q hq
  by_cases z : q.1 = x
  · rw [mrR_f, z, up_eq, up_ne _ _ (by omega), ← z]
    exact this
  · rw [mrR_ne _ _ _ z]
    exact this⟩
theorem Stt.sr {h : HP} (w : Stt h) {x j v : Nat} (hx : 43 ≤ x) : Stt (sR h x j v) := fun a h1 h2 => by
  obtain ⟨a1, a2, a3, a4, a5⟩ := w a h1 h2
  exact ⟨a1, a2, a3, a4, fun k => by rw [mrR_ne _ _ _ (by omega)]; exact a5 k⟩
/-- the fjord at t is the same in both heaps -/
def SmF (h h2 : HP) (t : Nat) : Prop := h_sz h ≤ h_sz h2 ∧ (∀ x, x < h_sz h → h_kd h2 x = h_kd h x ∧ h_ln h2 x = h_ln h x) ∧ h_mr h2 t = h_mr h t ∧ (∀ l, l < 4 → h_mr h2 (h_mr h t (l + 15)) = h_mr h (h_mr h t (l + 15))) ∧ (∀ i, i ≤ 8 → h_mi h2 (t + i) = h_mi h (t + i)) ∧ ∀ l, l < 4 → h_mi h2 (h_mr h t (l + 15) + 1) = h_mi h (h_mr h t (l + 15) + 1)
theorem FjO.sm {h h2 : HP} {t : Nat} (f : FjO h t) (s : SmF h h2 t) : FjO h2 t := by
  obtain ⟨s1, s2, s3, s4, s5, s6⟩ := s
  have z := f.2.1
  refine ⟨⟨f.1.1, by rw [(s2 t (by omega)).1]; exact f.1.2.1, fun i hi => by rw [(s2 _ (by omega)).1, (s2 _ (by omega)).2]; exact f.1.2.2.1 i hi, fun j hj => by rw [s3]; exact f.1.2.2.2.1 j hj, fun j hj => ?_⟩, by omega, fun l hl => by rw [s3]; have := f.2.2 l hl; omega⟩
  have lz := f.2.2 j hj
  rw [s3, s4 j hj, (s2 _ (by omega)).1, (s2 _ (by omega)).1]
  exact f.1.2.2.2.2 j hj
theorem LCs.sm {h h2 : HP} {t r q : Nat} {E E' : EE} (l : LCs h t r E) (f : FjO h t) (s : SmF h h2 t) (e : ∀ j, j < 4 → E' q j = E r j) : LCs h2 t q E' := fun j hj => by
  obtain ⟨s1, s2, s3, s4, s5, s6⟩ := s
  rw [s3, e j hj]
  exact LC.cg (l j hj) (s2 _ (f.2.2 j hj)).2 (s6 j hj)
/-- another place's rows -/
theorem FjM.keep {h h2 : HP} {t r q0 q : Nat} {E E' : EE} {M' : MM} (m : FjM h t r E) (s : SmF h h2 t) (y : LyD M' q0 q (h_mi h2)) (hM : ∀ a, 147 ≤ a → a ≤ 159 → M' a = h_mi h a) (ht : ∀ i, i ≤ 8 → M' (t + i) = h_mi h (t + i)) (hr : r ≠ q) (e : ∀ j, j < 4 → E' r j = E r j) : FjM h2 t r E' := by
  obtain ⟨fo, fb, fn, lc, lr, ln⟩ := m
  have fb' := fb.e hM
  have ln' := ln.e (hM 157 (by omega) (by omega)) (hM 158 (by omega) (by omega))
  refine ⟨fo.sm s, y.fb2 hr fb', y.fn2 hr fb' (fun i hi => by rw [s.2.2.2.2.1 i hi, ht i hi]) (fn.e ht hM), lc.sm fo s e, fun l hl => ?_, y.ln2 hr ln'⟩
  rw [e l hl]
  exact ⟨y.lr2 hr hl ln' ((lr l hl).1.ag (hM _ (by omega) (by omega)) (hM _ (by omega) (by omega)) (hM _ (by omega) (by omega))), (lr l hl).2⟩
/-- from place r to place q -/
theorem FjM.move {h h2 : HP} {t r q : Nat} {E E' : EE} {M' : MM} (m : FjM h t r E) (s : SmF h h2 t) (y : LyD M' r q (h_mi h2)) (hM : ∀ a, 147 ≤ a → a ≤ 159 → M' a = h_mi h a) (ht : ∀ i, i ≤ 8 → M' (t + i) = h_mi h (t + i)) (hq : q ≤ 5) (e : ∀ j, j < 4 → E' q j = E r j) : FjM h2 t q E' := by
  obtain ⟨fo, fb, fn, lc, lr, ln⟩ := m
  have fb' := fb.e hM
  have ln' := ln.e (hM 157 (by omega) (by omega)) (hM 158 (by omega) (by omega))
  refine ⟨fo.sm s, y.fb fb', y.fn fb' (fun i hi => by rw [s.2.2.2.2.1 i hi, ht i hi]) (fn.e ht hM), lc.sm fo s e, fun l hl => ?_, y.ln ln'⟩
  rw [e l hl]
  exact ⟨y.lr hq hl ln' ((lr l hl).1.ag (hM _ (by omega) (by omega)) (hM _ (by omega) (by omega)) (hM _ (by omega) (by omega))), (lr l hl).2⟩
theorem IcO.df {h : HP} {a t i j : Nat} (c : IcO h a) (f : Fj t h) (hi : i ≤ 10) (hj : j ≤ 4) : t + i ≠ a + j := fun z => by
  have k3 := c.2.2.1
  have k2 := f.2.1
  by_cases w : a = t
  · rw [w, k2] at k3; omega
  · by_cases v : t < a
    · have := (f.2.2.1 (a - t - 1) (by omega)).1
      rw [show t + (a - t - 1 + 1) = a by omega, k3] at this; omega
    · have := (c.2.2.2.1 (t - a - 1) (by omega)).1
      rw [show a + (t - a - 1 + 1) = t by omega, k2] at this; omega
theorem IcO.dl {h : HP} {a b e j : Nat} (c : IcO h a) (k4 : h_kd h b = 4) (kb : h_kd h (b + 1) = 11) (he : e ≤ 1) (hj : j ≤ 4) : b + e ≠ a + j := fun z => by
  have k3 := c.2.2.1
  by_cases w : b = a
  · rw [w, k3] at k4; omega
  · by_cases v : a < b
    · have := (c.2.2.2.1 (b - a - 1) (by omega)).1
      rw [show a + (b - a - 1 + 1) = b by omega, k4] at this; omega
    · have : a = b + 1 := by omega
      rw [this, kb] at k3; omega
theorem IcO.di {h : HP} {a a' i j : Nat} (c : IcO h a) (c' : IcO h a') (n : a ≠ a') (hi : i ≤ 4) (hj : j ≤ 4) : a' + i ≠ a + j := fun z => by
  have k3 := c.2.2.1
  have k3' := c'.2.2.1
  by_cases v : a < a'
  · have := (c.2.2.2.1 (a' - a - 1) (by omega)).1
    rw [show a + (a' - a - 1 + 1) = a' by omega, k3'] at this; omega
  · have := (c'.2.2.2.1 (a - a' - 1) (by omega)).1
    rw [show a' + (a - a' - 1 + 1) = a by omega, k3] at this; omega
theorem IcO.ik {h : HP} {a : Nat} (c : IcO h a) : IcK h a (a + 1) := ⟨c.2.2.1, fun j hj => ⟨by rw [c.2.2.2.2 j hj]; omega, by rw [show a + 1 + j = a + (j + 1) by omega]; exact (c.2.2.2.1 j hj).1, by rw [show a + 1 + j = a + (j + 1) by omega]; exact (c.2.2.2.1 j hj).2⟩⟩
theorem IcK.io {h : HP} {a : Nat} (c : IcK h a (a + 1)) (z1 : 182 ≤ a) (z2 : a + 4 < h_sz h) : IcO h a := ⟨z1, z2, c.1, fun i hi => ⟨by rw [show a + (i + 1) = a + 1 + i by omega]; exact (c.2 i hi).2.1, by rw [show a + (i + 1) = a + 1 + i by omega]; exact (c.2 i hi).2.2⟩, fun j hj => by rw [(c.2 j hj).1]; omega⟩
theorem CSk.ik {h : HP} (w : CSk h) : IcK h 106 126 := by
  have t : ∀ q ∈ CSk_t, h_kd h q.1 = q.2.1 ∧ h_ln h q.1 = q.2.2 := w.1
  have r : ∀ q ∈ CSk_r, h_mr h q.1 q.2.1 = q.2.2 := w.2
  refine ⟨(t (106, 3, 0) (by decide)).1, fun j hj => ?_⟩
  have : j = 0 ∨ j = 1 ∨ j = 2 ∨ j = 3 := by omega
  rcases this with rfl | rfl | rfl | rfl
  · exact ⟨r (106, 0, 126) (by decide), t (126, 11, 60) (by decide)⟩
  · exact ⟨r (106, 1, 127) (by decide), t (127, 11, 60) (by decide)⟩
  · exact ⟨r (106, 2, 128) (by decide), t (128, 11, 6) (by decide)⟩
  · exact ⟨r (106, 3, 129) (by decide), t (129, 11, 6) (by decide)⟩
/-- a mark that stays -/
theorem MkO.keep {h h2 : HP} {E E' : EE} {B : Int} {k q0 q : Nat} {M' : MM} (m : MkO h E B k) (z : 182 ≤ h_sz h) (m4 : h_mr h2 144 k = h_mr h 144 k) (m0 : h_mi h2 180 k = h_mi h 180 k) (m174 : ∀ j, j < 144 → h_mi h2 174 (144 * k + j) = h_mi h 174 (144 * k + j))
    (sz : h_sz h ≤ h_sz h2) (kd : ∀ x, x < h_sz h → h_kd h2 x = h_kd h x ∧ h_ln h2 x = h_ln h x)
    (ice : IcO h (h_mr h 144 k) → h_mr h2 (h_mr h 144 k) = h_mr h (h_mr h 144 k) ∧ ∀ j, j ≤ 4 → h_mi h2 (h_mr h 144 k + j) = h_mi h (h_mr h 144 k + j))
    (fj : IcO h (h_mr h 144 k) → ∀ t, FjM h t (k + 2) E → SmF h h2 t) (y : LyD M' q0 q (h_mi h2)) (hM : ∀ a, 147 ≤ a → a ≤ 159 → M' a = h_mi h a) (ht : ∀ t, FjO h t → ∀ i, i ≤ 8 → M' (t + i) = h_mi h (t + i)) (hr : k + 2 ≠ q) (e : ∀ j, j < 4 → E' (k + 2) j = E (k + 2) j) : MkO h2 E' B k := by
  rcases m with ⟨m1, m2⟩ | ⟨m1, ic, fm, ⟨sb, i3s, nb⟩, inn⟩
  · exact Or.inl ⟨by rw [m0]; exact m1, by rw [m4]; exact m2⟩
  · obtain ⟨i1, i2⟩ := ice ic
    have sf := fj ic _ fm
    have e174 : ∀ j, j < 144 → unR (h_mi h2 174) k j = unR (h_mi h 174) k j := fun j hj => m174 j hj
    refine Or.inr ⟨by rw [m0]; exact m1, ?_, ?_, ⟨?_, i3s.x e174, by rw [m174 134 (by omega)]; exact nb⟩, ?_⟩
    · rw [m4]
      obtain ⟨c1, c2, c3, c4, c5⟩ := ic
      exact ⟨c1, by omega, by rw [(kd _ (by omega)).1]; exact c3, fun i hi => by rw [(kd _ (by omega)).1, (kd _ (by omega)).2]; exact c4 i hi, fun j hj => by rw [i1]; exact c5 j hj⟩
    · rw [m4, i1]
      exact fm.keep sf y hM (ht _ fm.1) hr e
    · exact (y.sb2 hr (sb.e (hM 148 (by omega) (by omega)))).x e174
    · have c7 : h_mi h2 147 (5 * (k + 2) + 2) = h_mi h 147 (5 * (k + 2) + 2) := by rw [y.2.1, mvR_out (by omega), hM 147 (by omega) (by omega)]
      rw [m4, c7]
      obtain ⟨n1, n2, n3⟩ := inn
      have j0 := i2 0 (by omega)
      rw [Nat.add_zero] at j0
      refine ⟨fun c hc => ?_, fun p hp => ?_, ?_⟩
      · rw [i2 1 (by omega), show h_mr h 144 k + 1 + 1 = h_mr h 144 k + 2 by omega, i2 2 (by omega), e174 _ (by omega), e174 _ (by omega)]
        exact n1 c hc
      · rw [show h_mr h 144 k + 1 + 2 = h_mr h 144 k + 3 by omega, i2 3 (by omega), show h_mr h 144 k + 1 + 3 = h_mr h 144 k + 4 by omega, i2 4 (by omega), e174 _ (by omega), e174 _ (by omega)]
        exact n2 p hp
      · rw [j0, e174 _ (by omega), e174 _ (by omega), e174 _ (by omega), e174 _ (by omega), e174 _ (by omega), e174 _ (by omega)]
        exact n3
