/-! lines are read: what may come once; ground -/
section
variable {h : HP} {f : Nat → Int} {n l p t : Nat} {q : Int}
theorem CL.s3 (c : CL h f n p q) {j : Nat} (hj : j ≠ 8) (v : Int) : CL (sI h 103 j v) f n p q := by
  obtain ⟨w, st, tk, e⟩ := c
  refine ⟨w, fun a h1 h2 => ?_, tk.si (by omega) (by omega), by rw [miI_eq, up_ne _ _ (fun z => hj z.symm)]; exact e⟩
  obtain ⟨s1, s2, s3, s4, s5⟩ := st a h1 h2
  exact ⟨s1, s2, fun j => by rw [miI_ne _ _ _ (by omega)]; exact s3 j, s4, s5⟩
theorem CL.sn (c : CL h f n p q) {a j : Nat} (ha : 182 ≤ a) (v : Int) : CL (sI h a j v) f n p q := by
  obtain ⟨w, st, tk, e⟩ := c
  refine ⟨w, fun b h1 h2 => ?_, tk.si (by omega) (by omega), by rw [miI_ne _ _ _ (by omega)]; exact e⟩
  obtain ⟨s1, s2, s3, s4, s5⟩ := st b h1 h2
  exact ⟨s1, s2, fun j => by rw [miI_ne _ _ _ (by omega)]; exact s3 j, s4, s5⟩
theorem k_71 (c : CL h f n p q) (x : TX f n l) (p1 : p ≤ n) (d : Nat) (b : Int) : ∃ h0, ev (d + 1) 71 [vr 103, vi b] h = some (vr 0, sI h0 103 6 (i_or (h_mi h 103 6) b)) ∧ Qt h h0 ∧ CL (sI h0 103 6 (i_or (h_mi h 103 6) b)) f n p (if i_and (h_mi h 103 6) b = 0 then q else fq q 3 (tB f n p)) := by
  have bb := tB_b (f := f) p1
  have b2 := x.2.1
  rw [v_71, q_71_0 (w := c.1)]
  by_cases z : i_and (h_mi h 103 6) b = 0
  · rw [dt z, if_pos z]
    refine ⟨h, ?_, Qt.rf h, c.s3 (by omega) _⟩
    simp only [zb]
    rw [q_71_21 (w := c.1)]
  · obtain ⟨h0, e0, g0, c0⟩ := k_84 c d (k := 3) (b := tB f n p) (by omega) (by omega) (by omega)
    rw [df z, if_neg z, k_f4 c, e0]
    refine ⟨h0, ?_, g0, c0.s3 (by omega) _⟩
    simp only [zb, bV_s]
    rw [q_71_21 (w := c0.1), g0.f (by omega)]
/-- a line of ground: the place, or a fault -/
def plF (f : Nat → Int) (n p : Nat) (W H : Int) (row : Nat → Int) (q : Int) : Prop := (¬ nuP f n p 0 (W - 1) ∧ q = kdN f n p + 16 * ((tB f n p : Nat) : Int)) ∨ (nuP f n p 0 (W - 1) ∧ ((¬ nuP f n (tkE f n p) 0 (H - 1) ∧ q = kdN f n (tkE f n p) + 16 * ((tB f n (tkE f n p) : Nat) : Int)) ∨ (nuP f n (tkE f n p) 0 (H - 1) ∧ row (10 * tkN f n (tkE f n p) + tkN f n p).toNat ≠ 0 ∧ q = 3 + 16 * ((tB f n (tkE f n p) : Nat) : Int))))
def plO (f : Nat → Int) (n p : Nat) (W H : Int) (row : Nat → Int) : Prop := nuP f n p 0 (W - 1) ∧ nuP f n (tkE f n p) 0 (H - 1) ∧ row (10 * tkN f n (tkE f n p) + tkN f n p).toNat = 0
theorem pl_c (f : Nat → Int) (n p : Nat) (W H : Int) (row : Nat → Int) : (∃ q, plF f n p W H row q) ∨ plO f n p W H row := by
  by_cases a : nuP f n p 0 (W - 1)
  · by_cases b : nuP f n (tkE f n p) 0 (H - 1)
    · by_cases c : row (10 * tkN f n (tkE f n p) + tkN f n p).toNat = 0
      · exact Or.inr ⟨a, b, c⟩
      · exact Or.inl ⟨_, Or.inr ⟨a, Or.inr ⟨b, c, rfl⟩⟩⟩
    · exact Or.inl ⟨_, Or.inr ⟨a, Or.inl ⟨b, rfl⟩⟩⟩
  · exact Or.inl ⟨_, Or.inl ⟨a, rfl⟩⟩
/-- the class reads a place -/
theorem k_81 {a2 : Nat} {W H : Int} (c : CL h f n p 0) (x : TX f n l) (p1 : p ≤ n) {D : Nat} (hD : 7 ≤ D) (g : Gd h t a2 W H) : (∀ q, plF f n p W H (h_mi h a2) q → ∃ p' z h1, ev D 81 [vr 103, vr t, vr a2] h = some (vi z, h1) ∧ (p' ≤ n ∧ 0 ≤ z ∧ z < 60) ∧ Qt h h1 ∧ CL h1 f n p' q) ∧ (plO f n p W H (h_mi h a2) → ∃ h1, ev D 81 [vr 103, vr t, vr a2] h = some (vi (10 * tkN f n (tkE f n p) + tkN f n p), h1) ∧ Qt h h1 ∧ CL h1 f n (tkE f n (tkE f n p)) 0) := by
  have p2 := (tk_n (f := f) p1).2.1
  have p3 := (tk_n (f := f) p2).2.1
  have f0 : ∀ (k : Int) (b : Nat), fq 0 k b = k + 16 * (b : Int) := fun k b => if_pos rfl
  refine ⟨fun q pf => ?_, fun ⟨a, b, e⟩ => ?_⟩
  · rcases pf with ⟨a, rfl⟩ | ⟨a, ⟨b, rfl⟩ | ⟨b, e, rfl⟩⟩
    · have := k_81a c x p1 hD g a
      rw [f0] at this
      exact this
    · obtain ⟨z, h1, e1, z1, g1, c1⟩ := (k_81c c x p1 hD g a).1 b
      rw [f0] at c1
      exact ⟨_, z, h1, e1, ⟨p2, z1⟩, g1, c1⟩
    · obtain ⟨h1, e1, g1, c1⟩ := (k_81c c x p1 hD g a).2 b
      rw [if_neg e, f0] at c1
      obtain ⟨u1, u2, u3, u4⟩ := g.2.2.2.1
      have ax := a.2; have bx := b.2
      exact ⟨_, _, h1, e1, ⟨p3, by omega, by omega⟩, g1, c1⟩
  · obtain ⟨h1, e1, g1, c1⟩ := (k_81c c x p1 hD g a).2 b
    rw [if_pos e] at c1
    exact ⟨h1, e1, g1, c1⟩
/-- the reference reads a place -/
theorem s_171 {W H : Int} {row : Nat → Int} (r : RL h f n p) (x : TX f n l) (p1 : p ≤ n) (d : Nat) (x1 : Int) (g : GdR h W H) (hr : ∀ j, j < 60 → row j = h_mi h (if x1 = 0 then 148 else 149) (60 + j) ∧ 0 ≤ row j) : (∀ q, plF f n p W H row q → ∃ h1, ev (d + 3) 171 [vr 145, vi x1] h = some (vi 0, h1) ∧ RF h h1 q) ∧ (plO f n p W H row → ∃ h1, ev (d + 3) 171 [vr 145, vi x1] h = some (vi 1, h1) ∧ RQ h h1 ∧ RL h1 f n (tkE f n (tkE f n p)) ∧ h_mi h1 145 39 = 60 + (10 * tkN f n (tkE f n p) + tkN f n p)) := by
  have g' := g
  obtain ⟨_, u1, u2, u3, u4⟩ := g'
  have rw' : ∀ (a : nuP f n p 0 (W - 1)) (b : nuP f n (tkE f n p) 0 (H - 1)), h_mi h (if x1 = 0 then 148 else 149) (60 + (10 * tkN f n (tkE f n p) + tkN f n p)).toNat = row (10 * tkN f n (tkE f n p) + tkN f n p).toNat ∧ 0 ≤ row (10 * tkN f n (tkE f n p) + tkN f n p).toNat := fun a b => by
    have ax := a.2; have bx := b.2
    have := hr (10 * tkN f n (tkE f n p) + tkN f n p).toNat (by omega)
    rw [show (60 + (10 * tkN f n (tkE f n p) + tkN f n p)).toNat = 60 + (10 * tkN f n (tkE f n p) + tkN f n p).toNat by omega]
    exact ⟨this.1.symm, this.2⟩
  refine ⟨fun q pf => ?_, fun ⟨a, b, e⟩ => ?_⟩
  · rcases pf with ⟨a, rfl⟩ | ⟨a, ⟨b, rfl⟩ | ⟨b, e, rfl⟩⟩
    · exact s_171a r x p1 d x1 g a
    · exact (s_171c r x p1 d x1 g a).1 b
    · have := rw' a b
      exact ((s_171c r x p1 d x1 g a).2 b).1 (by rw [this.1]; omega)
  · have := rw' a b
    exact ((s_171c r x p1 d x1 g a).2 b).2 (by rw [this.1]; omega)
end
