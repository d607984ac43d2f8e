/-! the class: a new fjord -/
/-- new cells, with what they hold: links g of the first, numbers M, first links R of the others, s slots in all -/
def NF (h : HP) (T : List (Nat × Nat)) (n : Nat) (X : HP) (g : Nat → Nat) (M : MM) (R : Nat → Nat) (s : Nat) : Prop := Nw h T n X ∧ h_mr X (h_sz h) = g ∧ (∀ i, i < n → h_mi X (h_sz h + i) = M i) ∧ (∀ i, 0 < i → i < n → h_mr X (h_sz h + i) 0 = R i) ∧ h_sl X = s
section
variable {h X : HP} {T : List (Nat × Nat)} {n : Nat} {g : Nat → Nat} {M : MM} {R : Nat → Nat} {s : Nat}
theorem NF.al (p : NF h T n X g M R s) (n0 : 0 < n) {k l : Nat} (w : Nat) (e : T.getD n (0, 0) = (k, l)) : NF h T (n + 1) (alo X k l w) g (va_up M n (fun _ => 0)) (va_up R n 0) (s + w) := by
  obtain ⟨p1, p2, p3, p4, p5⟩ := p
  have zX := p1.2.1
  refine ⟨p1.al w e, ?_, fun i hi => ?_, fun i i0 hi => ?_, by rw [sl_alo, p5]⟩
  · rw [mr_alo, up_ne _ _ (by omega)]; exact p2
  · rw [mi_alo, zX]
    by_cases z : i = n
    · rw [z, up_eq, up_eq]
    · rw [up_ne _ _ (by omega), up_ne _ _ z]; exact p3 i (by omega)
  · rw [mr_alo, zX]
    by_cases z : i = n
    · rw [z, up_eq, up_eq]
    · rw [up_ne _ _ (by omega), up_ne _ _ z]; exact p4 i i0 (by omega)
theorem NF.s0 (p : NF h T n X g M R s) (j v : Nat) : NF h T n (sR X (h_sz h) j v) (va_up g j v) M R s := by
  obtain ⟨p1, p2, p3, p4, p5⟩ := p
  exact ⟨p1.sr (Nat.le_refl _) j v, by rw [mrR_eq, p2], p3, fun i i0 hi => by rw [mrR_ne _ _ _ (by omega)]; exact p4 i i0 hi, p5⟩
theorem NF.sL (p : NF h T n X g M R s) {i : Nat} (i0 : 0 < i) (v : Nat) : NF h T n (sR X (h_sz h + i) 0 v) g M (va_up R i v) s := by
  obtain ⟨p1, p2, p3, p4, p5⟩ := p
  refine ⟨p1.sr (by omega) 0 v, by rw [mrR_ne _ _ _ (by omega)]; exact p2, p3, fun j j0 hj => ?_, p5⟩
  by_cases z : j = i
  · rw [z, mrR_eq, up_eq, up_eq]
  · rw [mrR_ne _ _ _ (by omega), up_ne _ _ z]; exact p4 j j0 hj
theorem NF.sI (p : NF h T n X g M R s) {i : Nat} (hi : i < n) (j : Nat) (v : Int) : NF h T n (sI X (h_sz h + i) j v) g (va_up M i (va_up (M i) j v)) R s := by
  obtain ⟨p1, p2, p3, p4, p5⟩ := p
  refine ⟨?_, p2, fun k hk => ?_, p4, p5⟩
  · rw [sI_h]; exact p1.sm (fun a ha => u2_ne _ _ _ (by omega))
  · by_cases z : k = i
    · rw [z, miI_eq, up_eq, p3 i hi]
    · rw [miI_ne _ _ _ (by omega), up_ne _ _ z]; exact p3 k hk
theorem NF.k (p : NF h T n X g M R s) {i : Nat} (hi : i < n) {k l : Nat} (e : T.getD i (0, 0) = (k, l)) : isK X (h_sz h + i) k = true := p.1.k hi e
theorem NF.k0 (p : NF h T n X g M R s) (hi : 0 < n) {k l : Nat} (e : T.getD 0 (0, 0) = (k, l)) : isK X (h_sz h) k = true := p.1.k0 hi e
theorem NF.z (p : NF h T n X g M R s) : h_sz X = h_sz h + n := p.1.2.1
end
def fjT : List (Nat × Nat) := [(2, 0), (11, 60), (11, 60), (11, 6), (11, 6), (11, 6), (11, 7), (11, 7), (11, 7), (11, 9), (11, 32), (4, 0), (11, 1), (4, 0), (11, 1), (4, 0), (11, 1), (4, 0), (11, 1)]
theorem c_18r {h : HP} (d : Nat) (W H : Int) (z : 1 ≤ h_sz h) : ∃ h1 g M R, ev (d + 1) 18 [vr (h_sz h), vi W, vi H] (alo h 2 0 19) = some (vr 0, h1) ∧ NF h fjT 19 h1 g M R (h_sl h + 227) ∧ (∀ j, j < 10 → g (j + 2) = h_sz h + (j + 1)) ∧ (∀ l, l < 4 → g (l + 15) = h_sz h + (11 + 2 * l) ∧ R (11 + 2 * l) = h_sz h + (12 + 2 * l)) ∧ (M 0 0 = W ∧ M 0 1 = H ∧ ∀ j, 2 ≤ j → M 0 j = 0) ∧ (∀ i, 1 ≤ i → i ≤ 10 → ∀ j, M i j = 0) ∧ (M 12 0 = 2 ∧ M 14 0 = 1 ∧ M 16 0 = -6 ∧ M 18 0 = -8) := by
  have f1 : NF h fjT 1 (alo h 2 0 19) (fun _ => 0) (fun _ _ => 0) (fun _ => 0) (h_sl h + 19) := by
    refine ⟨(Nw.z h fjT).al 19 rfl, by rw [mr_alo, up_eq], fun i hi => ?_, fun i i0 hi => by omega, sl_alo _ _ _ _⟩
    rw [show i = 0 by omega, mi_alo, Nat.add_zero, up_eq]
  have k0 : fjT.getD 0 (0, 0) = (2, 0) := rfl
  rw [v_18, q_18_0, dt (show h_sz h ≠ 0 by omega)]
  simp only [zb]
  have f2 := f1.al (by omega) (k := 11) (l := 60) 60 rfl
  rw [f1.z]
  generalize alo (alo h 2 0 19) 11 60 60 = X2 at f2 ⊢
  rw [q_18_9, f2.k0 (by omega) k0]
  simp only [zb]
  have s2 := f2.s0 2 (h_sz h + 1)
  have f3 := s2.al (by omega) (k := 11) (l := 60) 60 rfl
  rw [s2.z]
  generalize alo (sR X2 (h_sz h) 2 (h_sz h + 1)) 11 60 60 = X3 at f3 ⊢
  rw [q_18_17, f3.k0 (by omega) k0]
  simp only [zb]
  have s3 := f3.s0 3 (h_sz h + 2)
  have f4 := s3.al (by omega) (k := 11) (l := 6) 6 rfl
  rw [s3.z]
  generalize alo (sR X3 (h_sz h) 3 (h_sz h + 2)) 11 6 6 = X4 at f4 ⊢
  rw [q_18_25, f4.k0 (by omega) k0]
  simp only [zb]
  have s4 := f4.s0 4 (h_sz h + 3)
  have f5 := s4.al (by omega) (k := 11) (l := 6) 6 rfl
  rw [s4.z]
  generalize alo (sR X4 (h_sz h) 4 (h_sz h + 3)) 11 6 6 = X5 at f5 ⊢
  rw [q_18_33, f5.k0 (by omega) k0]
  simp only [zb]
  have s5 := f5.s0 5 (h_sz h + 4)
  have f6 := s5.al (by omega) (k := 11) (l := 6) 6 rfl
  rw [s5.z]
  generalize alo (sR X5 (h_sz h) 5 (h_sz h + 4)) 11 6 6 = X6 at f6 ⊢
  rw [q_18_41, f6.k0 (by omega) k0]
  simp only [zb]
  have s6 := f6.s0 6 (h_sz h + 5)
  have f7 := s6.al (by omega) (k := 11) (l := 7) 7 rfl
  rw [s6.z]
  generalize alo (sR X6 (h_sz h) 6 (h_sz h + 5)) 11 7 7 = X7 at f7 ⊢
  rw [q_18_49, f7.k0 (by omega) k0]
  simp only [zb]
  have s7 := f7.s0 7 (h_sz h + 6)
  have f8 := s7.al (by omega) (k := 11) (l := 7) 7 rfl
  rw [s7.z]
  generalize alo (sR X7 (h_sz h) 7 (h_sz h + 6)) 11 7 7 = X8 at f8 ⊢
  rw [q_18_57, f8.k0 (by omega) k0]
  simp only [zb]
  have s8 := f8.s0 8 (h_sz h + 7)
  have f9 := s8.al (by omega) (k := 11) (l := 7) 7 rfl
  rw [s8.z]
  generalize alo (sR X8 (h_sz h) 8 (h_sz h + 7)) 11 7 7 = X9 at f9 ⊢
  rw [q_18_65, f9.k0 (by omega) k0]
  simp only [zb]
  have s9 := f9.s0 9 (h_sz h + 8)
  have f10 := s9.al (by omega) (k := 11) (l := 9) 9 rfl
  rw [s9.z]
  generalize alo (sR X9 (h_sz h) 9 (h_sz h + 8)) 11 9 9 = X10 at f10 ⊢
  rw [q_18_73, f10.k0 (by omega) k0]
  simp only [zb]
  have s10 := f10.s0 10 (h_sz h + 9)
  have f11 := s10.al (by omega) (k := 11) (l := 32) 32 rfl
  rw [s10.z]
  generalize alo (sR X10 (h_sz h) 10 (h_sz h + 9)) 11 32 32 = X11 at f11 ⊢
  rw [q_18_81, f11.k0 (by omega) k0]
  simp only [zb]
  have s11 := f11.s0 11 (h_sz h + 10)
  have f12 := s11.al (by omega) (k := 4) (l := 0) 1 rfl
  rw [s11.z]
  generalize alo (sR X11 (h_sz h) 11 (h_sz h + 10)) 4 0 1 = X12 at f12 ⊢
  rw [q_18_88]
  have f13 := f12.al (by omega) (k := 11) (l := 1) 1 rfl
  rw [f12.z]
  generalize alo X12 11 1 1 = X13 at f13 ⊢
  have n13 : inb X13 (h_sz h + 12) 0 = true := by unfold inb; rw [(f13.1.2.2 12 (by omega)).2]; rfl
  rw [q_18_92, f13.k (i := 12) (by omega) (k := 11) (l := 1) rfl, n13, f13.k (i := 11) (by omega) (k := 4) (l := 0) rfl]
  simp only [zb, Bool.and_self]
  have t13 := f13.sI (i := 12) (by omega) 0 2
  generalize sI X13 (h_sz h + 12) 0 2 = Y13 at t13 ⊢
  have u13 := t13.sL (i := 11) (by omega) (h_sz h + 12)
  rw [v_59, q_59_0, dt (show h_sz h + 11 ≠ 0 by omega), t13.k (i := 11) (by omega) (k := 4) (l := 0) rfl]
  simp only [zb, bV_s]
  generalize sR Y13 (h_sz h + 11) 0 (h_sz h + 12) = X13' at u13 ⊢
  clear f13 n13 t13
  have f13 := u13
  rw [q_18_99, f13.k0 (by omega) k0]
  simp only [zb]
  have s13 := f13.s0 15 (h_sz h + 11)
  have f14 := s13.al (by omega) (k := 4) (l := 0) 1 rfl
  rw [s13.z]
  generalize alo (sR X13' (h_sz h) 15 (h_sz h + 11)) 4 0 1 = X14 at f14 ⊢
  rw [q_18_106]
  have f15 := f14.al (by omega) (k := 11) (l := 1) 1 rfl
  rw [f14.z]
  generalize alo X14 11 1 1 = X15 at f15 ⊢
  have n15 : inb X15 (h_sz h + 14) 0 = true := by unfold inb; rw [(f15.1.2.2 14 (by omega)).2]; rfl
  rw [q_18_110, f15.k (i := 14) (by omega) (k := 11) (l := 1) rfl, n15, f15.k (i := 13) (by omega) (k := 4) (l := 0) rfl]
  simp only [zb, Bool.and_self]
  have t15 := f15.sI (i := 14) (by omega) 0 1
  generalize sI X15 (h_sz h + 14) 0 1 = Y15 at t15 ⊢
  have u15 := t15.sL (i := 13) (by omega) (h_sz h + 14)
  rw [v_59, q_59_0, dt (show h_sz h + 13 ≠ 0 by omega), t15.k (i := 13) (by omega) (k := 4) (l := 0) rfl]
  simp only [zb, bV_s]
  generalize sR Y15 (h_sz h + 13) 0 (h_sz h + 14) = X15' at u15 ⊢
  clear f15 n15 t15
  have f15 := u15
  rw [q_18_117, f15.k0 (by omega) k0]
  simp only [zb]
  have s15 := f15.s0 16 (h_sz h + 13)
  have f16 := s15.al (by omega) (k := 4) (l := 0) 1 rfl
  rw [s15.z]
  generalize alo (sR X15' (h_sz h) 16 (h_sz h + 13)) 4 0 1 = X16 at f16 ⊢
  rw [q_18_124]
  have f17 := f16.al (by omega) (k := 11) (l := 1) 1 rfl
  rw [f16.z]
  generalize alo X16 11 1 1 = X17 at f17 ⊢
  have n17 : inb X17 (h_sz h + 16) 0 = true := by unfold inb; rw [(f17.1.2.2 16 (by omega)).2]; rfl
  rw [q_18_128, f17.k (i := 16) (by omega) (k := 11) (l := 1) rfl, n17, f17.k (i := 15) (by omega) (k := 4) (l := 0) rfl]
  simp only [zb, Bool.and_self]
  have t17 := f17.sI (i := 16) (by omega) 0 (-6)
  generalize sI X17 (h_sz h + 16) 0 (-6) = Y17 at t17 ⊢
  have u17 := t17.sL (i := 15) (by omega) (h_sz h + 16)
  rw [v_59, q_59_0, dt (show h_sz h + 15 ≠ 0 by omega), t17.k (i := 15) (by omega) (k := 4) (l := 0) rfl]
  simp only [zb, bV_s]
  generalize sR Y17 (h_sz h + 15) 0 (h_sz h + 16) = X17' at u17 ⊢
  clear f17 n17 t17
  have f17 := u17
  rw [q_18_136, f17.k0 (by omega) k0]
  simp only [zb]
  have s17 := f17.s0 17 (h_sz h + 15)
  have f18 := s17.al (by omega) (k := 4) (l := 0) 1 rfl
  rw [s17.z]
  generalize alo (sR X17' (h_sz h) 17 (h_sz h + 15)) 4 0 1 = X18 at f18 ⊢
  rw [q_18_143]
  have f19 := f18.al (by omega) (k := 11) (l := 1) 1 rfl
  rw [f18.z]
  generalize alo X18 11 1 1 = X19 at f19 ⊢
  have n19 : inb X19 (h_sz h + 18) 0 = true := by unfold inb; rw [(f19.1.2.2 18 (by omega)).2]; rfl
  rw [q_18_147, f19.k (i := 18) (by omega) (k := 11) (l := 1) rfl, n19, f19.k (i := 17) (by omega) (k := 4) (l := 0) rfl]
  simp only [zb, Bool.and_self]
  have t19 := f19.sI (i := 18) (by omega) 0 (-8)
  generalize sI X19 (h_sz h + 18) 0 (-8) = Y19 at t19 ⊢
  have u19 := t19.sL (i := 17) (by omega) (h_sz h + 18)
  rw [v_59, q_59_0, dt (show h_sz h + 17 ≠ 0 by omega), t19.k (i := 17) (by omega) (k := 4) (l := 0) rfl]
  simp only [zb, bV_s]
  generalize sR Y19 (h_sz h + 17) 0 (h_sz h + 18) = X19' at u19 ⊢
  clear f19 n19 t19
  have f19 := u19
  rw [q_18_155, f19.k0 (by omega) k0]
  have s19 := f19.s0 18 (h_sz h + 17)
  generalize sR X19' (h_sz h) 18 (h_sz h + 17) = Z at s19 ⊢
  simp only [zb]
  have a1 := s19.sI (i := 0) (by omega) 0 W
  have a2 := a1.sI (i := 0) (by omega) 1 H
  refine ⟨_, _, _, _, ?_, a2, ?_, ?_, ?_, ?_, ?_⟩
  · rfl
  · intro j hj
    have : j = 0 ∨ j = 1 ∨ j = 2 ∨ j = 3 ∨ j = 4 ∨ j = 5 ∨ j = 6 ∨ j = 7 ∨ j = 8 ∨ j = 9 := by omega
    rcases this with z | z | z | z | z | z | z | z | z | z <;> subst z <;> rfl
  · intro l hl
    have : l = 0 ∨ l = 1 ∨ l = 2 ∨ l = 3 := by omega
    rcases this with z | z | z | z <;> subst z <;> exact ⟨rfl, rfl⟩
  · refine ⟨rfl, rfl, fun j hj => ?_⟩
    simp (disch := omega) only [up_eq, up_ne]
  · intro i i1 i2 j
    have : i = 1 ∨ i = 2 ∨ i = 3 ∨ i = 4 ∨ i = 5 ∨ i = 6 ∨ i = 7 ∨ i = 8 ∨ i = 9 ∨ i = 10 := by omega
    rcases this with z | z | z | z | z | z | z | z | z | z <;> subst z <;> rfl
  · exact ⟨rfl, rfl, rfl, rfl⟩
