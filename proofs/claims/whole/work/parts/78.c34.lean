/-! the class: ice laid aside -/
theorem kd_alo (h : HP) (t n w : Nat) : h_kd (alo h t n w) = va_up (h_kd h) (h_sz h) t := rfl
theorem ln_alo (h : HP) (t n w : Nat) : h_ln (alo h t n w) = va_up (h_ln h) (h_sz h) n := rfl
theorem mi_alo (h : HP) (t n w : Nat) : h_mi (alo h t n w) = va_up (h_mi h) (h_sz h) (fun _ => 0) := rfl
theorem mr_alo (h : HP) (t n w : Nat) : h_mr (alo h t n w) = va_up (h_mr h) (h_sz h) (fun _ => 0) := rfl
theorem sz_alo (h : HP) (t n w : Nat) : h_sz (alo h t n w) = h_sz h + 1 := rfl
theorem sl_alo (h : HP) (t n w : Nat) : h_sl (alo h t n w) = h_sl h + w := rfl
theorem mrR_f (h : HP) (a k v : Nat) : h_mr (sR h a k v) = va_up (h_mr h) a (va_up (h_mr h a) k v) := rfl
/-- n new cells, their kinds and lengths as T has them -/
def Nw (h : HP) (T : List (Nat × Nat)) (n : Nat) (h1 : HP) : Prop := Ex h h1 ∧ h_sz h1 = h_sz h + n ∧ ∀ i, i < n → h_kd h1 (h_sz h + i) = (T.getD i (0, 0)).1 ∧ h_ln h1 (h_sz h + i) = (T.getD i (0, 0)).2
theorem Nw.z (h : HP) (T : List (Nat × Nat)) : Nw h T 0 h := ⟨Ex.rf h, rfl, fun i hi => by omega⟩
theorem Nw.al {h h1 : HP} {T : List (Nat × Nat)} {n : Nat} (p : Nw h T n h1) {k l : Nat} (w : Nat) (e : T.getD n (0, 0) = (k, l)) : Nw h T (n + 1) (alo h1 k l w) := by
  obtain ⟨p1, p2, p3⟩ := p
  refine ⟨p1.tr (Ex.alo _ _ _ _), by rw [sz_alo, p2]; rfl, fun i hi => ?_⟩
  rw [kd_alo, ln_alo, p2]
  by_cases z : i = n
  · rw [z, up_eq, up_eq, e]; exact ⟨rfl, rfl⟩
  · rw [up_ne _ _ (by omega), up_ne _ _ (by omega)]; exact p3 i (by omega)
theorem Nw.sr {h h1 : HP} {T : List (Nat × Nat)} {n : Nat} (p : Nw h T n h1) {b : Nat} (hb : h_sz h ≤ b) (k v : Nat) : Nw h T n (sR h1 b k v) := ⟨p.1.sR hb k v, p.2.1, p.2.2⟩
theorem Nw.sm {h h1 : HP} {T : List (Nat × Nat)} {n : Nat} (p : Nw h T n h1) {N : MM} (g : ∀ a, a < h_sz h → N a = h_mi h1 a) : Nw h T n (sM h1 N) := ⟨p.1.sM g, p.2.1, p.2.2⟩
theorem Nw.k {h h1 : HP} {T : List (Nat × Nat)} {n : Nat} (p : Nw h T n h1) {i : Nat} (hi : i < n) {k l : Nat} (e : T.getD i (0, 0) = (k, l)) : isK h1 (h_sz h + i) k = true := isKc (by rw [(p.2.2 i hi).1, e])
theorem Nw.k0 {h h1 : HP} {T : List (Nat × Nat)} {n : Nat} (p : Nw h T n h1) (hn : 0 < n) {k l : Nat} (e : T.getD 0 (0, 0) = (k, l)) : isK h1 (h_sz h) k = true := p.k (i := 0) hn e
def IcK (h : HP) (i b : Nat) : Prop := h_kd h i = 3 ∧ ∀ j, j < 4 → h_mr h i j = b + j ∧ h_kd h (b + j) = 11 ∧ h_ln h (b + j) = ([60, 60, 6, 6] : List Nat).getD j 0
theorem c_36 {h : HP} (d t : Nat) (z : 1 ≤ h_sz h) : ∃ h1, ev (d + 1) 36 [vr (h_sz h), vr t] (alo h 3 0 11) = some (vr 0, h1) ∧ Ex h h1 ∧ h_sz h1 = h_sz h + 5 ∧ h_sl h1 ≤ h_sl h + 1000 ∧ IcK h1 (h_sz h) (h_sz h + 1) ∧ h_mr h1 (h_sz h) 4 = t := by
  generalize hT : ([(3, 0), (11, 60), (11, 60), (11, 6), (11, 6)] : List (Nat × Nat)) = T
  have p1 : Nw h T 1 (alo h 3 0 11) := (Nw.z h T).al 11 (by rw [← hT]; rfl)
  have p2 : Nw h T 2 _ := p1.al (k := 11) (l := 60) 60 (by rw [← hT]; rfl)
  have p3 : Nw h T 3 _ := (p2.sr (Nat.le_refl _) 0 (h_sz h + 1)).al (k := 11) (l := 60) 60 (by rw [← hT]; rfl)
  have p4 : Nw h T 4 _ := (p3.sr (Nat.le_refl _) 1 (h_sz h + 2)).al (k := 11) (l := 6) 6 (by rw [← hT]; rfl)
  have p5 : Nw h T 5 _ := (p4.sr (Nat.le_refl _) 2 (h_sz h + 3)).al (k := 11) (l := 6) 6 (by rw [← hT]; rfl)
  have p6 : Nw h T 5 _ := (p5.sr (Nat.le_refl _) 3 (h_sz h + 4)).sr (Nat.le_refl _) 4 t
  rw [v_36, q_36_0, dt (by omega)]
  simp only [zb]
  rw [p1.2.1, q_36_9, p2.k0 (by omega) (k := 3) (l := 0) (by rw [← hT]; rfl)]
  simp only [zb]
  rw [(p2.sr (Nat.le_refl _) 0 (h_sz h + 1)).2.1, q_36_17, p3.k0 (by omega) (k := 3) (l := 0) (by rw [← hT]; rfl)]
  simp only [zb]
  rw [(p3.sr (Nat.le_refl _) 1 (h_sz h + 2)).2.1, q_36_25, p4.k0 (by omega) (k := 3) (l := 0) (by rw [← hT]; rfl)]
  simp only [zb]
  rw [(p4.sr (Nat.le_refl _) 2 (h_sz h + 3)).2.1, q_36_33, p5.k0 (by omega) (k := 3) (l := 0) (by rw [← hT]; rfl)]
  simp only [zb]
  have m1 : h_mr (sR (alo (sR (alo (sR (alo (sR (alo (alo h 3 0 11) 11 60 60) (h_sz h) 0 (h_sz h + 1)) 11 60 60) (h_sz h) 1 (h_sz h + 2)) 11 6 6) (h_sz h) 2 (h_sz h + 3)) 11 6 6) (h_sz h) 3 (h_sz h + 4)) (h_sz h) = va_up (va_up (va_up (va_up (fun _ => 0) 0 (h_sz h + 1)) 1 (h_sz h + 2)) 2 (h_sz h + 3)) 3 (h_sz h + 4) := by
    simp (disch := omega) only [mrR_f, mr_alo, sz_alo, sz9_sR, up_eq, up_ne]
  have f2 : h_mr (sR (alo (sR (alo (sR (alo (sR (alo (alo h 3 0 11) 11 60 60) (h_sz h) 0 (h_sz h + 1)) 11 60 60) (h_sz h) 1 (h_sz h + 2)) 11 6 6) (h_sz h) 2 (h_sz h + 3)) 11 6 6) (h_sz h) 3 (h_sz h + 4)) (h_sz h) 1 = h_sz h + 2 := by rw [m1]; rfl
  rw [f2]
  generalize hX : sR (sR (alo (sR (alo (sR (alo (sR (alo (alo h 3 0 11) 11 60 60) (h_sz h) 0 (h_sz h + 1)) 11 60 60) (h_sz h) 1 (h_sz h + 2)) 11 6 6) (h_sz h) 2 (h_sz h + 3)) 11 6 6) (h_sz h) 3 (h_sz h + 4)) (h_sz h) 4 t = X at p6
  have mX : h_mr X (h_sz h) = va_up (va_up (va_up (va_up (va_up (fun _ => 0) 0 (h_sz h + 1)) 1 (h_sz h + 2)) 2 (h_sz h + 3)) 3 (h_sz h + 4)) 4 t := by rw [← hX, mrR_eq, m1]
  have sX : h_sl X ≤ h_sl h + 1000 := by rw [← hX]; simp only [sl9_sR, sl_alo]; omega
  have k2 := p6.k (i := 2) (by omega) (k := 11) (l := 60) (by rw [← hT]; rfl)
  have l2 : h_ln X (h_sz h + 2) = 60 := by rw [(p6.2.2 2 (by omega)).2, ← hT]; rfl
  obtain ⟨N, e, g, _⟩ := c_264 (h := X) (a := h_sz h + 2) k2 (by rw [l2]; omega) d (-1)
  have p7 := p6.sm (N := N) (fun a ha => g a (by omega))
  refine ⟨sM X N, by rw [e, bV_s, q_36_49], p7.1, p7.2.1, sX, ⟨by rw [kd_sM]; exact (p6.2.2 0 (by omega)).1.trans (by rw [← hT]; rfl), fun j hj => ⟨?_, ?_, ?_⟩⟩, by rw [mr_sM, mX]; rfl⟩
  · rw [mr_sM, mX]
    have : j = 0 ∨ j = 1 ∨ j = 2 ∨ j = 3 := by omega
    rcases this with rfl | rfl | rfl | rfl <;> rfl
  · rw [kd_sM, show h_sz h + 1 + j = h_sz h + (j + 1) by omega, (p6.2.2 (j + 1) (by omega)).1, ← hT]
    have : j = 0 ∨ j = 1 ∨ j = 2 ∨ j = 3 := by omega
    rcases this with rfl | rfl | rfl | rfl <;> rfl
  · rw [ln_sM, show h_sz h + 1 + j = h_sz h + (j + 1) by omega, (p6.2.2 (j + 1) (by omega)).2, ← hT]
    have : j = 0 ∨ j = 1 ∨ j = 2 ∨ j = 3 := by omega
    rcases this with rfl | rfl | rfl | rfl <;> rfl
theorem c_38 {h : HP} {i0 b0 i1 b1 : Nat} (k0 : IcK h i0 b0) (k1 : IcK h i1 b1) (n1 : i0 ≠ i1) (n3 : b0 + 4 ≤ b1 ∨ b1 + 4 ≤ b0) (d : Nat) : ∃ N, ev d 38 [vr i0, vr i1] h = some (vr 0, sM (sR h i0 4 (h_mr h i1 4)) N) ∧ (∀ a, a ≠ i0 → (a < b0 ∨ b0 + 4 ≤ a) → N a = h_mi h a) ∧ (∀ f, 5 ≤ f → f ≤ 10 → N i0 f = h_mi h i1 f) ∧ (∀ c, c < 60 → N b0 c = h_mi h b1 c ∧ N (b0 + 1) c = h_mi h (b1 + 1) c) ∧ ∀ p, p < 6 → N (b0 + 2) p = h_mi h (b1 + 2) p ∧ N (b0 + 3) p = h_mi h (b1 + 3) p := by
  have ki0 : isK h i0 3 = true := isKc k0.1
  have ki1 : isK h i1 3 = true := isKc k1.1
  have a0 : ∀ j, j < 4 → b0 + j ≠ i0 ∧ b0 + j ≠ i1 := fun j hj => by
    have := (k0.2 j hj).2.1
    refine ⟨fun z => ?_, fun z => ?_⟩
    · rw [z, k0.1] at this; omega
    · rw [z, k1.1] at this; omega
  have a1 : ∀ j, j < 4 → b1 + j ≠ i0 ∧ b1 + j ≠ i1 := fun j hj => by
    have := (k1.2 j hj).2.1
    refine ⟨fun z => ?_, fun z => ?_⟩
    · rw [z, k0.1] at this; omega
    · rw [z, k1.1] at this; omega
  have r1 : ∀ v j, h_mr (sR h i0 4 v) i1 j = h_mr h i1 j := fun v j => by rw [mrR_ne _ _ _ (fun z => n1 z.symm)]
  have x00 := k0.2 0 (by omega)
  have x01 := k0.2 1 (by omega)
  have x02 := k0.2 2 (by omega)
  have x03 := k0.2 3 (by omega)
  have x10 := k1.2 0 (by omega)
  have x11 := k1.2 1 (by omega)
  have x12 := k1.2 2 (by omega)
  have x13 := k1.2 3 (by omega)
  have y0 := a0 0 (by omega)
  have y1 := a0 1 (by omega)
  have y2 := a0 2 (by omega)
  have y3 := a0 3 (by omega)
  have w0 := a1 0 (by omega)
  have w1 := a1 1 (by omega)
  have w2 := a1 2 (by omega)
  have w3 := a1 3 (by omega)
  have e1 : ∀ X k v, h_mi (sI X i0 k v) i1 = h_mi X i1 := fun X k v => miI_ne X k v (fun z => n1 z.symm)
  rw [v_38, q_38_0]
  simp only [e1, mi9_sR, ki0, ki1, r1, x00.1, x01.1, x02.1, x03.1, x10.1, x11.1, x12.1, x13.1, isKc x00.2.1, isKc x01.2.1, isKc x02.2.1, isKc x03.2.1, isKc x10.2.1, isKc x11.2.1, isKc x12.2.1, isKc x13.2.1, x00.2.2, x01.2.2, x02.2.2, x03.2.2, x10.2.2, x11.2.2, x12.2.2, x13.2.2, zb]
  generalize hU : (sI (sI (sI (sI (sI (sI (sR h i0 4 (h_mr h i1 4)) i0 5 (h_mi h i1 5)) i0 6 (h_mi h i1 6)) i0 7 (h_mi h i1 7)) i0 8 (h_mi h i1 8)) i0 9 (h_mi h i1 9)) i0 10 (h_mi h i1 10)) = Y
  have hY : ∃ U, Y = sM (sR h i0 4 (h_mr h i1 4)) U ∧ (∀ a, a ≠ i0 → U a = h_mi h a) ∧ ∀ f, 5 ≤ f → f ≤ 10 → U i0 f = h_mi h i1 f := by
    rw [← hU]
    simp only [sI_h, sM_sM, mi_sM, mi9_sR]
    refine ⟨_, rfl, fun a ha => ?_, fun f h1 h2 => ?_⟩
    · rw [u2_ne _ _ _ ha, u2_ne _ _ _ ha, u2_ne _ _ _ ha, u2_ne _ _ _ ha, u2_ne _ _ _ ha, u2_ne _ _ _ ha]
    · have : f = 5 ∨ f = 6 ∨ f = 7 ∨ f = 8 ∨ f = 9 ∨ f = 10 := by omega
      rcases this with rfl | rfl | rfl | rfl | rfl | rfl <;> simp (disch := omega) only [u2_no, u2_at]
  obtain ⟨U, rfl, u1, u2⟩ := hY
  clear hU
  simp (disch := omega) only [mi9_ne]
  simp only [Nat.add_zero, mi_sM, sRi_sM]
  simp only [Nat.add_zero] at y0 w0
  refine ⟨_, rfl, fun a h1 h2 => ?_, fun f h1 h2 => ?_, fun c hc => ⟨?_, ?_⟩, fun p hp => ⟨?_, ?_⟩⟩
  · rw [up_ne _ _ (by omega), up_ne _ _ (by omega), up_ne _ _ (by omega), up_ne _ _ (by omega), u1 a h1]
  · rw [up_ne _ _ (by omega), up_ne _ _ (by omega), up_ne _ _ (by omega), up_ne _ _ (by omega), u2 f h1 h2]
  · rw [up_ne _ _ (by omega), up_ne _ _ (by omega), up_ne _ _ (by omega), up_eq]
    unfold va_cpy
    rw [if_pos (by omega), u1 b1 (by omega)]
    congr 1; omega
  · rw [up_ne _ _ (by omega), up_ne _ _ (by omega), up_eq]
    unfold va_cpy
    rw [if_pos (by omega), u1 (b1 + 1) (by omega)]
    congr 1; omega
  · rw [up_ne _ _ (by omega), up_eq]
    unfold va_cpy
    rw [if_pos (by omega), u1 (b1 + 2) (by omega)]
    congr 1; omega
  · rw [up_eq]
    unfold va_cpy
    rw [if_pos (by omega), u1 (b1 + 3) (by omega)]
    congr 1; omega
