/-! the class: winters -/
theorem l_264 {h : HP} {a : Nat} (ka : isK h a 11 = true) (la : h_ln h a ≤ 10000) (d : Nat) (x : Int) (f : Nat → Int) : ∀ (n i : Nat) (N : MM), h_ln h a - i = n → i ≤ h_ln h a → (∀ b, b ≠ a → N b = h_mi h b) → (∀ j, N a j = if j < i then x else f j) → ∃ N', run d md_264 5 [vr a, vi x, vi (i : Int), vi (h_ln h a : Int)] [] (sM h N) = some (vr 0, sM h N') ∧ (∀ b, b ≠ a → N' b = h_mi h b) ∧ ∀ j, N' a j = if j < h_ln h a then x else f j
  | 0, i, N, h1, h2, hb, hf => by
    have : i = h_ln h a := by omega
    refine ⟨N, ?_, hb, fun j => by rw [hf j, this]⟩
    rw [q_264_5, dt (by omega)]; rfl
  | n + 1, i, N, h1, h2, hb, hf => by
    have it : ((i : Int)).toNat = i := by omega
    have ib : inb (sM h N) a (i : Int) = true := by
      rw [inb_sM]; unfold inb; rw [dt (show 0 ≤ (i : Int) by omega), dt (by omega)]; rfl
    rw [q_264_5, df (by omega), isK_sM, ka, ib, sI_sM, it, ia (by omega) (by omega)]
    obtain ⟨N', e, g, p⟩ := l_264 ka la d x f n (i + 1) (up2 N a i x) (by omega) (by omega) (fun b hb2 => by rw [u2_ne _ _ _ hb2]; exact hb b hb2) (fun j => by
      by_cases z : j = i
      · rw [z, u2_at, if_pos (by omega)]
      · rw [u2_no _ _ _ z, hf j]
        by_cases y : j < i
        · rw [if_pos y, if_pos (by omega)]
        · rw [if_neg y, if_neg (by omega)])
    exact ⟨N', e, g, p⟩
theorem c_264 {h : HP} {a : Nat} (ka : isK h a 11 = true) (la : h_ln h a ≤ 10000) (d : Nat) (x : Int) : ∃ N, ev d 264 [vr a, vi x] h = some (vr 0, sM h N) ∧ (∀ b, b ≠ a → N b = h_mi h b) ∧ ∀ j, N a j = if j < h_ln h a then x else h_mi h a j := by
  have := l_264 ka la d x (h_mi h a) _ 0 (h_mi h) rfl (by omega) (fun _ _ => rfl) (fun j => by rw [if_neg (by omega)])
  rw [sM_self] at this
  rw [v_264, q_264_0, ka]
  exact this
theorem sR_R (h : HP) (y z : Nat) (N : MM) : sR (sM (sR h 134 2 y) N) 134 2 z = sM (sR h 134 2 z) N := by
  obtain ⟨x1, x2, x3, x4, x5, x6, x7⟩ := h
  show (x1, x2, N, x4, va_up (va_up x5 134 (va_up (x5 134) 2 y)) 134 (va_up (va_up x5 134 (va_up (x5 134) 2 y) 134) 2 z), x6, x7) = (x1, x2, N, x4, va_up x5 134 (va_up (x5 134) 2 z), x6, x7)
  rw [up_eq, up_up, up_up]
section
variable {h : HP} {t : Nat} {E : EE} {S : Nat → Int} {K G : Int → Int → Int}
theorem l_95 (w : CSk h) (d : Nat) (nt md : Int) (hm : md ≠ 0) (f : Nat → Int) : ∀ (n : Nat) (i : Int) (N : MM), (60 - i).toNat = n → 0 ≤ i → i ≤ 60 → (∀ j : Nat, N 136 j = if (j : Int) < i then i_div (f j) 2 else f j) → ∃ N', run (d + 1) md_95 22 [vr 134, vr t, vi nt, vi md, vi i] [] (sM h N) = some (vr 0, sM h N') ∧ (∀ b, b ≠ 136 → N' b = N b) ∧ ∀ j : Nat, N' 136 j = if j < 60 then i_div (f j) 2 else f j
  | 0, i, N, h1, h2, h3, hj => by
    refine ⟨N, ?_, fun _ _ => rfl, fun j => ?_⟩
    · rw [q_95_22 (w := w.m N), dt (by omega)]; rfl
    · rw [hj j]
      by_cases z : j < 60
      · rw [if_pos z, if_pos (by omega)]
      · rw [if_neg z, if_neg (by omega)]
  | n + 1, i, N, h1, h2, h3, hj => by
    have e1 : N 136 i.toNat = f i.toNat := by rw [hj, if_neg (by omega)]
    rw [q_95_22 (w := w.m N), mi_sM, e1]
    simp (disch := omega) only [dt, df, zb, ia, sI_sM]
    obtain ⟨N', e, g, p⟩ := l_95 w d nt md hm f n (i + 1) (up2 N 136 i.toNat (i_div (f i.toNat) 2)) (by omega) (by omega) (by omega) (fun j => by
      by_cases z : j = i.toNat
      · rw [z, u2_at, if_pos (by omega)]
      · rw [u2_no _ _ _ z, hj j]
        by_cases y : (j : Int) < i
        · rw [if_pos y, if_pos (by omega)]
        · rw [if_neg y, if_neg (by omega)])
    exact ⟨N', e, fun b hb => by rw [g b hb, u2_ne _ _ _ hb], p⟩
def zK : Int → Int → Int := fun _ _ => 0
theorem c_95 (k : Cg h t E S) (d : Nat) (nt md : Int) (hm : md = 0 ∨ md = 1) (rn : i3 nt := by first | assumption | (unfold i3; omega) | (unfold i3 at *; omega)) : ∃ N, ev (d + 5) 95 [vr 134, vr t, vi nt, vi md] h = some (vr 0, sM (sR h 134 2 t) N) ∧ Ag (CqA t) (h_mi h) N ∧ Cy (sM (sR h 134 2 t) N) t E S zK (wG (h_mi h) E nt md) := by
  have cc := k.vm.c
  have rr := k.vm.r
  have kH := k.y t
  have hy : h_mr (sR h 134 2 t) 134 2 = t := by rw [mrR_eq, up_eq]
  obtain ⟨N1, e1, g1, p1⟩ := c_264 (h := sR h 134 2 t) (a := 135) (k_135 kH.cs) (by rw [n_135 kH.cs]; omega) (d + 4) 0
  have ga : Ag (CqA t) (h_mi (sR h 134 2 t)) N1 := fun b hb => g1 b (fun z => hb (by rw [z]; unfold CqA; omega))
  have k1 := kH.q ga
  obtain ⟨N2, e2, g2, n5, hp⟩ := c_96 k1 hy d 0 nt
  rw [mi_sM] at g2 n5
  rw [sM_sM] at e2
  have gc : Ag (CqA t) (h_mi h) N2 := Ag.tr (M := h_mi h) ga g2
  have r8 : N1 148 = h_mi h 148 := g1 _ (by omega)
  have r9 : N1 149 = h_mi h 149 := g1 _ (by omega)
  have r7 : N1 147 = h_mi h 147 := g1 _ (by omega)
  have n7 : N2 147 = h_mi h 147 := k.rr gc 147 (by omega) (by omega)
  have z5 : ∀ r j, 0 ≤ r → r < h_mi h 147 1 → 0 ≤ j → j < h_mi h 147 0 → N2 135 (10 * r + j).toNat = 0 := fun r j a b c d => by
    rw [n5, p1, n_135 kH.cs, if_pos (by omega)]
  have z6 : ∀ r j, 0 ≤ r → r < h_mi h 147 1 → 0 ≤ j → j < h_mi h 147 0 → N2 136 (10 * r + j).toNat = grV (h_mi h) E (10 * r + j) 0 nt := fun r j a b c d => by
    have := hp r j a c (by rw [mi_sM, r7]; exact d) (by rw [mi_sM, r7]; omega)
    rw [mi_sM, grV_ag r9 r8] at this
    exact this
  have st : ev (d + 5) 95 [vr 134, vr t, vi nt, vi md] h = run (d + 5) md_95 22 [vr 134, vr t, vi nt, vi md, vi 0] [] (sM (sR h 134 2 t) N2) := by
    rw [v_95, q_95_0 (w := k.cs), e1, bV_s, q_95_13 (w := k1.cs), e2, bV_s, q_95_19]
  have done : ∀ N3 : MM, (∀ b, b ≠ 136 → N3 b = N2 b) → (∀ r j, 0 ≤ r → r < h_mi h 147 1 → 0 ≤ j → j < h_mi h 147 0 → N3 136 (10 * r + j).toNat = wG (h_mi h) E nt md r j) → Ag (CqA t) (h_mi h) N3 ∧ Cy (sM (sR h 134 2 t) N3) t E S zK (wG (h_mi h) E nt md) := fun N3 q1 q2 => by
    have g3 : Ag (CqA t) (h_mi h) N3 := fun b hb => (q1 b (fun z => hb (by rw [z]; unfold CqA; omega))).trans (gc b hb)
    refine ⟨g3, kH.q g3, hy, fun r j r0 r1 j0 j1 => ?_⟩
    have e7 : N3 147 = h_mi h 147 := k.rr g3 147 (by omega) (by omega)
    rw [mi_sM, e7] at r1 j1
    refine ⟨⟨?_, ?_⟩, ⟨by unfold zK; omega, by unfold zK; omega⟩, gmV_b _ _ _ _ _ _ _⟩
    · rw [mi_sM, q1 135 (by omega), z5 r j r0 r1 j0 j1]; rfl
    · rw [mi_sM]; exact q2 r j r0 r1 j0 j1
  rcases hm with hm | hm
  · obtain ⟨g3, y⟩ := done N2 (fun _ _ => rfl) (fun r j r0 r1 j0 j1 => by rw [z6 r j r0 r1 j0 j1]; unfold wG gmV; rw [if_pos hm])
    refine ⟨N2, ?_, g3, y⟩
    rw [st, q_95_22 (w := kH.cs.m N2), df (by omega), dt hm]; rfl
  · obtain ⟨N3, e3, q3, p3⟩ := l_95 (t := t) kH.cs (d + 4) nt md (by omega) (N2 136) _ 0 N2 rfl (by omega) (by omega) (fun j => by rw [if_neg (by omega)])
    obtain ⟨g3, y⟩ := done N3 q3 (fun r j r0 r1 j0 j1 => by
      have gb := grV_b (h_mi h) E (10 * r + j) 0 nt
      rw [p3, if_pos (by omega), z6 r j r0 r1 j0 j1, id_ (by omega) (by omega) (by omega) (by omega)]
      unfold wG gmV; rw [if_neg (by omega)])
    exact ⟨N3, st.trans e3, g3, y⟩
theorem Cy.f (y : Cy h t E S K G) {N : MM} (g : Ag (FsA t) (h_mi h) N) : Cy (sM h N) t E S K G := by
  have lt := y.1.fj.lt
  refine ⟨y.1.q (g.up FsA_q), y.2.1, fun r j r0 r1 j0 j1 => ?_⟩
  have h7 : h_mi (sM h N) 147 = h_mi h 147 := g 147 (by unfold FsA; omega)
  have h5 : h_mi (sM h N) 135 = h_mi h 135 := g 135 (by unfold FsA; omega)
  have h6 : h_mi (sM h N) 136 = h_mi h 136 := g 136 (by unfold FsA; omega)
  rw [h7] at r1 j1
  rw [h5, h6]
  exact y.2.2 r j r0 r1 j0 j1
/-- column j of row r, built up to th on water, bears nd behind hour -/
def wcV (M : MM) (E : EE) (G : Int → Int → Int) (th hour nt r j : Int) : Int := mtG (buG th (G r j) (wI M r j)) (meS M E (10 * r + j) hour nt)
theorem l_102 (y : Cy h t E S zK G) (d : Nat) {l r th hour nt : Int} (l0 : 0 ≤ l) (l1 : l < h_mi h 147 3) (r0 : 0 ≤ r) (r1 : r < h_mi h 147 1) (t0 : 0 ≤ th) (t1 : th ≤ 99) (hh : hour ≤ 23) (rn : i3 nt) : ∀ (n : Nat) (i : Int) (v7 v8 v9 : AV) (N : MM), (h_mi h 147 0 - i).toNat = n → 0 ≤ i → i ≤ h_mi h 147 0 → Ag (FsA t) (h_mi h) N → ∃ N' b, run (d + 4) md_102 3 [vr 134, vi l, vi r, vi th, vi hour, vi nt, vi i, v7, v8, v9] [] (sM h N) = some (vi b, sM h N') ∧ Ag (FsA t) (h_mi h) N' ∧ ((b = 1 ∧ ∀ j, i ≤ j → j < h_mi h 147 0 → ndV (h_mi h) l ≤ wcV (h_mi h) E G th hour nt r j) ∨ (b = 0 ∧ ∃ j, i ≤ j ∧ j < h_mi h 147 0 ∧ ¬ ndV (h_mi h) l ≤ wcV (h_mi h) E G th hour nt r j))
  | 0, i, v7, v8, v9, N, h1, h2, h3, g => by
    have y1 := y.f g
    have lt := y.1.fj.lt
    refine ⟨N, 1, ?_, g, Or.inl ⟨rfl, fun j j0 j1 => by omega⟩⟩
    rw [q_102_3 (w := y1.cs) (f := y1.fj) (hy := y1.hy), y1.1.dc, mi_sM, g 147 (by unfold FsA; omega), dt (by omega)]; rfl
  | n + 1, i, v7, v8, v9, N, h1, h2, h3, g => by
    have lt := y.1.fj.lt
    have cc := y.vm.c
    have rr := y.vm.r
    have l7 := y.vm.l
    have y1 := y.f g
    have m7 : N 147 = h_mi h 147 := g 147 (by unfold FsA; omega)
    have m8 : N 148 = h_mi h 148 := g 148 (by unfold FsA; omega)
    have m9 : N 149 = h_mi h 149 := g 149 (by unfold FsA; omega)
    have nb := ndV_b y.vm l0 l1
    obtain ⟨⟨b1, b2⟩, _, b4⟩ := y1.2.2 r i r0 (by rw [mi_sM, m7]; exact r1) h2 (by rw [mi_sM, m7]; omega)
    have c97 := c_97 y1 (d + 3) (x := 10 * r + i) (by omega) (by omega)
    rw [mi_sM, m8] at c97
    have st : run (d + 4) md_102 3 [vr 134, vi l, vi r, vi th, vi hour, vi nt, vi i, v7, v8, v9] [] (sM h N) = run (d + 4) md_102 29 [vr 134, vi l, vi r, vi th, vi hour, vi nt, vi i, vi (10 * r + i), v8, v9] [vi (if h_mi h 148 (10 * r + i).toNat = 1 then 1 else 0)] (sM h N) := by
      rw [q_102_3 (w := y1.cs) (f := y1.fj) (hy := y1.hy), y1.1.dc, mi_sM, m7, df (by omega), c_141 _ _ _ _ (by omega) (by omega) (by omega) (by omega)]
      simp only [cond_false, bI_s]
      rw [q_102_21 (w := y1.cs), c97, bI_s]
    have go : ∀ v7 v8 v9 N1, Ag (FsA t) (h_mi h) N1 → ndV (h_mi h) l ≤ wcV (h_mi h) E G th hour nt r i → run (d + 4) md_102 3 [vr 134, vi l, vi r, vi th, vi hour, vi nt, vi i, v7, v8, v9] [] (sM h N) = run (d + 4) md_102 3 [vr 134, vi l, vi r, vi th, vi hour, vi nt, vi (i + 1), v7, v8, v9] [] (sM h N1) → True := fun _ _ _ _ _ _ _ => trivial
    rw [st, q_102_29 (w := y1.cs)]
    by_cases z : h_mi h 148 (10 * r + i).toNat = 1
    · have wc : ndV (h_mi h) l ≤ wcV (h_mi h) E G th hour nt r i := by
        unfold wcV mtG buG wI
        rw [if_pos z, if_pos (by omega), if_pos (by omega)]; omega
      obtain ⟨N', b, e, g', hb⟩ := l_102 y d (nt := nt) l0 l1 r0 r1 t0 t1 hh rn n (i + 1) (vi (10 * r + i)) v8 v9 N (by omega) (by omega) (by omega) g
      refine ⟨N', b, ?_, g', ?_⟩
      · rw [if_pos z, df (by omega), ia (by omega) (by omega)]; exact e
      · rcases hb with ⟨q1, q2⟩ | ⟨q1, j, j0, j1, j2⟩
        · refine Or.inl ⟨q1, fun j j0 j1 => ?_⟩
          by_cases w : j = i
          · rw [w]; exact wc
          · exact q2 j (by omega) j1
        · exact Or.inr ⟨q1, j, by omega, j1, j2⟩
    · have eI : wI (h_mi h) r i = 0 := if_neg z
      have pb := ptV_b (x := 0) (g := G r i) (th := th) (by omega) b4.1 t1
      have ep : pnV (G r i) th = ptV 0 (G r i) th := by
        unfold pnV ptV
        by_cases w : th ≤ 0
        · rw [if_pos w, if_pos w]
        · rw [if_neg w, if_neg w, Int.sub_zero]
      have gp := mulb b4.1 b4.2 pb.1 pb.2
      have c98 := c_98 y1 (d + 3) (r := r) (j := i) (f := th) r0 (by rw [mi_sM, m7]; exact r1) h2 (by rw [mi_sM, m7]; omega) (by omega) (by omega)
      rw [ep] at c98
      obtain ⟨N1, e1, g1⟩ := c_31f y1.1 d (10 * r + i) hour nt (by omega) (by omega) hh
      rw [mi_sM, sM_sM, meS_rr m9] at e1
      rw [mi_sM] at g1
      have mb := meS_b (M := h_mi h) (E := E) (c := 10 * r + i) (nt := nt) hh
      have g2 := g.tr g1
      have y2 := y.f g2
      have d7 : h_mi (sM h N1) (t + 7) l.toNat = ndV (h_mi h) l := by
        rw [mi_sM, g2 (t + 7) (by unfold FsA; omega)]
        exact (y.1.dat (Ag.rf _)).2.2.2.2.2.2.2.2.2.2.2.1 l l0 l1
      have bz : h_mi (sM h N) 135 (10 * r + i).toNat = 0 := b1
      have wc : wcV (h_mi h) E G th hour nt r i = max 0 (min 99 (ptV 0 (G r i) th * G r i) - meS (h_mi h) E (10 * r + i) hour nt) := by
        unfold wcV mtG buG
        rw [eI, if_neg (by omega), Int.zero_add, if_neg (by omega), Int.mul_comm (G r i)]
      rw [Int.mul_comm] at gp
      rw [if_neg z, dt rfl, bz, is_ (by omega) (by omega), Int.sub_zero, c98]
      simp (disch := omega) only [dt, df, zb, bI_s]
      rw [q_102_50 (w := y1.cs) (f := y1.fj) (hy := y1.hy), bz, b2, im (by omega) (by omega), ia (by omega) (by omega), Int.zero_add, e1]
      simp (disch := omega) only [dt, df, zb, bI_s]
      rw [q_102_92 (w := y2.cs) (f := y2.fj) (hy := y2.hy), d7, is_ (by omega) (by omega)]
      simp (disch := omega) only [dt, df, zb]
      by_cases w : ndV (h_mi h) l ≤ min 99 (ptV 0 (G r i) th * G r i) - meS (h_mi h) E (10 * r + i) hour nt
      · obtain ⟨N', b, e, g', hb⟩ := l_102 y d (nt := nt) l0 l1 r0 r1 t0 t1 hh rn n (i + 1) (vi (10 * r + i)) (vi (ptV 0 (G r i) th * G r i)) (vi (min 99 (ptV 0 (G r i) th * G r i))) N1 (by omega) (by omega) (by omega) g2
        refine ⟨N', b, ?_, g', ?_⟩
        · rw [dt w, ia (by omega) (by omega)]; exact e
        · rcases hb with ⟨q1, q2⟩ | ⟨q1, j, j0, j1, j2⟩
          · refine Or.inl ⟨q1, fun j j0 j1 => ?_⟩
            by_cases w2 : j = i
            · rw [w2, wc]; omega
            · exact q2 j (by omega) j1
          · exact Or.inr ⟨q1, j, by omega, j1, j2⟩
      · refine ⟨N1, 0, ?_, g2, Or.inr ⟨rfl, i, by omega, by omega, by rw [wc]; omega⟩⟩
        rw [df w]; rfl
end
