/-! the class: the yard -/
def Yd (h : HP) (K G : Int → Int → Int) : Prop := ∀ r j : Int, 0 ≤ r → r < h_mi h 147 1 → 0 ≤ j → j < h_mi h 147 0 → (h_mi h 135 (10 * r + j).toNat = K r j ∧ h_mi h 136 (10 * r + j).toNat = G r j) ∧ (0 ≤ K r j ∧ K r j ≤ 99) ∧ 0 ≤ G r j ∧ G r j ≤ 9
def Cy (h : HP) (t : Nat) (E : EE) (S : Nat → Int) (K G : Int → Int → Int) : Prop := Cg h t E S ∧ h_mr h 134 2 = t ∧ Yd h K G
/-- what the reference sees there -/
def yI (M : MM) (K : Int → Int → Int) (r j : Int) : Int := if M 148 (10 * r + j).toNat = 1 then 1000 else K r j
theorem ptV_mono {x g a b : Int} (x0 : 0 ≤ x) (g0 : 0 ≤ g) (b9 : b ≤ 99) (ab : a ≤ b) : ptV x g a ≤ ptV x g b := by
  have nb := (ptV_b (th := b) x0 g0 b9).1
  unfold ptV at nb ⊢
  by_cases h1 : a ≤ x
  · rw [if_pos h1]; exact nb
  · rw [if_neg h1, if_neg (show ¬ b ≤ x by omega)]
    by_cases h2 : g = 0
    · rw [if_pos h2, if_pos h2]; omega
    · rw [if_neg h2, if_neg h2]
      exact Int.ediv_le_ediv (by omega) (by omega)
theorem paV_mono {I G : Int → Int} {n a b : Int} (h : ∀ j, 0 ≤ j → j < n → 0 ≤ I j ∧ 0 ≤ G j) (b9 : b ≤ 99) (ab : a ≤ b) : paV I G n a ≤ paV I G n b := sm_le (fun k k0 k1 => ptV_mono (h k k0 k1).1 (h k k0 k1).2 b9 ab)
section
variable {h : HP} {t : Nat} {E : EE} {S : Nat → Int} {K G : Int → Int → Int}
theorem Cy.cs (y : Cy h t E S K G) : CSk h := y.1.cs
theorem Cy.fj (y : Cy h t E S K G) : Fj t h := y.1.fj
theorem Cy.ht (y : Cy h t E S K G) : h_mr h 106 4 = t := y.1.ht
theorem Cy.hy (y : Cy h t E S K G) : h_mr h 134 2 = t := y.2.1
theorem Cy.st (y : Cy h t E S K G) : Stt h := y.1.st
theorem Cy.vm (y : Cy h t E S K G) : VM (h_mi h) E := y.1.vm
theorem Cg.f5 (k : Cg h t E S) {N N1 : MM} (g1 : Ag (FsA t) N N1) : N1 135 = N 135 ∧ N1 136 = N 136 := by
  have lt := k.fj.lt
  exact ⟨g1 _ (by unfold FsA; omega), g1 _ (by unfold FsA; omega)⟩
def GrD (h : HP) (E : EE) (hr nt row i : Int) (N : MM) : Prop := ∀ r j : Int, 0 ≤ r → 0 ≤ j → j < h_mi h 147 0 → (r < row ∨ (r = row ∧ j < i)) → N 136 (10 * r + j).toNat = grV (h_mi h) E (10 * r + j) hr nt
theorem l_96b (k : Cg h t E S) (hy : h_mr h 134 2 = t) (d : Nat) (hr nt : Int) (rh : i3 hr) (rn : i3 nt) {row : Int} (r0 : 0 ≤ row) (r1 : row < h_mi h 147 1) : ∀ (n : Nat) (i : Int) (v5 : AV) (N : MM), (h_mi h 147 0 - i).toNat = n → 0 ≤ i → i ≤ h_mi h 147 0 → Ag (CqA t) (h_mi h) N → N 135 = h_mi h 135 → GrD h E hr nt row i N → ∃ N' v5', run (d + 4) md_96 16 [vr 134, vi hr, vi nt, vi row, vi i, v5] [] (sM h N) = run (d + 4) md_96 2 [vr 134, vi hr, vi nt, vi (row + 1), vi (h_mi h 147 0), v5'] [] (sM h N') ∧ Ag (CqA t) (h_mi h) N' ∧ N' 135 = h_mi h 135 ∧ GrD h E hr nt (row + 1) 0 N'
  | 0, i, v5, N, h1, h2, h3, g, n5, hp => by
    have rr := k.vm.r
    have k1 := k.q g
    refine ⟨N, v5, ?_, g, n5, fun r j r0 j0 j1 q => hp r j r0 j0 j1 (by omega)⟩
    have ei : i = h_mi h 147 0 := by omega
    rw [q_96_16 (w := k1.cs) (f := k1.fj) (hy := hy), k1.dc, mi_sM, k.rr g 147 (by omega) (by omega), dt (by omega), ia (by omega) (by omega), ei]; rfl
  | n + 1, i, v5, N, h1, h2, h3, g, n5, hp => by
    have cc := k.vm.c
    have rr := k.vm.r
    have k1 := k.q g
    obtain ⟨N1, e1, g1⟩ := c_29f k1 d (10 * row + i) hr nt (by omega) (by omega)
    rw [mi_sM, sM_sM, grV_ag (k.rr g 149 (by omega) (by omega)) (k.rr g 148 (by omega) (by omega))] at e1
    rw [mi_sM] at g1
    obtain ⟨f5, f6⟩ := k.f5 g1
    have g2 := g.tr (g1.up FsA_q)
    have k2 := k.q g2
    have g3 : Ag (CqA t) (h_mi h) (up2 N1 136 (10 * row + i).toNat (grV (h_mi h) E (10 * row + i) hr nt)) := g2.u2 _ _ (by unfold CqA; omega)
    obtain ⟨N', v5', e', gg, n5', hp'⟩ := l_96b k hy d hr nt rh rn r0 r1 n (i + 1) (vi (10 * row + i)) (up2 N1 136 (10 * row + i).toNat (grV (h_mi h) E (10 * row + i) hr nt)) (by omega) (by omega) (by omega) g3 (by rw [u2_ne _ _ _ (by omega), f5, n5]) (fun r j q0 j0 j1 q => by
      by_cases z : r = row ∧ j = i
      · rw [z.1, z.2, u2_at]
      · rw [u2_no _ _ _ (by omega), f6]
        exact hp r j q0 j0 j1 (by omega))
    refine ⟨N', v5', ?_, gg, n5', hp'⟩
    rw [q_96_16 (w := k1.cs) (f := k1.fj) (hy := hy), k1.dc, mi_sM, k.rr g 147 (by omega) (by omega), df (by omega), c_141 _ _ _ _ (by omega) (by omega) (by omega) (by omega)]
    simp only [cond_false, bI_s]
    rw [q_96_34 (w := k1.cs) (f := k1.fj) (hy := hy), e1, bI_s, q_96_53 (w := k2.cs)]
    simp (disch := omega) only [dt, df, zb, ia, sI_sM]
    exact e'
theorem l_96 (k : Cg h t E S) (hy : h_mr h 134 2 = t) (d : Nat) (hr nt : Int) (rh : i3 hr) (rn : i3 nt) : ∀ (n : Nat) (row : Int) (v4 v5 : AV) (N : MM), (h_mi h 147 1 - row).toNat = n → 0 ≤ row → row ≤ h_mi h 147 1 → Ag (CqA t) (h_mi h) N → N 135 = h_mi h 135 → GrD h E hr nt row 0 N → ∃ N', run (d + 4) md_96 2 [vr 134, vi hr, vi nt, vi row, v4, v5] [] (sM h N) = some (vr 0, sM h N') ∧ Ag (CqA t) (h_mi h) N' ∧ N' 135 = h_mi h 135 ∧ GrD h E hr nt (h_mi h 147 1) 0 N'
  | 0, row, v4, v5, N, h1, h2, h3, g, n5, hp => by
    have k1 := k.q g
    have er : row = h_mi h 147 1 := by omega
    refine ⟨N, ?_, g, n5, er ▸ hp⟩
    rw [q_96_2 (w := k1.cs) (f := k1.fj) (hy := hy), k1.dr, mi_sM, k.rr g 147 (by omega) (by omega), dt (by omega)]; rfl
  | n + 1, row, v4, v5, N, h1, h2, h3, g, n5, hp => by
    have cc := k.vm.c
    have k1 := k.q g
    obtain ⟨N1, v5', e1, g1, n51, hp1⟩ := l_96b k hy d hr nt rh rn h2 (by omega) _ 0 v5 N rfl (by omega) (by omega) g n5 hp
    obtain ⟨N2, e2, g2, n52, hp2⟩ := l_96 k hy d hr nt rh rn n (row + 1) (vi (h_mi h 147 0)) v5' N1 (by omega) (by omega) (by omega) g1 n51 hp1
    refine ⟨N2, ?_, g2, n52, hp2⟩
    rw [q_96_2 (w := k1.cs) (f := k1.fj) (hy := hy), k1.dr, mi_sM, k.rr g 147 (by omega) (by omega), df (by omega)]
    simp only [cond_false]
    rw [e1, e2]
theorem c_96 (k : Cg h t E S) (hy : h_mr h 134 2 = t) (d : Nat) (hr nt : Int) (rh : i3 hr := by first | assumption | (unfold i3; omega) | (unfold i3 at *; omega)) (rn : i3 nt := by first | assumption | (unfold i3; omega) | (unfold i3 at *; omega)) : ∃ N, ev (d + 4) 96 [vr 134, vi hr, vi nt] h = some (vr 0, sM h N) ∧ Ag (CqA t) (h_mi h) N ∧ N 135 = h_mi h 135 ∧ GrD h E hr nt (h_mi h 147 1) 0 N := by
  have rr := k.vm.r
  have := l_96 k hy d hr nt rh rn _ 0 vu vu (h_mi h) rfl (by omega) (by omega) (Ag.rf _) rfl (fun r j r0 j0 j1 q => by omega)
  rw [sM_self] at this
  rw [v_96, q_96_0]
  exact this
/-- the ice now, the grips of this hour -/
def ydK (M : MM) (r j : Int) : Int := M 172 (10 * r + j).toNat
theorem c_94 (k : Cu h t E) (d : Nat) : ∃ N, ev (d + 5) 94 [vr 134, vr 106] h = some (vr 0, sM (sR h 134 2 t) N) ∧ Ag (CqA t) (h_mi h) N ∧ Cy (sM (sR h 134 2 t) N) t E (h_mi h 172) (ydK (h_mi h)) (nwG (h_mi h) E) := by
  have cc := k.vm.c
  have rr := k.vm.r
  have kH := Cg.y k t
  have hy : h_mr (sR h 134 2 t) 134 2 = t := by rw [mrR_eq, up_eq]
  have g1 : Ag (CqA t) (h_mi h) (va_up (h_mi h) 135 (va_cpy (h_mi h 126) (h_mi h 135) 0 0 60)) := (Ag.rf _).row _ (by unfold CqA; omega)
  have k1 : Cg (sM (sR h 134 2 t) (va_up (h_mi h) 135 (va_cpy (h_mi h 126) (h_mi h 135) 0 0 60))) t E (h_mi h 172) := kH.q g1
  have hb := k.vm.hr
  have nb := k.vm.nt
  obtain ⟨N, e, g, n5, hp⟩ := c_96 k1 hy d (h_mi h 172 133) (h_mi h 172 134)
  rw [mi_sM] at g n5
  rw [sM_sM] at e
  have g2 := g1.tr g
  have r7 : va_up (h_mi h) 135 (va_cpy (h_mi h 126) (h_mi h 135) 0 0 60) 147 = h_mi h 147 := up_ne _ _ (by omega)
  have r8 : va_up (h_mi h) 135 (va_cpy (h_mi h 126) (h_mi h 135) 0 0 60) 148 = h_mi h 148 := up_ne _ _ (by omega)
  have r9 : va_up (h_mi h) 135 (va_cpy (h_mi h 126) (h_mi h 135) 0 0 60) 149 = h_mi h 149 := up_ne _ _ (by omega)
  have n7 : N 147 = h_mi h 147 := k.rr g2 147 (by omega) (by omega)
  refine ⟨N, ?_, g2, kH.q g2, hy, fun r j q0 q1 j0 j1 => ?_⟩
  · rw [v_94, q_94_0 (w := k.cs) (ht := k.ht)]
    simp only [k.dat (Ag.rf _)]
    show bV (ev (d + 4) 96 [vr 134, vi (h_mi h 172 133), vi (h_mi h 172 134)] (sM (sR h 134 2 t) (va_up (h_mi h) 135 (va_cpy (h_mi h 126) (h_mi h 135) 0 0 60)))) _ = _
    rw [e, bV_s, q_94_35]
  · have q1 : r < h_mi h 147 1 := by rw [mi_sM, n7] at q1; exact q1
    have j1 : j < h_mi h 147 0 := by rw [mi_sM, n7] at j1; exact j1
    have hp1 := hp r j q0 j0 (by rw [mi_sM, r7]; exact j1) (by rw [mi_sM, r7]; omega)
    rw [mi_sM, grV_ag r9 r8] at hp1
    have tb := (k.vm.s (c := (10 * r + j).toNat) (by omega)).1
    refine ⟨⟨?_, ?_⟩, tb, grV_b _ _ _ _ _⟩
    · rw [mi_sM, n5, up_eq]
      unfold va_cpy
      rw [if_pos (by omega), show 0 + ((10 * r + j).toNat - 0) = (10 * r + j).toNat by omega]
      exact (k.dat (Ag.rf _)).2.2.2.2.2.2.2.2.2.2.2.2.2.1 _ (by omega) (by omega)
    · rw [mi_sM, hp1]; rfl
theorem c_97 (y : Cy h t E S K G) (d : Nat) {x : Int} (x0 : 0 ≤ x) (x1 : x < 60) : ev d 97 [vr 134, vi x] h = some (vi (if h_mi h 148 x.toNat = 1 then 1 else 0), h) := by
  rw [v_97, q_97_0 (w := y.cs) (f := y.fj) (hy := y.hy)]
  simp (disch := omega) only [y.1.dat (Ag.rf _), dt, df, zb]
  by_cases z : h_mi h 148 x.toNat = 1
  · rw [df (by omega), if_pos z]; rfl
  · rw [dt z, if_neg z]; rfl
def pnV (g f : Int) : Int := if f ≤ 0 then 0 else if g = 0 then 100000 else (f + g - 1) / g
theorem c_98 (y : Cy h t E S K G) (d : Nat) {r j f : Int} (r0 : 0 ≤ r) (r1 : r < h_mi h 147 1) (j0 : 0 ≤ j) (j1 : j < h_mi h 147 0) (f0 : -1000 ≤ f) (f1 : f ≤ 1000) : ev d 98 [vr 134, vi (10 * r + j), vi f] h = some (vi (pnV (G r j) f), h) := by
  have cc := y.vm.c
  have rr := y.vm.r
  obtain ⟨⟨_, a2⟩, _, a4⟩ := y.2.2 r j r0 r1 j0 j1
  rw [v_98, q_98_0 (w := y.cs), a2]
  simp (disch := omega) only [dt, df, zb, ia, is_]
  unfold pnV
  by_cases z : f ≤ 0
  · rw [df (by omega), if_pos z]; rfl
  · rw [dt (by omega), if_neg z]
    by_cases z2 : G r j = 0
    · rw [dt (by omega), if_pos z2]; rfl
    · rw [df (by omega), dt z2, if_neg z2, id_ (by omega) (by omega) (by omega) (by omega)]; rfl
theorem pn_pt {M : MM} {r j th : Int} (h9 : th ≤ 99) : (if M 148 (10 * r + j).toNat = 1 then 0 else pnV (G r j) (th - K r j)) = ptV (yI M K r j) (G r j) th := by
  unfold yI ptV pnV
  by_cases z : M 148 (10 * r + j).toNat = 1
  · rw [if_pos z, if_pos z, if_pos (by omega)]
  · rw [if_neg z, if_neg z]
    by_cases z2 : th ≤ K r j
    · rw [if_pos (by omega), if_pos z2]
    · rw [if_neg (by omega), if_neg z2]
theorem Cy.ib (y : Cy h t E S K G) {r : Int} (r0 : 0 ≤ r) (r1 : r < h_mi h 147 1) : ∀ j, 0 ≤ j → j < h_mi h 147 0 → 0 ≤ yI (h_mi h) K r j ∧ 0 ≤ G r j := fun j j0 j1 => by
  obtain ⟨_, a3, a4⟩ := y.2.2 r j r0 r1 j0 j1
  unfold yI
  refine ⟨?_, a4.1⟩
  split <;> omega
theorem l_99 (y : Cy h t E S K G) (d : Nat) {r th : Int} (r0 : 0 ≤ r) (r1 : r < h_mi h 147 1) (t0 : 0 ≤ th) (t1 : th ≤ 99) : ∀ (n : Nat) (i a : Int) (v5 : AV), (h_mi h 147 0 - i).toNat = n → 0 ≤ i → i ≤ h_mi h 147 0 → 0 ≤ a → a ≤ i * 100000 → run (d + 1) md_99 5 [vr 134, vi r, vi th, vi a, vi i, v5] [] h = some (vi (itr (fun k a => a + ptV (yI (h_mi h) K r k) (G r k) th) n i a), h)
  | 0, i, a, v5, h1, h2, h3, a0, a1 => by
    rw [q_99_5 (w := y.cs) (f := y.fj) (hy := y.hy), y.1.dc, dt (by omega)]; rfl
  | n + 1, i, a, v5, h1, h2, h3, a0, a1 => by
    have cc := y.vm.c
    have rr := y.vm.r
    obtain ⟨⟨b1, b2⟩, b3, b4⟩ := y.2.2 r i r0 r1 h2 (by omega)
    have ib := y.ib r0 r1 i h2 (by omega)
    have pb := ptV_b (th := th) ib.1 ib.2 t1
    have e := pn_pt (M := h_mi h) (K := K) (G := G) (r := r) (j := i) t1
    rw [q_99_5 (w := y.cs) (f := y.fj) (hy := y.hy), y.1.dc, df (by omega), c_141 _ _ _ _ (by omega) (by omega) (by omega) (by omega)]
    simp only [cond_false, bI_s]
    rw [q_99_23 (w := y.cs), c_97 y _ (by omega) (by omega), bI_s, q_99_32 (w := y.cs), b1]
    show _ = some (vi (itr (fun k a => a + ptV (yI (h_mi h) K r k) (G r k) th) n (i + 1) (a + ptV (yI (h_mi h) K r i) (G r i) th)), h)
    have fin : run (d + 1) md_99 54 [vr 134, vi r, vi th, vi a, vi i, vi (10 * r + i)] [vi (ptV (yI (h_mi h) K r i) (G r i) th), vi a] h = some (vi (itr (fun k a => a + ptV (yI (h_mi h) K r k) (G r k) th) n (i + 1) (a + ptV (yI (h_mi h) K r i) (G r i) th)), h) := by
      rw [q_99_54, ia (by omega) (by omega), ia (by omega) (by omega)]
      exact l_99 y d r0 r1 t0 t1 n (i + 1) _ _ (by omega) (by omega) (by omega) (by omega) (by omega)
    rw [← e] at fin ⊢
    by_cases z : h_mi h 148 (10 * r + i).toNat = 1
    · rw [if_pos z, if_pos z, df (by omega)]
      rw [if_pos z] at fin
      exact fin
    · rw [if_neg z, if_neg z, is_ (by omega) (by omega), c_98 y _ r0 r1 h2 (by omega) (by omega) (by omega)]
      rw [if_neg z] at fin
      simp (disch := omega) only [dt, df, zb, bI_s]
      exact fin
theorem c_99 (y : Cy h t E S K G) (d : Nat) {r th : Int} (r0 : 0 ≤ r) (r1 : r < h_mi h 147 1) (t0 : 0 ≤ th) (t1 : th ≤ 99) : ev (d + 1) 99 [vr 134, vi r, vi th] h = some (vi (paV (yI (h_mi h) K r) (G r) (h_mi h 147 0) th), h) := by
  have cc := y.vm.c
  rw [v_99, q_99_0, l_99 y d r0 r1 t0 t1 _ 0 0 _ rfl (by omega) (by omega) (by omega) (by omega), Int.sub_zero]
  rfl
theorem l_100 (y : Cy h t E S K G) (d : Nat) {r m : Int} (r0 : 0 ≤ r) (r1 : r < h_mi h 147 1) : ∀ (n : Nat) (i lo_ hi : Int) (v6 : AV), (hi - lo_).toNat ≤ n → 0 ≤ i → i + n ≤ 99 → 0 ≤ lo_ → lo_ ≤ hi → hi ≤ 99 → (lo_ = 0 ∨ paV (yI (h_mi h) K r) (G r) (h_mi h 147 0) lo_ ≤ m) → (∀ y, hi < y → y ≤ 99 → m < paV (yI (h_mi h) K r) (G r) (h_mi h 147 0) y) → run (d + 2) md_100 9 [vr 134, vi r, vi m, vi lo_, vi hi, vi i, v6] [] h = some (vi (thV (yI (h_mi h) K r) (G r) (h_mi h 147 0) m), h)
  | 0, i, l, u, v6, h1, h2, h3, h4, h5, h6, p1, p2 => by
    have : thV (yI (h_mi h) K r) (G r) (h_mi h 147 0) m = l := bdN_is h4 (by omega) p1 (fun y y1 y2 => p2 y (by omega) (by omega))
    rw [q_100_9 (w := y.cs), df (by omega), dt (by omega), this]; rfl
  | n + 1, i, l, u, v6, h1, h2, h3, h4, h5, h6, p1, p2 => by
    by_cases z : u ≤ l
    · have : thV (yI (h_mi h) K r) (G r) (h_mi h 147 0) m = l := bdN_is h4 (by omega) p1 (fun y y1 y2 => p2 y (by omega) (by omega))
      rw [q_100_9 (w := y.cs), df (by omega), dt z, this]; rfl
    · rw [q_100_9 (w := y.cs), df (by omega), df z, ia (x := l) (y := u) (by omega) (by omega), ia (by omega) (by omega), id_ (by omega) (by omega) (by omega) (by omega), c_99 y _ r0 r1 (by omega) (by omega)]
      simp only [cond_false, bI_s]
      rw [q_100_39]
      by_cases w : m < paV (yI (h_mi h) K r) (G r) (h_mi h 147 0) ((l + u + 1) / 2)
      · rw [dt w, is_ (by omega) (by omega), ia (by omega) (by omega)]
        exact l_100 y d r0 r1 n (i + 1) l ((l + u + 1) / 2 - 1) _ (by omega) (by omega) (by omega) h4 (by omega) (by omega) p1 (fun x x1 x2 => by
          have := paV_mono (y.ib r0 r1) x2 (show (l + u + 1) / 2 ≤ x by omega)
          omega)
      · rw [df w, ia (by omega) (by omega)]
        exact l_100 y d r0 r1 n (i + 1) ((l + u + 1) / 2) u _ (by omega) (by omega) (by omega) (by omega) (by omega) h6 (Or.inr (by omega)) p2
theorem c_100 (y : Cy h t E S K G) (d : Nat) {r m : Int} (r0 : 0 ≤ r) (r1 : r < h_mi h 147 1) : ev (d + 2) 100 [vr 134, vi r, vi m] h = some (vi (thV (yI (h_mi h) K r) (G r) (h_mi h 147 0) m), h) := by
  rw [v_100, q_100_0]
  exact l_100 y d r0 r1 99 0 0 99 _ (by omega) (by omega) (by omega) (by omega) (by omega) (by omega) (Or.inl rfl) (fun x x1 x2 => by omega)
end
