/-! the class: stumps, until -/
section
variable {h : HP} {t : Nat} {E : EE} {S : Nat → Int}
theorem c_46 (k : Cu h t E) (d : Nat) (l row : Int) : (tollOk (h_mi h) l row → ev (d + 2) 46 [vr 106, vi l, vi row] h = some (vi 1, h)) ∧ (¬ tollOk (h_mi h) l row → ev (d + 2) 46 [vr 106, vi l, vi row] h = some (vi 0, h)) := by
  have ll := k.vm.l
  have rr := k.vm.r
  have st : ev (d + 2) 46 [vr 106, vi l, vi row] h = run (d + 2) md_46 8 [vr 106, vi l, vi row] [vi (bb (0 ≤ l ∧ l < h_mi h 147 3))] h := by
    rw [v_46, q_46_0 (w := k.cs) (f := k.fj) (ht := k.ht), c_25 _ _ k.fj k.dl, bI_s]
  rw [st, q_46_8 (w := k.cs) (f := k.fj) (ht := k.ht)]
  unfold tollOk
  by_cases c1 : 0 ≤ l ∧ l < h_mi h 147 3
  · rw [bb_dt c1, c_22 _ _ k.fj k.dr]
    simp only [cond_false, bI_s]
    rw [q_46_19 (w := k.cs)]
    by_cases c2 : 0 ≤ row ∧ row < h_mi h 147 1
    · rw [bb_dt c2, c_42 k _ (by omega) (by omega)]
      simp only [cond_false, bI_s]
      rw [q_46_27 (w := k.cs)]
      by_cases c3 : bit (h_mi h 172 132) l = 0
      · rw [c3, df (by omega), c_50 k d (by omega) (by omega)]
        simp only [cond_false, bI_s]
        rw [q_46_35 (w := k.cs) (f := k.fj) (ht := k.ht)]
        simp (disch := omega) only [k.dat (Ag.rf _), dt, df, zb]
        by_cases c4 : tnV (h_mi h) row < ndV (h_mi h) l
        · rw [dt c4]
          exact ⟨fun z => absurd z.2.2.2 (by omega), fun _ => rfl⟩
        · rw [df c4]
          exact ⟨fun _ => rfl, fun z => absurd ⟨c1, c2, trivial, by omega⟩ z⟩
      · rw [dt c3]
        exact ⟨fun z => absurd z.2.2.1 c3, fun _ => rfl⟩
    · rw [bb_df c2]
      exact ⟨fun z => absurd z.2.1 c2, fun _ => rfl⟩
  · rw [bb_df c1]
    exact ⟨fun z => absurd z.1 c1, fun _ => rfl⟩
theorem c_58 (d : Nat) (st f me : Int) (h : HP) (m0 : 0 ≤ me) (m1 : me ≤ 1000) (f0 : 0 ≤ f) : ev d 58 [vi st, vi f, vi me] h = some (vi (if max 0 (min 99 f - me) = st then 1 else 0), h) := by
  rw [v_58, q_58_0, is_ (by omega) (by omega)]
  by_cases z : max 0 (min 99 f - me) = st
  · rw [df (by omega), if_pos z]; rfl
  · rw [dt z, if_neg z]; rfl
theorem fitP_if (g me st k : Int) : (bif fitP g me st k then (1 : Int) else 0) = if max 0 (min 99 (k * g) - me) = st then 1 else 0 := by
  unfold fitP
  by_cases z : max 0 (min 99 (k * g) - me) = st
  · rw [dt z, if_pos z]; rfl
  · rw [df z, if_neg z]; rfl
theorem l_56 (k : Cu h t E) (d : Nat) {c g me : Int} (c0 : 0 ≤ c) (c1 : c < 60) (g0 : 0 ≤ g) (g1 : g ≤ 9) (m0 : 0 ≤ me) (m1 : me ≤ 1000) (x3 : Int) : ∀ (n : Nat) (i a : Int), (51 - i).toNat = n → 0 ≤ i → i ≤ 51 → 0 ≤ a → a ≤ i → run (d + 1) md_56 33 [vr 106, vi c, vi g, vi x3, vi me, vi a, vi i] [] h = some (vi (itr (fun i a => bif fitP g me (h_mi h 172 (60 + c).toNat - 1) i then a + 1 else a) n i a), h)
  | 0, i, a, h1, h2, h3, a0, a1 => by
    rw [q_56_33 (w := k.cs), dt (by omega)]; rfl
  | n + 1, i, a, h1, h2, h3, a0, a1 => by
    have mb := mulb (g := i) (B := 51) h2 (by omega) g0 g1
    rw [q_56_33 (w := k.cs)]
    simp (disch := omega) only [k.dat (Ag.rf _), dt, df, zb, im]
    rw [c_58 _ _ _ _ _ m0 m1 mb.1, bI_s, q_56_55]
    show _ = some (vi (itr (fun i a => bif fitP g me (h_mi h 172 (60 + c).toNat - 1) i then a + 1 else a) n (i + 1) (bif fitP g me (h_mi h 172 (60 + c).toNat - 1) i then a + 1 else a)), h)
    rw [← fitP_if]
    cases fitP g me (h_mi h 172 (60 + c).toNat - 1) i
    · rw [ia (by omega) (by omega)]
      exact l_56 k d c0 c1 g0 g1 m0 m1 x3 n (i + 1) a (by omega) (by omega) (by omega) (by omega) (by omega)
    · rw [ia (by omega) (by omega), ia (by omega) (by omega)]
      exact l_56 k d c0 c1 g0 g1 m0 m1 x3 n (i + 1) (a + 1) (by omega) (by omega) (by omega) (by omega) (by omega)
theorem l_57 (k : Cu h t E) (d : Nat) {c g me : Int} (c0 : 0 ≤ c) (c1 : c < 60) (g0 : 0 ≤ g) (g1 : g ≤ 9) (m0 : 0 ≤ me) (m1 : me ≤ 1000) (x3 : Int) : ∀ (n : Nat) (i : Int), (51 - i).toNat = n → 0 ≤ i → i ≤ 51 → run (d + 1) md_57 18 [vr 106, vi c, vi g, vi x3, vi me, vi i] [] h = some (vi (cs (itx (fun i (_ : Unit) => bif fitP g me (h_mi h 172 (60 + c).toNat - 1) i then (.inl i : Int ⊕ Unit) else .inr ()) n i ()) (fun x => x) (fun _ => -1)), h)
  | 0, i, h1, h2, h3 => by
    rw [q_57_18 (w := k.cs), dt (by omega)]; rfl
  | n + 1, i, h1, h2, h3 => by
    have mb := mulb (g := i) (B := 51) h2 (by omega) g0 g1
    rw [q_57_18 (w := k.cs)]
    simp (disch := omega) only [k.dat (Ag.rf _), dt, df, zb, im]
    rw [c_58 _ _ _ _ _ m0 m1 mb.1, bI_s, q_57_40, ← fitP_if]
    cases hf : fitP g me (h_mi h 172 (60 + c).toNat - 1) i
    · rw [itx_r (a2 := ()) (by rw [hf]; rfl), ia (by omega) (by omega)]
      exact l_57 k d c0 c1 g0 g1 m0 m1 x3 n (i + 1) (by omega) (by omega) (by omega)
    · rw [itx_l (b := i) (by rw [hf]; rfl)]; rfl
theorem c_56 (k : Cu h t E) (d : Nat) (c g seen : Int) (c0 : 0 ≤ c) (c1 : c < 60) (g0 : 0 ≤ g) (g1 : g ≤ 9) (s1 : seen ≤ 23) : ∃ N, ev (d + 4) 56 [vr 106, vi c, vi g, vi seen] h = some (vi (if h_mi h 172 (60 + c).toNat = 0 then 0 else cnt (fitP g (meS (h_mi h) E c seen (h_mi h 172 134)) (h_mi h 172 (60 + c).toNat - 1)) 51), sM h N) ∧ Ag (CqA t) (h_mi h) N := by
  rw [v_56, q_56_0 (w := k.cs) (f := k.fj) (ht := k.ht)]
  simp (disch := omega) only [k.dat (Ag.rf _), dt, df, zb]
  by_cases z : h_mi h 172 (60 + c).toNat = 0
  · refine ⟨h_mi h, ?_, Ag.rf _⟩
    rw [df (by omega), if_pos z]; rfl
  · have nb := k.vm.nt
    obtain ⟨N, e, gg⟩ := c_31 k d c seen (h_mi h 172 134) c0 c1 s1
    have mb := meS_b (M := h_mi h) (E := E) (c := c) (nt := h_mi h 172 134) s1
    refine ⟨N, ?_, gg⟩
    rw [dt (by omega), if_neg z, e]
    simp only [cond_true, bI_s]
    have r172 : h_mi (sM h N) 172 = h_mi h 172 := k.rr gg 172 (by omega) (by omega)
    have l := l_56 (k.qu gg) (d + 3) (g := g) (me := meS (h_mi h) E c seen (h_mi h 172 134)) c0 c1 g0 g1 mb.1 (by omega) seen _ 0 0 rfl (by omega) (by omega) (by omega) (by omega)
    rw [r172] at l
    rw [q_56_25, l]
    rfl
theorem c_57 (k : Cu h t E) (d : Nat) (c g seen : Int) (c0 : 0 ≤ c) (c1 : c < 60) (g0 : 0 ≤ g) (g1 : g ≤ 9) (s1 : seen ≤ 23) : ∃ N, ev (d + 4) 57 [vr 106, vi c, vi g, vi seen] h = some (vi (fst_ (fitP g (meS (h_mi h) E c seen (h_mi h 172 134)) (h_mi h 172 (60 + c).toNat - 1)) 51 (-1)), sM h N) ∧ Ag (CqA t) (h_mi h) N := by
  rw [v_57, q_57_0 (w := k.cs) (f := k.fj) (ht := k.ht)]
  simp (disch := omega) only [k.dat (Ag.rf _), dt, df, zb]
  have nb := k.vm.nt
  obtain ⟨N, e, gg⟩ := c_31 k d c seen (h_mi h 172 134) c0 c1 s1
  have mb := meS_b (M := h_mi h) (E := E) (c := c) (nt := h_mi h 172 134) s1
  refine ⟨N, ?_, gg⟩
  rw [e, bI_s]
  have r172 : h_mi (sM h N) 172 = h_mi h 172 := k.rr gg 172 (by omega) (by omega)
  have l := l_57 (k.qu gg) (d + 3) (g := g) (me := meS (h_mi h) E c seen (h_mi h 172 134)) c0 c1 g0 g1 mb.1 (by omega) seen _ 0 rfl (by omega) (by omega)
  rw [r172] at l
  rw [q_57_13, l]
  rfl
theorem c_144 (d : Nat) (x : Int) (h : HP) : ev d 144 [vi x] h = some (vi (bb (0 ≤ x ∧ x ≤ 11)), h) := by
  rw [v_144, q_144_0]
  by_cases h1 : x < 0
  · rw [dt h1, bb_f (by omega)]; rfl
  · rw [df h1]
    by_cases h2 : 12 ≤ x
    · rw [dt h2, bb_f (by omega)]; rfl
    · rw [df h2, bb_t (by omega)]; rfl
theorem c_145 (d : Nat) (x : Int) (h : HP) : ev d 145 [vi x] h = some (vi (bb (12 ≤ x ∧ x ≤ 23)), h) := by
  rw [v_145, q_145_0]
  by_cases h1 : x < 12
  · rw [dt h1, bb_f (by omega)]; rfl
  · rw [df h1]
    by_cases h2 : 24 ≤ x
    · rw [dt h2, bb_f (by omega)]; rfl
    · rw [df h2, bb_t (by omega)]; rfl
theorem meS_rr {M N : MM} (g : N 149 = M 149) (E : EE) (c seen nt : Int) : meS N E c seen nt = meS M E c seen nt := by
  unfold meS
  have : (fun i a => a + meV N E c i nt) = fun i a => a + meV M E c i nt := by funext i a; rw [meV_ag g]
  rw [this]
theorem fs_slt (M : MM) (E : EE) (c poured seen : Int) : fsV M E c poured seen (sltB M c) = fitP (grV M E c poured (M 172 134)) (meS M E c seen (M 172 134)) (M 172 (60 + c).toNat - 1) := by
  unfold fsV sltB grV
  by_cases z : M 148 c.toNat = 2
  · rw [if_pos z, if_neg (by omega), if_pos z]
  · rw [if_neg z, if_pos rfl, if_neg z]
theorem k_fits (k : Cu h t E) (d : Nat) (x y poured seen what : Int) : ∃ h1, ev (d + 5) 135 [vr 100, vi x, vi y, vi poured, vi seen, vi what] h = some (vi (fitsV (h_mi h) E x y poured seen what), h1) ∧ Sq t h h1 := by
  have nb := k.vm.nt
  have cc := k.vm.c
  have rr := k.vm.r
  rw [v_135, q_135_0 (w := k.cs) (f := k.fj) (ht := k.ht), c_23 _ _ _ k.fj k.dc k.dr, bI_s, q_135_12]
  unfold fitsV
  by_cases c1 : 0 ≤ x ∧ x < h_mi h 147 0 ∧ 0 ≤ y ∧ y < h_mi h 147 1
  · rw [bb_dt c1, c_144]
    simp only [cond_false, bI_s]
    rw [q_135_19]
    by_cases c2 : 0 ≤ poured ∧ poured ≤ 11
    · rw [bb_dt c2, c_145]
      simp only [cond_false, bI_s]
      rw [q_135_27]
      by_cases c3 : 12 ≤ seen ∧ seen ≤ 23
      · rw [bb_nt c3, c_141 _ _ _ _ (by omega) (by omega) (by omega) (by omega)]
        simp only [cond_true, bI_s]
        rw [q_135_37 (w := k.cs) (f := k.fj) (ht := k.ht)]
        simp only [k.dat (Ag.rf _)]
        obtain ⟨N1, e1, g1⟩ := c_29 k (d + 1) (10 * y + x) poured (h_mi h 172 134) (by omega) (by omega)
        have gb := grV_b (h_mi h) E (10 * y + x) poured (h_mi h 172 134)
        have k1 := k.qu g1
        obtain ⟨N2, e2, g2⟩ := c_56 k1 d (10 * y + x) (grV (h_mi h) E (10 * y + x) poured (h_mi h 172 134)) seen (by omega) (by omega) gb.1 gb.2 c3.2
        rw [mi_sM, sM_sM, k.rr g1 172 (by omega) (by omega), meS_rr (k.rr g1 149 (by omega) (by omega)), ← fs_slt] at e2
        have g12 := g1.tr g2
        have k2 := k.qu g12
        obtain ⟨N3, e3, g3⟩ := c_57 k2 d (10 * y + x) (grV (h_mi h) E (10 * y + x) poured (h_mi h 172 134)) seen (by omega) (by omega) gb.1 gb.2 c3.2
        rw [mi_sM, sM_sM, k.rr g12 172 (by omega) (by omega), meS_rr (k.rr g12 149 (by omega) (by omega)), ← fs_slt] at e3
        rw [e1, bI_s, q_135_59 (w := k1.cs), e2, bI_s, q_135_74 (w := k2.cs)]
        by_cases z : h_mi h 172 (60 + (10 * y + x)).toNat = 0
        · rw [if_pos z, df (by omega), if_neg (fun q => q.2.2.2.1 z)]
          exact ⟨sM h N2, rfl, Sq.of g12⟩
        · rw [if_neg z]
          by_cases z2 : cnt (fsV (h_mi h) E (10 * y + x) poured seen (sltB (h_mi h) (10 * y + x))) 51 = 0
          · rw [df (by omega), if_neg (fun q => q.2.2.2.2 z2)]
            exact ⟨sM h N2, rfl, Sq.of g12⟩
          · rw [dt z2]
            by_cases w0 : what = 0
            · rw [dt w0, if_pos ⟨c1, ⟨c2, c3⟩, by omega, z, z2⟩, if_pos w0]
              exact ⟨sM h N2, rfl, Sq.of g12⟩
            · rw [df w0]
              by_cases w1 : what = 1
              · rw [dt w1, if_pos ⟨c1, ⟨c2, c3⟩, by omega, z, z2⟩, if_neg w0, e3]
                refine ⟨sM h N3, ?_, Sq.of (g12.tr g3)⟩
                simp only [cond_true, cond_false, bI_s]
                rw [q_135_128]
              · rw [df w1, if_neg (by omega)]
                exact ⟨sM h N2, rfl, Sq.of g12⟩
      · rw [bb_nf c3, if_neg (fun q => c3 q.2.1.2)]
        exact ⟨h, rfl, Sq.rf t h⟩
    · rw [bb_df c2, if_neg (fun q => c2 q.2.1.1)]
      exact ⟨h, rfl, Sq.rf t h⟩
  · rw [bb_df c1, if_neg (fun q => c1 q.1)]
    exact ⟨h, rfl, Sq.rf t h⟩
theorem l_136 (k : Cu h t E) (d : Nat) {row poured seen : Int} (r0 : 0 ≤ row) (r1 : row < 6) (s1 : seen ≤ 23) (rp : i3 poured) : ∀ (n : Nat) (i a : Int) (v6 v7 v8 : AV) (N : MM), (h_mi h 147 0 - i).toNat = n → 0 ≤ i → i ≤ h_mi h 147 0 → 0 ≤ a → a < 2 ^ i.toNat → Ag (CqA t) (h_mi h) N → ∃ N', run (d + 5) md_136 36 [vr 100, vi row, vi poured, vi seen, vi a, vi i, v6, v7, v8] [] (sM h N) = some (vi (itr (btF (slP (h_mi h) E row poured seen)) n i a), sM h N') ∧ Ag (CqA t) (h_mi h) N'
  | 0, i, a, v6, v7, v8, N, h1, h2, h3, a0, a1, g => by
    refine ⟨N, ?_, g⟩
    have k1 := k.q g
    rw [q_136_36 (w := k1.cs) (f := k1.fj) (ht := k1.ht), k1.dc, mi_sM, k.rr g 147 (by omega) (by omega), dt (by omega)]; rfl
  | n + 1, i, a, v6, v7, v8, N, h1, h2, h3, a0, a1, g => by
    have cc := k.vm.c
    have k1 := k.qu g
    have m172 := k.rr g 172 (by omega) (by omega)
    have m149 := k.rr g 149 (by omega) (by omega)
    have m148 := k.rr g 148 (by omega) (by omega)
    have n7 : h_mi (sM h N) 106 7 = h_mi h 172 134 := by rw [mi_sM]; exact (k.dat g).2.2.2.2.2.2.2.2.2.2.2.2.2.2.2.2.2.2.2.1
    have nb := k.vm.nt
    obtain ⟨N1, e1, g1⟩ := c_29 k1 (d + 1) (10 * row + i) poured (h_mi h 172 134) (by omega) (by omega)
    rw [mi_sM, sM_sM, grV_ag m149 m148] at e1
    have ga := g.tr g1
    have ka := k.qu ga
    have a7 : h_mi (sM h N1) 106 7 = h_mi h 172 134 := by rw [mi_sM]; exact (k.dat ga).2.2.2.2.2.2.2.2.2.2.2.2.2.2.2.2.2.2.2.1
    obtain ⟨N2, e2, g2⟩ := c_28 ka (d + 2) (10 * row + i) poured (h_mi h 172 134) (by omega) (by omega)
    rw [mi_sM, sM_sM, frV_ag (k.rr ga 149 (by omega) (by omega))] at e2
    have gb := ga.tr g2
    have kb := k.qu gb
    have b1 := grV_b (h_mi h) E (10 * row + i) poured (h_mi h 172 134)
    have b2 := frV_b (h_mi h) E (10 * row + i) poured (h_mi h 172 134)
    obtain ⟨N3, e3, g3⟩ := c_56 kb d (10 * row + i) (grV (h_mi h) E (10 * row + i) poured (h_mi h 172 134)) seen (by omega) (by omega) b1.1 b1.2 s1
    rw [mi_sM, sM_sM, k.rr gb 172 (by omega) (by omega), meS_rr (k.rr gb 149 (by omega) (by omega)), ← fs_slt] at e3
    have gc := gb.tr g3
    have kc := k.qu gc
    obtain ⟨N4, e4, g4⟩ := c_56 kc d (10 * row + i) (frV (h_mi h) E (10 * row + i) poured (h_mi h 172 134) / 2) seen (by omega) (by omega) (by omega) (by omega) s1
    have fs1 : fitP (frV (h_mi h) E (10 * row + i) poured (h_mi h 172 134) / 2) (meS (h_mi h) E (10 * row + i) seen (h_mi h 172 134)) (h_mi h 172 (60 + (10 * row + i)).toNat - 1) = fsV (h_mi h) E (10 * row + i) poured seen 1 := by
      unfold fsV; rw [if_neg (by omega)]
    rw [mi_sM, sM_sM, k.rr gc 172 (by omega) (by omega), meS_rr (k.rr gc 149 (by omega) (by omega)), fs1] at e4
    have oi := orI h2 (by omega) a0 a1
    have pp := p2s h2
    have p0 := p2p i.toNat
    have st : run (d + 5) md_136 36 [vr 100, vi row, vi poured, vi seen, vi a, vi i, v6, v7, v8] [] (sM h N) = run (d + 5) md_136 117 [vr 100, vi row, vi poured, vi seen, vi a, vi i, vi (10 * row + i), vi (grV (h_mi h) E (10 * row + i) poured (h_mi h 172 134)), vi (frV (h_mi h) E (10 * row + i) poured (h_mi h 172 134) / 2)] [vi (if h_mi h 172 (60 + (10 * row + i)).toNat = 0 then 0 else cnt (fsV (h_mi h) E (10 * row + i) poured seen (sltB (h_mi h) (10 * row + i))) 51)] (sM h N3) := by
      rw [q_136_36 (w := k1.cs) (f := k1.fj) (ht := k1.ht), Cg.dc k1, mi_sM, k.rr g 147 (by omega) (by omega), df (by omega), c_141 _ _ _ _ (by omega) (by omega) (by omega) (by omega)]
      simp only [cond_false, bI_s]
      rw [q_136_57 (w := k1.cs) (f := k1.fj) (ht := k1.ht), n7, e1, bI_s, q_136_79 (w := ka.cs) (f := ka.fj) (ht := ka.ht), a7, e2, bI_s, q_136_101 (w := kb.cs), id_ (by omega) (by omega) (by omega) (by omega), e3, bI_s]
    show ∃ N', _ = some (vi (itr (btF (slP (h_mi h) E row poured seen)) n (i + 1) (btF (slP (h_mi h) E row poured seen) i a)), sM h N') ∧ _
    rw [st, q_136_117 (w := kc.cs)]
    have cb := cnt_b (fsV (h_mi h) E (10 * row + i) poured seen 1) 51
    have sbd := (k.vm.s (c := (10 * row + i).toNat) (by omega)).2.1
    rw [show 60 + (10 * row + i).toNat = (60 + (10 * row + i)).toNat by omega] at sbd
    have no : slP (h_mi h) E row poured seen i = false → ∀ N' v6 v7 v8, Ag (CqA t) (h_mi h) N' → ∃ N'', run (d + 5) md_136 36 [vr 100, vi row, vi poured, vi seen, vi a, vi (i + 1), v6, v7, v8] [] (sM h N') = some (vi (itr (btF (slP (h_mi h) E row poured seen)) n (i + 1) (btF (slP (h_mi h) E row poured seen) i a)), sM h N'') ∧ Ag (CqA t) (h_mi h) N'' := fun hs N' v6 v7 v8 gg => by
      have : btF (slP (h_mi h) E row poured seen) i a = a := by unfold btF; rw [hs]; rfl
      rw [this]
      exact l_136 k d r0 r1 s1 rp n (i + 1) a v6 v7 v8 N' (by omega) (by omega) (by omega) a0 (by omega) gg
    by_cases z : h_mi h 172 (60 + (10 * row + i)).toNat = 0
    · rw [if_pos z, df (by omega), e4, if_pos z]
      simp only [cond_false, bI_s]
      rw [q_136_132, dt (by omega), ia (by omega) (by omega)]
      exact no (by unfold slP; rw [df (by omega)]; rfl) N4 _ _ _ (gc.tr g4)
    · rw [if_neg z]
      by_cases z2 : cnt (fsV (h_mi h) E (10 * row + i) poured seen (sltB (h_mi h) (10 * row + i))) 51 = 0
      · rw [df (by omega), e4, if_neg z]
        simp only [cond_false, bI_s]
        rw [q_136_132]
        by_cases z3 : cnt (fsV (h_mi h) E (10 * row + i) poured seen 1) 51 = 0
        · rw [dt (by omega), ia (by omega) (by omega)]
          exact no (by unfold slP; rw [df (p := 0 < cnt _ _) (by omega)]; simp) N4 _ _ _ (gc.tr g4)
        · have hs : slP (h_mi h) E row poured seen i = true := by
            unfold slP; rw [dt (show 0 < h_mi h 172 (60 + (10 * row + i)).toNat by omega), dt z2, dt (show 0 < cnt (fsV (h_mi h) E (10 * row + i) poured seen 1) 51 by omega)]; rfl
          have : btF (slP (h_mi h) E row poured seen) i a = a + 2 ^ i.toNat := by unfold btF; rw [hs]; rfl
          rw [df (by omega), this, oi.1, ia (by omega) (by omega)]
          exact l_136 k d r0 r1 s1 rp n (i + 1) _ _ _ _ N4 (by omega) (by omega) (by omega) (by omega) (by omega) (gc.tr g4)
      · rw [dt z2, ia (by omega) (by omega)]
        exact no (by unfold slP; rw [df z2]; simp) N3 _ _ _ gc
theorem k_salted (k : Cu h t E) (d : Nat) (row poured seen : Int) : ∃ h1, ev (d + 5) 136 [vr 100, vi row, vi poured, vi seen] h = some (vi (saltedV (h_mi h) E row poured seen), h1) ∧ Sq t h h1 := by
  have cc := k.vm.c
  have rr := k.vm.r
  rw [v_136, q_136_0 (w := k.cs) (f := k.fj) (ht := k.ht), c_22 _ _ k.fj k.dr, bI_s, q_136_11]
  unfold saltedV
  by_cases c1 : 0 ≤ row ∧ row < h_mi h 147 1
  · rw [bb_dt c1, c_144]
    simp only [cond_false, bI_s]
    rw [q_136_18]
    by_cases c2 : 0 ≤ poured ∧ poured ≤ 11
    · rw [bb_dt c2, c_145]
      simp only [cond_false, bI_s]
      rw [q_136_25]
      by_cases c3 : 12 ≤ seen ∧ seen ≤ 23
      · obtain ⟨N, e, g⟩ := l_136 k d (row := row) (poured := poured) (seen := seen) (by omega) (by omega) c3.2 (by unfold i3; omega) _ 0 0 vu vu vu (h_mi h) rfl (by omega) (by omega) (by omega) (p2p _) (Ag.rf _)
        rw [sM_self, Int.sub_zero] at e
        rw [bb_nt c3, if_pos ⟨c1, c2, c3⟩]
        exact ⟨sM h N, e, Sq.of g⟩
      · rw [bb_nf c3, if_neg (fun q => c3 q.2.2)]
        exact ⟨h, rfl, Sq.rf t h⟩
    · rw [bb_df c2, if_neg (fun q => c2 q.2.1)]
      exact ⟨h, rfl, Sq.rf t h⟩
  · rw [bb_df c1, if_neg (fun q => c1 q.1)]
    exact ⟨h, rfl, Sq.rf t h⟩
end
