/-! the class: small questions -/
section
variable {h : HP} {t : Nat} {E : EE} {S : Nat → Int}
theorem Cg.dc (k : Cg h t E S) : h_mi h t 0 = h_mi h 147 0 := (k.dat (Ag.rf _)).1
theorem Cg.dr (k : Cg h t E S) : h_mi h t 1 = h_mi h 147 1 := (k.dat (Ag.rf _)).2.1
theorem Cg.dp (k : Cg h t E S) : h_mi h t 12 = h_mi h 147 2 := (k.dat (Ag.rf _)).2.2.1
theorem Cg.dl (k : Cg h t E S) : h_mi h t 13 = h_mi h 147 3 := (k.dat (Ag.rf _)).2.2.2.1
theorem k_cell (k : Cu h t E) (d : Nat) (x y what : Int) : ∃ h1, ev (d + 4) 112 [vr 100, vi x, vi y, vi what] h = some (vi (cellV (h_mi h) E x y what), h1) ∧ Sq t h h1 := by
  have cc := k.vm.c
  have rr := k.vm.r
  rw [v_112, q_112_0 (w := k.cs) (f := k.fj) (ht := k.ht), c_23 _ _ _ k.fj k.dc k.dr, bI_s, q_112_16]
  unfold cellV
  by_cases hc : 0 ≤ x ∧ x < h_mi h 147 0 ∧ 0 ≤ y ∧ y < h_mi h 147 1
  · rw [bb_nt hc, c_141 _ _ _ _ (by omega) (by omega) (by omega) (by omega)]
    simp only [cond_true, bI_s]
    rw [q_112_26 (w := k.cs) (f := k.fj)]
    simp (disch := omega) only [k.dat (Ag.rf _), dt, df, zb]
    by_cases w0 : what = 0
    · rw [dt w0, if_pos ⟨hc, by omega, by omega⟩, if_pos w0]
      exact ⟨h, rfl, Sq.rf t h⟩
    · rw [df w0]
      by_cases w1 : what = 1
      · rw [dt w1, if_pos ⟨hc, by omega, by omega⟩, if_neg w0, if_pos w1]
        exact ⟨h, rfl, Sq.rf t h⟩
      · rw [df w1]
        by_cases w2 : what = 2
        · rw [dt w2, if_pos ⟨hc, by omega, by omega⟩, if_neg w0, if_neg w1, if_pos w2]
          exact ⟨h, rfl, Sq.rf t h⟩
        · rw [df w2]
          by_cases w3 : what = 3
          · have hb := k.vm.hr
            have nb := k.vm.nt
            obtain ⟨N, e, g⟩ := c_29 k d (10 * y + x) (h_mi h 172 133) (h_mi h 172 134) (by omega) (by omega)
            rw [dt w3, if_pos ⟨hc, by omega, by omega⟩, if_neg w0, if_neg w1, if_neg w2, e]
            refine ⟨sM h N, ?_, Sq.of g⟩
            simp only [cond_true, cond_false, bI_s]
            rw [q_112_110]
          · rw [df w3, if_neg (by omega)]
            exact ⟨h, rfl, Sq.rf t h⟩
  · rw [bb_nf hc, if_neg (fun z => hc z.1)]
    exact ⟨h, rfl, Sq.rf t h⟩
theorem k_pourer (k : Cu h t E) (d : Nat) (p what : Int) : ∃ h1, ev (d + 1) 113 [vr 100, vi p, vi what] h = some (vi (pourerV (h_mi h) p what), h1) ∧ Sq t h h1 := by
  have pp := k.vm.p
  refine ⟨h, ?_, Sq.rf t h⟩
  rw [v_113, q_113_0 (w := k.cs) (f := k.fj) (ht := k.ht), c_24 _ _ k.fj k.dp, bI_s, q_113_13 (w := k.cs) (f := k.fj)]
  unfold pourerV
  by_cases hc : 0 ≤ p ∧ p < h_mi h 147 2
  · rw [bb_nt hc]
    simp (disch := omega) only [k.dat (Ag.rf _), dt, df, zb]
    by_cases w0 : what = 0
    · rw [dt w0, if_pos ⟨hc, by omega, by omega⟩, if_pos w0]; rfl
    · rw [df w0]
      by_cases w1 : what = 1
      · rw [dt w1, if_pos ⟨hc, by omega, by omega⟩, if_neg w0, if_pos w1]; rfl
      · rw [df w1]
        by_cases w2 : what = 2
        · rw [dt w2, if_pos ⟨hc, by omega, by omega⟩, if_neg w0, if_neg w1, if_pos w2]; rfl
        · rw [df w2]
          by_cases w3 : what = 3
          · rw [dt w3, if_pos ⟨hc, by omega, by omega⟩, if_neg w0, if_neg w1, if_neg w2]; rfl
          · rw [df w3, if_neg (by omega)]; rfl
  · rw [bb_nf hc, if_neg (fun z => hc z.1)]; rfl
theorem k_load (k : Cu h t E) (d : Nat) (l what : Int) : ∃ h1, ev (d + 1) 114 [vr 100, vi l, vi what] h = some (vi (loadV (h_mi h) l what), h1) ∧ Sq t h h1 := by
  have pp := k.vm.l
  refine ⟨h, ?_, Sq.rf t h⟩
  rw [v_114, q_114_0 (w := k.cs) (f := k.fj) (ht := k.ht), c_25 _ _ k.fj k.dl, bI_s, q_114_13 (w := k.cs) (f := k.fj)]
  unfold loadV
  by_cases hc : 0 ≤ l ∧ l < h_mi h 147 3
  · rw [bb_nt hc]
    simp (disch := omega) only [k.dat (Ag.rf _), dt, df, zb]
    by_cases w0 : what = 0
    · rw [dt w0, if_pos ⟨hc, by omega, by omega⟩, if_pos w0]; rfl
    · rw [df w0]
      by_cases w1 : what = 1
      · rw [dt w1, if_pos ⟨hc, by omega, by omega⟩, if_neg w0, if_pos w1]; rfl
      · rw [df w1]
        by_cases w2 : what = 2
        · rw [dt w2, if_pos ⟨hc, by omega, by omega⟩, if_neg w0, if_neg w1, if_pos w2]; rfl
        · rw [df w2]
          by_cases w3 : what = 3
          · rw [dt w3, if_pos ⟨hc, by omega, by omega⟩, if_neg w0, if_neg w1, if_neg w2, c_42 k _ (by omega) (by omega)]
            simp only [cond_true, cond_false, bI_s]
            rw [q_114_77]
            rcases bit01 (h_mi h 172 132) l with z | z <;> rw [z] <;> rfl
          · rw [df w3, if_neg (by omega)]; rfl
  · rw [bb_nf hc, if_neg (fun z => hc z.1)]; rfl
theorem k_thin (k : Cu h t E) (d : Nat) (row : Int) : ∃ h1, ev (d + 2) 119 [vr 100, vi row] h = some (vi (thinV (h_mi h) row), h1) ∧ Sq t h h1 := by
  have rr := k.vm.r
  refine ⟨h, ?_, Sq.rf t h⟩
  rw [v_119, q_119_0 (w := k.cs) (f := k.fj) (ht := k.ht), c_22 _ _ k.fj k.dr, bI_s, q_119_11 (w := k.cs)]
  unfold thinV
  by_cases hc : 0 ≤ row ∧ row < h_mi h 147 1
  · rw [bb_dt hc, if_pos hc, c_50 k d (by omega) (by omega)]
    simp only [cond_false, bI_s]
    rw [q_119_22]
  · rw [bb_df hc, if_neg hc]; rfl
theorem k_sound (k : Cu h t E) (d : Nat) (x y : Int) : ∃ h1, ev (d + 4) 129 [vr 100, vi x, vi y] h = some (vi (soundV (h_mi h) E x y), h1) ∧ Sq t h h1 := by
  have cc := k.vm.c
  have rr := k.vm.r
  rw [v_129, q_129_0 (w := k.cs) (f := k.fj) (ht := k.ht), c_23 _ _ _ k.fj k.dc k.dr, bI_s, q_129_12 (w := k.cs)]
  unfold soundV
  by_cases hc : 0 ≤ x ∧ x < h_mi h 147 0 ∧ 0 ≤ y ∧ y < h_mi h 147 1
  · obtain ⟨N, e, g⟩ := c_53 k d (10 * y + x) (by omega) (by omega)
    refine ⟨sM h N, ?_, Sq.of g⟩
    rw [bb_dt hc, c_141 _ _ _ _ (by omega) (by omega) (by omega) (by omega)]
    simp only [cond_false, bI_s]
    rw [q_129_24 (w := k.cs), e, bI_s, q_129_27]
    by_cases z : h_mi h 148 (10 * y + x).toNat = 1
    · rw [if_pos z, if_neg (fun y => y.2 z)]
    · rw [if_neg z, if_pos ⟨hc, z⟩]
  · refine ⟨h, ?_, Sq.rf t h⟩
    rw [bb_df hc, if_neg (fun z => hc z.1)]; rfl
theorem soV_rr {M N : MM} (g : ∀ a, 145 ≤ a → a ≤ 180 → N a = M a) (E : EE) (c : Int) : soV N E c = soV M E c := by unfold soV fso; rw [g 172 (by omega) (by omega), fcl_ag (g 149 (by omega) (by omega))]
theorem sm10_b (x : Int) : 0 ≤ sm10 x ∧ sm10 x ≤ 9 := by
  have s := i_rem_s x
  unfold sm10
  rw [ia (by omega) (by omega), ir (by omega) (by omega) (by omega) (by omega)]
  omega
theorem l_130 (k : Cu h t E) (d : Nat) {row snd what : Int} (r0 : 0 ≤ row) (r1 : row < 6) (s0 : 0 ≤ snd) (w0 : 0 ≤ what) (w3 : what ≤ 3) : ∀ (n : Nat) (i : Int) (s : I4) (th : Int) (v10 : AV) (N : MM), (h_mi h 147 0 - i).toNat = n → 0 ≤ i → i ≤ h_mi h 147 0 → 0 ≤ s.1 → s.1 ≤ i → -1 ≤ s.2.2.2 → s.2.2.2 < 10 → ((s.2.2.2 = -1 ∧ th = 100) ∨ (0 ≤ s.2.2.2 ∧ th = h_mi h 172 (10 * row + s.2.2.2).toNat)) → Ag (CqA t) (h_mi h) N → ∃ N', run (d + 4) md_130 54 [vr 100, vi row, vi snd, vi what, vi s.2.1, vi s.2.2.1, vi s.1, vi s.2.2.2, vi th, vi i, v10] [] (sM h N) = some (vi (heO what (itr (heF (h_mi h) E row snd) n i s)), sM h N') ∧ Ag (CqA t) (h_mi h) N'
  | 0, i, s, th, v10, N, h1, h2, h3, s1, s2, c1, c2, ht, g => by
    refine ⟨N, ?_, g⟩
    have k1 := k.q g
    rw [q_130_54 (w := k1.cs) (f := k1.fj) (ht := k1.ht), k1.dc, mi_sM, k.rr g 147 (by omega) (by omega), dt (by omega)]
    show _ = some (vi (heO what s), sM h N)
    unfold heO
    by_cases z : s.1 = 0
    · rw [if_pos z, df (by omega)]; rfl
    · rw [if_neg z, dt z]
      by_cases a0 : what = 0
      · rw [if_pos a0, df (by omega)]; rfl
      · rw [if_neg a0, dt a0]
        by_cases a1 : what = 1
        · rw [if_pos a1, df (by omega)]; rfl
        · rw [if_neg a1, dt a1]
          by_cases a2 : what = 2
          · rw [if_pos a2, df (by omega)]; rfl
          · rw [if_neg a2, dt a2]; rfl
  | n + 1, i, s, th, v10, N, h1, h2, h3, s1, s2, c1, c2, ht, g => by
    have cc := k.vm.c
    have k1 := k.qu g
    obtain ⟨N1, e1, g1⟩ := c_53 k1 d (10 * row + i) (by omega) (by omega)
    have r9 := fun a (x : 145 ≤ a) (y : a ≤ 180) => k.rr g a x (by omega)
    rw [mi_sM, sM_sM, soV_rr r9, r9 148 (by omega) (by omega)] at e1
    have g2 := g.tr g1
    have k2 := k.q g2
    have tb := (k.vm.s (c := (10 * row + i).toNat) (by omega)).1
    show ∃ N', _ = some (vi (heO what (itr (heF (h_mi h) E row snd) n (i + 1) (heF (h_mi h) E row snd i s))), _) ∧ _
    by_cases z : h_mi h 148 (10 * row + i).toNat = 1 ∨ soV (h_mi h) E (10 * row + i) ≠ snd
    · have eF : heF (h_mi h) E row snd i s = s := if_pos z
      obtain ⟨N3, e3, g3⟩ := l_130 k d r0 r1 s0 w0 w3 n (i + 1) s th (vi (10 * row + i)) N1 (by omega) (by omega) (by omega) s1 (by omega) c1 c2 ht g2
      refine ⟨N3, ?_, g3⟩
      rw [q_130_54 (w := k1.cs) (f := k1.fj) (ht := k1.ht), Cg.dc k1, mi_sM, k.rr g 147 (by omega) (by omega), df (by omega), c_141 _ _ _ _ (by omega) (by omega) (by omega) (by omega)]
      simp only [cond_false, bI_s]
      rw [q_130_75 (w := k1.cs), e1, bI_s, q_130_86]
      have ne : ¬ (if h_mi h 148 (10 * row + i).toNat = 1 then (-1 : Int) else soV (h_mi h) E (10 * row + i)) = snd := by
        split
        · omega
        · rename_i y; exact z.resolve_left y
      rw [df ne, ia (by omega) (by omega), eF]
      exact e3
    · have z1 : ¬ h_mi h 148 (10 * row + i).toNat = 1 := fun y => z (Or.inl y)
      have z2 : soV (h_mi h) E (10 * row + i) = snd := Decidable.byContradiction (fun y => z (Or.inr y))
      have eF : heF (h_mi h) E row snd i s = (s.1 + 1, (if s.1 = 0 then i else s.2.1), i, (if s.2.2.2 < 0 ∨ h_mi h 172 (10 * row + i).toNat < h_mi h 172 (10 * row + s.2.2.2).toNat then i else s.2.2.2)) := if_neg z
      have go : ∀ N', run (d + 4) md_130 105 [vr 100, vi row, vi snd, vi what, vi s.2.1, vi s.2.2.1, vi s.1, vi s.2.2.2, vi th, vi i, vi (10 * row + i)] [vi (if s.1 = 0 then i else s.2.1)] (sM h N1) = N' → run (d + 4) md_130 54 [vr 100, vi row, vi snd, vi what, vi s.2.1, vi s.2.2.1, vi s.1, vi s.2.2.2, vi th, vi i, v10] [] (sM h N) = N' := fun N' hN => by
        rw [q_130_54 (w := k1.cs) (f := k1.fj) (ht := k1.ht), Cg.dc k1, mi_sM, k.rr g 147 (by omega) (by omega), df (by omega), c_141 _ _ _ _ (by omega) (by omega) (by omega) (by omega)]
        simp only [cond_false, bI_s]
        rw [q_130_75 (w := k1.cs), e1, bI_s, q_130_86, if_neg z1, dt z2, ← hN]
        by_cases y : s.1 = 0
        · rw [if_pos y, df (by omega)]; rfl
        · rw [if_neg y, dt y]; rfl
      have d172 : h_mi (sM h N1) 126 (10 * row + i).toNat = h_mi h 172 (10 * row + i).toNat := (k2.dat (Ag.rf _)).2.2.2.2.2.2.2.2.2.2.2.2.2.1 _ (by omega) (by omega)
      have i1 : ((i, h_mi h 172 (10 * row + i).toNat) : Int × Int) = (i, h_mi h 172 (10 * row + i).toNat) := rfl
      by_cases q : s.2.2.2 < 0 ∨ h_mi h 172 (10 * row + i).toNat < h_mi h 172 (10 * row + s.2.2.2).toNat
      · rw [if_pos q] at eF
        obtain ⟨N3, e3, g3⟩ := l_130 k d r0 r1 s0 w0 w3 n (i + 1) (heF (h_mi h) E row snd i s) (h_mi h 172 (10 * row + i).toNat) (vi (10 * row + i)) N1 (by omega) (by omega) (by omega) (by rw [eF]; show 0 ≤ s.1 + 1; omega) (by rw [eF]; show s.1 + 1 ≤ i + 1; omega) (by rw [eF]; show -1 ≤ i; omega) (by rw [eF]; show i < 10; omega) (by rw [eF]; exact Or.inr ⟨h2, rfl⟩) g2
        refine ⟨N3, go _ ?_, g3⟩
        rw [q_130_105 (w := k2.cs), d172]
        simp (disch := omega) only [dt, df, zb, ia]
        rw [← e3, eF]
      · rw [if_neg q] at eF
        obtain ⟨N3, e3, g3⟩ := l_130 k d r0 r1 s0 w0 w3 n (i + 1) (heF (h_mi h) E row snd i s) th (vi (10 * row + i)) N1 (by omega) (by omega) (by omega) (by rw [eF]; show 0 ≤ s.1 + 1; omega) (by rw [eF]; show s.1 + 1 ≤ i + 1; omega) (by rw [eF]; exact c1) (by rw [eF]; exact c2) (by rw [eF]; exact ht) g2
        refine ⟨N3, go _ ?_, g3⟩
        rw [q_130_105 (w := k2.cs), d172]
        simp (disch := omega) only [dt, df, zb, ia]
        rw [← e3, eF]
theorem k_heard (k : Cu h t E) (d : Nat) (row snd what : Int) : ∃ h1, ev (d + 4) 130 [vr 100, vi row, vi snd, vi what] h = some (vi (heardV (h_mi h) E row snd what), h1) ∧ Sq t h h1 := by
  have rr := k.vm.r
  have cc := k.vm.c
  rw [v_130, q_130_0 (w := k.cs) (f := k.fj) (ht := k.ht), c_22 _ _ k.fj k.dr, bI_s, q_130_11]
  unfold heardV
  by_cases hc : (0 ≤ row ∧ row < h_mi h 147 1) ∧ (0 ≤ snd ∧ snd ≤ 9) ∧ 0 ≤ what ∧ what ≤ 3
  · obtain ⟨N, e, g⟩ := l_130 k d (row := row) (snd := snd) (what := what) (by omega) (by omega) (by omega) (by omega) (by omega) _ 0 (0, -1, -1, -1) 100 vu (h_mi h) rfl (by omega) (by omega) (by show (0 : Int) ≤ 0; omega) (by show (0 : Int) ≤ 0; omega) (by show (-1 : Int) ≤ -1; omega) (by show (-1 : Int) < 10; omega) (Or.inl ⟨rfl, rfl⟩) (Ag.rf _)
    rw [sM_self, Int.sub_zero] at e
    refine ⟨sM h N, ?_, Sq.of g⟩
    rw [bb_dt hc.1, if_pos hc, df (by omega), df (by omega), df (by omega), dt (by omega)]
    exact e
  · rw [if_neg hc]
    refine ⟨h, ?_, Sq.rf t h⟩
    by_cases c1 : 0 ≤ row ∧ row < h_mi h 147 1
    · rw [bb_dt c1]
      by_cases c2 : snd < 0
      · rw [dt c2]; rfl
      · rw [df c2]
        by_cases c3 : 9 < snd
        · rw [dt c3]; rfl
        · rw [df c3]
          by_cases c4 : what < 0
          · rw [dt c4]; rfl
          · rw [df c4, df (by omega)]; rfl
    · rw [bb_df c1]; rfl
theorem k_count (k : Cu h t E) (d : Nat) (what : Int) (hd : h_mi h 130 4 = h_mi h 145 44) (htp : h_mi h 101 1 = h_mi h 145 1) : ∃ h1, ev (d + 1) 139 [vr 100, vi what] h = some (vi (cntV (h_mi h) what), h1) ∧ Sq t h h1 := by
  refine ⟨h, ?_, Sq.rf t h⟩
  rw [v_139, q_139_0 (w := k.cs) (f := k.fj) (ht := k.ht)]
  simp only [k.dat (Ag.rf _), hd, htp]
  unfold cntV
  by_cases hc : 0 ≤ what ∧ what ≤ 12
  · rw [if_pos hc]
    have : what = 0 ∨ what = 1 ∨ what = 2 ∨ what = 3 ∨ what = 4 ∨ what = 5 ∨ what = 6 ∨ what = 7 ∨ what = 8 ∨ what = 9 ∨ what = 10 ∨ what = 11 ∨ what = 12 := by omega
    rcases this with rfl | rfl | rfl | rfl | rfl | rfl | rfl | rfl | rfl | rfl | rfl | rfl | rfl
    · rfl
    · rfl
    · rfl
    · rfl
    · rfl
    · rfl
    · rfl
    · rfl
    · rfl
    · rw [c_51 k d, bI_s, q_139_143]; rfl
    · rfl
    · rfl
    · rfl
  · rw [if_neg hc, df (by omega), df (by omega), df (by omega), df (by omega), df (by omega), df (by omega), df (by omega), df (by omega), df (by omega), df (by omega), df (by omega), df (by omega), df (by omega)]
    rfl
end
