/-! the class: winter -/
theorem lcmp_0 (x y : Int) : 0 ≤ l_cmp x y ↔ y ≤ x := by
  unfold l_cmp
  by_cases a : x > y
  · rw [if_pos a]; constructor <;> intro <;> omega
  · rw [if_neg a]
    by_cases b : x = y
    · rw [if_pos b]; constructor <;> intro <;> omega
    · rw [if_neg b]; constructor <;> intro <;> omega
theorem drG_l {g : Int} (g0 : 0 ≤ g) (g1 : g < 2147483648) : l_rem (l_add (l_mul g 1103515245) 12345) 2147483648 = drG g := by
  rw [lm (by omega) (by omega), la (by omega) (by omega), lr_ (by omega) (by omega) (by omega) (by omega)]
  rfl
theorem drV_l {g : Int} (g0 : 0 ≤ g) (g1 : g < 2147483648) : l_rem (l_div g 65536) 10 = drV g := by
  rw [ld_ (by omega) (by omega) (by omega) (by omega), lr_ (by omega) (by omega) (by omega) (by omega)]
  rfl
section
variable {h : HP} {t : Nat} {E : EE} {S : Nat → Int} {K G : Int → Int → Int}
theorem wG_rr {M N : MM} (h8 : N 148 = M 148) (h9 : N 149 = M 149) (E : EE) (nt md : Int) : wG N E nt md = wG M E nt md := by
  funext r j; unfold wG; exact gmV_ag h9 h8 E r 0 nt md j
theorem wcV_rr {M N : MM} (h8 : N 148 = M 148) (h9 : N 149 = M 149) (E : EE) (G : Int → Int → Int) (th hour nt r j : Int) : wcV N E G th hour nt r j = wcV M E G th hour nt r j := by
  unfold wcV wI; rw [h8, meS_rr h9]
theorem ndV_rr {M N : MM} (h4 : N 154 = M 154) (h5 : N 155 = M 155) (l : Int) : ndV N l = ndV M l := by unfold ndV; rw [h4, h5]
theorem c_102 {nt md : Int} (k : Cu h t E) {N : MM} {y : Nat} (g : Ag (CqA t) (h_mi h) N) (yy : Cy (sM (sR h 134 2 y) N) t E (h_mi h 172) zK (wG (h_mi h) E nt md)) (d : Nat) {m l hour : Int} (l0 : 0 ≤ l) (l1 : l < h_mi h 147 3) (hh : hour ≤ 23) (rn : i3 nt := by first | assumption | (unfold i3; omega) | (unfold i3 at *; omega)) : ∃ N', ev (d + 4) 102 [vr 134, vi l, vi (wB (h_mi h) E nt md m), vi (wT (h_mi h) E nt md m (wB (h_mi h) E nt md m)), vi hour, vi nt] (sM (sR h 134 2 y) N) = some (vi (wiBb (h_mi h) E nt md m hour l), sM (sR h 134 2 y) N') ∧ Ag (CqA t) (h_mi h) N' := by
  have rr := k.vm.r
  have r7 : N 147 = h_mi h 147 := k.rr g _ (by omega) (by omega)
  have r8 : N 148 = h_mi h 148 := k.rr g _ (by omega) (by omega)
  have r9 : N 149 = h_mi h 149 := k.rr g _ (by omega) (by omega)
  have r4 : N 154 = h_mi h 154 := k.rr g _ (by omega) (by omega)
  have r5 : N 155 = h_mi h 155 := k.rr g _ (by omega) (by omega)
  have b := beS_b (wT (h_mi h) E nt md m) (wP (h_mi h) E nt md m) rr.1
  have tb : 0 ≤ wT (h_mi h) E nt md m (wB (h_mi h) E nt md m) ∧ wT (h_mi h) E nt md m (wB (h_mi h) E nt md m) ≤ 99 := thV_b _ _ _ _
  have nb := ndV_b k.vm l0 l1
  obtain ⟨N', bb_, e, g', hb⟩ := l_102 yy d (l := l) (r := wB (h_mi h) E nt md m) (th := wT (h_mi h) E nt md m (wB (h_mi h) E nt md m)) (hour := hour) (nt := nt) l0 (by rw [mi_sM, r7]; exact l1) b.1 (by rw [mi_sM, r7]; exact b.2.1) tb.1 tb.2 hh rn _ 0 vu vu vu N rfl (by omega) (by rw [mi_sM, r7]; have := k.vm.c; omega) (Ag.rf _)
  rw [mi_sM] at hb
  rw [sM_sM, sM_sM] at e
  rw [mi_sM] at g'
  refine ⟨N', ?_, g.tr (g'.up FsA_q)⟩
  have eb : bb_ = wiBb (h_mi h) E nt md m hour l := by
    have iff : ndV (h_mi h) l ≤ lo (fun k => wmV (h_mi h) E nt md m hour k) (h_mi h 147 0) ↔ ∀ j, 0 ≤ j → j < h_mi h 147 0 → ndV (h_mi h) l ≤ wcV (h_mi h) E (wG (h_mi h) E nt md) (wT (h_mi h) E nt md m (wB (h_mi h) E nt md m)) hour nt (wB (h_mi h) E nt md m) j := by
      rw [lo_ge_iff]
      constructor
      · rintro ⟨_, q⟩ j j0 j1
        have := q j j0 j1
        have et : ((j.toNat : Nat) : Int) = j := by omega
        simp only [et] at this
        exact this
      · intro q
        refine ⟨by omega, fun j j0 j1 => ?_⟩
        have et : ((j.toNat : Nat) : Int) = j := by omega
        simp only [et]
        exact q j j0 j1
    unfold wiBb
    rcases hb with ⟨q1, q2⟩ | ⟨q1, j, j0, j1, j2⟩
    · rw [q1, if_pos ⟨l0, iff.mpr (fun j j0 j1 => by
        have := q2 j j0 (by rw [r7]; exact j1)
        rw [ndV_rr r4 r5, wcV_rr r8 r9] at this
        exact this)⟩]
    · rw [q1, if_neg]
      rintro ⟨_, q⟩
      rw [r7] at j1
      rw [ndV_rr r4 r5, wcV_rr r8 r9] at j2
      exact j2 (iff.mp q j j0 j1)
  rw [v_102, q_102_0, e, eb]
theorem l_137 (k : Cu h t E) (d : Nat) {seed nights load hour : Int} (hh : hour ≤ 23) (ld : load = -1 ∨ (0 ≤ load ∧ load < h_mi h 147 3)) (n1 : nights ≤ 60) : ∀ (n : Nat) (i : Int) (s : Int × Int × Int) (N : MM) (y : Nat) (v12 v13 v14 v15 : AV), (nights - i).toNat = n → 0 ≤ i → i ≤ nights → (0 ≤ s.1 ∧ s.1 ≤ i) → (0 ≤ s.2.2 ∧ s.2.2 < 2147483648) → Ag (CqA t) (h_mi h) N → ∃ N' y', run (d + 6) md_137 98 [vr 100, vi seed, vi nights, vi load, vi hour, vi 1, vi 1, vl s.2.2, vu, vi s.1, vi s.2.1, vi i, v12, v13, v14, v15] [] (sM (sR h 134 2 y) N) = some (vi (if 0 ≤ load then (itr (wiF (h_mi h) E (paS (h_mi h)) load hour) n i s).1 else (itr (wiF (h_mi h) E (paS (h_mi h)) load hour) n i s).2.1), sM (sR h 134 2 y') N') ∧ Ag (CqA t) (h_mi h) N'
  | 0, i, s, N, y, v12, v13, v14, v15, h1, h2, h3, s1, s2, g => by
    have kc := (Cg.y k y).q g
    refine ⟨N, y, ?_, g⟩
    rw [q_137_98 (w := kc.cs) (f := kc.fj) (ht := kc.ht), dt (by omega)]
    show _ = some (vi (if 0 ≤ load then s.1 else s.2.1), _)
    by_cases z : load = -1
    · rw [df (by omega), if_neg (by omega)]; rfl
    · rw [dt z, if_pos (by omega)]; rfl
  | n + 1, i, s, N, y, v12, v13, v14, v15, h1, h2, h3, s1, s2, g => by
    have rr := k.vm.r
    have nb := k.vm.nt
    have kc := (Cg.y k y).q g
    have gb := drG_b s.2.2
    have r4 : h_mi (sM (sR h 134 2 y) N) t 14 = h_mi h 147 4 := by
      rw [(kc.dat (Ag.rf _)).2.2.2.2.1]; exact congrFun (k.rr g 147 (by omega) (by omega)) 4
    have r7 : h_mi (sM (sR h 134 2 y) N) 106 7 = h_mi h 172 134 := (kc.dat (Ag.rf _)).2.2.2.2.2.2.2.2.2.2.2.2.2.2.2.2.2.2.2.1
    -- the night that was drawn
    have st : run (d + 6) md_137 98 [vr 100, vi seed, vi nights, vi load, vi hour, vi 1, vi 1, vl s.2.2, vu, vi s.1, vi s.2.1, vi i, v12, v13, v14, v15] [] (sM (sR h 134 2 y) N) = run (d + 6) md_137 150 [vr 100, vi seed, vi nights, vi load, vi hour, vi 1, vi 1, vl (drG s.2.2), vu, vi s.1, vi s.2.1, vi i, v12, v13, v14, v15] [vi (mdV (h_mi h) (drG s.2.2))] (sM (sR h 134 2 y) N) := by
      rw [q_137_98 (w := kc.cs) (f := kc.fj) (ht := kc.ht), df (by omega), r4, drG_l s2.1 s2.2, drV_l gb.1 gb.2]
      unfold mdV
      by_cases z : drV (drG s.2.2) < h_mi h 147 4
      · rw [df (show ¬ 0 ≤ l_cmp (drV (drG s.2.2)) (h_mi h 147 4) from fun q => by rw [lcmp_0] at q; omega), if_pos z]; rfl
      · rw [dt ((lcmp_0 _ _).mpr (by omega)), if_neg z]; rfl
    have hmd : mdV (h_mi h) (drG s.2.2) = 0 ∨ mdV (h_mi h) (drG s.2.2) = 1 := by unfold mdV; split <;> omega
    generalize hmde : mdV (h_mi h) (drG s.2.2) = md at st hmd
    generalize hnt : h_mi h 172 134 + i = nt
    obtain ⟨N1, e1, g1, y1⟩ := c_95 kc d nt md hmd
    rw [sR_R, sM_sM] at e1 y1
    rw [mi_sM] at g1 y1
    have ga := g.tr g1
    have q8 : N 148 = h_mi h 148 := k.rr g _ (by omega) (by omega)
    have q9 : N 149 = h_mi h 149 := k.rr g _ (by omega) (by omega)
    rw [wG_rr q8 q9] at y1
    have a7 : N1 147 = h_mi h 147 := k.rr ga _ (by omega) (by omega)
    have a8 : N1 148 = h_mi h 148 := k.rr ga _ (by omega) (by omega)
    have a3 : N1 153 = h_mi h 153 := k.rr ga _ (by omega) (by omega)
    have c27 := c_27 y1.1 (d + 5)
    have ep : paS (h_mi (sM (sR h 134 2 t) N1)) = paS (h_mi h) := by unfold paS; rw [mi_sM, a7, a3]
    rw [ep] at c27
    have c101 := c_101 y1 (d + 2) (paS (h_mi h))
    rw [mi_sM, yT_rr a8 a7, yP_rr a8 a7, a7] at c101
    have c101 : ev (d + 5) 101 [vr 134, vi (paS (h_mi h))] (sM (sR h 134 2 t) N1) = some (vi (wB (h_mi h) E nt md (paS (h_mi h))), sM (sR h 134 2 t) N1) := c101
    have b := beS_b (wT (h_mi h) E nt md (paS (h_mi h))) (wP (h_mi h) E nt md (paS (h_mi h))) rr.1
    have c100 := c_100 y1 (d + 3) (r := wB (h_mi h) E nt md (paS (h_mi h))) (m := paS (h_mi h)) b.1 (by rw [mi_sM, a7]; exact b.2.1)
    rw [mi_sM, yI_rr a8, a7] at c100
    have c100 : ev (d + 5) 100 [vr 134, vi (wB (h_mi h) E nt md (paS (h_mi h))), vi (paS (h_mi h))] (sM (sR h 134 2 t) N1) = some (vi (wT (h_mi h) E nt md (paS (h_mi h)) (wB (h_mi h) E nt md (paS (h_mi h)))), sM (sR h 134 2 t) N1) := c100
    have eF : wiF (h_mi h) E (paS (h_mi h)) load hour i s = (s.1 + wiBb (h_mi h) E nt md (paS (h_mi h)) hour load, max s.2.1 (wT (h_mi h) E nt md (paS (h_mi h)) (wB (h_mi h) E nt md (paS (h_mi h)))), drG s.2.2) := by
      unfold wiF; rw [hmde, hnt]
    show ∃ N' y', _ = some (vi (if 0 ≤ load then (itr (wiF (h_mi h) E (paS (h_mi h)) load hour) n (i + 1) (wiF (h_mi h) E (paS (h_mi h)) load hour i s)).1 else (itr (wiF (h_mi h) E (paS (h_mi h)) load hour) n (i + 1) (wiF (h_mi h) E (paS (h_mi h)) load hour i s)).2.1), sM (sR h 134 2 y') N') ∧ _
    rw [st, q_137_150 (w := kc.cs) (ht := kc.ht), r7, ia (by omega) (by omega), hnt, e1, bV_s, q_137_182 (w := y1.cs) (f := y1.fj) (ht := y1.ht), c27, bI_s, q_137_196 (w := y1.cs), c101, bI_s, q_137_199 (w := y1.cs) (f := y1.fj) (ht := y1.ht), c27, bI_s, q_137_217 (w := y1.cs), c100, bI_s, q_137_220 (w := y1.cs)]
    rcases ld with z | ⟨z0, z1⟩
    · have wz : wiBb (h_mi h) E nt md (paS (h_mi h)) hour load = 0 := by unfold wiBb; rw [if_neg (by omega)]
      rw [dt z, ia (by omega) (by omega)]
      simp only [cond_true]
      obtain ⟨N2, y2, e2, g2⟩ := l_137 k d (seed := seed) (load := load) hh (Or.inl z) n1 n (i + 1) (wiF (h_mi h) E (paS (h_mi h)) load hour i s) N1 t (vi md) (vi nt) (vi (wB (h_mi h) E nt md (paS (h_mi h)))) (vi (wT (h_mi h) E nt md (paS (h_mi h)) (wB (h_mi h) E nt md (paS (h_mi h))))) (by omega) (by omega) (by omega) (by rw [eF, wz]; show 0 ≤ s.1 + 0 ∧ s.1 + 0 ≤ i + 1; omega) (by rw [eF]; exact gb) ga
      refine ⟨N2, y2, ?_, g2⟩
      rw [← e2, eF, wz]
      show run _ _ _ _ _ _ = run (d + 6) md_137 98 [vr 100, vi seed, vi nights, vi load, vi hour, vi 1, vi 1, vl (drG s.2.2), vu, vi (s.1 + 0), _, _, _, _, _, _] [] _
      rw [Int.add_zero]
    · obtain ⟨N2, e2, g2⟩ := c_102 k ga y1 (d + 1) (m := paS (h_mi h)) (l := load) (hour := hour) z0 z1 hh
      have wb01 : wiBb (h_mi h) E nt md (paS (h_mi h)) hour load = 0 ∨ wiBb (h_mi h) E nt md (paS (h_mi h)) hour load = 1 := by unfold wiBb; split <;> omega
      rw [df (by omega), e2]
      simp only [cond_false, bI_s]
      rw [q_137_252]
      obtain ⟨N3, y3, e3, g3⟩ := l_137 k d (seed := seed) (load := load) hh (Or.inr ⟨z0, z1⟩) n1 n (i + 1) (wiF (h_mi h) E (paS (h_mi h)) load hour i s) N2 t (vi md) (vi nt) (vi (wB (h_mi h) E nt md (paS (h_mi h)))) (vi (wT (h_mi h) E nt md (paS (h_mi h)) (wB (h_mi h) E nt md (paS (h_mi h))))) (by omega) (by omega) (by omega) (by rw [eF]; show 0 ≤ s.1 + wiBb (h_mi h) E nt md (paS (h_mi h)) hour load ∧ s.1 + wiBb (h_mi h) E nt md (paS (h_mi h)) hour load ≤ i + 1; omega) (by rw [eF]; exact gb) g2
      refine ⟨N3, y3, ?_, g3⟩
      rw [← e3, eF]
      show _ = run (d + 6) md_137 98 [vr 100, vi seed, vi nights, vi load, vi hour, vi 1, vi 1, vl (drG s.2.2), vu, vi (s.1 + wiBb (h_mi h) E nt md (paS (h_mi h)) hour load), _, _, _, _, _, _] [] _
      rcases wb01 with x | x
      · rw [x, dt rfl, ia (by omega) (by omega), Int.add_zero]; rfl
      · rw [x, df (by omega), ia (x := s.1) (by omega) (by omega), ia (x := i) (by omega) (by omega)]; rfl
theorem k_winter (k : Cu h t E) (d : Nat) (seed nights load hour : Int) : (wiOk (h_mi h) seed nights load hour → ∃ h1, ev (d + 6) 137 [vr 100, vi seed, vi nights, vi load, vi hour] h = some (vi (winterV (h_mi h) E seed nights load hour), h1) ∧ Sq t h h1) ∧ (¬ wiOk (h_mi h) seed nights load hour → ev (d + 6) 137 [vr 100, vi seed, vi nights, vi load, vi hour] h = some (vu, exH h)) := by
  have a1 : run (d + 6) md_137 0 [vr 100, vi seed, vi nights, vi load, vi hour, vu, vu, vu, vu, vu, vu, vu, vu, vu, vu, vu] [] h = run (d + 6) md_137 27 [vr 100, vi seed, vi nights, vi load, vi hour, vu, vu, vu, vu, vu, vu, vu, vu, vu, vu, vu] [vi (bb ((0 ≤ seed ∧ seed ≤ 9999) ∧ 1 ≤ nights ∧ nights ≤ 60))] h := by
    rw [q_137_0]
    by_cases c1 : seed < 0
    · rw [dt c1, bb_f (by omega)]; rfl
    · rw [df c1]
      by_cases c2 : 9999 < seed
      · rw [dt c2, bb_f (by omega)]; rfl
      · rw [df c2]
        by_cases c3 : nights < 1
        · rw [dt c3, bb_f (by omega)]; rfl
        · rw [df c3]
          by_cases c4 : 60 < nights
          · rw [dt c4, bb_f (by omega)]; rfl
          · rw [df c4, bb_t (by omega)]; rfl
  have a2 : ∀ b : Int, run (d + 6) md_137 27 [vr 100, vi seed, vi nights, vi load, vi hour, vu, vu, vu, vu, vu, vu, vu, vu, vu, vu, vu] [vi b] h = run (d + 6) md_137 65 [vr 100, vi seed, vi nights, vi load, vi hour, vi b, vu, vu, vu, vu, vu, vu, vu, vu, vu, vu] [vi (bb ((load = -1 ∨ (0 ≤ load ∧ load < h_mi h 147 3)) ∧ 0 ≤ hour ∧ hour ≤ 23))] h := fun b => by
    rw [q_137_27 (w := k.cs) (f := k.fj) (ht := k.ht)]
    by_cases c1 : load = -1
    · rw [dt c1]
      by_cases c3 : hour < 0
      · rw [dt c3, bb_f (by omega)]; rfl
      · rw [df c3]
        by_cases c4 : 24 ≤ hour
        · rw [dt c4, bb_f (by omega)]; rfl
        · rw [df c4, bb_t (by omega)]; rfl
    · rw [df c1, c_25 _ _ k.fj k.dl]
      simp only [cond_false, bI_s]
      rw [q_137_45]
      by_cases c2 : 0 ≤ load ∧ load < h_mi h 147 3
      · rw [bb_dt c2]
        by_cases c3 : hour < 0
        · rw [dt c3, bb_f (by omega)]; rfl
        · rw [df c3]
          by_cases c4 : 24 ≤ hour
          · rw [dt c4, bb_f (by omega)]; rfl
          · rw [df c4, bb_t (by omega)]; rfl
      · rw [bb_df c2, bb_f (by omega)]; rfl
  rw [v_137, a1, a2, q_137_65]
  unfold wiOk
  by_cases c1 : (0 ≤ seed ∧ seed ≤ 9999) ∧ 1 ≤ nights ∧ nights ≤ 60
  · rw [bb_dt c1]
    by_cases c2 : (load = -1 ∨ (0 ≤ load ∧ load < h_mi h 147 3)) ∧ 0 ≤ hour ∧ hour ≤ 23
    · rw [bb_nt c2, bb_t c1, bb_t c2]
      refine ⟨fun _ => ?_, fun q => absurd ⟨c1.1, c1.2, c2⟩ q⟩
      obtain ⟨N, y, e, g⟩ := l_137 k d (seed := seed) (load := load) c2.2.2 c2.1 c1.2.2 _ 0 (0, 0, seed) (h_mi h) (h_mr h 134 2) vu vu vu vu rfl (by omega) (by omega) ⟨by show (0 : Int) ≤ 0; omega, by show (0 : Int) ≤ 0; omega⟩ ⟨c1.1.1, by show seed < 2147483648; omega⟩ (Ag.rf _)
      rw [sR_self, sM_self, Int.sub_zero] at e
      exact ⟨_, e, Sq.ofy g y⟩
    · rw [bb_nf c2]
      exact ⟨fun q => absurd q.2.2 c2, fun _ => rfl⟩
  · rw [bb_df c1]
    exact ⟨fun q => absurd ⟨q.1, q.2.1⟩ c1, fun _ => rfl⟩
end
