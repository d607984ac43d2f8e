/-! the reference: count, toll -/
def cntV (M : MM) (what : Int) : Int := if 0 ≤ what ∧ what ≤ 12 then (if what < 4 then M 147 what.toNat else if what < 9 then M 172 (129 + what).toNat else if what = 9 then sm (fun c => M 172 c.toNat) 60 else if what = 10 then M 145 44 else if what = 11 then M 147 4 else M 145 1) else -1
theorem l_252 {h : HP} (w : RSk h) (hS : C99 (h_mi h 172)) (d : Nat) : ∀ (k : Nat) (i a : Int), (60 - i).toNat = k → 0 ≤ i → i ≤ 60 → 0 ≤ a → a ≤ i * 99 → run (d + 1) md_252 52 [vr 145, vi 9, vi a, vi i] [] h = run (d + 1) md_252 79 [vr 145, vi 9, vi (itr (fun k a => a + h_mi h 172 k.toNat) k i a), vi 60] [] h
  | 0, i, a, h1, h2, h3, a0, a1 => by
    have : i = 60 := by omega
    subst this
    rw [q_252_52 d 9 a _ h w, dt (by omega)]; rfl
  | k + 1, i, a, h1, h2, h3, a0, a1 => by
    have b := hS i.toNat (by omega)
    rw [q_252_52 d 9 a i h w]
    simp (disch := omega) only [mi_sM, sI_sM, sRi_sM, isK_sM, inb_sM, ln_sM, mr_sM, ml_sM, dt, df, ia, is_, zb, bI_s, bV_s, bR_s]
    exact l_252 w hS d k (i + 1) _ (by omega) (by omega) (by omega) (by omega) (by omega)
theorem r_count {E : EE} (d : Nat) (what : Int) (h : HP) (w : RSk h) (v : VM (h_mi h) E) : ∃ N, ev (d + 1) 252 [vr 145, vi what] h = some (vi (cntV (h_mi h) what), sM h N) ∧ QA (h_mi h) N := by
  have q0 : QA (h_mi h) (up2 (h_mi h) 145 0 0) := QA.f 0 0 (by omega) (by omega)
  have e0 : ∀ a, a ≠ 145 → (up2 (h_mi h) 145 0 0) a = h_mi h a := fun a ha => u2_ne _ _ _ ha
  refine ⟨_, ?_, q0⟩
  rw [v_252, q_252_0 d what h w, sI_h, m_148, bI_s, q_252_12 d what _ _ (w.m _), mi_sM, e0 147 (by omega), e0 172 (by omega)]
  unfold cntV
  have j : ∀ a i, run (d + 1) md_252 79 [vr 145, vi what, vi a, vi i] [] (sM h (up2 (h_mi h) 145 0 0)) = some (vi (if what = 9 then a else if what = 10 then h_mi h 145 44 else if what = 11 then h_mi h 147 4 else h_mi h 145 1), sM h (up2 (h_mi h) 145 0 0)) := fun a i => by
    rw [q_252_79 d what _ _ _ (w.m _), mi_sM, e0 147 (by omega), u2_no _ _ _ (by omega), u2_no _ _ _ (by omega)]
    by_cases c9 : what = 9
    · rw [df (by omega), if_pos c9]; rfl
    · rw [dt c9, if_neg c9]
      by_cases c10 : what = 10
      · rw [df (by omega), if_pos c10]; rfl
      · rw [dt c10, if_neg c10]
        by_cases c11 : what = 11
        · rw [df (by omega), if_pos c11]; rfl
        · rw [dt c11, if_neg c11]; rfl
  by_cases c : 0 ≤ what ∧ what ≤ 12
  · rw [bb_nt c, if_pos c]
    by_cases c1 : what < 4
    · rw [if_pos c1, df (by omega)]
      simp (disch := omega) only [mi_sM, sI_sM, sRi_sM, isK_sM, inb_sM, ln_sM, mr_sM, ml_sM, dt, df, ia, is_, zb, bI_s, bV_s, bR_s]
    · rw [if_neg c1, dt (by omega)]
      by_cases c2 : what < 9
      · rw [if_pos c2, df (by omega)]
        simp (disch := omega) only [mi_sM, sI_sM, sRi_sM, isK_sM, inb_sM, ln_sM, mr_sM, ml_sM, dt, df, ia, is_, zb, bI_s, bV_s, bR_s]
        rw [show (133 + what - 4).toNat = (129 + what).toNat by omega]
      · rw [if_neg c2, dt (by omega)]
        simp only [zb]
        by_cases c3 : what = 9
        · have l := l_252 (h := sM h (up2 (h_mi h) 145 0 0)) w (by rw [mi_sM, e0 172 (by omega)]; exact v.2.1.c99) d 60 0 0 rfl (by omega) (by omega) (by omega) (by omega)
          rw [← c3] at l
          rw [l, j, if_pos c3, if_pos c3, mi_sM, e0 172 (by omega)]
          rfl
        · rw [q_252_52 d what _ _ _ (w.m _), df (p := (60 : Int) ≤ 0) (by omega), dt c3]
          simp only [zb]
          rw [j, if_neg c3, if_neg c3]
  · rw [bb_nf c, if_neg c]; rfl
/-- toll of a cell that is worn by x -/
def tlV (x g : Int) : Int := if x = 0 then 0 else if g = 0 then 100000 else (x + g - 1) / g
theorem tlV_b {x g : Int} (x0 : 0 ≤ x) (x1 : x ≤ 3) (g0 : 0 ≤ g) : 0 ≤ tlV x g ∧ tlV x g ≤ 100000 := by
  unfold tlV
  split
  · omega
  · split
    · omega
    · refine ⟨Int.ediv_nonneg (by omega) (by omega), ?_⟩
      have h9 : (x + g - 1) / g ≤ x := by
        refine Int.le_of_lt_add_one (Int.ediv_lt_of_lt_mul (by omega) ?_)
        rw [Int.add_mul]
        have : x * 1 ≤ x * g := Int.mul_le_mul_of_nonneg_left (by omega) (by omega)
        omega
      omega
def tlW (M : MM) (l row k : Int) : Int := if 99 < seeG M row k then 0 else min (seeG M row k) (weV M l)
def tlP (M : MM) (E : EE) (l row k : Int) : Int := tlV (tlW M l row k) (grV M E (10 * row + k) (M 172 133) (M 172 134))
theorem l_232 {h : HP} {M : MM} {E : EE} (w : RSk h) (v : VM M E) {l row : Int} (l0 : 0 ≤ l) (l1 : l < M 147 3) (r0 : 0 ≤ row) (r1 : row < 6) (d : Nat) : ∀ (k : Nat) (i a : Int) (v6 v7 : AV) (N : MM), (M 147 0 - i).toNat = k → 0 ≤ i → i ≤ M 147 0 → 0 ≤ a → a ≤ i * 100000 → QA M N → (∀ j : Int, 0 ≤ j → j < M 147 0 → N 176 j.toNat = seeG M row j) → ∃ N', run (d + 7) md_232 93 [vr 145, vi l, vi row, vi 1, vi a, vi i, v6, v7] [] (sM h N) = some (vi (if itr (fun k a => a + tlP M E l row k) k i a < 100000 then itr (fun k a => a + tlP M E l row k) k i a else 99), sM h N') ∧ QA M N' ∧ N' 145 0 = N 145 0
  | 0, i, a, v6, v7, N, h1, h2, h3, a0, a1, q, hI => by
    refine ⟨N, ?_, q, rfl⟩
    rw [q_232_93 (d + 6) l row 1 a i v6 v7 _ (w.m N), mi_sM, q.e (a := 147) (nR (by omega) (by omega)), dt (by omega)]
    show _ = some (vi (if a < 100000 then a else 99), sM h N)
    by_cases c : 100000 ≤ a
    · rw [dt c, if_neg (by omega)]; rfl
    · rw [df c, if_pos (by omega)]; rfl
  | k + 1, i, a, v6, v7, N, h1, h2, h3, a0, a1, q, hI => by
    have hc := v.c
    have hl := v.l
    have wb := weV_b M l
    have sb := seeG_b v r0 r1 h2 (by omega)
    have gb := grV_b M E (10 * row + i) (M 172 133) (M 172 134)
    have xb : 0 ≤ tlW M l row i ∧ tlW M l row i ≤ 3 := by unfold tlW; split <;> omega
    have tb := tlV_b xb.1 xb.2 gb.1
    obtain ⟨N1, e1, g1⟩ := m_193 (E := E) d (10 * row + i) (sM h N) w (q.vm v) (by omega) (by omega)
    rw [mi_sM, grV_ag (q.e (nR (by omega) (by omega))) (q.e (nR (by omega) (by omega))), q.e (a := 172) (nR (by omega) (by omega)), sM_sM] at e1
    rw [mi_sM] at g1
    have q1 := q.tr (QA.of g1 LwA_q)
    obtain ⟨N2, e2, q2, f2⟩ := l_232 w v l0 l1 r0 r1 d k (i + 1) (a + tlP M E l row i) (vi (tlW M l row i)) (vi (grV M E (10 * row + i) (M 172 133) (M 172 134))) N1 (by omega) (by omega) (by omega) (by unfold tlP; omega) (by unfold tlP; omega) q1 (fun j j0 j1 => by rw [g1 176 (by unfold LwA; omega)]; exact hI j j0 j1)
    refine ⟨N2, ?_, q2, by rw [f2, g1 145 (by unfold LwA; omega)]⟩
    have j : ∀ v6', run (d + 6 + 1) md_232 148 [vr 145, vi l, vi row, vi 1, vi a, vi i, vi (tlW M l row i), v6'] [vi (grV M E (10 * row + i) (M 172 133) (M 172 134))] (sM h N1) = run (d + 7) md_232 93 [vr 145, vi l, vi row, vi 1, vi (a + tlP M E l row i), vi (i + 1), vi (tlW M l row i), vi (grV M E (10 * row + i) (M 172 133) (M 172 134))] [] (sM h N1) := fun v6' => by
      have tb' : 0 ≤ tlP M E l row i ∧ tlP M E l row i ≤ 100000 := tb
      rw [q_232_148, ia (x := i) (by omega) (by omega)]
      unfold tlP tlV at tb' ⊢
      by_cases z1 : tlW M l row i = 0
      · rw [if_pos z1, df (by omega), ia (x := a) (y := 0) (by omega) (by omega)]; rfl
      · rw [if_neg z1] at tb' ⊢
        rw [dt z1]
        by_cases z2 : grV M E (10 * row + i) (M 172 133) (M 172 134) = 0
        · rw [if_pos z2, df (by omega), ia (x := a) (y := 100000) (by omega) (by omega)]; rfl
        · rw [if_neg z2] at tb' ⊢
          rw [dt z2, ia (x := tlW M l row i) (by omega) (by omega), is_ (by omega) (by omega), id_ (by omega) (by omega) (by omega) (by omega), ia (by omega) (by omega)]; rfl
    have e197 : ev (d + 6) 197 [vr 145, vi l] (sM h N) = some (vi (weV M l), sM h N) := by
      rw [m_197 (d + 6) l (sM h N) w l0 (by omega), mi_sM, q.e (a := 154) (nR (by omega) (by omega))]; rfl
    rw [q_232_93 (d + 6) l row 1 a i v6 v7 _ (w.m N), mi_sM, q.e (a := 147) (nR (by omega) (by omega)), hI i h2 (by omega)]
    simp (disch := omega) only [mi_sM, sI_sM, sRi_sM, isK_sM, inb_sM, ln_sM, mr_sM, ml_sM, dt, df, ia, is_, zb, bI_s, bV_s, bR_s, im]
    rw [e197, e1]
    simp only [bI_s]
    rw [q_232_132 (d + 6) l row 1 a i v6 v7 _ _ _ (w.m N), im (by omega) (by omega), ia (x := 10 * row) (by omega) (by omega), e1]
    simp only [bI_s]
    by_cases c : seeG M row i ≤ 99
    · have ew : min (seeG M row i) (weV M l) = tlW M l row i := by unfold tlW; rw [if_neg (by omega)]
      rw [dt c, ew]
      simp only [zb]
      rw [j]; exact e2
    · have ew : tlW M l row i = 0 := by unfold tlW; rw [if_pos (by omega)]
      have j' := j v7
      rw [ew] at j' e2
      rw [df c]
      simp only [zb]
      rw [j']; exact e2
def tollOk (M : MM) (l row : Int) : Prop := (0 ≤ l ∧ l < M 147 3) ∧ (0 ≤ row ∧ row < M 147 1) ∧ bit (M 172 132) l = 0 ∧ ndV M l ≤ tnV M row
def tollV (M : MM) (E : EE) (l row : Int) : Int := if sm (tlP M E l row) (M 147 0) < 100000 then sm (tlP M E l row) (M 147 0) else 99
theorem r_toll {E : EE} (d : Nat) (l row : Int) (h : HP) (w : RSk h) (v : VM (h_mi h) E) : (tollOk (h_mi h) l row → ∃ N, ev (d + 7) 232 [vr 145, vi l, vi row] h = some (vi (tollV (h_mi h) E l row), sM h N) ∧ QA (h_mi h) N ∧ N 145 0 = 0) ∧ (¬ tollOk (h_mi h) l row → ∃ N, ev (d + 7) 232 [vr 145, vi l, vi row] h = some (vi 0, sM h N) ∧ QA (h_mi h) N ∧ N 145 0 = 1) := by
  have hc := v.c
  have hr := v.r
  have hl := v.l
  have ho := v.ov
  have bad : ∀ N, QA (h_mi h) N → run (d + 7) md_232 46 [vr 145, vi l, vi row, vi 0, vu, vu, vu, vu] [] (sM h N) = some (vi 0, sM h (up2 N 145 0 1)) := fun N q => by
    rw [q_232_46 (d + 6) l row 0 _ (w.m N), dt (by omega)]
    simp only [zb]
    rw [q_232_63 (d + 6) l row 0 0 _ (w.m N), dt (by omega)]; rfl
  have fin : ∀ N, QA (h_mi h) N → QA (h_mi h) (up2 N 145 0 1) ∧ (up2 N 145 0 1) 145 0 = 1 := fun N q => ⟨q.tr (QA.f 0 1 (by omega) (by omega)), u2_at _ _ _ _⟩
  rw [v_232, q_232_0 (d + 6) l row h w, m_188 _ _ _ w, bI_s, q_232_5 (d + 6) l row _ _ w]
  by_cases c1 : 0 ≤ l ∧ l < h_mi h 147 3
  · rw [bb_dt c1, m_185 _ _ _ w]
    simp only [zb, bI_s]
    rw [q_232_13 (d + 6) l row _ _ w]
    by_cases c2 : 0 ≤ row ∧ row < h_mi h 147 1
    · rw [bb_dt c2, bitI ho.1 (by omega) c1.1 (by omega)]
      by_cases c3 : bit (h_mi h 172 132) l = 0
      · rw [df (p := bit (h_mi h 172 132) l ≠ 0) (by omega), m_202 _ row h w (by omega) (by omega) c2.1 (by omega)]
        simp only [zb, bV_s]
        have b := (v.ld (l := l.toNat) (by omega)).2.1
        have q1 : QA (h_mi h) (va_up (h_mi h) 176 (seeR (h_mi h) row)) := QA.row _ (by unfold RsA; omega) (by omega)
        have ne : ∀ a, a ≠ 176 → (va_up (h_mi h) 176 (seeR (h_mi h) row)) a = h_mi h a := fun a ha => up_ne _ _ ha
        have eb := m_204 (d + 5) l (sM h (va_up (h_mi h) 176 (seeR (h_mi h) row))) w (by rw [mi_sM, ne 147 (by omega)]; omega) (by rw [mi_sM, ne 147 (by omega)]; omega) c1.1 (by omega) (by rw [mi_sM, ne 155 (by omega)]; omega) (by rw [mi_sM, ne 155 (by omega)]; omega)
        rw [mi_sM, ne 147 (by omega), ne 154 (by omega), ne 155 (by omega), up_eq, lo_see] at eb
        rw [q_232_46 (d + 6) l row 1 _ (w.m _), df (by omega), eb]
        simp only [zb, bI_s]
        rw [q_232_55]
        by_cases c4 : ndV (h_mi h) l ≤ tnV (h_mi h) row
        · have c4' : needK (h_mi h 154 l.toNat) (h_mi h 155 l.toNat) ≤ tnV (h_mi h) row := c4
          refine ⟨fun _ => ?_, fun z => absurd ⟨c1, c2, c3, c4⟩ z⟩
          rw [bb_dt c4']
          simp only [zb]
          rw [q_232_63 (d + 6) l row 1 1 _ (w.m _), df (by omega)]
          simp only [zb, sI_sM]
          have q2 := q1.tr (QA.f (M := va_up (h_mi h) 176 (seeR (h_mi h) row)) 0 0 (by omega) (by omega))
          obtain ⟨N, e1, q3, f3⟩ := l_232 (h := h) w v (l := l) (row := row) c1.1 c1.2 c2.1 (by omega) d _ 0 0 vu vu (up2 (va_up (h_mi h) 176 (seeR (h_mi h) row)) 145 0 0) rfl (by omega) (by omega) (by omega) (by omega) q2 (fun j j0 j1 => by rw [u2_ne _ _ _ (by omega), up_eq, seeR_at j0 j1])
          rw [Int.sub_zero] at e1
          exact ⟨N, e1, q3, by rw [f3, u2_at]⟩
        · have c4' : ¬ needK (h_mi h 154 l.toNat) (h_mi h 155 l.toNat) ≤ tnV (h_mi h) row := c4
          refine ⟨fun z => absurd z.2.2.2 c4, fun _ => ⟨_, ?_, fin _ q1⟩⟩
          rw [bb_df c4']
          simp only [zb]
          rw [q_232_63 (d + 6) l row 1 0 _ (w.m _), dt (by omega)]; rfl
      · refine ⟨fun z => absurd z.2.2.1 c3, fun _ => ⟨_, ?_, fin _ (QA.rf _)⟩⟩
        rw [dt c3]
        exact bad _ (QA.rf _)
    · refine ⟨fun z => absurd z.2.1 c2, fun _ => ⟨_, ?_, fin _ (QA.rf _)⟩⟩
      rw [bb_df c2]
      exact bad _ (QA.rf _)
  · refine ⟨fun z => absurd z.1 c1, fun _ => ⟨_, ?_, fin _ (QA.rf _)⟩⟩
    rw [bb_df c1]
    exact bad _ (QA.rf _)
