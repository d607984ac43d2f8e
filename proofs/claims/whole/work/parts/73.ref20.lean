/-! the reference: winter -/
def drG (g : Int) : Int := (g * 1103515245 + 12345) % 2147483648
def drV (g : Int) : Int := g / 65536 % 10
theorem drG_b (g : Int) : 0 ≤ drG g ∧ drG g < 2147483648 := by unfold drG; omega
theorem ml_LM (h : HP) (N : MM) (g : Int) : h_ml (sM (sL h 145 53 g) N) 145 53 = g := by
  show va_up (h_ml h) 145 (va_up (h_ml h 145) 53 g) 145 53 = g
  rw [up_eq, up_eq]
theorem sL_LM (h : HP) (N : MM) (g g2 : Int) : sL (sM (sL h 145 53 g) N) 145 53 g2 = sM (sL h 145 53 g2) N := by
  show (h.1, h.2.1, N, va_up (va_up (h_ml h) 145 (va_up (h_ml h 145) 53 g)) 145 (va_up (va_up (h_ml h) 145 (va_up (h_ml h 145) 53 g) 145) 53 g2), h.2.2.2.2) = (h.1, h.2.1, N, va_up (h_ml h) 145 (va_up (h_ml h 145) 53 g2), h.2.2.2.2)
  rw [up_eq, up_up, up_up]
theorem m_247 (d : Nat) (g : Int) (h : HP) (N : MM) (w : RSk h) (g0 : 0 ≤ g) (g1 : g < 2147483648) : ev d 247 [vr 145, vi 10] (sM (sL h 145 53 g) N) = some (vi (drV (drG g)), sM (sL h 145 53 (drG g)) N) := by
  have gb := drG_b g
  have e : l_rem (l_add (l_mul g 1103515245) 12345) 2147483648 = drG g := by
    rw [lm (by omega) (by omega), la (by omega) (by omega), lr_ (by omega) (by omega) (by omega) (by omega)]; rfl
  rw [v_247, q_247_0 d 10 _ (show RSk (sM (sL h 145 53 g) N) from w), ml_LM, e, sL_LM, dt (by omega), ld_ gb.1 (by omega) (by omega) (by omega), lr_ (by omega) (by omega) (by omega) (by omega), l2i (by omega) (by omega)]
  rfl
def wI (M : MM) (row j : Int) : Int := if M 148 (10 * row + j).toNat = 1 then 1000 else 0
theorem l_248 {h : HP} {M : MM} (w : RSk h) {n row : Int} (hn : M 147 0 = n) (h10 : n ≤ 10) (r0 : 0 ≤ row) (r1 : row < 6) (d : Nat) : ∀ (k : Nat) (i : Int) (f : Nat → Int), (n - i).toNat = k → 0 ≤ i → i ≤ n → run d md_248 2 [vr 145, vi row, vi i] [] (sM h (va_up M 176 f)) = some (vr 0, sM h (va_up M 176 (rowF (fun i _ => wI M row i) k i f)))
  | 0, i, f, h1, h2, h3 => by
    rw [q_248_2 d row i (sM h (va_up M 176 f)) w]
    simp (disch := first | assumption | omega) only [mi_sM, sI_sM, sRi_sM, isK_sM, inb_sM, ln_sM, mr_sM, ml_sM, dt, df, ia, is_, zb, bI_s, bV_s, bR_s, up_ne, hn]
    rfl
  | k + 1, i, f, h1, h2, h3 => by
    rw [q_248_2 d row i (sM h (va_up M 176 f)) w]
    simp (disch := first | assumption | omega) only [mi_sM, sI_sM, sRi_sM, isK_sM, inb_sM, ln_sM, mr_sM, ml_sM, dt, df, ia, is_, zb, bI_s, bV_s, bR_s, up_ne, hn, im, up2_row]
    have key : ∀ v, run d md_248 2 [vr 145, vi row, vi (i + 1)] [] (sM h (va_up M 176 (va_up f i.toNat v))) = some (vr 0, sM h (va_up M 176 (rowF (fun i _ => wI M row i) k (i + 1) (va_up f i.toNat v)))) := fun v => l_248 w hn h10 r0 r1 d k (i + 1) _ (by omega) (by omega) (by omega)
    show _ = some (vr 0, sM h (va_up M 176 (rowF (fun i _ => wI M row i) k (i + 1) (va_up f i.toNat (wI M row i)))))
    rw [key, key]
    unfold wI
    by_cases k1 : M 148 (10 * row + i).toNat = 1
    · rw [df (by omega), if_pos k1]; rfl
    · rw [dt k1, if_neg k1]; rfl
def wG (M : MM) (E : EE) (nt md row j : Int) : Int := gmV M E row 0 nt md j
def wT (M : MM) (E : EE) (nt md m row : Int) : Int := thV (wI M row) (wG M E nt md row) (M 147 0) m
def wP (M : MM) (E : EE) (nt md m row : Int) : Int := paV (wI M row) (wG M E nt md row) (M 147 0) (wT M E nt md m row)
theorem wI_q {M N : MM} (q : QA M N) (row : Int) : wI N row = wI M row := by funext j; unfold wI; rw [q.e (a := 148) (nR (by omega) (by omega))]
theorem wG_q {M N : MM} (q : QA M N) (E : EE) (nt md row : Int) : wG N E nt md row = wG M E nt md row := by funext j; unfold wG; exact gmV_ag (q.e (nR (by omega) (by omega))) (q.e (nR (by omega) (by omega))) E row _ _ _ j
theorem wT_q {M N : MM} (q : QA M N) (E : EE) (nt md m row : Int) : wT N E nt md m row = wT M E nt md m row := by unfold wT; rw [wI_q q, wG_q q, q.e (nR (by omega) (by omega))]
theorem wP_q {M N : MM} (q : QA M N) (E : EE) (nt md m row : Int) : wP N E nt md m row = wP M E nt md m row := by unfold wP; rw [wT_q q, wI_q q, wG_q q, q.e (nR (by omega) (by omega))]
/-- water, grips, building -/
theorem wlb {E : EE} (d : Nat) (m row nt md : Int) (h : HP) (w : RSk h) (v : VM (h_mi h) E) (r0 : 0 ≤ row) (r1 : row < 6) : ∃ N1, ev (d + 6) 248 [vr 145, vi row] h = some (vr 0, sM h N1) ∧ ∃ N2, ev (d + 6) 217 [vr 145, vi row, vi 0, vi nt, vi md] (sM h N1) = some (vr 0, sM h N2) ∧ ∃ N3, ev (d + 6) 220 [vr 145, vi m] (sM h N2) = some (vi (wP (h_mi h) E nt md m row), sM h N3) ∧ QA (h_mi h) N1 ∧ QA (h_mi h) N2 ∧ QA (h_mi h) N3 ∧ N3 145 51 = wT (h_mi h) E nt md m row ∧ (∀ j : Int, 0 ≤ j → j < h_mi h 147 0 → N3 176 j.toNat = buG (wT (h_mi h) E nt md m row) (wG (h_mi h) E nt md row j) (wI (h_mi h) row j)) ∧ ∀ k, k ≠ 51 → N3 145 k = h_mi h 145 k := by
  have hc := v.c
  have e1 := l_248 (h := h) (M := h_mi h) w rfl hc.2 r0 r1 (d + 6) _ 0 (h_mi h 176) rfl (by omega) (by omega)
  rw [up_self, Int.sub_zero, sM_self] at e1
  generalize hN1 : va_up (h_mi h) 176 (rowF (fun i _ => wI (h_mi h) row i) (h_mi h 147 0).toNat 0 (h_mi h 176)) = N1 at e1
  have g1 : Ag (fun a => a = 176) (h_mi h) N1 := fun a ha => by rw [← hN1, up_ne _ _ ha]
  have q1 : QA (h_mi h) N1 := QA.of g1 (fun a ha => by have ha : a = 176 := ha; unfold RsA; omega)
  obtain ⟨N2, e2, g2, p2⟩ := m_217 (E := E) d row 0 nt md (sM h N1) w (q1.vm v) r0 r1
  rw [mi_sM] at g2 p2
  rw [sM_sM] at e2
  have q2 : QA (h_mi h) N2 := q1.tr (QA.of g2 (fun a ha => by unfold GrA at ha; unfold RsA; omega))
  have e147 : N2 147 = h_mi h 147 := q2.e (nR (by omega) (by omega))
  have k2 : LkD (sM h N2) (wI (h_mi h) row) (wG (h_mi h) E nt md row) := fun j j0 j1 => by
    rw [mi_sM, e147] at j1
    refine ⟨⟨?_, ?_⟩, ?_, gmV_b _ _ _ _ _ _ _⟩
    · rw [mi_sM, g2 176 (by unfold GrA; omega), ← hN1, up_eq, rowF_in j0 j1]
    · rw [mi_sM, p2 j j0 (by rw [g1 147 (by omega)]; exact j1), gmV_ag (g1 149 (by omega)) (g1 148 (by omega))]; rfl
    · unfold wI; split <;> omega
  obtain ⟨N3, e3, q3, p3, i3, f3, -⟩ := builds (d + 4) m (sM h N2) w (by rw [mi_sM, e147]; omega) (by rw [mi_sM, e147]; omega) k2
  rw [mi_sM, e147] at e3 p3 i3
  rw [mi_sM] at q3 f3
  refine ⟨N1, ?_, N2, e2, N3, e3, q1, q2, q2.tr q3, p3, i3, fun k hk => ?_⟩
  · rw [v_248, q_248_0]; exact e1
  · rw [f3 k hk, g2 145 (by unfold GrA; omega), g1 145 (by omega)]
theorem l_249 {h : HP} {M : MM} {E : EE} (w : RSk h) (v : VM M E) (nt md m : Int) (d : Nat) : ∀ (k : Nat) (i : Int) (s : Int × Int × Int) (N : MM) (v8 : AV), (M 147 1 - i).toNat = k → 0 ≤ i → i ≤ M 147 1 → QA M N → N 145 0 = 0 → ∃ N' v8', run (d + 7) md_249 12 [vr 145, vi nt, vi md, vi m, vi s.1, vi s.2.1, vi s.2.2, vi i, v8] [] (sM h N) = run (d + 7) md_249 12 [vr 145, vi nt, vi md, vi m, vi (itr (beF (wT M E nt md m) (wP M E nt md m)) k i s).1, vi (itr (beF (wT M E nt md m) (wP M E nt md m)) k i s).2.1, vi (itr (beF (wT M E nt md m) (wP M E nt md m)) k i s).2.2, vi (M 147 1), v8'] [] (sM h N') ∧ QA M N' ∧ N' 145 0 = 0
  | 0, i, s, N, v8, h1, h2, h3, q, z => by
    have : i = M 147 1 := by omega
    subst this
    exact ⟨N, v8, rfl, q, z⟩
  | k + 1, i, s, N, v8, h1, h2, h3, q, z => by
    have hr := v.r
    obtain ⟨N1, e1, N2, e2, N3, e3, q1, q2, q3, p3, -, f3⟩ := wlb (E := E) d m i nt md (sM h N) w (q.vm v) h2 (by omega)
    rw [mi_sM, wP_q q, sM_sM, sM_sM] at e3
    rw [sM_sM, sM_sM] at e2
    rw [sM_sM] at e1
    rw [mi_sM] at q1 q2 q3 f3
    rw [mi_sM, wT_q q] at p3
    have key := fun s2 => l_249 w v nt md m d k (i + 1) s2 N3 (vi (wP M E nt md m i)) (by omega) (by omega) (by omega) (q.tr q3) (by rw [f3 0 (by omega)]; exact z)
    rw [q_249_12 (d + 6) nt md m _ _ _ i v8 _ (w.m N), mi_sM, q.e (a := 147) (nR (by omega) (by omega)), df (by omega), e1]
    simp only [zb, bV_s]
    rw [q_249_29 (d + 6) nt md m _ _ _ i v8 _ (w.m N1), e2, bV_s, q_249_38 (d + 6) nt md m _ _ _ i v8 _ (w.m N2), e3, bI_s, q_249_43 (d + 6) nt md m _ _ _ i v8 _ _ (w.m N3), mi_sM, p3, ia (by omega) (by omega)]
    have hs : ∀ X : Int × Int × Int, beF (wT M E nt md m) (wP M E nt md m) i s = X → (∃ N' v8', run (d + 7) md_249 12 [vr 145, vi nt, vi md, vi m, vi X.1, vi X.2.1, vi X.2.2, vi (i + 1), vi (wP M E nt md m i)] [] (sM h N3) = run (d + 7) md_249 12 [vr 145, vi nt, vi md, vi m, vi (itr (beF (wT M E nt md m) (wP M E nt md m)) (k + 1) i s).1, vi (itr (beF (wT M E nt md m) (wP M E nt md m)) (k + 1) i s).2.1, vi (itr (beF (wT M E nt md m) (wP M E nt md m)) (k + 1) i s).2.2, vi (M 147 1), v8'] [] (sM h N') ∧ QA M N' ∧ N' 145 0 = 0) := fun X hX => by
      subst hX
      exact key (beF (wT M E nt md m) (wP M E nt md m) i s)
    by_cases c1 : s.1 < 0
    · rw [dt c1]
      exact hs (i, wT M E nt md m i, wP M E nt md m i) (if_neg (by omega))
    · rw [df c1]
      by_cases c2 : wT M E nt md m i < s.2.1
      · rw [dt c2]
        exact hs s (if_pos (by omega))
      · rw [df c2]
        by_cases c3 : wT M E nt md m i = s.2.1
        · rw [df (show ¬ wT M E nt md m i ≠ s.2.1 by omega)]
          by_cases c4 : wP M E nt md m i < s.2.2
          · rw [dt c4]
            exact hs (i, wT M E nt md m i, wP M E nt md m i) (if_neg (by omega))
          · rw [df c4]
            exact hs s (if_pos (by omega))
        · rw [dt c3]
          exact hs (i, wT M E nt md m i, wP M E nt md m i) (if_neg (by omega))
/-- which row is the best is a row -/
theorem beS_b (T P : Int → Int) {n : Int} (n0 : 1 ≤ n) : 0 ≤ (beS T P n).1 ∧ (beS T P n).1 < n ∧ (beS T P n).2.1 = T (beS T P n).1 ∧ (beS T P n).2.2 = P (beS T P n).1 := by
  have := itr_inv (fun i s => 0 ≤ i ∧ ((i = 0 ∧ s.1 = -1) ∨ (0 ≤ s.1 ∧ s.1 < i ∧ s.2.1 = T s.1 ∧ s.2.2 = P s.1))) (n := n) (f := beF T P) (fun i s hi ⟨h0, h1⟩ => by
    refine ⟨by omega, Or.inr ?_⟩
    unfold beF
    split
    · next c =>
      rcases h1 with h1 | h1
      · omega
      · exact ⟨h1.1, by omega, h1.2.2⟩
    · exact ⟨h0, by show i < i + 1; omega, rfl, rfl⟩) n.toNat 0 (-1, 0, 0) (by omega) (by omega) ⟨by omega, Or.inl ⟨rfl, rfl⟩⟩
  rcases this.2 with h | h
  · omega
  · exact h
def wB (M : MM) (E : EE) (nt md m : Int) : Int := (beS (wT M E nt md m) (wP M E nt md m) (M 147 1)).1
theorem m_249 {E : EE} (d : Nat) (nt md m : Int) (h : HP) (w : RSk h) (v : VM (h_mi h) E) (z : h_mi h 145 0 = 0) : ∃ N, ev (d + 7) 249 [vr 145, vi nt, vi md, vi m] h = some (vi (wB (h_mi h) E nt md m), sM h N) ∧ QA (h_mi h) N ∧ N 145 0 = 0 ∧ N 145 51 = wT (h_mi h) E nt md m (wB (h_mi h) E nt md m) ∧ ∀ j : Int, 0 ≤ j → j < h_mi h 147 0 → N 176 j.toNat = buG (wT (h_mi h) E nt md m (wB (h_mi h) E nt md m)) (wG (h_mi h) E nt md (wB (h_mi h) E nt md m) j) (wI (h_mi h) (wB (h_mi h) E nt md m) j) := by
  have hr := v.r
  have bb' := beS_b (wT (h_mi h) E nt md m) (wP (h_mi h) E nt md m) hr.1
  obtain ⟨N, v8, e, q, z1⟩ := l_249 (h := h) w v nt md m d _ 0 (-1, 0, 0) (h_mi h) vu rfl (by omega) (by omega) (QA.rf _) z
  rw [Int.sub_zero, sM_self] at e
  have e : run (d + 7) md_249 12 [vr 145, vi nt, vi md, vi m, vi (-1), vi 0, vi 0, vi 0, vu] [] h = run (d + 7) md_249 12 [vr 145, vi nt, vi md, vi m, vi (wB (h_mi h) E nt md m), vi (beS (wT (h_mi h) E nt md m) (wP (h_mi h) E nt md m) (h_mi h 147 1)).2.1, vi (beS (wT (h_mi h) E nt md m) (wP (h_mi h) E nt md m) (h_mi h 147 1)).2.2, vi (h_mi h 147 1), v8] [] (sM h N) := e
  have bb' : 0 ≤ wB (h_mi h) E nt md m ∧ wB (h_mi h) E nt md m < h_mi h 147 1 ∧ _ := bb'
  obtain ⟨N1, e1, N2, e2, N3, e3, q1, q2, q3, p3, i3, f3⟩ := wlb (E := E) d m (wB (h_mi h) E nt md m) nt md (sM h N) w (q.vm v) bb'.1 (by omega)
  rw [mi_sM, wP_q q, sM_sM, sM_sM] at e3
  rw [sM_sM, sM_sM] at e2
  rw [sM_sM] at e1
  rw [mi_sM] at q1 q2 q3 f3
  rw [mi_sM, wT_q q] at p3
  rw [mi_sM, wT_q q, wI_q q, wG_q q, q.e (a := 147) (nR (by omega) (by omega))] at i3
  refine ⟨N3, ?_, q.tr q3, by rw [f3 0 (by omega)]; exact z1, p3, i3⟩
  rw [v_249, q_249_0, e, q_249_12 (d + 6) nt md m _ _ _ _ v8 _ (w.m N), mi_sM, q.e (a := 147) (nR (by omega) (by omega)), dt (by omega), e1]
  simp only [zb, bV_s]
  rw [q_249_104 (d + 6) nt md m _ _ _ _ v8 _ (w.m N1), e2, bV_s, q_249_113 (d + 6) nt md m _ _ _ _ v8 _ (w.m N2), e3, bI_s, q_249_118]
