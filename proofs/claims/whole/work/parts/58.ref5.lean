/-! the reference: grips of a row, looking -/
def GrA : Nat → Prop := fun a => (162 ≤ a ∧ a ≤ 171) ∨ a = 179
def LkA : Nat → Prop := fun a => (162 ≤ a ∧ a ≤ 171) ∨ a = 179 ∨ a = 176
/-- the grip of column j of a row, half of it on a mild night -/
def gmV (M : MM) (E : EE) (row hr nt md j : Int) : Int := if md = 0 then grV M E (10 * row + j) hr nt else grV M E (10 * row + j) hr nt / 2
theorem gmV_b (M : MM) (E : EE) (row hr nt md j : Int) : 0 ≤ gmV M E row hr nt md j ∧ gmV M E row hr nt md j ≤ 9 := by
  have := grV_b M E (10 * row + j) hr nt
  unfold gmV; split <;> omega
theorem gmV_ag {M N : MM} (h : N 149 = M 149) (h2 : N 148 = M 148) (E : EE) (row hr nt md j : Int) : gmV N E row hr nt md j = gmV M E row hr nt md j := by unfold gmV; rw [grV_ag h h2]
theorem l_217 {h : HP} {M : MM} {E : EE} (w : RSk h) (v : VM M E) {row : Int} (r0 : 0 ≤ row) (r1 : row < 6) (hr nt md : Int) (d : Nat) : ∀ (k : Nat) (i : Int) (N : MM) (v6 : AV), (M 147 0 - i).toNat = k → 0 ≤ i → i ≤ M 147 0 → Ag GrA M N → (∀ j : Int, 0 ≤ j → j < i → N 179 j.toNat = gmV M E row hr nt md j) →
    ∃ N', run (d + 6) md_217 3 [vr 145, vi row, vi hr, vi nt, vi md, vi i, v6] [] (sM h N) = some (vr 0, sM h N') ∧ Ag GrA M N' ∧ ∀ j : Int, 0 ≤ j → j < M 147 0 → N' 179 j.toNat = gmV M E row hr nt md j
  | 0, i, N, v6, h1, h2, h3, g, p => by
    refine ⟨N, ?_, g, fun j j0 j1 => p j j0 (by omega)⟩
    rw [q_217_3 (d + 5) row hr nt md i v6 _ (w.m N), mi_sM, g 147 (by unfold GrA; omega), dt (by omega)]
    rfl
  | k + 1, i, N, v6, h1, h2, h3, g, p => by
    have hc := v.c
    have e147 : N 147 = M 147 := g 147 (by unfold GrA; omega)
    have vN : VM N E := v.ag (g.up (fun a ha => by unfold GrA at ha; unfold RsA; omega))
    obtain ⟨N1, e1, g1⟩ := m_192 (E := E) d (10 * row + i) hr nt (sM h N) w vN (by omega) (by omega)
    rw [mi_sM, grV_ag (g 149 (by unfold GrA; omega)) (g 148 (by unfold GrA; omega))] at e1
    rw [mi_sM] at g1
    have gb := grV_b M E (10 * row + i) hr nt
    rw [q_217_3 (d + 5) row hr nt md i v6 _ (w.m N), mi_sM, e147, df (by omega), im (by omega) (by omega), ia (by omega) (by omega), e1]
    simp only [zb, bI_s, sM_sM]
    rw [q_217_27 (d + 5) row hr nt md i v6 _ _ (w.m N1)]
    simp (disch := omega) only [mi_sM, sI_sM, sRi_sM, isK_sM, inb_sM, ln_sM, mr_sM, ml_sM, dt, df, ia, is_, zb, bI_s, bV_s, bR_s, id_]
    have gN : Ag GrA M (up2 N1 179 i.toNat (gmV M E row hr nt md i)) := fun a ha => by
      have ha : ¬ ((162 ≤ a ∧ a ≤ 171) ∨ a = 179) := ha
      rw [u2_ne _ _ _ (by omega), g1 a (by unfold LwA; omega)]
      exact g a ha
    obtain ⟨N2, e2, g2, p2⟩ := l_217 w v r0 r1 hr nt md d k (i + 1) (up2 N1 179 i.toNat (gmV M E row hr nt md i)) (vi (grV M E (10 * row + i) hr nt)) (by omega) (by omega) (by omega) gN (fun j j0 j1 => by
      by_cases hj : j = i
      · subst hj; rw [u2_at]
      · rw [u2_no _ _ _ (by omega), g1 179 (by unfold LwA; omega)]
        exact p j j0 (by omega))
    refine ⟨N2, ?_, g2, p2⟩
    rw [← e2]
    unfold gmV
    by_cases hm : md = 0
    · rw [dt hm, if_pos hm]; rfl
    · rw [df hm, if_neg hm]; rfl
theorem m_217 {E : EE} (d : Nat) (row hr nt md : Int) (h : HP) (w : RSk h) (v : VM (h_mi h) E) (r0 : 0 ≤ row) (r1 : row < 6) : ∃ N, ev (d + 6) 217 [vr 145, vi row, vi hr, vi nt, vi md] h = some (vr 0, sM h N) ∧ Ag GrA (h_mi h) N ∧ ∀ j : Int, 0 ≤ j → j < h_mi h 147 0 → N 179 j.toNat = gmV (h_mi h) E row hr nt md j := by
  have hc := v.c
  rw [v_217, q_217_0]
  have := l_217 (h := h) w v r0 r1 hr nt md d _ 0 (h_mi h) vu rfl (by omega) (by omega) (Ag.rf _) (fun j j0 j1 => by omega)
  rw [sM_self] at this
  exact this
theorem seeG_b {M : MM} {E : EE} (v : VM M E) {row j : Int} (r0 : 0 ≤ row) (r1 : row < 6) (j0 : 0 ≤ j) (j1 : j < 10) : 0 ≤ seeG M row j ∧ seeG M row j ≤ 1000 := by
  have := (v.s (c := (10 * row + j).toNat) (by omega)).1
  unfold seeG; split <;> omega
theorem seeG_ag {M N : MM} (h1 : N 148 = M 148) (h2 : N 172 = M 172) (row j : Int) : seeG N row j = seeG M row j := by unfold seeG; rw [h1, h2]
/-- looks: the row and its grips now -/
theorem m_222 {E : EE} (d : Nat) (row : Int) (h : HP) (w : RSk h) (v : VM (h_mi h) E) (r0 : 0 ≤ row) (r1 : row < 6) : ∃ N, ev (d + 7) 222 [vr 145, vi row] h = some (vr 0, sM h N) ∧ Ag LkA (h_mi h) N ∧ ∀ j : Int, 0 ≤ j → j < h_mi h 147 0 → N 176 j.toNat = seeG (h_mi h) row j ∧ N 179 j.toNat = gmV (h_mi h) E row (h_mi h 172 133) (h_mi h 172 134) 0 j := by
  have hc := v.c
  rw [v_222, q_222_0 (d + 6) row h w, m_202 _ row h w (by omega) (by omega) r0 r1, bV_s]
  have hg : Ag (fun a => a = 176) (h_mi h) (va_up (h_mi h) 176 (seeR (h_mi h) row)) := fun a ha => up_ne _ _ ha
  have e172 : (va_up (h_mi h) 176 (seeR (h_mi h) row)) 172 = h_mi h 172 := hg 172 (by omega)
  rw [q_222_5 (d + 6) row _ (w.m _), mi_sM, e172]
  obtain ⟨N, e1, g1, p1⟩ := m_217 (E := E) d row (h_mi h 172 133) (h_mi h 172 134) 0 (sM h (va_up (h_mi h) 176 (seeR (h_mi h) row))) w (v.ag (hg.up (fun a ha => by have ha : a = 176 := ha; unfold RsA; omega))) r0 r1
  rw [mi_sM] at g1 p1
  have e147 : (va_up (h_mi h) 176 (seeR (h_mi h) row)) 147 = h_mi h 147 := hg 147 (by omega)
  rw [e147] at p1
  refine ⟨N, ?_, fun a ha => ?_, fun j j0 j1 => ⟨?_, ?_⟩⟩
  · rw [e1, bV_s, q_222_27]; rfl
  · have ha : ¬ ((162 ≤ a ∧ a ≤ 171) ∨ a = 179 ∨ a = 176) := ha
    rw [g1 a (by unfold GrA; omega)]
    exact hg a (by omega)
  · rw [g1 176 (by unfold GrA; omega), up_eq, seeR_at j0 j1]
  · rw [p1 j j0 j1, gmV_ag (hg 149 (by omega)) (hg 148 (by omega))]
theorem LkA_sub : ∀ a, LkA a → RsA a := fun a ha => by unfold LkA at ha; unfold RsA; omega
/-- a row as it is looked at: what the rows 176 and 179 hold, by columns -/
def LkD (h : HP) (I G : Int → Int) : Prop := ∀ j : Int, 0 ≤ j → j < h_mi h 147 0 → (h_mi h 176 j.toNat = I j ∧ h_mi h 179 j.toNat = G j) ∧ (0 ≤ I j ∧ I j ≤ 1000) ∧ 0 ≤ G j ∧ G j ≤ 9
theorem LkD.ig {h : HP} {I G : Int → Int} (k : LkD h I G) : IG h := fun j j0 j1 => by
  obtain ⟨⟨a, b⟩, c, e⟩ := k j j0 j1
  rw [a, b]; exact ⟨c, e⟩
/-- pails for a thickness, by columns -/
def paV (I G : Int → Int) (n th : Int) : Int := sm (fun k => ptV (I k) (G k) th) n
theorem LkD.al {h : HP} {I G : Int → Int} (k : LkD h I G) (th : Int) : alV h th = paV I G (h_mi h 147 0) th := sm_congr (fun j j0 j1 => by rw [(k j j0 j1).1.1, (k j j0 j1).1.2])
/-- the thickness that so many pails build -/
def thV (I G : Int → Int) (n m : Int) : Int := bdN (paV I G n) m 99
theorem LkD.bd {h : HP} {I G : Int → Int} (k : LkD h I G) (m : Int) : bdV h m = thV I G (h_mi h 147 0) m := bdN_congr (fun y _ _ => k.al y)
theorem thV_b (I G : Int → Int) (n m : Int) : 0 ≤ thV I G n m ∧ thV I G n m ≤ 99 := bdN_b _ _ _
theorem paV_b {I G : Int → Int} {n th : Int} (n0 : 0 ≤ n) (n1 : n ≤ 10) (t1 : th ≤ 99) (h : ∀ j, 0 ≤ j → j < n → 0 ≤ I j ∧ 0 ≤ G j) : 0 ≤ paV I G n th ∧ paV I G n th ≤ 1000000 := by
  have := sm_b (P := fun k => ptV (I k) (G k) th) (B := 100000) n0 (fun k k0 k1 => ptV_b (h k k0 k1).1 (h k k0 k1).2 t1)
  unfold paV; omega
/-- looks, by columns -/
def nwI (M : MM) (row j : Int) : Int := seeG M row j
def nwG (M : MM) (E : EE) (row j : Int) : Int := gmV M E row (M 172 133) (M 172 134) 0 j
theorem looks {E : EE} (d : Nat) (row : Int) (h : HP) (w : RSk h) (v : VM (h_mi h) E) (r0 : 0 ≤ row) (r1 : row < 6) : ∃ N, ev (d + 7) 222 [vr 145, vi row] h = some (vr 0, sM h N) ∧ Ag LkA (h_mi h) N ∧ LkD (sM h N) (nwI (h_mi h) row) (nwG (h_mi h) E row) := by
  obtain ⟨N, e1, g1, p1⟩ := m_222 (E := E) d row h w v r0 r1
  have hc := v.c
  refine ⟨N, e1, g1, fun j j0 j1 => ?_⟩
  rw [mi_sM, g1 147 (by unfold LkA; omega)] at j1
  exact ⟨p1 j j0 j1, seeG_b v r0 r1 j0 (by omega), gmV_b _ _ _ _ _ _ _⟩
