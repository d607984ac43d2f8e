/-! the reference: over, undo, share, stump -/
def ovF (M : MM) (l row : Int) (k : Int) (S : Nat → Int) : Nat → Int := if M 148 (10 * row + k).toNat = 1 then S else va_up (va_up S 137 (i_add (S 137) (min (weV M l) (S (10 * row + k).toNat)))) (10 * row + k).toNat (S (10 * row + k).toNat - min (weV M l) (S (10 * row + k).toNat))
def ovS (M : MM) (l row : Int) : Nat → Int := va_up (itr (ovF M l row) (M 147 0).toNat 0 (M 172)) 132 (M 172 132 + 2 ^ l.toNat)
def overD (M : MM) (l row : Int) : MM := va_up (kpM M) 172 (ovS M l row)
theorem l_206 {h : HP} {M : MM} {E : EE} (w : RSk h) (v : VM M E) {l row : Int} (r0 : 0 ≤ row) (r1 : row < 6) (d : Nat) : ∀ (k : Nat) (i : Int) (v4 : AV) (S : Nat → Int) (N : MM), (M 147 0 - i).toNat = k → 0 ≤ i → i ≤ M 147 0 → N 147 = M 147 → N 148 = M 148 → (∀ j : Int, 0 ≤ j → j < M 147 0 → N 176 j.toNat = wrG (weV M l) (seeG M row j)) → (∀ j : Int, i ≤ j → j < M 147 0 → S (10 * row + j).toNat = M 172 (10 * row + j).toNat) → run (d + 1) md_206 69 [vr 145, vi l, vi row, vi i, v4] [] (sM h (va_up N 172 S)) = some (vi 1, sM h (va_up N 172 (va_up (itr (ovF M l row) k i S) 132 (i_or (itr (ovF M l row) k i S 132) (i_shl 1 l)))))
  | 0, i, v4, S, N, h1, h2, h3, e1, e2, e3, e4 => by
    rw [q_206_69 d l row i v4 _ (w.m _), mi_sM, up_ne _ _ (show (147 : Nat) ≠ 172 by omega), e1, dt (by omega), up_eq, sI_sM, up2_row]
    rfl
  | k + 1, i, v4, S, N, h1, h2, h3, e1, e2, e3, e4 => by
    have hc := v.c
    rw [q_206_69 d l row i v4 _ (w.m _), mi_sM, up_ne _ _ (show (147 : Nat) ≠ 172 by omega), e1, up_ne _ _ (show (148 : Nat) ≠ 172 by omega), e2, up_ne _ _ (show (176 : Nat) ≠ 172 by omega), up_eq]
    have cb := (v.s (c := (10 * row + i).toNat) (by omega)).1
    have we := weV_b M l
    have e3i := e3 i h2 (by omega)
    have e4i := e4 i (by omega) (by omega)
    simp (disch := omega) only [mi_sM, sI_sM, sRi_sM, isK_sM, inb_sM, ln_sM, mr_sM, ml_sM, dt, df, ia, is_, zb, bI_s, bV_s, bR_s, im, e3i, e4i, up2_row]
    have key := fun S2 hS => l_206 w v (l := l) r0 r1 d k (i + 1) (vi (10 * row + i)) S2 N (by omega) (by omega) (by omega) e1 e2 e3 hS
    by_cases c : M 148 (10 * row + i).toNat = 1
    · have eo : ovF M l row i S = S := if_pos c
      rw [df (show ¬ M 148 (10 * row + i).toNat ≠ 1 by omega)]
      simp only [zb]
      rw [key S (fun j j0 j1 => e4 j (by omega) j1)]
      show _ = some (vi 1, sM h (va_up N 172 (va_up (itr (ovF M l row) k (i + 1) (ovF M l row i S)) 132 (i_or (itr (ovF M l row) k (i + 1) (ovF M l row i S) 132) (i_shl 1 l)))))
      rw [eo]
    · have es : seeG M row i = M 172 (10 * row + i).toNat := if_neg c
      have ew : wrG (weV M l) (seeG M row i) = M 172 (10 * row + i).toNat - min (weV M l) (M 172 (10 * row + i).toNat) := by
        rw [es]; unfold wrG; rw [if_neg (by omega)]; omega
      have eo : ovF M l row i S = va_up (va_up S 137 (i_add (S 137) (min (weV M l) (M 172 (10 * row + i).toNat)))) (10 * row + i).toNat (M 172 (10 * row + i).toNat - min (weV M l) (M 172 (10 * row + i).toNat)) := by unfold ovF; rw [if_neg c, e4i]
      rw [dt c, ew, is_ (by omega) (by omega)]
      simp only [zb]
      have e5 : M 172 (10 * row + i).toNat - (M 172 (10 * row + i).toNat - min (weV M l) (M 172 (10 * row + i).toNat)) = min (weV M l) (M 172 (10 * row + i).toNat) := by omega
      rw [e5, ← eo, key (ovF M l row i S) (fun j j0 j1 => by
        rw [eo, up_ne _ _ (by omega), up_ne _ _ (by omega)]
        exact e4 j (by omega) j1)]
      rfl
theorem ovF_132 {M : MM} {l row : Int} (r1 : row < 6) : ∀ (k : Nat) (i : Int) (S : Nat → Int), 0 ≤ i → i + k ≤ 10 → itr (ovF M l row) k i S 132 = S 132
  | 0, i, S, _, _ => rfl
  | k + 1, i, S, h0, h1 => by
    show itr (ovF M l row) k (i + 1) (ovF M l row i S) 132 = _
    rw [ovF_132 r1 k (i + 1) _ (by omega) (by omega)]
    unfold ovF
    split
    · rfl
    · rw [up_ne _ _ (by omega), up_ne _ _ (by omega)]
theorem r_over {E : EE} (d : Nat) (l row : Int) (h : HP) (w : RSk h) (v : VM (h_mi h) E) (d0 : 0 ≤ h_mi h 145 44) (d1 : h_mi h 145 44 ≤ 20) : (tollOk (h_mi h) l row → ∃ N, ev (d + 3) 206 [vr 145, vi l, vi row] h = some (vi 1, sM h N) ∧ QA (overD (h_mi h) l row) N) ∧ (¬ tollOk (h_mi h) l row → ∃ N, ev (d + 3) 206 [vr 145, vi l, vi row] h = some (vi 0, sM h N) ∧ QA (h_mi h) N) := by
  have q0 : QA (h_mi h) (up2 (h_mi h) 145 0 0) := QA.f 0 0 (by omega) (by omega)
  have e0 : ∀ a, a ≠ 145 → (up2 (h_mi h) 145 0 0) a = h_mi h a := fun a ha => u2_ne _ _ _ ha
  have hc := v.c
  have hr := v.r
  have hl := v.l
  have ho := v.ov
  rw [v_206, q_206_0 (d + 2) l row h w, sI_h, m_188 _ _ _ (w.m _), mi_sM, e0 147 (by omega), bI_s, q_206_10 (d + 2) l row _ _ (w.m _), m_185 _ _ _ (w.m _), mi_sM, e0 147 (by omega)]
  unfold tollOk
  by_cases c1 : 0 ≤ l ∧ l < h_mi h 147 3
  · rw [bb_dt c1]
    simp only [zb, bI_s]
    rw [q_206_18 (d + 2) l row _ _ (w.m _)]
    by_cases c2 : 0 ≤ row ∧ row < h_mi h 147 1
    · rw [bb_dt c2, mi_sM, e0 172 (by omega), bitI ho.1 (by omega) c1.1 (by omega)]
      simp only [zb]
      rcases bit01 (h_mi h 172 132) l with c3 | c3
      · rw [dt (show bit (h_mi h 172 132) l ≠ 1 by omega), m_202 _ row _ (w.m _) (by rw [mi_sM, e0 147 (by omega)]; omega) (by rw [mi_sM, e0 147 (by omega)]; omega) c2.1 (by omega)]
        simp only [zb, bV_s, mi_sM, sM_sM]
        generalize hN1 : va_up (up2 (h_mi h) 145 0 0) 176 (seeR (up2 (h_mi h) 145 0 0) row) = N1
        have q1 : QA (h_mi h) N1 := by rw [← hN1]; exact q0.tr (QA.row _ (by unfold RsA; omega) (by omega))
        have e1 : ∀ a, a ≠ 145 → a ≠ 176 → N1 a = h_mi h a := fun a a1 a2 => by rw [← hN1, up_ne _ _ a2, e0 a a1]
        have i1 : ∀ j : Int, 0 ≤ j → j < h_mi h 147 0 → N1 176 j.toNat = seeG (h_mi h) row j := fun j j0 j1 => by
          rw [← hN1, up_eq, seeR_at j0 (by rw [e0 147 (by omega)]; exact j1), seeG_ag (e0 148 (by omega)) (e0 172 (by omega))]
        have elo : lo (N1 176) (h_mi h 147 0) = tnV (h_mi h) row := lo_congr (fun j j0 j1 => by
          have ej : ((j.toNat : Nat) : Int) = j := by omega
          rw [i1 j j0 j1, ej])
        have lb := v.ld (l := l.toNat) (by omega)
        rw [q_206_44 (d + 2) l row _ (w.m N1), m_204 (d + 1) l _ (w.m N1) (by rw [mi_sM, e1 147 (by omega) (by omega)]; omega) (by rw [mi_sM, e1 147 (by omega) (by omega)]; omega) c1.1 (by omega) (by rw [mi_sM, e1 155 (by omega) (by omega)]; omega) (by rw [mi_sM, e1 155 (by omega) (by omega)]; omega), mi_sM, e1 147 (by omega) (by omega), e1 155 (by omega) (by omega), e1 154 (by omega) (by omega), elo, bI_s, q_206_49 (d + 2) l row _ _ (w.m N1)]
        by_cases c4 : ndV (h_mi h) l ≤ tnV (h_mi h) row
        · have c4' : needK (h_mi h 154 l.toNat) (h_mi h 155 l.toNat) ≤ tnV (h_mi h) row := c4
          refine ⟨fun _ => ?_, fun z => absurd ⟨c1, c2, c3, c4⟩ z⟩
          have n44 : N1 145 44 = h_mi h 145 44 := by rw [← hN1, up_ne _ _ (by omega), u2_no _ _ _ (by omega)]
          rw [bb_nt c4', m_199 _ _ (w.m N1) (by rw [mi_sM, n44]; exact d0) (by rw [mi_sM, n44]; exact d1)]
          simp only [zb, bV_s, mi_sM, sM_sM]
          generalize hN2 : kpM N1 = N2
          have e2 : ∀ a, a ≠ 145 → a ≠ 176 → a ≠ 175 → N2 a = h_mi h a := fun a a1 a2 a3 => by rw [← hN2, kpM_ne _ a1 a3, e1 a a1 a2]
          have i2 : N2 176 = N1 176 := by rw [← hN2, kpM_ne _ (by omega) (by omega)]
          have we := weV_b (h_mi h) l
          rw [q_206_58 (d + 2) l row _ (w.m N2), m_197 _ l _ (w.m N2) c1.1 (by omega), mi_sM, e2 154 (by omega) (by omega) (by omega), bI_s]
          rw [q_206_64 (d + 2) l row _ _ (w.m N2)]
          have e205 := m_205 (d + 2) (weV (h_mi h) l) (sM h N2) w (by rw [mi_sM, e2 147 (by omega) (by omega) (by omega)]; omega) (by rw [mi_sM, e2 147 (by omega) (by omega) (by omega)]; omega) we.1 (by omega) (by
            rw [mi_sM, e2 147 (by omega) (by omega) (by omega)]
            intro j j0 j1
            have := seeG_b v c2.1 (show row < 6 by omega) j0 (by omega)
            rw [i2, i1 j j0 j1]; omega)
          rw [mi_sM, e2 147 (by omega) (by omega) (by omega), sM_sM] at e205
          have ewe : wearK (h_mi h 154 l.toNat) = weV (h_mi h) l := rfl
          rw [ewe, e205, bV_s, q_206_67]
          generalize hN3 : va_up N2 176 (rowF (fun _ x => wrG (weV (h_mi h) l) x) (h_mi h 147 0).toNat 0 (N2 176)) = N3
          have e3 : ∀ a, a ≠ 145 → a ≠ 176 → a ≠ 175 → N3 a = h_mi h a := fun a a1 a2 a3 => by rw [← hN3, up_ne _ _ a2, e2 a a1 a2 a3]
          have i3 : ∀ j : Int, 0 ≤ j → j < h_mi h 147 0 → N3 176 j.toNat = wrG (weV (h_mi h) l) (seeG (h_mi h) row j) := fun j j0 j1 => by rw [← hN3, up_eq, rowF_in j0 j1, i2, i1 j j0 j1]
          have e6 := l_206 (h := h) w v (l := l) c2.1 (show row < 6 by omega) (d + 2) _ 0 vu (h_mi h 172) N3 rfl (by omega) (by omega) (e3 147 (by omega) (by omega) (by omega)) (e3 148 (by omega) (by omega) (by omega)) i3 (fun j j0 j1 => rfl)
          have es : va_up N3 172 (h_mi h 172) = N3 := by
            have : h_mi h 172 = N3 172 := (e3 172 (by omega) (by omega) (by omega)).symm
            rw [this, up_self]
          rw [es, Int.sub_zero, ovF_132 (by omega) _ 0 _ (by omega) (by omega)] at e6
          have pI := pcI ho.1 (by omega) c1.1 (show l < 7 by omega) (show bit (h_mi h 172 132) l ≠ 1 by omega)
          rw [pI.2.2.1] at e6
          refine ⟨_, e6, ?_⟩
          have eK : kpN N1 = kpN (h_mi h) := by unfold kpN; rw [n44]
          have eU : kpU N1 = kpU (h_mi h) := by funext j; unfold kpU; rw [eK, n44, e1 172 (by omega) (by omega), e1 175 (by omega) (by omega)]
          refine ⟨fun a ha => ?_, ?_, ?_⟩
          · have ha' : ¬ (a = 145 ∨ (160 ≤ a ∧ a ≤ 171) ∨ a = 173 ∨ (176 ≤ a ∧ a ≤ 179)) := ha
            unfold overD
            by_cases a1 : a = 172
            · subst a1; rw [up_eq, up_eq]; rfl
            · rw [up_ne _ _ a1, up_ne _ _ a1, ← hN3, up_ne _ _ (by omega), ← hN2]
              by_cases a2 : a = 175
              · subst a2; rw [kpM_175, kpM_175, eU]
              · rw [kpM_ne _ (by omega) a2, kpM_ne _ (by omega) a2, e1 a (by omega) (by omega)]
          · unfold overD
            rw [up_ne _ _ (by omega), up_ne _ _ (by omega), ← hN3, up_ne _ _ (by omega), ← hN2, kpM_f _ (by omega), kpM_f _ (by omega), ← hN1, up_ne _ _ (by omega), u2_no _ _ _ (by omega)]
          · unfold overD
            rw [up_ne _ _ (by omega), up_ne _ _ (by omega), ← hN3, up_ne _ _ (by omega), ← hN2, kpM_44, kpM_44, eK]
        · have c4' : ¬ needK (h_mi h 154 l.toNat) (h_mi h 155 l.toNat) ≤ tnV (h_mi h) row := c4
          rw [bb_nf c4']
          exact ⟨fun z => absurd z.2.2.2 c4, fun _ => ⟨_, rfl, q1⟩⟩
      · rw [df (show ¬ bit (h_mi h 172 132) l ≠ 1 by omega)]
        exact ⟨fun z => by have := z.2.2.1; omega, fun _ => ⟨_, rfl, q0⟩⟩
    · rw [bb_df c2]
      exact ⟨fun z => absurd z.2.1 c2, fun _ => ⟨_, rfl, q0⟩⟩
  · rw [bb_df c1]
    exact ⟨fun z => absurd z.1 c1, fun _ => ⟨_, rfl, q0⟩⟩
/-- what undo brings back -/
def unK (k : Nat) : Bool := decide (k < 60) || (decide (120 ≤ k) && decide (k < 126)) || decide (k = 132) || (decide (134 < k) && decide (k < 144))
def unS (M : MM) : Nat → Int := fun k => bif unK k then M 175 (144 * (M 145 44 - 1) + k).toNat else M 172 k
def undoD (M : MM) : MM := up2 (va_up M 172 (unS M)) 145 44 (M 145 44 - 1)
theorem unK_n {k : Nat} (h : 144 ≤ k) : unK k = false := by
  unfold unK
  rw [df (by omega), dt (p := 120 ≤ k) (by omega), df (p := k < 126) (by omega), df (p := k = 132) (by omega), dt (p := 134 < k) (by omega), df (p := k < 144) (by omega)]; rfl
theorem l_207 {h : HP} {M : MM} (w : RSk h) {n : Int} (hn : M 145 44 = n) (n0 : 0 ≤ n) (n1 : n < 20) (d : Nat) : ∀ (k : Nat) (i : Int) (S : Nat → Int), (144 - i).toNat = k → 0 ≤ i → i ≤ 144 → run d md_207 31 [vr 145, vr 175, vi i] [] (sM h (va_up M 172 S)) = some (vi 1, sM h (va_up M 172 (itr (fun i S => bif unK i.toNat then va_up S i.toNat (M 175 (144 * n + i).toNat) else S) k i S)))
  | 0, i, S, h1, h2, h3 => by
    rw [q_207_31 d i _ (w.m _), dt (by omega)]; rfl
  | k + 1, i, S, h1, h2, h3 => by
    have a1 : (va_up M 172 S) 145 = M 145 := up_ne _ _ (by omega)
    have a2 : (va_up M 172 S) 175 = M 175 := up_ne _ _ (by omega)
    rw [q_207_31 d i _ (w.m _), q_207_56 d i _ (w.m _), mi_sM, a1, a2, hn]
    simp (disch := omega) only [mi_sM, sI_sM, sRi_sM, isK_sM, inb_sM, ln_sM, mr_sM, ml_sM, dt, df, ia, is_, zb, bI_s, bV_s, bR_s, im, up2_row]
    show _ = some (vi 1, sM h (va_up M 172 (itr (fun i S => bif unK i.toNat then va_up S i.toNat (M 175 (144 * n + i).toNat) else S) k (i + 1) (bif unK i.toNat then va_up S i.toNat (M 175 (144 * n + i).toNat) else S))))
    rw [l_207 w hn n0 n1 d k (i + 1) _ (by omega) (by omega) (by omega), l_207 w hn n0 n1 d k (i + 1) _ (by omega) (by omega) (by omega)]
    unfold unK
    by_cases c1 : i < 60
    · rw [dt c1, dt (p := i.toNat < 60) (by omega)]; rfl
    · rw [df c1, df (p := i.toNat < 60) (by omega)]
      by_cases c2 : i < 120
      · rw [dt c2, df (p := 120 ≤ i.toNat) (by omega), df (p := i = 132) (by omega), dt (p := i ≤ 134) (by omega), df (p := i.toNat = 132) (by omega), df (p := 134 < i.toNat) (by omega)]; rfl
      · rw [df c2, dt (p := 120 ≤ i.toNat) (by omega)]
        by_cases c3 : i < 126
        · rw [dt c3, dt (p := i.toNat < 126) (by omega)]; rfl
        · rw [df c3, df (p := i.toNat < 126) (by omega)]
          by_cases c4 : i = 132
          · rw [dt c4, dt (p := i.toNat = 132) (by omega)]; rfl
          · rw [df c4, df (p := i.toNat = 132) (by omega)]
            by_cases c5 : i ≤ 134
            · rw [dt c5, df (p := 134 < i.toNat) (by omega)]; rfl
            · rw [df c5, dt (p := 134 < i.toNat) (by omega), dt (p := i.toNat < 144) (by omega)]; rfl
theorem unF_at {U : Nat → Int} {n : Int} : ∀ (k : Nat) (i : Int) (S : Nat → Int), 0 ≤ i → ∀ j : Nat, itr (fun (i : Int) (S : Nat → Int) => bif unK i.toNat then va_up S i.toNat (U (144 * n + i).toNat) else S) k i S j = if i ≤ (j : Int) ∧ (j : Int) < i + k then (bif unK j then U (144 * n + j).toNat else S j) else S j
  | 0, i, S, _, j => by rw [if_neg (by omega)]; rfl
  | k + 1, i, S, h0, j => by
    show itr _ k (i + 1) (bif unK i.toNat then va_up S i.toNat (U (144 * n + i).toNat) else S) j = _
    rw [unF_at k (i + 1) _ (by omega) j]
    by_cases c : j = i.toNat
    · rw [if_neg (by omega), if_pos (by omega), c]
      have e : ((i.toNat : Nat) : Int) = i := by omega
      rw [e]
      cases unK i.toNat
      · rfl
      · show va_up S i.toNat _ i.toNat = _
        rw [up_eq]; rfl
    · have e : (bif unK i.toNat then va_up S i.toNat (U (144 * n + i).toNat) else S) j = S j := by
        cases unK i.toNat
        · rfl
        · show va_up S i.toNat _ j = _
          rw [up_ne _ _ c]
      rw [e]
      by_cases c2 : i + 1 ≤ (j : Int) ∧ (j : Int) < i + 1 + k
      · rw [if_pos c2, if_pos (by omega)]
      · rw [if_neg c2, if_neg (by omega)]
theorem r_undo {E : EE} (d : Nat) (h : HP) (w : RSk h) (v : VM (h_mi h) E) (d0 : 0 ≤ h_mi h 145 44) (d1 : h_mi h 145 44 ≤ 20) : (h_mi h 145 44 ≠ 0 → ∃ N, ev d 207 [vr 145] h = some (vi 1, sM h N) ∧ QA (undoD (h_mi h)) N) ∧ (¬ h_mi h 145 44 ≠ 0 → ∃ N, ev d 207 [vr 145] h = some (vi 0, sM h N) ∧ QA (h_mi h) N) := by
  have q0 : QA (h_mi h) (up2 (h_mi h) 145 0 0) := QA.f 0 0 (by omega) (by omega)
  rw [v_207, q_207_0 d h w]
  refine ⟨fun c => ?_, fun c => ?_⟩
  · rw [dt c, is_ (by omega) (by omega)]
    simp only [zb]
    have e1 := l_207 (h := h) (M := up2 (up2 (h_mi h) 145 0 0) 145 44 (h_mi h 145 44 - 1)) w (n := h_mi h 145 44 - 1) (u2_at _ _ _ _) (by omega) (by omega) d _ 0 (h_mi h 172) rfl (by omega) (by omega)
    have a2 : ∀ a, a ≠ 145 → (up2 (up2 (h_mi h) 145 0 0) 145 44 (h_mi h 145 44 - 1)) a = h_mi h a := fun a ha => by rw [u2_ne _ _ _ ha, u2_ne _ _ _ ha]
    have es : va_up (up2 (up2 (h_mi h) 145 0 0) 145 44 (h_mi h 145 44 - 1)) 172 (h_mi h 172) = up2 (up2 (h_mi h) 145 0 0) 145 44 (h_mi h 145 44 - 1) := by
      have : h_mi h 172 = (up2 (up2 (h_mi h) 145 0 0) 145 44 (h_mi h 145 44 - 1)) 172 := (a2 172 (by omega)).symm
      rw [this, up_self]
    rw [es, a2 175 (by omega)] at e1
    have eS : itr (fun (i : Int) (S : Nat → Int) => bif unK i.toNat then va_up S i.toNat (h_mi h 175 (144 * (h_mi h 145 44 - 1) + i).toNat) else S) ((144 : Int) - 0).toNat 0 (h_mi h 172) = unS (h_mi h) := by
      funext j
      rw [unF_at _ 0 _ (by omega) j]
      unfold unS
      by_cases c2 : (0 : Int) ≤ (j : Int) ∧ (j : Int) < 0 + (((144 : Int) - 0).toNat : Int)
      · rw [if_pos c2]
      · rw [if_neg c2, unK_n (by omega)]; rfl
    rw [eS] at e1
    refine ⟨_, e1, fun a ha => ?_, ?_, ?_⟩
    · have ha' : ¬ (a = 145 ∨ (160 ≤ a ∧ a ≤ 171) ∨ a = 173 ∨ (176 ≤ a ∧ a ≤ 179)) := ha
      unfold undoD
      rw [u2_ne _ _ _ (show a ≠ 145 by omega)]
      by_cases a1 : a = 172
      · subst a1; rw [up_eq, up_eq]
      · rw [up_ne _ _ a1, up_ne _ _ a1, a2 a (by omega)]
    · unfold undoD
      rw [up_ne _ _ (by omega), u2_no _ _ _ (by omega), u2_no _ _ _ (by omega), u2_no _ _ _ (by omega), up_ne _ _ (by omega)]
    · unfold undoD
      rw [up_ne _ _ (by omega), u2_at, u2_at]
  · rw [df c]
    exact ⟨_, rfl, q0⟩
theorem QA.u2 {M N : MM} (q : QA M N) {a : Nat} (k : Nat) (x : Int) (h : a ≠ 145) : QA (up2 M a k x) (up2 N a k x) := by
  refine ⟨fun b hb => ?_, ?_, ?_⟩
  · by_cases c : b = a
    · subst c; rw [u2_eq, u2_eq, q.1 b hb]
    · rw [u2_ne _ _ _ c, u2_ne _ _ _ c, q.1 b hb]
  · rw [u2_ne _ _ _ (fun z => h z.symm), u2_ne _ _ _ (fun z => h z.symm)]; exact q.2.1
  · rw [u2_ne _ _ _ (fun z => h z.symm), u2_ne _ _ _ (fun z => h z.symm)]; exact q.2.2
def shareOk (M : MM) (p x : Int) : Prop := (0 ≤ p ∧ p < M 147 2) ∧ 0 ≤ x ∧ x ≤ 999
theorem r_share {E : EE} (d : Nat) (p x : Int) (h : HP) (w : RSk h) (v : VM (h_mi h) E) : (shareOk (h_mi h) p x → ∃ N, ev (d + 1) 240 [vr 145, vi p, vi x] h = some (vi 1, sM h N) ∧ QA (up2 (h_mi h) 172 (126 + p).toNat x) N) ∧ (¬ shareOk (h_mi h) p x → ∃ N, ev (d + 1) 240 [vr 145, vi p, vi x] h = some (vi 0, sM h N) ∧ QA (h_mi h) N) := by
  have q0 : QA (h_mi h) (up2 (h_mi h) 145 0 0) := QA.f 0 0 (by omega) (by omega)
  have e0 : ∀ a, a ≠ 145 → (up2 (h_mi h) 145 0 0) a = h_mi h a := fun a ha => u2_ne _ _ _ ha
  have hp := v.p
  rw [v_240, q_240_0 d p x h w, sI_h, m_187 _ _ _ (w.m _), mi_sM, e0 147 (by omega), bI_s, q_240_10, m_148]
  unfold shareOk
  by_cases c1 : 0 ≤ p ∧ p < h_mi h 147 2
  · rw [bb_dt c1]
    simp only [zb, bI_s]
    rw [q_240_21 d p x _ _ (w.m _)]
    by_cases c2 : 0 ≤ x ∧ x ≤ 999
    · rw [bb_nt c2]
      refine ⟨fun _ => ?_, fun z => absurd ⟨c1, c2⟩ z⟩
      simp (disch := omega) only [mi_sM, sI_sM, sRi_sM, isK_sM, inb_sM, ln_sM, mr_sM, ml_sM, dt, df, ia, is_, zb, bI_s, bV_s, bR_s]
      exact ⟨_, rfl, q0.u2 _ _ (by omega)⟩
    · rw [bb_nf c2]
      exact ⟨fun z => absurd z.2 c2, fun _ => ⟨_, rfl, q0⟩⟩
  · rw [bb_df c1]
    exact ⟨fun z => absurd z.1 c1, fun _ => ⟨_, rfl, q0⟩⟩
def stumpOk (M : MM) (x y t : Int) : Prop := (0 ≤ x ∧ x < M 147 0 ∧ 0 ≤ y ∧ y < M 147 1) ∧ M 148 (10 * y + x).toNat ≠ 1 ∧ -1 ≤ t ∧ t ≤ 99
theorem r_stump {E : EE} (d : Nat) (x y t : Int) (h : HP) (w : RSk h) (v : VM (h_mi h) E) : (stumpOk (h_mi h) x y t → ∃ N, ev (d + 2) 242 [vr 145, vi x, vi y, vi t] h = some (vi 1, sM h N) ∧ QA (up2 (h_mi h) 172 (60 + (10 * y + x)).toNat (1 + t)) N) ∧ (¬ stumpOk (h_mi h) x y t → ∃ N, ev (d + 2) 242 [vr 145, vi x, vi y, vi t] h = some (vi 0, sM h N) ∧ QA (h_mi h) N) := by
  have q0 : QA (h_mi h) (up2 (h_mi h) 145 0 0) := QA.f 0 0 (by omega) (by omega)
  have e0 : ∀ a, a ≠ 145 → (up2 (h_mi h) 145 0 0) a = h_mi h a := fun a ha => u2_ne _ _ _ ha
  have hc := v.c
  have hr := v.r
  rw [v_242, q_242_0 (d + 1) x y t h w, sI_h, m_186 _ _ _ _ (w.m _), mi_sM, e0 147 (by omega), bI_s, q_242_11 (d + 1) x y t _ _ (w.m _)]
  unfold stumpOk
  by_cases c1 : 0 ≤ x ∧ x < h_mi h 147 0 ∧ 0 ≤ y ∧ y < h_mi h 147 1
  · rw [bb_dt c1, mi_sM, e0 148 (by omega), m_148]
    simp (disch := omega) only [mi_sM, sI_sM, sRi_sM, isK_sM, inb_sM, ln_sM, mr_sM, ml_sM, dt, df, ia, is_, zb, bI_s, bV_s, bR_s, im]
    by_cases c2 : h_mi h 148 (10 * y + x).toNat = 1
    · rw [dt c2]
      exact ⟨fun z => absurd c2 z.2.1, fun _ => ⟨_, rfl, q0⟩⟩
    · rw [df c2]
      simp only [zb]
      rw [q_242_36 (d + 1) x y t _ _ (w.m _)]
      by_cases c3 : -1 ≤ t ∧ t ≤ 99
      · rw [bb_nt c3]
        refine ⟨fun _ => ?_, fun z => absurd ⟨c1, c2, c3⟩ z⟩
        simp (disch := omega) only [mi_sM, sI_sM, sRi_sM, isK_sM, inb_sM, ln_sM, mr_sM, ml_sM, dt, df, ia, is_, zb, bI_s, bV_s, bR_s, im]
        have e : (60 + 10 * y + x).toNat = (60 + (10 * y + x)).toNat := by omega
        rw [e]
        exact ⟨_, rfl, q0.u2 _ _ (by omega)⟩
      · rw [bb_nf c3]
        exact ⟨fun z => absurd z.2.2 c3, fun _ => ⟨_, rfl, q0⟩⟩
  · rw [bb_df c1]
    exact ⟨fun z => absurd z.1 c1, fun _ => ⟨_, rfl, q0⟩⟩
