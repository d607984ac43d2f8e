/-! the reference: queue -/
def fld (M : MM) (l hr nt : Int) : Nat → Int := fun k => if k = 0 then hr else if k = 1 then nt else if k = 6 then ndV M l else if k = 7 then M 156 l.toNat else if k = 8 then weV M l else 0
/-- the rank of a load -/
def rkV (M : MM) (E : EE) (l : Int) : Int := E 0 3 (fld M l (M 172 133) (M 172 134))
def nxF (M : MM) (E : EE) (used : Int) (l : Int) (s : Int × Int) : Int × Int := if bit used l = 1 ∨ (0 ≤ s.1 ∧ rkV M E l ≤ s.2) then s else (l, rkV M E l)
def nxV (M : MM) (E : EE) (used : Int) : Int := (itr (nxF M E used) (M 147 3).toNat 0 (-1, 0)).1
theorem l_230 {h : HP} {M : MM} {E : EE} (w : RSk h) (v : VM M E) {used : Int} (u0 : 0 ≤ used) (u1 : used < 128) (d : Nat) : ∀ (k : Nat) (i : Int) (s : Int × Int) (v5 : AV) (N : MM), (M 147 3 - i).toNat = k → 0 ≤ i → i ≤ M 147 3 → Ag LwA M N → ∃ N', run (d + 3) md_230 7 [vr 145, vi used, vi s.1, vi s.2, vi i, v5] [] (sM h N) = some (vi (itr (nxF M E used) k i s).1, sM h N') ∧ Ag LwA M N'
  | 0, i, s, v5, N, h1, h2, h3, g => by
    refine ⟨N, ?_, g⟩
    rw [q_230_7 (d + 2) used _ _ i v5 _ (w.m N), mi_sM, g 147 (by unfold LwA; omega), dt (by omega)]
    rfl
  | k + 1, i, s, v5, N, h1, h2, h3, g => by
    have hl := v.l
    have lb := v.ld (l := i.toNat) (by omega)
    have ek : ((i.toNat : Nat) : Int) = i := by omega
    have gE : ∀ a, a < 162 → N a = M a := fun a ha => g a (by unfold LwA; omega)
    have key : ∀ (x : Int) (N1 : MM), x = rkV M E i → Ag LwA M N1 → ∃ N', run (d + 3) md_230 130 [vr 145, vi used, vi s.1, vi s.2, vi i, vi x] [] (sM h N1) = some (vi (itr (nxF M E used) k (i + 1) (if 0 ≤ s.1 ∧ rkV M E i ≤ s.2 then s else (i, rkV M E i))).1, sM h N') ∧ Ag LwA M N' := fun x N1 hx g1 => by
      rw [q_230_130 (d + 2), ia (by omega) (by omega)]
      subst hx
      by_cases c1 : s.1 < 0
      · rw [dt c1, if_neg (by omega)]
        exact l_230 w v u0 u1 d k (i + 1) (i, rkV M E i) (vi (rkV M E i)) N1 (by omega) (by omega) (by omega) g1
      · rw [df c1]
        by_cases c2 : s.2 < rkV M E i
        · rw [dt c2, if_neg (by omega)]
          exact l_230 w v u0 u1 d k (i + 1) (i, rkV M E i) (vi (rkV M E i)) N1 (by omega) (by omega) (by omega) g1
        · rw [df c2, if_pos (by omega)]
          exact l_230 w v u0 u1 d k (i + 1) s (vi (rkV M E i)) N1 (by omega) (by omega) (by omega) g1
    show ∃ N', _ = some (vi (itr (nxF M E used) k (i + 1) (nxF M E used i s)).1, sM h N') ∧ Ag LwA M N'
    rw [q_230_7 (d + 2) used _ _ i v5 _ (w.m N), mi_sM, gE 147 (by omega), df (by omega), bitI u0 u1 h2 (by omega), ia (by omega) (by omega)]
    by_cases c : bit used i = 1
    · have e : nxF M E used i s = s := if_pos (Or.inl c)
      rw [df (show ¬ bit used i ≠ 1 by omega), e]
      exact l_230 w v u0 u1 d k (i + 1) s v5 N (by omega) (by omega) (by omega) g
    · have e : nxF M E used i s = if 0 ≤ s.1 ∧ rkV M E i ≤ s.2 then s else (i, rkV M E i) := by
        unfold nxF
        by_cases z : 0 ≤ s.1 ∧ rkV M E i ≤ s.2
        · rw [if_pos z, if_pos (Or.inr z)]
        · rw [if_neg z, if_neg (fun y => y.elim c z)]
      rw [dt c, e]
      obtain ⟨lr, ale⟩ := v.2.2 3 (by omega)
      unfold LR at lr
      rw [gE 158 (by omega), gE 157 (by omega), gE 156 (by omega), g 172 (by unfold LwA; omega)]
      rcases lr with ⟨l1, l2⟩ | ⟨l1, l2, l3, cc, l4, l5⟩
      · have l1 : M 158 3 = M 157 3 := l1
        simp (disch := omega) only [mi_sM, sI_sM, sRi_sM, isK_sM, inb_sM, ln_sM, mr_sM, ml_sM, dt, df, ia, is_, zb, bI_s, bV_s, bR_s]
        exact key _ N (by unfold rkV; rw [l2]; rfl) g
      · have l1 : 0 ≤ M 157 3 := l1
        have l2 : M 157 3 < M 158 3 := l2
        have l3 : M 158 3 ≤ 6000 := l3
        have e1 : ∀ P : MM, (∀ a, a < 162 → P a = M a) → ev (d + 2) 196 [vr 145, vi i] (sM h P) = some (vi (ndV M i), sM h P) := fun P hP => by
          rw [m_196 _ i _ (w.m P) h2 (by omega) (by rw [mi_sM, hP 155 (by omega)]; omega) (by rw [mi_sM, hP 155 (by omega)]; omega), mi_sM, hP 155 (by omega), hP 154 (by omega)]
          rfl
        have e2 : ∀ P : MM, (∀ a, a < 162 → P a = M a) → ev (d + 2) 197 [vr 145, vi i] (sM h P) = some (vi (weV M i), sM h P) := fun P hP => by
          rw [m_197 _ i _ (w.m P) h2 (by omega), mi_sM, hP 154 (by omega)]
          rfl
        simp (disch := omega) only [mi_sM, sI_sM, sRi_sM, isK_sM, inb_sM, ln_sM, mr_sM, ml_sM, dt, df, ia, is_, zb, bI_s, bV_s, bR_s]
        generalize hP1 : up2 (up2 N 171 1 (M 172 133)) 171 2 (M 172 134) = P1
        have p1 : ∀ a, a < 162 → P1 a = M a := fun a ha => by rw [← hP1, u2_ne _ _ _ (by omega), u2_ne _ _ _ (by omega), gE a ha]
        rw [e1 P1 p1]
        simp only [bI_s]
        rw [q_230_95 (d + 2) used s.1 s.2 i (M 156 i.toNat) 7 (ndV M i) _ (w.m P1)]
        simp (disch := omega) only [mi_sM, sI_sM, sRi_sM, isK_sM, inb_sM, ln_sM, mr_sM, ml_sM, dt, df, ia, is_, zb, bI_s, bV_s, bR_s, p1 156]
        have e7 : ((7 : Int)).toNat = 7 := rfl
        have e9 : ((9 : Int)).toNat = 9 := rfl
        rw [e7]
        generalize hP2 : up2 (up2 P1 171 7 (ndV M i)) 171 8 (M 156 i.toNat) = P2
        have p2 : ∀ a, a < 162 → P2 a = M a := fun a ha => by rw [← hP2, u2_ne _ _ _ (by omega), u2_ne _ _ _ (by omega), p1 a ha]
        rw [e2 P2 p2]
        simp only [bI_s]
        rw [q_230_122 (d + 2) used s.1 s.2 i (M 156 i.toNat) 9 (weV M i) _ (w.m P2)]
        simp (disch := omega) only [mi_sM, sI_sM, sRi_sM, isK_sM, inb_sM, ln_sM, mr_sM, ml_sM, dt, df, ia, is_, zb, bI_s, bV_s, bR_s]
        rw [e9]
        generalize hP3 : up2 P2 171 9 (weV M i) = P3
        have p3 : ∀ a, a < 162 → P3 a = M a := fun a ha => by rw [← hP3, u2_ne _ _ _ (by omega), p2 a ha]
        have g3 : Ag LwA M P3 := fun a ha => by
          have ha' : ¬ (162 ≤ a ∧ a ≤ 171) := ha
          rw [← hP3, u2_ne _ _ _ (by omega), ← hP2, u2_ne _ _ _ (by omega), u2_ne _ _ _ (by omega), ← hP1, u2_ne _ _ _ (by omega), u2_ne _ _ _ (by omega)]
          exact g a ha
        have t3 : ((3 : Int)).toNat = 3 := rfl
        obtain ⟨N', f1, g1⟩ := l4 h P3 d 3 w (by omega) (by omega) (by rw [t3, p3 157 (by omega)]; exact l1) (by rw [t3, p3 157 (by omega), p3 158 (by omega)]; show M 158 3 = M 157 3 + (M 158 3 - M 157 3); omega) (by rw [t3, p3 157 (by omega)]; show M 157 3 + (M 158 3 - M 157 3) ≤ 6000; omega) (fun j j0 j1 => by rw [t3, p3 157 (by omega), p3 159 (by omega)]; exact l5 j j0 j1)
        rw [f1]
        simp only [bI_s]
        rw [q_230_128]
        refine key _ N' ?_ (g3.tr (g1.up (fun a ha => by unfold WkA at ha; unfold LwA; omega)))
        unfold rkV
        refine ale _ _ (fun k hk => ?_)
        have hk : k ≤ 1 ∨ (6 ≤ k ∧ k ≤ 8) := by unfold al at hk; omega
        have : k = 0 ∨ k = 1 ∨ k = 6 ∨ k = 7 ∨ k = 8 := by omega
        rw [← hP3, ← hP2, ← hP1]
        unfold fld
        rcases this with rfl | rfl | rfl | rfl | rfl
        · rw [u2_no _ _ _ (by omega), u2_no _ _ _ (by omega), u2_no _ _ _ (by omega), u2_no _ _ _ (by omega), u2_at]; rfl
        · rw [u2_no _ _ _ (by omega), u2_no _ _ _ (by omega), u2_no _ _ _ (by omega), u2_at]; rfl
        · rw [u2_no _ _ _ (by omega), u2_no _ _ _ (by omega), u2_at]; rfl
        · rw [u2_no _ _ _ (by omega), u2_at]; rfl
        · rw [u2_at]; rfl
theorem m_230 {E : EE} (d : Nat) (used : Int) (h : HP) (w : RSk h) (v : VM (h_mi h) E) (u0 : 0 ≤ used) (u1 : used < 128) : ∃ N, ev (d + 3) 230 [vr 145, vi used] h = some (vi (nxV (h_mi h) E used), sM h N) ∧ Ag LwA (h_mi h) N := by
  have hl := v.l
  obtain ⟨N, e, g⟩ := l_230 (h := h) w v u0 u1 d _ 0 (-1, 0) vu (h_mi h) rfl (by omega) hl.1 (Ag.rf _)
  rw [Int.sub_zero] at e
  exact ⟨N, (v_230 (d + 2) used h).trans ((q_230_0 (d + 2) used h).trans e), g⟩
theorem nxV_b (M : MM) (E : EE) (used : Int) : nxV M E used = -1 ∨ (0 ≤ nxV M E used ∧ nxV M E used < M 147 3 ∧ bit used (nxV M E used) ≠ 1) := by
  unfold nxV
  by_cases hn : 0 ≤ M 147 3
  · exact (itr_inv (fun i s => 0 ≤ i ∧ (s.1 = -1 ∨ (0 ≤ s.1 ∧ s.1 < i ∧ bit used s.1 ≠ 1))) (n := M 147 3) (f := nxF M E used) (fun i a hi ⟨h0, h1⟩ => by
      refine ⟨by omega, ?_⟩
      unfold nxF
      split
      · rcases h1 with h1 | h1
        · exact Or.inl h1
        · exact Or.inr ⟨h1.1, by omega, h1.2.2⟩
      · next c =>
        exact Or.inr ⟨h0, by show i < i + 1; omega, fun z => c (Or.inl z)⟩) _ 0 (-1, 0) hn (by omega) ⟨by omega, Or.inl rfl⟩).2
  · have e : (M 147 3).toNat = 0 := by omega
    rw [e]; exact Or.inl rfl
theorem rkV_ag {M N : MM} (h1 : ∀ a, a = 154 ∨ a = 155 ∨ a = 156 ∨ a = 172 → N a = M a) (E : EE) (l : Int) : rkV N E l = rkV M E l := by
  unfold rkV
  have e : ∀ hr nt, fld N l hr nt = fld M l hr nt := fun hr nt => by unfold fld ndV weV; rw [h1 154 (by omega), h1 155 (by omega), h1 156 (by omega)]
  rw [e, h1 172 (by omega)]
theorem nxV_q {M N : MM} (q : QA M N) (E : EE) (used : Int) : nxV N E used = nxV M E used := by
  unfold nxV
  have : nxF N E used = nxF M E used := by
    funext l s; unfold nxF
    rw [rkV_ag (fun a ha => q.e (nR (by omega) (by omega)))]
  rw [this, q.e (a := 147) (nR (by omega) (by omega))]
/-- those that wait, one by one -/
def quN (M : MM) (E : EE) (t what : Int) : Nat → Int → Int → Int → Int → Int → Int
  | 0, _, _, _, _, _ => -1
  | k + 1, used, cnt, sum, gone, b => if nxV M E used < 0 then (if what = 0 then sum else if what = 1 then gone else -1) else if what = 2 + cnt then nxV M E used else if t - b < ndV M (nxV M E used) then quN M E t what k (used + 2 ^ (nxV M E used).toNat) (cnt + 1) sum gone b else quN M E t what k (used + 2 ^ (nxV M E used).toNat) (cnt + 1) (sum + M 156 (nxV M E used).toNat) (i_or gone (i_shl 1 (nxV M E used))) (b + weV M (nxV M E used))
def wb (b x : Int) : Int := if 99 < x then x else max 0 (x - b)
theorem l_231 {h : HP} {M : MM} {E : EE} (w : RSk h) (v : VM M E) {row what : Int} (r0 : 0 ≤ row) (r1 : row < 6) (d : Nat) : ∀ (k : Nat) (used cnt sum gone b : Int) (N : MM), 8 ≤ pc used + k → 0 ≤ used → used < 128 → 0 ≤ cnt → cnt ≤ pc used → 0 ≤ sum → sum ≤ cnt * 99 → 0 ≤ b → b ≤ cnt * 3 → QA M N → N 145 52 = cnt → (∀ j : Int, 0 ≤ j → j < M 147 0 → N 176 j.toNat = wb b (seeG M row j)) → ∃ N', run (d + 4) md_231 57 [vr 145, vi row, vi what, vi used, vi sum, vi gone, vi (nxV M E used)] [] (sM h N) = some (vi (quN M E (tnV M row) what k used cnt sum gone b), sM h N') ∧ QA M N'
  | 0, used, cnt, sum, gone, b, N, hk, u0, u1, c0, c1, s0, s1, b0, b1, q, hc, hi => by
    have := pc_b used
    omega
  | k + 1, used, cnt, sum, gone, b, N, hk, u0, u1, c0, c1, s0, s1, b0, b1, q, hc, hi => by
    have pb := pc_b used
    have hl := v.l
    have vc := v.c
    rw [q_231_57 (d + 3) row what used sum gone _ _ (w.m N), mi_sM, hc]
    unfold quN
    rcases nxV_b M E used with n1 | ⟨n0, n1, n2⟩
    · refine ⟨N, ?_, q⟩
      rw [dt (by omega), if_pos (by omega)]
      by_cases k0 : what = 0
      · rw [df (show ¬ what ≠ 0 by omega), if_pos k0]; rfl
      · rw [dt k0, if_neg k0]
        by_cases k1 : what = 1
        · rw [df (show ¬ what ≠ 1 by omega), if_pos k1]; rfl
        · rw [dt k1, if_neg k1]; rfl
    · rw [df (by omega), if_neg (show ¬ nxV M E used < 0 by omega), ia (by omega) (by omega)]
      by_cases k2 : what = 2 + cnt
      · refine ⟨N, ?_, q⟩
        rw [df (show ¬ what ≠ 2 + cnt by omega), if_pos k2]; rfl
      · have p7 := pc_7 n0 (show nxV M E used < 7 by omega) n2
        have pI := pcI u0 u1 n0 (show nxV M E used < 7 by omega) n2
        have pp := p2p (nxV M E used).toNat
        rw [dt k2, if_neg k2, pI.2.2.1]
        simp only [zb, sI_sM]
        generalize hN1 : up2 N 145 52 (i_add cnt 1) = N1
        have q1 : QA M N1 := by rw [← hN1]; exact q.tr (QA.f 52 _ (by omega) (by omega))
        have c52 : N1 145 52 = cnt + 1 := by rw [← hN1, u2_at, ia (by omega) (by omega)]
        have hi1 : ∀ j : Int, 0 ≤ j → j < M 147 0 → N1 176 j.toNat = wb b (seeG M row j) := fun j j0 j1 => by rw [← hN1, u2_ne _ _ _ (by omega)]; exact hi j j0 j1
        have eq1 : ∀ a, a = 147 ∨ a = 154 ∨ a = 155 ∨ a = 156 → N1 a = M a := fun a ha => q1.e (nR (by omega) (by omega))
        have lb := v.ld (l := (nxV M E used).toNat) (by omega)
        have ndb := ndV_b v n0 n1
        have web := weV_b M (nxV M E used)
        have hs : ∀ j : Int, 0 ≤ j → j < M 147 0 → seeG M row j ≤ 99 ∨ seeG M row j = 1000 := fun j j0 j1 => by
          have := (v.s (c := (10 * row + j).toNat) (by omega)).1
          unfold seeG; split <;> omega
        have elo : lo (N1 176) (M 147 0) = lob (fun k => seeG M row k) b (M 147 0) := (lo_congr (fun j j0 j1 => by
          have ej : ((j.toNat : Nat) : Int) = j := by omega
          rw [hi1 j j0 j1]
          show _ = if 99 < seeG M row ((j.toNat : Nat) : Int) then 1000 else max 0 (seeG M row ((j.toNat : Nat) : Int) - b)
          rw [ej]
          unfold wb
          have := hs j j0 j1
          split <;> omega)).trans (lob_lo _ _ _).symm
        have lif := lob_iff (I := fun k => seeG M row k) (n := M 147 0) (b := b) (x := ndV M (nxV M E used)) (fun j j0 j1 => by
          have ej : ((j.toNat : Nat) : Int) = j := by omega
          rw [ej]; exact hs j j0 j1) b0 (by omega) ndb.1 ndb.2
        have e204 : ev (d + 3) 204 [vr 145, vi (nxV M E used)] (sM h N1) = some (vi (bb (ndV M (nxV M E used) ≤ lob (fun k => seeG M row k) b (M 147 0))), sM h N1) := by
          rw [m_204 (d + 2) _ _ (w.m N1) (by rw [mi_sM, eq1 147 (by omega)]; omega) (by rw [mi_sM, eq1 147 (by omega)]; omega) n0 (by omega) (by rw [mi_sM, eq1 155 (by omega)]; omega) (by rw [mi_sM, eq1 155 (by omega)]; omega), mi_sM, eq1 147 (by omega), eq1 155 (by omega), eq1 154 (by omega), elo]
          rfl
        have next : ∀ (sum2 gone2 b2 : Int) (N2 : MM), 0 ≤ sum2 → sum2 ≤ (cnt + 1) * 99 → 0 ≤ b2 → b2 ≤ (cnt + 1) * 3 → QA M N2 → N2 145 52 = cnt + 1 → (∀ j : Int, 0 ≤ j → j < M 147 0 → N2 176 j.toNat = wb b2 (seeG M row j)) → ∃ N', (bI (ev (d + 3) 230 [vr 145, vi (used + 2 ^ (nxV M E used).toNat)] (sM h N2)) fun r1 h1 => run (d + 3 + 1) md_231 137 [vr 145, vi row, vi what, vi (used + 2 ^ (nxV M E used).toNat), vi sum2, vi gone2, vi (nxV M E used)] [vi r1] h1) = some (vi (quN M E (tnV M row) what k (used + 2 ^ (nxV M E used).toNat) (cnt + 1) sum2 gone2 b2), sM h N') ∧ QA M N' := fun sum2 gone2 b2 N2 x0 x1 y0 y1 q2 z2 i2 => by
          obtain ⟨N3, e3, g3⟩ := m_230 (E := E) d (used + 2 ^ (nxV M E used).toNat) (sM h N2) w (q2.vm v) (by omega) pI.2.1
          rw [mi_sM] at e3 g3
          rw [e3, bI_s, q_231_137, nxV_q q2]
          have q3 : QA M N3 := q2.tr (QA.of g3 LwA_q)
          exact l_231 w v r0 r1 d k _ (cnt + 1) sum2 gone2 b2 N3 (by omega) (by omega) pI.2.1 (by omega) (by omega) x0 x1 y0 y1 q3 (by rw [g3 145 (by unfold LwA; omega)]; exact z2) (by rw [g3 176 (by unfold LwA; omega)]; exact i2)
        rw [e204]
        simp only [bI_s]
        rw [q_231_98 (d + 3) row what _ sum gone _ _ _ (w.m N1)]
        by_cases c2 : tnV M row - b < ndV M (nxV M E used)
        · have c3 : ¬ ndV M (nxV M E used) ≤ lob (fun k => seeG M row k) b (M 147 0) := by
            have := lif.mpr c2
            omega
          rw [bb_df c3, if_pos c2]
          exact next sum gone b N1 s0 (by omega) b0 (by omega) q1 c52 hi1
        · have c3 : ndV M (nxV M E used) ≤ lob (fun k => seeG M row k) b (M 147 0) := by
            by_cases z : lob (fun k => seeG M row k) b (M 147 0) < ndV M (nxV M E used)
            · exact absurd (lif.mp z) c2
            · omega
          rw [bb_dt c3, if_neg c2]
          have e197 : ev (d + 3) 197 [vr 145, vi (nxV M E used)] (sM h N1) = some (vi (weV M (nxV M E used)), sM h N1) := by
            rw [m_197 _ _ _ (w.m N1) n0 (by omega), mi_sM, eq1 154 (by omega)]; rfl
          have wbb : ∀ j : Int, 0 ≤ j → j < M 147 0 → 0 ≤ wb b (seeG M row j) ∧ wb b (seeG M row j) ≤ 1000 := fun j j0 j1 => by
            have := hs j j0 j1
            unfold wb; split <;> omega
          have e205 := m_205 (d + 3) (weV M (nxV M E used)) (sM h N1) w (by rw [mi_sM, eq1 147 (by omega)]; omega) (by rw [mi_sM, eq1 147 (by omega)]; omega) web.1 (by omega) (by
            rw [mi_sM, eq1 147 (by omega)]
            intro j j0 j1
            have := wbb j j0 j1
            rw [hi1 j j0 j1]; omega)
          rw [mi_sM, eq1 147 (by omega), sM_sM] at e205
          rw [e197]
          simp only [zb, bI_s]
          rw [q_231_108 (d + 3) row what _ sum gone _ _ _ (w.m N1), e205, bV_s]
          generalize hN2 : va_up N1 176 (rowF (fun _ x => wrG (weV M (nxV M E used)) x) (M 147 0).toNat 0 (N1 176)) = N2
          have q2 : QA M N2 := by rw [← hN2]; exact q1.tr (QA.row _ (by unfold RsA; omega) (by omega))
          rw [q_231_111 (d + 3) row what _ sum gone _ _ (w.m N2), mi_sM, q2.e (a := 156) (nR (by omega) (by omega))]
          simp (disch := omega) only [mi_sM, sI_sM, sRi_sM, isK_sM, inb_sM, ln_sM, mr_sM, ml_sM, dt, df, ia, is_, zb, bI_s, bV_s, bR_s]
          refine next _ _ _ N2 (by omega) (by omega) (by omega) (by omega) q2 ?_ ?_
          · rw [← hN2, up_ne _ _ (by omega)]; exact c52
          · intro j j0 j1
            rw [← hN2, up_eq, rowF_in j0 j1, hi1 j j0 j1]
            have := hs j j0 j1
            unfold wrG wb
            by_cases z : 99 < seeG M row j
            · rw [if_pos z, if_pos z, if_pos z]
            · rw [if_neg z, if_neg z, if_neg (by omega)]; omega
def queueV (M : MM) (E : EE) (row what : Int) : Int := if (0 ≤ row ∧ row < M 147 1) ∧ 0 ≤ what ∧ what ≤ 8 then quN M E (tnV M row) what 8 (M 172 132) 0 0 0 0 else -1
theorem r_queue {E : EE} (d : Nat) (row what : Int) (h : HP) (w : RSk h) (v : VM (h_mi h) E) : ∃ N, ev (d + 4) 231 [vr 145, vi row, vi what] h = some (vi (queueV (h_mi h) E row what), sM h N) ∧ QA (h_mi h) N := by
  have q0 : QA (h_mi h) (up2 (h_mi h) 145 0 0) := QA.f 0 0 (by omega) (by omega)
  have e0 : ∀ a, a ≠ 145 → (up2 (h_mi h) 145 0 0) a = h_mi h a := fun a ha => u2_ne _ _ _ ha
  have hc := v.c
  have hr := v.r
  have ho := v.ov
  rw [v_231, q_231_0 (d + 3) row what h w, sI_h, m_185 _ _ _ (w.m _), mi_sM, e0 147 (by omega), bI_s, q_231_10, m_148]
  unfold queueV
  by_cases c1 : 0 ≤ row ∧ row < h_mi h 147 1
  · rw [bb_dt c1]
    simp only [zb, bI_s]
    rw [q_231_20 (d + 3) row what _ _ (w.m _)]
    by_cases c2 : 0 ≤ what ∧ what ≤ 8
    · rw [bb_nt c2, if_pos ⟨c1, c2⟩, m_202 _ row _ (w.m _) (by rw [mi_sM, e0 147 (by omega)]; omega) (by rw [mi_sM, e0 147 (by omega)]; omega) c1.1 (by omega)]
      simp only [zb, bV_s, mi_sM, sM_sM]
      generalize hN1 : va_up (up2 (h_mi h) 145 0 0) 176 (seeR (up2 (h_mi h) 145 0 0) row) = N1
      have q1 : QA (h_mi h) N1 := by rw [← hN1]; exact q0.tr (QA.row _ (by unfold RsA; omega) (by omega))
      rw [q_231_30 (d + 3) row what _ (w.m N1), mi_sM, q1.e (a := 172) (nR (by omega) (by omega)), sI_sM]
      generalize hN2 : up2 N1 145 52 0 = N2
      have q2 : QA (h_mi h) N2 := by rw [← hN2]; exact q1.tr (QA.f 52 _ (by omega) (by omega))
      obtain ⟨N3, e3, g3⟩ := m_230 (E := E) d (h_mi h 172 132) (sM h N2) w (q2.vm v) ho.1 (by omega)
      rw [mi_sM] at e3 g3
      rw [e3, bI_s, q_231_55, nxV_q q2, sM_sM]
      refine l_231 w v c1.1 (by omega) d 8 _ 0 0 0 0 N3 (by have := pc_b (h_mi h 172 132); omega) ho.1 (by omega) (by omega) (pc_b _).1 (by omega) (by omega) (by omega) (by omega) (q2.tr (QA.of g3 LwA_q)) ?_ ?_
      · rw [g3 145 (by unfold LwA; omega), ← hN2, u2_at]
      · intro j j0 j1
        rw [g3 176 (by unfold LwA; omega), ← hN2, u2_ne _ _ _ (by omega), ← hN1, up_eq, seeR_at j0 (by rw [e0 147 (by omega)]; exact j1), seeG_ag (e0 148 (by omega)) (e0 172 (by omega))]
        have := (v.s (c := (10 * row + j).toNat) (by omega)).1
        unfold wb
        by_cases z : 99 < seeG (h_mi h) row j
        · rw [if_pos z]
        · rw [if_neg z]
          have := seeG_b v c1.1 (show row < 6 by omega) j0 (by omega)
          omega
    · refine ⟨_, ?_, q0⟩
      rw [bb_nf c2, if_neg (fun z => c2 z.2)]; rfl
  · refine ⟨_, ?_, q0⟩
    rw [bb_df c1, if_neg (fun z => c1 z.1)]; rfl
