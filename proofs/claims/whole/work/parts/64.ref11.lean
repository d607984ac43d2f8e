/-! the reference: salted, heard, count, toll -/
theorem or_ck : ((List.range 10).all fun k => (List.range (2 ^ k)).all fun s => decide (i_or (s : Int) (i_shl 1 (k : Int)) = (s : Int) + 2 ^ k) && decide (i_or (s : Int) 0 = (s : Int))) = true := by decide +kernel
theorem orI {s k : Int} (k0 : 0 ≤ k) (k1 : k < 10) (s0 : 0 ≤ s) (s1 : s < 2 ^ k.toNat) : i_or s (i_shl 1 k) = s + 2 ^ k.toNat ∧ i_or s 0 = s := by
  have s2 : s.toNat < 2 ^ k.toNat := by
    have : ((s.toNat : Nat) : Int) < ((2 ^ k.toNat : Nat) : Int) := by
      rw [Int.natCast_pow]
      have : ((s.toNat : Nat) : Int) = s := by omega
      rw [this]; exact s1
    omega
  have := rng_of (rng_of or_ck (show k.toNat < 10 by omega)) s2
  simp only [Bool.and_eq_true, decide_eq_true_eq] at this
  have e1 : ((s.toNat : Nat) : Int) = s := by omega
  have e2 : ((k.toNat : Nat) : Int) = k := by omega
  rw [e1, e2] at this
  exact this
theorem p2s {k : Int} (k0 : 0 ≤ k) : (2 : Int) ^ (k + 1).toNat = 2 ^ k.toNat + 2 ^ k.toNat := by
  have : (k + 1).toNat = k.toNat + 1 := by omega
  rw [this, Int.pow_succ]; omega
theorem p2p (k : Nat) : (0 : Int) < 2 ^ k := Int.pow_pos (by omega)
/-- bits of those of which P holds -/
def btF (P : Int → Bool) (k a : Int) : Int := bif P k then a + 2 ^ k.toNat else a
def slP (M : MM) (E : EE) (row poured seen k : Int) : Bool := decide (0 < M 172 (60 + (10 * row + k)).toNat) && (decide (cnt (fsV M E (10 * row + k) poured seen (sltB M (10 * row + k))) 51 = 0) && decide (0 < cnt (fsV M E (10 * row + k) poured seen 1) 51))
theorem l_246 {h : HP} {M : MM} {E : EE} (w : RSk h) (v : VM M E) {row poured seen : Int} (r0 : 0 ≤ row) (r1 : row < 6) (s0 : 12 ≤ seen) (s1 : seen ≤ 23) (d : Nat) : ∀ (k : Nat) (i a : Int) (v6 v7 : AV) (N : MM), (M 147 0 - i).toNat = k → 0 ≤ i → i ≤ M 147 0 → 0 ≤ a → a < 2 ^ i.toNat → QA M N → ∃ N', run (d + 6) md_246 29 [vr 145, vi row, vi poured, vi seen, vi a, vi i, v6, v7] [] (sM h N) = some (vi (itr (btF (slP M E row poured seen)) k i a), sM h N') ∧ QA M N'
  | 0, i, a, v6, v7, N, h1, h2, h3, a0, a1, q => by
    refine ⟨N, ?_, q⟩
    rw [q_246_29 (d + 5) row poured seen a i v6 v7 _ (w.m N), mi_sM, q.e (a := 147) (nR (by omega) (by omega)), dt (by omega)]
    rfl
  | k + 1, i, a, v6, v7, N, h1, h2, h3, a0, a1, q => by
    have hc := v.c
    have o := orI h2 (by omega) a0 a1
    have pp := p2p i.toNat
    have ps := p2s h2
    obtain ⟨N1, e1, q1⟩ := m_243 (E := E) d (10 * row + i) poured seen (sltB M (10 * row + i)) 0 (sM h N) w (q.vm v) (by omega) (by omega) s0 s1
    rw [mi_sM, fsV_q q, sM_sM, if_pos rfl] at e1
    rw [mi_sM] at q1
    have q2 := q.tr q1
    obtain ⟨N2, e2, q3⟩ := m_243 (E := E) d (10 * row + i) poured seen 1 0 (sM h N1) w (q2.vm v) (by omega) (by omega) s0 s1
    rw [mi_sM, fsV_q q2, sM_sM, if_pos rfl] at e2
    rw [mi_sM] at q3
    have q4 := q2.tr q3
    have key := fun P (qP : QA M P) z => l_246 w v (poured := poured) r0 r1 s0 s1 d k (i + 1) a (vi (10 * row + i)) (vi z) P (by omega) (by omega) (by omega) a0 (by omega) qP
    have key2 := fun P (qP : QA M P) z => l_246 w v (poured := poured) r0 r1 s0 s1 d k (i + 1) (a + 2 ^ i.toNat) (vi (10 * row + i)) (vi z) P (by omega) (by omega) (by omega) (by omega) (by omega) qP
    have j0 : ∀ P, run (d + 5 + 1) md_246 108 [vr 145, vi row, vi poured, vi seen, vi a, vi i, vi (10 * row + i), v7] [vi 0] (sM h P) = run (d + 6) md_246 29 [vr 145, vi row, vi poured, vi seen, vi a, vi (i + 1), vi (10 * row + i), vi 0] [] (sM h P) := fun P => by
      rw [q_246_108, dt (by omega), o.2, ia (by omega) (by omega)]; rfl
    have j1 : ∀ P, run (d + 5 + 1) md_246 108 [vr 145, vi row, vi poured, vi seen, vi a, vi i, vi (10 * row + i), v7] [vi 1] (sM h P) = run (d + 6) md_246 29 [vr 145, vi row, vi poured, vi seen, vi (a + 2 ^ i.toNat), vi (i + 1), vi (10 * row + i), vi 1] [] (sM h P) := fun P => by
      rw [q_246_108, df (by omega), o.1, ia (by omega) (by omega)]; rfl
    have hs : (bif decide (M 148 (10 * row + i).toNat ≠ 2) then bI (ev (d + 5) 243 [vr 145, vi (10 * row + i), vi poured, vi seen, vi 0, vi 0] (sM h N)) (fun r1 h1 => run (d + 5 + 1) md_246 87 [vr 145, vi row, vi poured, vi seen, vi a, vi i, vi (10 * row + i), v7] [vi r1] h1) else bI (ev (d + 5) 243 [vr 145, vi (10 * row + i), vi poured, vi seen, vi 1, vi 0] (sM h N)) (fun r1 h1 => run (d + 5 + 1) md_246 87 [vr 145, vi row, vi poured, vi seen, vi a, vi i, vi (10 * row + i), v7] [vi r1] h1)) = run (d + 5 + 1) md_246 87 [vr 145, vi row, vi poured, vi seen, vi a, vi i, vi (10 * row + i), v7] [vi (cnt (fsV M E (10 * row + i) poured seen (sltB M (10 * row + i))) 51)] (sM h N1) := by
      by_cases cz : M 148 (10 * row + i).toNat = 2
      · have : sltB M (10 * row + i) = 1 := if_pos cz
        rw [this] at e1 ⊢
        rw [df (by omega), e1]; rfl
      · have : sltB M (10 * row + i) = 0 := if_neg cz
        rw [this] at e1 ⊢
        rw [dt cz, e1]; rfl
    rw [q_246_29 (d + 5) row poured seen a i v6 v7 _ (w.m N), mi_sM, q.e (a := 147) (nR (by omega) (by omega)), q.e (a := 172) (nR (by omega) (by omega)), q.e (a := 148) (nR (by omega) (by omega))]
    simp (disch := omega) only [mi_sM, sI_sM, sRi_sM, isK_sM, inb_sM, ln_sM, mr_sM, ml_sM, dt, df, ia, is_, zb, bI_s, bV_s, bR_s, im]
    rw [hs]
    show ∃ N', _ = some (vi (itr (btF (slP M E row poured seen)) k (i + 1) (btF (slP M E row poured seen) i a)), sM h N') ∧ QA M N'
    unfold btF slP
    by_cases c1 : M 172 (60 + (10 * row + i)).toNat ≤ 0
    · rw [dt c1, df (p := 0 < M 172 (60 + (10 * row + i)).toNat) (by omega)]
      simp only [zb, zd, cond_false]
      rw [j0]
      exact key N q 0
    · rw [df c1, dt (p := 0 < M 172 (60 + (10 * row + i)).toNat) (by omega)]
      simp only [zb]
      rw [q_246_87 (d + 5) row poured seen a i _ v7 _ _ (w.m N1)]
      by_cases c2 : cnt (fsV M E (10 * row + i) poured seen (sltB M (10 * row + i))) 51 = 0
      · rw [df (by omega), dt (p := cnt (fsV M E (10 * row + i) poured seen (sltB M (10 * row + i))) 51 = 0) c2, e2]
        simp only [zb, bI_s]
        rw [q_246_100]
        by_cases c3 : cnt (fsV M E (10 * row + i) poured seen 1) 51 ≤ 0
        · rw [dt c3, df (p := 0 < cnt (fsV M E (10 * row + i) poured seen 1) 51) (by omega)]
          simp only [zb, cond_false]
          rw [j0]
          exact key N2 q4 0
        · rw [df c3, dt (p := 0 < cnt (fsV M E (10 * row + i) poured seen 1) 51) (by omega)]
          simp only [zb, cond_true]
          rw [j1]
          exact key2 N2 q4 1
      · rw [dt c2, df (p := cnt (fsV M E (10 * row + i) poured seen (sltB M (10 * row + i))) 51 = 0) c2]
        simp only [zb, zd, cond_false]
        rw [j0]
        exact key N1 q2 0
def saltedV (M : MM) (E : EE) (row poured seen : Int) : Int := if (0 ≤ row ∧ row < M 147 1) ∧ (0 ≤ poured ∧ poured ≤ 11) ∧ 12 ≤ seen ∧ seen ≤ 23 then itr (btF (slP M E row poured seen)) (M 147 0).toNat 0 0 else -1
theorem r_salted {E : EE} (d : Nat) (row poured seen : Int) (h : HP) (w : RSk h) (v : VM (h_mi h) E) : ∃ N, ev (d + 6) 246 [vr 145, vi row, vi poured, vi seen] h = some (vi (saltedV (h_mi h) E row poured seen), sM h N) ∧ QA (h_mi h) N := by
  have q0 : QA (h_mi h) (up2 (h_mi h) 145 0 0) := QA.f 0 0 (by omega) (by omega)
  have e0 : ∀ a, a ≠ 145 → (up2 (h_mi h) 145 0 0) a = h_mi h a := fun a ha => u2_ne _ _ _ ha
  have hc := v.c
  have hr := v.r
  rw [v_246, q_246_0 (d + 5) row poured seen h w, sI_h, m_185 _ _ _ (w.m _), mi_sM, e0 147 (by omega), bI_s, q_246_10, m_244]
  unfold saltedV
  by_cases c1 : 0 ≤ row ∧ row < h_mi h 147 1
  · rw [bb_dt c1]
    simp only [zb, bI_s]
    rw [q_246_18]
    by_cases c2 : (0 ≤ poured ∧ poured ≤ 11) ∧ 12 ≤ seen ∧ seen ≤ 23
    · rw [bb_nt c2, if_pos ⟨c1, c2⟩]
      obtain ⟨N, e1, q1⟩ := l_246 (h := h) w v (poured := poured) c1.1 (by omega) c2.2.1 c2.2.2 d _ 0 0 vu vu (up2 (h_mi h) 145 0 0) rfl (by omega) (by omega) (by omega) (by decide) q0
      rw [Int.sub_zero] at e1
      exact ⟨N, e1, q1⟩
    · refine ⟨_, ?_, q0⟩
      rw [bb_nf c2, if_neg (fun z => c2 z.2)]; rfl
  · refine ⟨_, ?_, q0⟩
    rw [bb_df c1, if_neg (fun z => c1 z.1)]; rfl
/-- heard: how many, the first, the last, where it may crack -/
abbrev I4 : Type := Int × Int × Int × Int
def heF (M : MM) (E : EE) (row snd k : Int) (s : I4) : I4 := if M 148 (10 * row + k).toNat = 1 ∨ soV M E (10 * row + k) ≠ snd then s else (s.1 + 1, (if s.1 = 0 then k else s.2.1), k, (if s.2.2.2 < 0 ∨ M 172 (10 * row + k).toNat < M 172 (10 * row + s.2.2.2).toNat then k else s.2.2.2))
def heS (M : MM) (E : EE) (row snd : Int) : I4 := itr (heF M E row snd) (M 147 0).toNat 0 (0, -1, -1, -1)
def heO (what : Int) (s : I4) : Int := if s.1 = 0 then -1 else if what = 0 then s.2.1 else if what = 1 then s.2.2.1 else if what = 2 then s.1 else s.2.2.2
theorem l_237 {h : HP} {M : MM} {E : EE} (w : RSk h) (v : VM M E) {row snd what : Int} (r0 : 0 ≤ row) (r1 : row < 6) (d : Nat) : ∀ (k : Nat) (i : Int) (s : I4) (v9 : AV) (N : MM), (M 147 0 - i).toNat = k → 0 ≤ i → i ≤ M 147 0 → 0 ≤ s.1 → s.1 ≤ i → -1 ≤ s.2.2.2 → s.2.2.2 < 10 → QA M N → ∃ N', run (d + 4) md_237 49 [vr 145, vi row, vi snd, vi what, vi s.1, vi s.2.1, vi s.2.2.1, vi s.2.2.2, vi i, v9] [] (sM h N) = some (vi (heO what (itr (heF M E row snd) k i s)), sM h N') ∧ QA M N'
  | 0, i, s, v9, N, h1, h2, h3, n0, n1, k0, k1, q => by
    refine ⟨N, ?_, q⟩
    rw [q_237_49 (d + 3) row snd what _ _ _ _ i v9 _ (w.m N), mi_sM, q.e (a := 147) (nR (by omega) (by omega)), dt (by omega)]
    show _ = some (vi (heO what s), sM h N)
    unfold heO
    by_cases c0 : s.1 = 0
    · rw [df (by omega), if_pos c0]; rfl
    · rw [dt c0, if_neg c0]
      by_cases c1 : what = 0
      · rw [df (by omega), if_pos c1]; rfl
      · rw [dt c1, if_neg c1]
        by_cases c2 : what = 1
        · rw [df (by omega), if_pos c2]; rfl
        · rw [dt c2, if_neg c2]
          by_cases c3 : what = 2
          · rw [df (by omega), if_pos c3]; rfl
          · rw [dt c3, if_neg c3]; rfl
  | k + 1, i, s, v9, N, h1, h2, h3, n0, n1, k0, k1, q => by
    have hc := v.c
    rw [q_237_49 (d + 3) row snd what _ _ _ _ i v9 _ (w.m N), mi_sM, q.e (a := 147) (nR (by omega) (by omega)), q.e (a := 148) (nR (by omega) (by omega))]
    simp (disch := omega) only [mi_sM, sI_sM, sRi_sM, isK_sM, inb_sM, ln_sM, mr_sM, ml_sM, dt, df, ia, is_, zb, bI_s, bV_s, bR_s, im]
    show ∃ N', _ = some (vi (heO what (itr (heF M E row snd) k (i + 1) (heF M E row snd i s))), sM h N') ∧ QA M N'
    unfold heF
    by_cases c1 : M 148 (10 * row + i).toNat = 1
    · rw [dt c1, if_pos (Or.inl c1)]
      exact l_237 w v r0 r1 d k (i + 1) s (vi (10 * row + i)) N (by omega) (by omega) (by omega) n0 (by omega) k0 k1 q
    · obtain ⟨N1, e1, g1⟩ := m_235 (E := E) d (10 * row + i) (sM h N) w (q.vm v) (by omega) (by omega)
      rw [mi_sM, soV_q q, sM_sM] at e1
      rw [mi_sM] at g1
      have q1 := q.tr (QA.of g1 LwA_q)
      rw [df c1, e1]
      simp only [zb, bI_s]
      rw [q_237_86]
      by_cases c2 : soV M E (10 * row + i) = snd
      · rw [dt c2, if_neg (fun z => z.elim c1 (fun y => y c2))]
        have j : ∀ f, run (d + 3 + 1) md_237 105 [vr 145, vi row, vi snd, vi what, vi s.1, vi s.2.1, vi s.2.2.1, vi s.2.2.2, vi i, vi (10 * row + i)] [vi f] (sM h N1) = run (d + 4) md_237 49 [vr 145, vi row, vi snd, vi what, vi (s.1 + 1), vi f, vi i, vi (if s.2.2.2 < 0 ∨ M 172 (10 * row + i).toNat < M 172 (10 * row + s.2.2.2).toNat then i else s.2.2.2), vi (i + 1), vi (10 * row + i)] [] (sM h N1) := fun f => by
          rw [q_237_105 (d + 3) row snd what _ _ _ _ i _ _ _ (w.m N1), mi_sM, q1.e (a := 172) (nR (by omega) (by omega)), ia (x := s.1) (by omega) (by omega), ia (x := i) (by omega) (by omega)]
          by_cases c3 : s.2.2.2 < 0
          · rw [dt c3, if_pos (Or.inl c3)]; rfl
          · rw [df c3]
            simp (disch := omega) only [mi_sM, sI_sM, sRi_sM, isK_sM, inb_sM, ln_sM, mr_sM, ml_sM, dt, df, ia, is_, zb, bI_s, bV_s, bR_s, im]
            by_cases c4 : M 172 (10 * row + s.2.2.2).toNat ≤ M 172 (10 * row + i).toNat
            · rw [dt c4, if_neg (by omega)]; rfl
            · rw [df c4, if_pos (by omega)]; rfl
        rw [j, j]
        by_cases c5 : s.1 = 0
        · rw [df (by omega), if_pos c5]
          exact l_237 w v r0 r1 d k (i + 1) (s.1 + 1, i, i, if s.2.2.2 < 0 ∨ M 172 (10 * row + i).toNat < M 172 (10 * row + s.2.2.2).toNat then i else s.2.2.2) (vi (10 * row + i)) N1 (by omega) (by omega) (by omega) (by show 0 ≤ s.1 + 1; omega) (by show s.1 + 1 ≤ _; omega) (by show -1 ≤ ite _ _ _; split <;> omega) (by show ite _ _ _ < 10; split <;> omega) q1
        · rw [dt c5, if_neg c5]
          exact l_237 w v r0 r1 d k (i + 1) (s.1 + 1, s.2.1, i, if s.2.2.2 < 0 ∨ M 172 (10 * row + i).toNat < M 172 (10 * row + s.2.2.2).toNat then i else s.2.2.2) (vi (10 * row + i)) N1 (by omega) (by omega) (by omega) (by show 0 ≤ s.1 + 1; omega) (by show s.1 + 1 ≤ _; omega) (by show -1 ≤ ite _ _ _; split <;> omega) (by show ite _ _ _ < 10; split <;> omega) q1
      · rw [df c2, if_pos (Or.inr c2), ia (by omega) (by omega)]
        exact l_237 w v r0 r1 d k (i + 1) s (vi (10 * row + i)) N1 (by omega) (by omega) (by omega) n0 (by omega) k0 k1 q1
def heardV (M : MM) (E : EE) (row snd what : Int) : Int := if (0 ≤ row ∧ row < M 147 1) ∧ (0 ≤ snd ∧ snd ≤ 9) ∧ 0 ≤ what ∧ what ≤ 3 then heO what (heS M E row snd) else -1
theorem r_heard {E : EE} (d : Nat) (row snd what : Int) (h : HP) (w : RSk h) (v : VM (h_mi h) E) : ∃ N, ev (d + 4) 237 [vr 145, vi row, vi snd, vi what] h = some (vi (heardV (h_mi h) E row snd what), sM h N) ∧ QA (h_mi h) N := by
  have q0 : QA (h_mi h) (up2 (h_mi h) 145 0 0) := QA.f 0 0 (by omega) (by omega)
  have e0 : ∀ a, a ≠ 145 → (up2 (h_mi h) 145 0 0) a = h_mi h a := fun a ha => u2_ne _ _ _ ha
  have hc := v.c
  have hr := v.r
  rw [v_237, q_237_0 (d + 3) row snd what h w, sI_h, m_185 _ _ _ (w.m _), mi_sM, e0 147 (by omega), bI_s, q_237_10, m_148]
  unfold heardV
  by_cases c1 : 0 ≤ row ∧ row < h_mi h 147 1
  · rw [bb_dt c1]
    simp only [zb, bI_s]
    rw [q_237_20, m_148]
    by_cases c2 : 0 ≤ snd ∧ snd ≤ 9
    · rw [bb_dt c2]
      simp only [zb, bI_s]
      rw [q_237_29]
      by_cases c3 : 0 ≤ what ∧ what ≤ 3
      · rw [bb_nt c3, if_pos ⟨c1, c2, c3⟩]
        obtain ⟨N, e1, q1⟩ := l_237 (h := h) w v (snd := snd) (what := what) c1.1 (by omega) d _ 0 (0, -1, -1, -1) vu (up2 (h_mi h) 145 0 0) rfl (by omega) (by omega) (by decide) (by decide) (by decide) (by decide) q0
        rw [Int.sub_zero] at e1
        exact ⟨N, e1, q1⟩
      · refine ⟨_, ?_, q0⟩
        rw [bb_nf c3, if_neg (fun z => c3 z.2.2)]; rfl
    · refine ⟨_, ?_, q0⟩
      rw [bb_df c2, if_neg (fun z => c2 z.2.1)]; rfl
  · refine ⟨_, ?_, q0⟩
    rw [bb_df c1, if_neg (fun z => c1 z.1)]; rfl
