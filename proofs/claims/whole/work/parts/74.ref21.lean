/-! the reference: winter, its nights -/
/-- a cell of thickness x, melted -/
def mtG (x s : Int) : Int := if 99 < x then x else max 0 (x - s)
theorem l_250h {h : HP} {M : MM} {E : EE} (w : RSk h) (v : VM M E) {hour nt row k : Int} (hh : hour ≤ 23) (r0 : 0 ≤ row) (r1 : row < 6) (k0 : 0 ≤ k) (k1 : k < 10) (x1 x2 x3 x5 x6 x7 x8 x10 : Int) (d : Nat) : ∀ (n : Nat) (i x : Int) (N : MM), (hour + 1 - i).toNat = n → 12 ≤ i → QA M N → N 145 0 = 0 → N 176 k.toNat = x → 0 ≤ x → (x ≤ 99 ∨ x = 1000) → ∃ N' i', run (d + 8) md_250 196 [vr 145, vi x1, vi x2, vi x3, vi hour, vi x5, vi x6, vi x7, vi x8, vi nt, vi x10, vi row, vi k, vi i] [] (sM h N) = run (d + 8) md_250 181 [vr 145, vi x1, vi x2, vi x3, vi hour, vi x5, vi x6, vi x7, vi x8, vi nt, vi x10, vi row, vi (k + 1), vi i'] [] (sM h N') ∧ QA M N' ∧ N' 145 0 = 0 ∧ N' 176 = va_up (N 176) k.toNat (mtG x (itr (fun i a => a + meV M E (10 * row + k) i nt) n i 0))
  | 0, i, x, N, h1, h2, q, z, e, b0, b1 => by
    refine ⟨N, i, ?_, q, z, ?_⟩
    · rw [q_250_196 (d + 7) x1 x2 x3 hour x5 x6 x7 x8 nt x10 row k i _ (w.m N), dt (by omega), ia (by omega) (by omega)]; rfl
    · have : mtG x (itr (fun i a => a + meV M E (10 * row + k) i nt) 0 i 0) = N 176 k.toNat := by
        show mtG x 0 = _
        rw [e]; unfold mtG; split <;> omega
      rw [this, up_self]
  | n + 1, i, x, N, h1, h2, q, z, e, b0, b1 => by
    rw [q_250_196 (d + 7) x1 x2 x3 hour x5 x6 x7 x8 nt x10 row k i _ (w.m N), mi_sM, e]
    simp (disch := omega) only [mi_sM, sI_sM, sRi_sM, isK_sM, inb_sM, ln_sM, mr_sM, ml_sM, dt, df, ia, is_, zb, bI_s, bV_s, bR_s, im]
    by_cases c : 100 ≤ x
    · refine ⟨N, i, ?_, q, z, ?_⟩
      · rw [dt c]; rfl
      · have : mtG x (itr (fun i a => a + meV M E (10 * row + k) i nt) (n + 1) i 0) = N 176 k.toNat := by
          rw [e]; unfold mtG; rw [if_pos (by omega)]
        rw [this, up_self]
    · have mb := meV_b M E (10 * row + k) i nt
      obtain ⟨N1, e1, g1⟩ := m_190 (E := E) (d + 4) 1 (10 * row + k) i nt 1 (sM h N) w (q.vm v) (by omega) rfl (by omega) (by omega)
      have e1 : ev (d + 7) 190 [vr 145, vi 1, vi (10 * row + k), vi i, vi nt, vi 1] (sM h N) = some (vi (meV N E (10 * row + k) i nt), sM h N1) := e1
      rw [mi_sM] at g1
      rw [meV_ag (q.e (nR (by omega) (by omega)))] at e1
      rw [df c, e1]
      simp only [zb, bI_s]
      rw [q_250_247 (d + 7) x1 x2 x3 hour x5 x6 x7 x8 nt x10 row k i k 0 x (meV M E (10 * row + k) i nt) _ (w.m N1)]
      simp (disch := omega) only [mi_sM, sI_sM, sRi_sM, isK_sM, inb_sM, ln_sM, mr_sM, ml_sM, dt, df, ia, is_, zb, bI_s, bV_s, bR_s]
      have q1 : QA M (up2 N1 176 k.toNat (max 0 (x - meV M E (10 * row + k) i nt))) := (q.tr (QA.of g1 LwA_q)).tr (by rw [up2_def]; exact QA.row _ (by unfold RsA; omega) (by omega))
      obtain ⟨N2, i2, e2, q2, z2, f2⟩ := l_250h w v hh r0 r1 k0 k1 x1 x2 x3 x5 x6 x7 x8 x10 d n (i + 1) (max 0 (x - meV M E (10 * row + k) i nt)) (up2 N1 176 k.toNat (max 0 (x - meV M E (10 * row + k) i nt))) (by omega) (by omega) q1 (by rw [u2_ne _ _ _ (by omega), g1 145 (by unfold LwA; omega)]; exact z) (by rw [u2_at]) (by omega) (by omega)
      refine ⟨N2, i2, e2, q2, z2, ?_⟩
      rw [f2, u2_eq, up_up, g1 176 (by unfold LwA; omega)]
      congr 1
      have nn := itr_nn (P := fun i => meV M E (10 * row + k) i nt) n (i + 1) 0 (by omega) (fun j _ _ => (meV_b M E (10 * row + k) j nt).1)
      have es := itr_sum (fun i => meV M E (10 * row + k) i nt) n (i + 1) (0 + meV M E (10 * row + k) i nt)
      show mtG _ (itr (fun i a => a + meV M E (10 * row + k) i nt) n (i + 1) 0) = mtG x (itr (fun i a => a + meV M E (10 * row + k) i nt) n (i + 1) (0 + meV M E (10 * row + k) i nt))
      rw [es]
      unfold mtG
      rw [if_neg (by omega), if_neg (by omega)]
      omega
theorem l_250k {h : HP} {M : MM} {E : EE} (w : RSk h) (v : VM M E) {hour nt row : Int} (hh : hour ≤ 23) (r0 : 0 ≤ row) (r1 : row < 6) (x1 x2 x3 x5 x6 x7 x8 x10 : Int) {B : Int → Int} (hB : ∀ j, 0 ≤ j → j < M 147 0 → 0 ≤ B j ∧ (B j ≤ 99 ∨ B j = 1000)) (d : Nat) : ∀ (n : Nat) (k : Int) (v13 : AV) (N : MM), (M 147 0 - k).toNat = n → 0 ≤ k → k ≤ M 147 0 → QA M N → N 145 0 = 0 → (∀ j : Int, 0 ≤ j → j < k → N 176 j.toNat = mtG (B j) (meS M E (10 * row + j) hour nt)) → (∀ j : Int, k ≤ j → j < M 147 0 → N 176 j.toNat = B j) → ∃ N' v13', run (d + 8) md_250 181 [vr 145, vi x1, vi x2, vi x3, vi hour, vi x5, vi x6, vi x7, vi x8, vi nt, vi x10, vi row, vi k, v13] [] (sM h N) = run (d + 8) md_250 181 [vr 145, vi x1, vi x2, vi x3, vi hour, vi x5, vi x6, vi x7, vi x8, vi nt, vi x10, vi row, vi (M 147 0), v13'] [] (sM h N') ∧ QA M N' ∧ N' 145 0 = 0 ∧ ∀ j : Int, 0 ≤ j → j < M 147 0 → N' 176 j.toNat = mtG (B j) (meS M E (10 * row + j) hour nt)
  | 0, k, v13, N, h1, h2, h3, q, z, p1, p2 => by
    have : k = M 147 0 := by omega
    subst this
    exact ⟨N, v13, rfl, q, z, p1⟩
  | n + 1, k, v13, N, h1, h2, h3, q, z, p1, p2 => by
    have hc := v.c
    have bk := hB k h2 (by omega)
    obtain ⟨N1, i1, e1, q1, z1, f1⟩ := l_250h w v hh r0 r1 h2 (by omega) x1 x2 x3 x5 x6 x7 x8 x10 d _ 12 (B k) N rfl (by omega) q z (p2 k (by omega) (by omega)) bk.1 bk.2
    have em : itr (fun i a => a + meV M E (10 * row + k) i nt) (hour + 1 - 12).toNat 12 0 = meS M E (10 * row + k) hour nt := by
      unfold meS
      have : (hour + 1 - 12).toNat = (hour - 11).toNat := by omega
      rw [this]
    rw [em] at f1
    obtain ⟨N2, v2, e2, q2, z2, f2⟩ := l_250k w v hh r0 r1 x1 x2 x3 x5 x6 x7 x8 x10 hB d n (k + 1) (vi i1) N1 (by omega) (by omega) (by omega) q1 z1 (fun j j0 j1 => by
      rw [f1]
      by_cases c : j = k
      · subst c; rw [up_eq]
      · rw [up_ne _ _ (by omega)]; exact p1 j j0 (by omega)) (fun j j0 j1 => by rw [f1, up_ne _ _ (by omega)]; exact p2 j (by omega) j1)
    refine ⟨N2, v2, ?_, q2, z2, f2⟩
    rw [q_250_181 (d + 7) x1 x2 x3 hour x5 x6 x7 x8 nt x10 row k v13 _ (w.m N), mi_sM, q.e (a := 147) (nR (by omega) (by omega)), df (by omega)]
    simp only [zb]
    exact e1.trans e2
/-- a night's best row, melted up to an hour, column by column -/
def wmV (M : MM) (E : EE) (nt md m hour j : Int) : Int := mtG (buG (wT M E nt md m (wB M E nt md m)) (wG M E nt md (wB M E nt md m) j) (wI M (wB M E nt md m) j)) (meS M E (10 * wB M E nt md m + j) hour nt)
def wiB (M : MM) (E : EE) (nt md m hour load : Int) : Prop := ndV M load ≤ lo (fun k => wmV M E nt md m hour k) (M 147 0)
def mdV (M : MM) (g : Int) : Int := if drV g < M 147 4 then 1 else 0
def wiBb (M : MM) (E : EE) (nt md m hour load : Int) : Int := if 0 ≤ load ∧ ndV M load ≤ lo (fun k => wmV M E nt md m hour k) (M 147 0) then 1 else 0
def wiF (M : MM) (E : EE) (m load hour : Int) (t : Int) (s : Int × Int × Int) : Int × Int × Int :=
  (s.1 + wiBb M E (M 172 134 + t) (mdV M (drG s.2.2)) m hour load, max s.2.1 (wT M E (M 172 134 + t) (mdV M (drG s.2.2)) m (wB M E (M 172 134 + t) (mdV M (drG s.2.2)) m)), drG s.2.2)
theorem l_250n {h : HP} {M : MM} {E : EE} (w : RSk h) (v : VM M E) {hour load m nights : Int} (hh : hour ≤ 23) (ld : load = -1 ∨ (0 ≤ load ∧ load < M 147 3)) (n1 : nights ≤ 60) (x1 : Int) (d : Nat) : ∀ (k : Nat) (i : Int) (s : Int × Int × Int) (N : MM) (v9 v10 v11 v12 v13 : AV), (nights - i).toNat = k → 0 ≤ i → i ≤ nights → 0 ≤ s.1 → s.1 ≤ i → 0 ≤ s.2.2 → s.2.2 < 2147483648 → QA M N → N 145 0 = 0 → ∃ N' g', run (d + 8) md_250 114 [vr 145, vi x1, vi nights, vi load, vi hour, vi m, vi s.1, vi s.2.1, vi i, v9, v10, v11, v12, v13] [] (sM (sL h 145 53 s.2.2) N) = some (vi (if 0 ≤ load then (itr (wiF M E m load hour) k i s).1 else (itr (wiF M E m load hour) k i s).2.1), sM (sL h 145 53 g') N') ∧ QA M N' ∧ N' 145 0 = 0
  | 0, i, s, N, v9, v10, v11, v12, v13, h1, h2, h3, s0, s1, g0, g1, q, z => by
    refine ⟨N, s.2.2, ?_, q, z⟩
    rw [q_250_114 (d + 7) x1 nights load hour m s.1 s.2.1 i v9 v10 v11 v12 v13 _ (show RSk (sM (sL h 145 53 s.2.2) N) from w), dt (by omega)]
    by_cases c : 0 ≤ load
    · rw [dt c, if_pos c]; rfl
    · rw [df c, if_neg c]; rfl
  | k + 1, i, s, N, v9, v10, v11, v12, v13, h1, h2, h3, s0, s1, g0, g1, q, z => by
    have hn := v.nt
    have hc := v.c
    have hr := v.r
    have hl := v.l
    have gb := drG_b s.2.2
    have wg : RSk (sL h 145 53 (drG s.2.2)) := w
    have e147 := q.e (a := 147) (nR (by omega) (by omega))
    rw [q_250_114 (d + 7) x1 nights load hour m s.1 s.2.1 i v9 v10 v11 v12 v13 _ (show RSk (sM (sL h 145 53 s.2.2) N) from w), df (by omega), m_247 _ _ _ _ w g0 g1, mi_sM, q.e (a := 172) (nR (by omega) (by omega)), ia (by omega) (by omega)]
    simp only [zb, bI_s]
    rw [q_250_139 (d + 7) x1 nights load hour m s.1 s.2.1 i _ v10 v11 v12 v13 _ _ (wg.m N), mi_sM, e147]
    show ∃ N' g', _ = some (vi (if 0 ≤ load then (itr (wiF M E m load hour) k (i + 1) (wiF M E m load hour i s)).1 else (itr (wiF M E m load hour) k (i + 1) (wiF M E m load hour i s)).2.1), sM (sL h 145 53 g') N') ∧ QA M N' ∧ N' 145 0 = 0
    have hgo : ∀ md, md = mdV M (drG s.2.2) → ∃ N' g', (bI (ev (d + 7) 249 [vr 145, vi (M 172 134 + i), vi md, vi m] (sM (sL h 145 53 (drG s.2.2)) N)) fun r1 h1 => run (d + 7 + 1) md_250 165 [vr 145, vi x1, vi nights, vi load, vi hour, vi m, vi s.1, vi s.2.1, vi i, vi (M 172 134 + i), vi md, v11, v12, v13] [vi r1] h1) = some (vi (if 0 ≤ load then (itr (wiF M E m load hour) k (i + 1) (wiF M E m load hour i s)).1 else (itr (wiF M E m load hour) k (i + 1) (wiF M E m load hour i s)).2.1), sM (sL h 145 53 g') N') ∧ QA M N' ∧ N' 145 0 = 0 := fun md hmd => by
      have hw2 : wB N E (M 172 134 + i) md m = wB M E (M 172 134 + i) md m := by
        unfold wB
        have e1 : wT N E (M 172 134 + i) md m = wT M E (M 172 134 + i) md m := by funext r; exact wT_q q E _ _ _ r
        have e2 : wP N E (M 172 134 + i) md m = wP M E (M 172 134 + i) md m := by funext r; exact wP_q q E _ _ _ r
        rw [e1, e2, e147]
      obtain ⟨N1, e1, q1, z1, t1, i1⟩ := m_249 (E := E) d (M 172 134 + i) md m (sM (sL h 145 53 (drG s.2.2)) N) wg (q.vm v) z
      rw [mi_sM, hw2, sM_sM] at e1
      rw [mi_sM, hw2, wT_q q] at t1
      rw [mi_sM, hw2, wT_q q, wG_q q, wI_q q, e147] at i1
      rw [mi_sM] at q1
      have bb' : 0 ≤ wB M E (M 172 134 + i) md m ∧ wB M E (M 172 134 + i) md m < M 147 1 ∧ _ := beS_b (wT M E (M 172 134 + i) md m) (wP M E (M 172 134 + i) md m) hr.1
      have q2 := q.tr q1
      rw [e1, bI_s, q_250_165 (d + 7) x1 nights load hour m s.1 s.2.1 i _ md v11 v12 v13 _ _ (wg.m N1), mi_sM, t1]
      obtain ⟨N2, v2, e2, q2', z2, i2⟩ := l_250k wg v hh bb'.1 (show wB M E (M 172 134 + i) md m < 6 by omega) x1 nights load m s.1 (max s.2.1 (wT M E (M 172 134 + i) md m (wB M E (M 172 134 + i) md m))) i md (B := fun j => buG (wT M E (M 172 134 + i) md m (wB M E (M 172 134 + i) md m)) (wG M E (M 172 134 + i) md (wB M E (M 172 134 + i) md m) j) (wI M (wB M E (M 172 134 + i) md m) j)) (fun j j0 j1 => by
        have b2 := gmV_b M E (wB M E (M 172 134 + i) md m) 0 (M 172 134 + i) md j
        have b2' : 0 ≤ wG M E (M 172 134 + i) md (wB M E (M 172 134 + i) md m) j ∧ wG M E (M 172 134 + i) md (wB M E (M 172 134 + i) md m) j ≤ 9 := b2
        have b1 : wI M (wB M E (M 172 134 + i) md m) j = 1000 ∨ wI M (wB M E (M 172 134 + i) md m) j = 0 := by unfold wI; split; exact Or.inl rfl; exact Or.inr rfl
        have b3 := ptV_b (x := wI M (wB M E (M 172 134 + i) md m) j) (g := wG M E (M 172 134 + i) md (wB M E (M 172 134 + i) md m) j) (th := wT M E (M 172 134 + i) md m (wB M E (M 172 134 + i) md m)) (by omega) b2'.1 (thV_b _ _ _ _).2
        have b4 := mulb b2'.1 b2'.2 b3.1 b3.2
        show 0 ≤ buG _ _ _ ∧ (buG _ _ _ ≤ 99 ∨ buG _ _ _ = 1000)
        unfold buG; split <;> omega) d _ 0 v13 N1 rfl (by omega) (by omega) q2 z1 (fun j j0 j1 => by omega) (fun j j0 j1 => i1 j j0 j1)
      have hi2 : ∀ j : Int, 0 ≤ j → j < M 147 0 → N2 176 j.toNat = wmV M E (M 172 134 + i) md m hour j := i2
      have e3 : N2 147 = M 147 := q2'.e (nR (by omega) (by omega))
      rw [e2, q_250_181 (d + 7) x1 nights load hour m s.1 _ i _ md _ _ v2 _ (wg.m N2), mi_sM, e3, dt (by omega)]
      have elo : lo (N2 176) (M 147 0) = lo (fun k => wmV M E (M 172 134 + i) md m hour k) (M 147 0) := lo_congr (fun j j0 j1 => by
        have ej : ((j.toNat : Nat) : Int) = j := by omega
        rw [hi2 j j0 j1, ej])
      have fin : ∀ x6, x6 = (wiF M E m load hour i s).1 → ∃ N' g', run (d + 8) md_250 114 [vr 145, vi x1, vi nights, vi load, vi hour, vi m, vi x6, vi (max s.2.1 (wT M E (M 172 134 + i) md m (wB M E (M 172 134 + i) md m))), vi (i + 1), vi (M 172 134 + i), vi md, vi (wB M E (M 172 134 + i) md m), vi (M 147 0), v2] [] (sM (sL h 145 53 (drG s.2.2)) N2) = some (vi (if 0 ≤ load then (itr (wiF M E m load hour) k (i + 1) (wiF M E m load hour i s)).1 else (itr (wiF M E m load hour) k (i + 1) (wiF M E m load hour i s)).2.1), sM (sL h 145 53 g') N') ∧ QA M N' ∧ N' 145 0 = 0 := fun x6 hx => by
        subst hx
        subst hmd
        have hw : 0 ≤ wiBb M E (M 172 134 + i) (mdV M (drG s.2.2)) m hour load ∧ wiBb M E (M 172 134 + i) (mdV M (drG s.2.2)) m hour load ≤ 1 := by unfold wiBb; split <;> omega
        refine l_250n w v hh ld n1 x1 d k (i + 1) (wiF M E m load hour i s) N2 _ _ _ _ v2 (by omega) (by omega) (by omega) ?_ ?_ gb.1 gb.2 q2' z2
        · show 0 ≤ s.1 + wiBb M E (M 172 134 + i) (mdV M (drG s.2.2)) m hour load; omega
        · show s.1 + wiBb M E (M 172 134 + i) (mdV M (drG s.2.2)) m hour load ≤ i + 1; omega
      rcases ld with ld | ⟨l0, l1⟩
      · rw [dt (p := load < 0) (by omega), ia (by omega) (by omega), ia (by omega) (by omega)]
        refine fin _ ?_
        show s.1 + 0 = s.1 + wiBb M E (M 172 134 + i) (mdV M (drG s.2.2)) m hour load
        unfold wiBb
        rw [if_neg (by omega)]
      · have lb := v.ld (l := load.toNat) (by omega)
        rw [df (p := load < 0) (by omega), m_204 (d + 6) load _ (wg.m N2) (by rw [mi_sM, e3]; omega) (by rw [mi_sM, e3]; omega) l0 (by omega) (by rw [mi_sM, q2'.e (a := 155) (nR (by omega) (by omega))]; omega) (by rw [mi_sM, q2'.e (a := 155) (nR (by omega) (by omega))]; omega), mi_sM, e3, q2'.e (a := 155) (nR (by omega) (by omega)), q2'.e (a := 154) (nR (by omega) (by omega)), elo]
        simp only [zb, bI_s]
        rw [q_250_275 (d + 7), ia (by omega) (by omega), ia (by omega) (by omega), ia (by omega) (by omega)]
        by_cases cb : ndV M load ≤ lo (fun k => wmV M E (M 172 134 + i) md m hour k) (M 147 0)
        · have cb' : needK (M 154 load.toNat) (M 155 load.toNat) ≤ lo (fun k => wmV M E (M 172 134 + i) md m hour k) (M 147 0) := cb
          rw [bb_dt cb']
          refine fin _ ?_
          show s.1 + 1 = s.1 + wiBb M E (M 172 134 + i) (mdV M (drG s.2.2)) m hour load
          subst hmd
          unfold wiBb
          rw [if_pos ⟨l0, cb⟩]
        · have cb' : ¬ needK (M 154 load.toNat) (M 155 load.toNat) ≤ lo (fun k => wmV M E (M 172 134 + i) md m hour k) (M 147 0) := cb
          rw [bb_df cb']
          refine fin _ ?_
          show s.1 + 0 = s.1 + wiBb M E (M 172 134 + i) (mdV M (drG s.2.2)) m hour load
          subst hmd
          unfold wiBb
          rw [if_neg (fun z => cb z.2)]
    by_cases cm : drV (drG s.2.2) < M 147 4
    · rw [df (show ¬ M 147 4 ≤ drV (drG s.2.2) by omega)]
      simp only [zb]
      exact hgo 1 (by unfold mdV; rw [if_pos cm])
    · rw [dt (show M 147 4 ≤ drV (drG s.2.2) by omega)]
      simp only [zb]
      exact hgo 0 (by unfold mdV; rw [if_neg cm])
/-- pails of all -/
def paS (M : MM) : Int := sm (fun p => M 153 p.toNat) (M 147 2)
theorem l_250p {h : HP} {M : MM} {E : EE} (w : RSk h) (v : VM M E) {N : MM} (q : QA M N) (x1 x2 x3 x4 : Int) (d : Nat) : ∀ (k : Nat) (i a : Int), (M 147 2 - i).toNat = k → 0 ≤ i → i ≤ M 147 2 → 0 ≤ a → a ≤ i * 99 → run (d + 1) md_250 76 [vr 145, vi x1, vi x2, vi x3, vi x4, vi a, vi i, vu, vu, vu, vu, vu, vu, vu] [] (sM h N) = run (d + 1) md_250 114 [vr 145, vi x1, vi x2, vi x3, vi x4, vi (itr (fun p a => a + M 153 p.toNat) k i a), vi 0, vi 0, vi 0, vu, vu, vu, vu, vu] [] (sM h N)
  | 0, i, a, h1, h2, h3, a0, a1 => by
    rw [q_250_76 d x1 x2 x3 x4 a i _ (w.m N), mi_sM, q.e (a := 147) (nR (by omega) (by omega)), dt (by omega)]; rfl
  | k + 1, i, a, h1, h2, h3, a0, a1 => by
    have hp := v.p
    have pb := (v.pr (p := i.toNat) (by omega)).2.2
    rw [q_250_76 d x1 x2 x3 x4 a i _ (w.m N), mi_sM, q.e (a := 147) (nR (by omega) (by omega)), q.e (a := 153) (nR (by omega) (by omega))]
    simp (disch := omega) only [mi_sM, sI_sM, sRi_sM, isK_sM, inb_sM, ln_sM, mr_sM, ml_sM, dt, df, ia, is_, zb, bI_s, bV_s, bR_s]
    exact l_250p w v q x1 x2 x3 x4 d k (i + 1) _ (by omega) (by omega) (by omega) (by omega) (by omega)
def wiOk (M : MM) (seed nights load hour : Int) : Prop := (0 ≤ seed ∧ seed ≤ 9999) ∧ (1 ≤ nights ∧ nights ≤ 60) ∧ (load = -1 ∨ (0 ≤ load ∧ load < M 147 3)) ∧ 0 ≤ hour ∧ hour ≤ 23
def winterV (M : MM) (E : EE) (seed nights load hour : Int) : Int := if 0 ≤ load then (itr (wiF M E (paS M) load hour) nights.toNat 0 (0, 0, seed)).1 else (itr (wiF M E (paS M) load hour) nights.toNat 0 (0, 0, seed)).2.1
theorem r_winter {E : EE} (d : Nat) (seed nights load hour : Int) (h : HP) (w : RSk h) (v : VM (h_mi h) E) : (wiOk (h_mi h) seed nights load hour → ∃ N g, ev (d + 8) 250 [vr 145, vi seed, vi nights, vi load, vi hour] h = some (vi (winterV (h_mi h) E seed nights load hour), sM (sL h 145 53 g) N) ∧ QA (h_mi h) N ∧ N 145 0 = 0) ∧ (¬ wiOk (h_mi h) seed nights load hour → ∃ N, ev (d + 8) 250 [vr 145, vi seed, vi nights, vi load, vi hour] h = some (vi 0, sM h N) ∧ QA (h_mi h) N ∧ N 145 0 = 1) := by
  have q0 : ∀ x, QA (h_mi h) (up2 (h_mi h) 145 0 x) := fun x => QA.f 0 x (by omega) (by omega)
  have bad : ∃ N, run (d + 7 + 1) md_250 51 [vr 145, vi seed, vi nights, vi load, vi hour, vu, vu, vu, vu, vu, vu, vu, vu, vu] [vi 1, vr 145] h = some (vi 0, sM h N) ∧ QA (h_mi h) N ∧ N 145 0 = 1 := by
    refine ⟨_, ?_, q0 1, u2_at _ _ _ _⟩
    rw [q_250_51 (d + 7) seed nights load hour 1 h w, sI_h]
    rfl
  unfold wiOk
  rw [v_250, q_250_0, m_148, bI_s, q_250_9, m_148]
  by_cases c1 : 0 ≤ seed ∧ seed ≤ 9999
  · rw [bb_dt c1]
    simp only [zb, bI_s]
    rw [q_250_19 (d + 7) seed nights load hour _ h w, m_148]
    by_cases c2 : 1 ≤ nights ∧ nights ≤ 60
    · rw [bb_dt c2]
      simp only [zb, bI_s]
      have tail : (load = -1 ∨ (0 ≤ load ∧ load < h_mi h 147 3)) → ((((0 ≤ seed ∧ seed ≤ 9999) ∧ (1 ≤ nights ∧ nights ≤ 60) ∧ (load = -1 ∨ (0 ≤ load ∧ load < h_mi h 147 3)) ∧ 0 ≤ hour ∧ hour ≤ 23) → ∃ N g, run (d + 7 + 1) md_250 43 [vr 145, vi seed, vi nights, vi load, vi hour, vu, vu, vu, vu, vu, vu, vu, vu, vu] [vi (bb (0 ≤ hour ∧ hour ≤ 23)), vr 145] h = some (vi (winterV (h_mi h) E seed nights load hour), sM (sL h 145 53 g) N) ∧ QA (h_mi h) N ∧ N 145 0 = 0) ∧ (¬ ((0 ≤ seed ∧ seed ≤ 9999) ∧ (1 ≤ nights ∧ nights ≤ 60) ∧ (load = -1 ∨ (0 ≤ load ∧ load < h_mi h 147 3)) ∧ 0 ≤ hour ∧ hour ≤ 23) → ∃ N, run (d + 7 + 1) md_250 43 [vr 145, vi seed, vi nights, vi load, vi hour, vu, vu, vu, vu, vu, vu, vu, vu, vu] [vi (bb (0 ≤ hour ∧ hour ≤ 23)), vr 145] h = some (vi 0, sM h N) ∧ QA (h_mi h) N ∧ N 145 0 = 1)) := fun c3 => by
        rw [q_250_43]
        by_cases c4 : 0 ≤ hour ∧ hour ≤ 23
        · rw [bb_dt c4]
          simp only [zb]
          refine ⟨fun _ => ?_, fun z => absurd ⟨c1, c2, c3, c4⟩ z⟩
          have hp := v.p
          have ep := l_250p (h := sL h 145 53 seed) w v (q0 0) seed nights load hour (d + 7) _ 0 0 rfl (by omega) hp.1 (by omega) (by omega)
          rw [Int.sub_zero] at ep
          obtain ⟨N, g, e, q, z⟩ := l_250n (h := h) w v (m := paS (h_mi h)) c4.2 c3 c2.2 seed d _ 0 (0, 0, seed) _ vu vu vu vu vu rfl (by omega) (by omega) (by show (0 : Int) ≤ 0; omega) (by show (0 : Int) ≤ 0; omega) (by show 0 ≤ seed; omega) (by show seed < 2147483648; omega) (q0 0) (u2_at _ _ _ _)
          rw [Int.sub_zero] at e
          refine ⟨N, g, ?_, q, z⟩
          rw [q_250_51 (d + 7) seed nights load hour 0 h w]
          exact ep.trans e
        · rw [bb_df c4]
          refine ⟨fun z => absurd z.2.2.2 c4, fun _ => bad⟩
      by_cases c3 : load = -1
      · rw [dt c3]
        simp only [zb]
        exact tail (Or.inl c3)
      · rw [df c3, m_188 _ _ _ w]
        simp only [zb, bI_s]
        rw [q_250_32, m_148]
        by_cases c5 : 0 ≤ load ∧ load < h_mi h 147 3
        · rw [bb_dt c5]
          simp only [zb, bI_s]
          exact tail (Or.inr c5)
        · rw [bb_df c5]
          exact ⟨fun z => (z.2.2.1.elim c3 c5).elim, fun _ => bad⟩
    · rw [bb_df c2]
      exact ⟨fun z => absurd z.2.1 c2, fun _ => bad⟩
  · rw [bb_df c1]
    exact ⟨fun z => absurd z.1 c1, fun _ => bad⟩
