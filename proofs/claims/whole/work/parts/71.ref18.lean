/-! the reference: value, leaves -/
theorem cdiv_ge {a g : Int} (g0 : 0 < g) : a ≤ g * ((a + g - 1) / g) := by
  have h1 := Int.emod_add_mul_ediv (a + g - 1) g
  have h2 := Int.emod_lt_of_pos (a + g - 1) g0
  omega
theorem cdiv_le {a g q : Int} (g0 : 0 < g) (h : a ≤ g * q) : (a + g - 1) / g ≤ q := by
  refine Int.le_of_lt_add_one (Int.ediv_lt_of_lt_mul g0 ?_)
  rw [Int.add_mul, Int.mul_comm q g]; omega
theorem sm_term {P : Int → Int} {n j : Int} (h : ∀ k, 0 ≤ k → k < n → 0 ≤ P k) (j0 : 0 ≤ j) (j1 : j < n) : P j ≤ sm P n := by
  have e : sm (fun k => if k = j then P j else 0) n ≤ sm P n := sm_le (fun k k0 k1 => by
    show (if k = j then P j else 0) ≤ P k
    split
    · next c => rw [c]; exact Int.le_refl _
    · exact h k k0 k1)
  have f : ∀ m : Nat, j < m → P j ≤ sm (fun k => if k = j then P j else 0) m := by
    intro m
    induction m with
    | zero => intro z; omega
    | succ m ih =>
      intro z
      have e2 : ((m + 1 : Nat) : Int) = (m : Int) + 1 := by omega
      rw [e2, sm_s _ (by omega)]
      have pj := h j j0 j1
      by_cases c : j < m
      · have := ih c
        have : 0 ≤ (if (m : Int) = j then P j else 0) := by split <;> omega
        omega
      · have c2 : (m : Int) = j := by omega
        have : 0 ≤ sm (fun k => if k = j then P j else 0) m := (sm_b (B := P j) (by omega) (fun k k0 k1 => by split <;> omega)).1
        rw [if_pos c2]; omega
  have := f n.toNat (by omega)
  have e3 : ((n.toNat : Nat) : Int) = n := by omega
  rw [e3] at this
  omega
theorem paV_th {I G : Int → Int} {n m : Int} (m0 : 0 ≤ m) (hI : ∀ j, 0 ≤ j → j < n → 0 ≤ I j) : paV I G n (thV I G n m) ≤ m := by
  rcases bdN_s (paV I G n) m 99 with h | h
  · have e : paV I G n 0 = 0 := by
      have e0 : paV I G n 0 = sm (fun _ => 0) n := sm_congr (fun k k0 k1 => by unfold ptV; rw [if_pos (hI k k0 k1)])
      rw [e0]
      unfold sm
      have : ∀ (k : Nat) (i : Int), itr (fun (_ : Int) (a : Int) => a + 0) k i 0 = 0 := by
        intro k
        induction k with
        | zero => intro i; rfl
        | succ k ih => intro i; exact ih (i + 1)
      exact this _ _
    unfold thV; rw [h, e]; exact m0
  · exact h
/-- a row that is built is just so thick -/
theorem bu_lo {I G : Int → Int} {n m : Int} (m0 : 0 ≤ m) (m1 : m < 100000) (hI : ∀ j, 0 ≤ j → j < n → 0 ≤ I j ∧ (I j ≤ 99 ∨ I j = 1000)) (hG : ∀ j, 0 ≤ j → j < n → 0 ≤ G j ∧ G j ≤ 9) {J : Nat → Int} (hJ : ∀ j : Int, 0 ≤ j → j < n → J j.toNat = buG (thV I G n m) (G j) (I j)) : lo J n = thV I G n m := by
  have tb := thV_b I G n m
  have pt := paV_th (G := G) m0 (fun j j0 j1 => (hI j j0 j1).1)
  have tm : ∀ j, 0 ≤ j → j < n → ptV (I j) (G j) (thV I G n m) < 100000 := fun j j0 j1 => by
    have := sm_term (P := fun k => ptV (I k) (G k) (thV I G n m)) (fun k k0 k1 => (ptV_b (hI k k0 k1).1 (hG k k0 k1).1 tb.2).1) j0 j1
    have e : ptV (I j) (G j) (thV I G n m) ≤ paV I G n (thV I G n m) := this
    omega
  have hm := bdN_m (paV I G n) m 99
  have ge : thV I G n m ≤ lo J n := (lo_ge_iff _ _ _).mpr ⟨tb.2, fun j j0 j1 => by
    rw [hJ j j0 j1]
    have h1 := hI j j0 j1
    have h2 := hG j j0 j1
    have h3 := tm j j0 j1
    unfold buG
    generalize thV I G n m = t at *
    split
    · omega
    · unfold ptV at h3 ⊢
      split
      · omega
      · next c =>
        rw [if_neg c] at h3
        split at h3
        · omega
        · next c2 =>
          rw [if_neg c2]
          have := cdiv_ge (a := t - I j) (g := G j) (by omega)
          omega⟩
  by_cases c : thV I G n m < lo J n
  · exfalso
    have l9 := lo_le J n
    have hy := (lo_ge_iff J n (lo J n)).mp (Int.le_refl _)
    have hb := hm (lo J n) c l9
    have : paV I G n (lo J n) ≤ paV I G n (thV I G n m) := sm_le (fun j j0 j1 => by
      have h1 := hI j j0 j1
      have h2 := hG j j0 j1
      have h3 := tm j j0 j1
      have h4 := hy.2 j j0 j1
      have h5 := (ptV_b (th := thV I G n m) h1.1 h2.1 tb.2).1
      rw [hJ j j0 j1] at h4
      generalize lo J n = y at *
      generalize thV I G n m = t at *
      show ptV (I j) (G j) y ≤ ptV (I j) (G j) t
      by_cases k1 : y ≤ I j
      · have : ptV (I j) (G j) y = 0 := if_pos k1
        omega
      · unfold buG at h4
        rw [if_neg (show ¬ 99 < I j by omega)] at h4
        by_cases k2 : t ≤ I j
        · have : ptV (I j) (G j) t = 0 := if_pos k2
          rw [this, Int.mul_zero] at h4
          omega
        · by_cases k3 : G j = 0
          · have : ptV (I j) (G j) t = 100000 := by unfold ptV; rw [if_neg k2, if_pos k3]
            omega
          · have e : ptV (I j) (G j) y = (y - I j + G j - 1) / G j := by unfold ptV; rw [if_neg k1, if_neg k3]
            rw [e]
            exact cdiv_le (by omega) (by omega))
    omega
  · omega
theorem dfs_12 {M : MM} {T : Int → Int} : ∀ (k : Nat) (at_ used sum by_ : Int) (s s' : CS), s.1 = s'.1 → s.2.1 = s'.2.1 → (dfs M T k at_ used sum by_ s).1 = (dfs M T k at_ used sum by_ s').1 ∧ (dfs M T k at_ used sum by_ s).2.1 = (dfs M T k at_ used sum by_ s').2.1
  | 0, _, _, _, _, _, _, h1, h2 => ⟨h1, h2⟩
  | k + 1, at_, used, sum, by_, s, s', h1, h2 => by
    have u : (updC at_ sum s).1 = (updC at_ sum s').1 ∧ (updC at_ sum s).2.1 = (updC at_ sum s').2.1 := by
      unfold updC
      by_cases c : s.1 < sum ∨ (sum = s.1 ∧ at_ < s.2.1)
      · rw [if_pos c, if_pos (by rw [← h1, ← h2]; exact c)]; exact ⟨rfl, rfl⟩
      · rw [if_neg c, if_neg (by rw [← h1, ← h2]; exact c)]; exact ⟨h1, h2⟩
    by_cases hn : 0 ≤ M 147 3
    · unfold dfs
      refine itr_sim (α := CS) (β := CS) (fun _ a b => a.1 = b.1 ∧ a.2.1 = b.2.1) (n := M 147 3) (fun i a b _ hab => ?_) _ 0 _ _ hn (by omega) u
      by_cases c : bit used i = 1 ∨ T by_ < ndV M i
      · rw [if_pos c, if_pos c]; exact hab
      · rw [if_neg c, if_neg c]
        exact dfs_12 k _ _ _ _ _ _ hab.1 hab.2
    · have e : (M 147 3).toNat = 0 := by omega
      unfold dfs
      rw [e]; exact u
/-- the worth that goes over ice so thick -/
def bwV (M : MM) (t : Int) : Int := (crT M t).1
theorem bwV_ag {M N : MM} (h1 : ∀ a, a = 147 ∨ a = 154 ∨ a = 155 ∨ a = 156 ∨ a = 172 → N a = M a) (t : Int) : bwV N t = bwV M t := by
  have key : ∀ k at_ used sum by_ s, dfs N (fun b => t - b) k at_ used sum by_ s = dfs M (fun b => t - b) k at_ used sum by_ s := by
    intro k
    induction k with
    | zero => intros; rfl
    | succ k ih =>
      intro at_ used sum by_ s
      have e : ∀ l, ndV N l = ndV M l := fun l => by unfold ndV; rw [h1 154 (by omega), h1 155 (by omega)]
      have e2 : ∀ l, weV N l = weV M l := fun l => by unfold weV; rw [h1 154 (by omega)]
      show itr _ (N 147 3).toNat 0 _ = itr _ (M 147 3).toNat 0 _
      simp only [ih, e, e2, h1 156 (by omega), h1 147 (by omega)]
  unfold bwV crT crS
  rw [key, h1 172 (by omega)]
  exact (dfs_12 _ _ _ _ _ (-1, 0, N 178, N 177) (-1, 0, M 178, M 177) rfl rfl).1
theorem bwV_q {M N : MM} (q : QA M N) (t : Int) : bwV N t = bwV M t := bwV_ag (fun a ha => q.e (nR (by omega) (by omega))) t
/-- pails of a set of pourers -/
def mnV (M : MM) (set : Int) : Int := sm (fun p => if bit set p = 1 then M 172 (120 + p).toNat else 0) (M 147 2)
theorem mnV_b {M : MM} {E : EE} (v : VM M E) (set : Int) : 0 ≤ mnV M set ∧ mnV M set ≤ 594 := by
  have hp := v.p
  have := sm_b (P := fun p => if bit set p = 1 then M 172 (120 + p).toNat else 0) (n := M 147 2) (B := 99) hp.1 (fun k k0 k1 => by
    have := (v.lf (p := k.toNat) (by omega)).1
    have e : (120 + k).toNat = 120 + k.toNat := by omega
    show 0 ≤ (if bit set k = 1 then M 172 (120 + k).toNat else 0) ∧ _
    rw [e]
    split <;> omega)
  unfold mnV; omega
theorem l_238a {h : HP} {E : EE} (w : RSk h) (v : VM (h_mi h) E) {set : Int} (s0 : 0 ≤ set) (s1 : set < 128) (d : Nat) : ∀ (k : Nat) (i a : Int), (h_mi h 147 2 - i).toNat = k → 0 ≤ i → i ≤ h_mi h 147 2 → 0 ≤ a → a ≤ i * 99 → run (d + 1) md_238 4 [vr 145, vi set, vi a, vi i, vu] [] h = run (d + 1) md_238 50 [vr 145, vi set, vi (itr (fun p a => a + if bit set p = 1 then h_mi h 172 (120 + p).toNat else 0) k i a), vi 0, vi 0] [] h
  | 0, i, a, h1, h2, h3, a0, a1 => by
    rw [q_238_4 d set a i h w, dt (by omega)]; rfl
  | k + 1, i, a, h1, h2, h3, a0, a1 => by
    have hp := v.p
    have sb := (v.lf (p := i.toNat) (by omega)).1
    have e : (120 + i).toNat = 120 + i.toNat := by omega
    rw [← e] at sb
    rw [q_238_4 d set a i h w, df (by omega), bitI s0 s1 h2 (by omega)]
    show _ = run (d + 1) md_238 50 [vr 145, vi set, vi (itr (fun p a => a + if bit set p = 1 then h_mi h 172 (120 + p).toNat else 0) k (i + 1) (a + if bit set i = 1 then h_mi h 172 (120 + i).toNat else 0)), vi 0, vi 0] [] h
    by_cases c : bit set i = 1
    · rw [df (show ¬ bit set i ≠ 1 by omega), if_pos c]
      simp (disch := omega) only [mi_sM, sI_sM, sRi_sM, isK_sM, inb_sM, ln_sM, mr_sM, ml_sM, dt, df, ia, is_, zb, bI_s, bV_s, bR_s]
      exact l_238a w v s0 s1 d k (i + 1) _ (by omega) (by omega) (by omega) (by omega) (by omega)
    · rw [dt c, if_neg c]
      simp (disch := omega) only [mi_sM, sI_sM, sRi_sM, isK_sM, inb_sM, ln_sM, mr_sM, ml_sM, dt, df, ia, is_, zb, bI_s, bV_s, bR_s]
      exact l_238a w v s0 s1 d k (i + 1) _ (by omega) (by omega) (by omega) (by omega) (by omega)
def vsF (M : MM) (E : EE) (m r a : Int) : Int := max a (bwV M (rT M E m r))
theorem l_238b {h : HP} {M : MM} {E : EE} (w : RSk h) (v : VM M E) {m : Int} (m0 : 0 ≤ m) (m1 : m ≤ 1000) (set : Int) (d : Nat) : ∀ (k : Nat) (i a : Int) (N : MM), (M 147 1 - i).toNat = k → 0 ≤ i → i ≤ M 147 1 → QA M N → ∃ N', run (d + 11) md_238 50 [vr 145, vi set, vi m, vi a, vi i] [] (sM h N) = some (vi (itr (vsF M E m) k i a), sM h N') ∧ QA M N'
  | 0, i, a, N, h1, h2, h3, q => by
    refine ⟨N, ?_, q⟩
    rw [q_238_50 (d + 10) set m a i _ (w.m N), mi_sM, q.e (a := 147) (nR (by omega) (by omega)), dt (by omega)]
    rfl
  | k + 1, i, a, N, h1, h2, h3, q => by
    have hr := v.r
    have hc := v.c
    obtain ⟨N1, e1, q1, -, N2, e2, q2, p2, i2, -⟩ := lb (E := E) (d + 3) m i (sM h N) w (q.vm v) h2 (by omega)
    rw [mi_sM, rP_q q, sM_sM, sM_sM] at e2
    rw [mi_sM, rT_q q] at p2
    rw [mi_sM, rT_q q, nwI_q q, nwG_q q, q.e (a := 147) (nR (by omega) (by omega))] at i2
    rw [mi_sM] at q1
    have q3 := (q.tr q1).tr q2
    have e147 : N2 147 = M 147 := q3.e (nR (by omega) (by omega))
    have hI : ∀ j, 0 ≤ j → j < M 147 0 → 0 ≤ nwI M i j ∧ (nwI M i j ≤ 99 ∨ nwI M i j = 1000) := fun j j0 j1 => by
      have b1 := seeG_b v h2 (show i < 6 by omega) j0 (by omega)
      have b2 := (v.s (c := (10 * i + j).toNat) (by omega)).1
      unfold nwI; refine ⟨b1.1, ?_⟩; unfold seeG; split <;> omega
    have hG : ∀ j, 0 ≤ j → j < M 147 0 → 0 ≤ nwG M E i j ∧ nwG M E i j ≤ 9 := fun j j0 j1 => gmV_b _ _ _ _ _ _ _
    have hl : lo (N2 176) (M 147 0) = rT M E m i := bu_lo m0 (by omega) hI hG i2
    have tb : 0 ≤ rT M E m i ∧ rT M E m i ≤ 99 := thV_b _ _ _ _
    have hb : ∀ j : Int, 0 ≤ j → j < M 147 0 → 0 ≤ N2 176 j.toNat ∧ (N2 176 j.toNat ≤ 99 ∨ N2 176 j.toNat = 1000) := fun j j0 j1 => by
      rw [i2 j j0 j1]
      have b1 := hI j j0 j1
      have b2 := hG j j0 j1
      have b3 := ptV_b (x := nwI M i j) (g := nwG M E i j) (th := rT M E m i) b1.1 b2.1 tb.2
      have b4 := mulb b2.1 b2.2 b3.1 b3.2
      unfold buG; split <;> omega
    have e3 := m_215 (E := E) d (sM h N2) w (q3.vm v) (by
      rw [mi_sM, e147]
      intro j j0 j1
      have := hb j j0 j1
      omega)
    have e3b := crS_lo (q3.vm v) (I := N2 176) (by rw [e147]; exact fun j j0 j1 => (hb j j0 j1).2)
    rw [e147, hl] at e3b
    rw [mi_sM, e147, e3b] at e3
    have e4 : (crS N2 (fun b => rT M E m i - b)).1 = bwV M (rT M E m i) := bwV_q q3 _
    have q4 := q3.tr (cM_q N2 (crS N2 (fun b => rT M E m i - b)))
    obtain ⟨N', e5, q5⟩ := l_238b w v m0 m1 set d k (i + 1) (max a (bwV M (rT M E m i))) _ (by omega) (by omega) (by omega) q4
    refine ⟨N', ?_, q5⟩
    rw [q_238_50 (d + 10) set m a i _ (w.m N), mi_sM, q.e (a := 147) (nR (by omega) (by omega)), df (by omega), e1]
    simp only [zb, bV_s, sM_sM]
    rw [q_238_67 (d + 10) set m a i _ (w.m N1), e2, bI_s, q_238_72 (d + 10) set m a i _ _ (w.m N2), e3, bV_s, sM_sM, q_238_77 (d + 10) set m a i _ (w.m _), mi_sM, cM_48, e4, ia (by omega) (by omega)]
    exact e5
def vsV (M : MM) (E : EE) (set : Int) : Int := itr (vsF M E (mnV M set)) (M 147 1).toNat 0 0
theorem m_238 {E : EE} (d : Nat) (set : Int) (h : HP) (w : RSk h) (v : VM (h_mi h) E) (s0 : 0 ≤ set) (s1 : set < 128) : ∃ N, ev (d + 11) 238 [vr 145, vi set] h = some (vi (vsV (h_mi h) E set), sM h N) ∧ QA (h_mi h) N := by
  have hp := v.p
  have hr := v.r
  have mb := mnV_b v set
  have e1 := l_238a w v s0 s1 (d + 10) _ 0 0 rfl (by omega) hp.1 (by omega) (by omega)
  rw [Int.sub_zero] at e1
  obtain ⟨N, e2, q2⟩ := l_238b (h := h) w v (m := mnV (h_mi h) set) mb.1 (by omega) set d _ 0 0 (h_mi h) rfl (by omega) (by omega) (QA.rf _)
  rw [Int.sub_zero] at e2
  refine ⟨N, ?_, q2⟩
  rw [v_238, q_238_0, e1]
  exact e2
theorem mnV_q {M N : MM} (q : QA M N) (set : Int) : mnV N set = mnV M set := by unfold mnV; rw [q.e (a := 172) (nR (by omega) (by omega)), q.e (a := 147) (nR (by omega) (by omega))]
theorem vsV_q {M N : MM} (q : QA M N) (E : EE) (set : Int) : vsV N E set = vsV M E set := by
  unfold vsV
  rw [mnV_q q, q.e (a := 147) (nR (by omega) (by omega))]
  have : vsF N E (mnV M set) = vsF M E (mnV M set) := by funext r a; unfold vsF; rw [rT_q q, bwV_q q]
  rw [this]
theorem p2n {n : Int} (n0 : 0 ≤ n) (n1 : n ≤ 6) : (1 : Int) ≤ 2 ^ n.toNat ∧ (2 : Int) ^ n.toNat ≤ 64 := p2_6 n0 n1
def valueV (M : MM) (E : EE) (set : Int) : Int := if 0 ≤ set ∧ set < 2 ^ (M 147 2).toNat then vsV M E set else -1
theorem r_value {E : EE} (d : Nat) (set : Int) (h : HP) (w : RSk h) (v : VM (h_mi h) E) : ∃ N, ev (d + 12) 239 [vr 145, vi set] h = some (vi (valueV (h_mi h) E set), sM h N) ∧ QA (h_mi h) N := by
  have q0 : QA (h_mi h) (up2 (h_mi h) 145 0 0) := QA.f 0 0 (by omega) (by omega)
  have hp := v.p
  have pb := p2n hp.1 hp.2
  rw [v_239, q_239_0 (d + 11) set h w, sI_h, shlI hp.1 (by omega)]
  unfold valueV
  by_cases c1 : set < 0
  · refine ⟨_, ?_, q0⟩
    rw [dt c1, if_neg (by omega)]; rfl
  · rw [df c1]
    by_cases c2 : 2 ^ (h_mi h 147 2).toNat ≤ set
    · refine ⟨_, ?_, q0⟩
      rw [dt c2, if_neg (by omega)]; rfl
    · obtain ⟨N, e1, q1⟩ := m_238 (E := E) d set (sM h (up2 (h_mi h) 145 0 0)) w (q0.vm v) (by omega) (by omega)
      rw [mi_sM, vsV_q q0, sM_sM] at e1
      rw [mi_sM] at q1
      refine ⟨N, ?_, q0.tr q1⟩
      rw [df c2, if_pos (by omega), e1]
      simp only [zb, bI_s]
      rw [q_239_26]
def shV (M : MM) (set : Int) : Int := sm (fun p => if bit set p = 1 then M 172 (126 + p).toNat else 0) 6
theorem shV_q {M N : MM} (q : QA M N) (set : Int) : shV N set = shV M set := by unfold shV; rw [q.e (a := 172) (nR (by omega) (by omega))]
theorem l_241b {h : HP} {M : MM} {E : EE} (w : RSk h) (v : VM M E) {set : Int} (s0 : 0 ≤ set) (s1 : set < 128) (d : Nat) {N : MM} (q : QA M N) : ∀ (k : Nat) (i a : Int), (6 - i).toNat = k → 0 ≤ i → i ≤ 6 → 0 ≤ a → a ≤ i * 999 → run (d + 1) md_241 23 [vr 145, vi set, vi a, vi i] [] (sM h N) = bI (ev d 238 [vr 145, vi set] (sM h N)) fun r1 h1 => run (d + 1) md_241 66 [vr 145, vi set, vi (itr (fun p a => a + if bit set p = 1 then M 172 (126 + p).toNat else 0) k i a), vi 6] [vi r1, vi (itr (fun p a => a + if bit set p = 1 then M 172 (126 + p).toNat else 0) k i a)] h1
  | 0, i, a, h1, h2, h3, a0, a1 => by
    rw [q_241_23 d set a i _ (w.m N), dt (by omega)]
    have : i = 6 := by omega
    subst this; rfl
  | k + 1, i, a, h1, h2, h3, a0, a1 => by
    have sb := (v.lf (p := i.toNat) (by omega)).2
    have e : (126 + i).toNat = 126 + i.toNat := by omega
    rw [← e] at sb
    rw [q_241_23 d set a i _ (w.m N), df (by omega), bitI s0 s1 h2 (by omega), mi_sM, q.e (a := 172) (nR (by omega) (by omega))]
    by_cases c : bit set i = 1
    · rw [df (show ¬ bit set i ≠ 1 by omega)]
      have ih := l_241b w v s0 s1 d q k (i + 1) (a + M 172 (126 + i).toNat) (by omega) (by omega) (by omega) (by omega) (by omega)
      show _ = bI (ev d 238 [vr 145, vi set] (sM h N)) fun r1 h1 => run (d + 1) md_241 66 [vr 145, vi set, vi (itr (fun p a => a + if bit set p = 1 then M 172 (126 + p).toNat else 0) k (i + 1) (a + if bit set i = 1 then M 172 (126 + i).toNat else 0)), vi 6] [vi r1, vi (itr (fun p a => a + if bit set p = 1 then M 172 (126 + p).toNat else 0) k (i + 1) (a + if bit set i = 1 then M 172 (126 + i).toNat else 0))] h1
      rw [if_pos c, ← ih]
      simp (disch := omega) only [mi_sM, sI_sM, sRi_sM, isK_sM, inb_sM, ln_sM, mr_sM, ml_sM, dt, df, ia, is_, zb, bI_s, bV_s, bR_s]
    · have ih := l_241b w v s0 s1 d q k (i + 1) (a + 0) (by omega) (by omega) (by omega) (by omega) (by omega)
      show _ = bI (ev d 238 [vr 145, vi set] (sM h N)) fun r1 h1 => run (d + 1) md_241 66 [vr 145, vi set, vi (itr (fun p a => a + if bit set p = 1 then M 172 (126 + p).toNat else 0) k (i + 1) (a + if bit set i = 1 then M 172 (126 + i).toNat else 0)), vi 6] [vi r1, vi (itr (fun p a => a + if bit set p = 1 then M 172 (126 + p).toNat else 0) k (i + 1) (a + if bit set i = 1 then M 172 (126 + i).toNat else 0))] h1
      rw [dt c, if_neg c, ← ih]
      simp (disch := omega) only [mi_sM, sI_sM, sRi_sM, isK_sM, inb_sM, ln_sM, mr_sM, ml_sM, dt, df, ia, is_, zb, bI_s, bV_s, bR_s]
def lvF (M : MM) (E : EE) (s : Int) (_ : Unit) : Int ⊕ Unit := if shV M s < vsV M E s then .inl s else .inr ()
theorem l_241 {h : HP} {M : MM} {E : EE} (w : RSk h) (v : VM M E) (d : Nat) : ∀ (k : Nat) (i : Int) (v2 v3 : AV) (N : MM), (2 ^ (M 147 2).toNat - i).toNat = k → 1 ≤ i → i ≤ 2 ^ (M 147 2).toNat → QA M N → ∃ N', run (d + 12) md_241 7 [vr 145, vi i, v2, v3] [] (sM h N) = some (vi (cs (itx (lvF M E) k i ()) (fun x => x) (fun _ => -1)), sM h N') ∧ QA M N'
  | 0, i, v2, v3, N, h1, h2, h3, q => by
    have hp := v.p
    refine ⟨N, ?_, q⟩
    rw [q_241_7 (d + 11) i v2 v3 _ (w.m N), mi_sM, q.e (a := 147) (nR (by omega) (by omega)), shlI hp.1 (by omega), dt (by omega)]
    rfl
  | k + 1, i, v2, v3, N, h1, h2, h3, q => by
    have hp := v.p
    have pb := p2n hp.1 hp.2
    obtain ⟨N1, e1, q1⟩ := m_238 (E := E) d i (sM h N) w (q.vm v) (by omega) (by omega)
    rw [mi_sM, vsV_q q, sM_sM] at e1
    rw [mi_sM] at q1
    have e2 := l_241b (h := h) w v (set := i) (by omega) (by omega) (d + 11) q _ 0 0 rfl (by omega) (by omega) (by omega) (by omega)
    rw [q_241_7 (d + 11) i v2 v3 _ (w.m N), mi_sM, q.e (a := 147) (nR (by omega) (by omega)), shlI hp.1 (by omega), df (by omega)]
    simp only [zb]
    rw [e2, e1, bI_s, q_241_66]
    by_cases c : shV M i < vsV M E i
    · refine ⟨N1, ?_, q.tr q1⟩
      rw [itx_l (b := i) (if_pos c), df (show ¬ vsV M E i ≤ itr (fun p a => a + if bit i p = 1 then M 172 (126 + p).toNat else 0) ((6 : Int) - 0).toNat 0 0 from fun z => by
        have : vsV M E i ≤ shV M i := z
        omega)]
      rfl
    · obtain ⟨N', e3, q3⟩ := l_241 w v d k (i + 1) _ (vi 6) N1 (by omega) (by omega) (by omega) (q.tr q1)
      refine ⟨N', ?_, q3⟩
      rw [itx_r (a2 := ()) (if_neg c), dt (show vsV M E i ≤ itr (fun p a => a + if bit i p = 1 then M 172 (126 + p).toNat else 0) ((6 : Int) - 0).toNat 0 0 from by
        have : vsV M E i ≤ shV M i := by omega
        exact this), ia (by omega) (by omega)]
      exact e3
def leavesV (M : MM) (E : EE) : Int := cs (itx (lvF M E) ((2 : Int) ^ (M 147 2).toNat - 1).toNat 1 ()) (fun x => x) (fun _ => -1)
theorem r_leaves {E : EE} (d : Nat) (h : HP) (w : RSk h) (v : VM (h_mi h) E) : ∃ N, ev (d + 12) 241 [vr 145] h = some (vi (leavesV (h_mi h) E), sM h N) ∧ QA (h_mi h) N := by
  have q0 : QA (h_mi h) (up2 (h_mi h) 145 0 0) := QA.f 0 0 (by omega) (by omega)
  have hp := v.p
  have pb := p2n hp.1 hp.2
  rw [v_241, q_241_0 (d + 11) h w, sI_h]
  exact l_241 (h := h) w v d _ 1 vu vu _ rfl (by omega) (by omega) q0
