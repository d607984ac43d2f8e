/-! the reference: built, best, half, rests, guess -/
/-- a question leaves the data as they are -/
def QA (M N : MM) : Prop := Ag RsA M N ∧ N 145 1 = M 145 1 ∧ N 145 44 = M 145 44
theorem QA.rf (M : MM) : QA M M := ⟨Ag.rf _, rfl, rfl⟩
theorem QA.tr {M N P : MM} (p : QA M N) (q : QA N P) : QA M P := ⟨p.1.tr q.1, q.2.1.trans p.2.1, q.2.2.trans p.2.2⟩
theorem QA.of {A : Nat → Prop} {M N : MM} (g : Ag A M N) (h : ∀ a, A a → RsA a ∧ a ≠ 145) : QA M N := ⟨g.up (fun a ha => (h a ha).1), congrFun (g 145 (fun z => (h _ z).2 rfl)) 1, congrFun (g 145 (fun z => (h _ z).2 rfl)) 44⟩
theorem QA.f {M : MM} (k : Nat) (v : Int) (h1 : k ≠ 1) (h2 : k ≠ 44) : QA M (up2 M 145 k v) := ⟨fun a ha => u2_ne _ _ _ (fun z => ha (Or.inl z)), u2_no _ _ _ (fun z => h1 z.symm), u2_no _ _ _ (fun z => h2 z.symm)⟩
theorem QA.row {M : MM} {a : Nat} (f : Nat → Int) (ha : RsA a) (h : a ≠ 145) : QA M (va_up M a f) := ⟨fun b hb => up_ne _ _ (fun z => hb (by rw [z]; exact ha)), by rw [up_ne _ _ (fun z => h z.symm)], by rw [up_ne _ _ (fun z => h z.symm)]⟩
theorem QA.vm {M N : MM} {E : EE} (q : QA M N) (v : VM M E) : VM N E := v.ag q.1
theorem QA.e {M N : MM} (q : QA M N) {a : Nat} (h : ¬ RsA a) : N a = M a := q.1 a h
theorem nR {a : Nat} (h1 : a ≠ 145) (h2 : a < 160 ∨ a = 172 ∨ a = 174 ∨ a = 175 ∨ 180 ≤ a) : ¬ RsA a := by unfold RsA; omega
theorem LkA_q : ∀ a, LkA a → RsA a ∧ a ≠ 145 := fun a ha => by unfold LkA at ha; unfold RsA; omega
theorem LwA_q : ∀ a, LwA a → RsA a ∧ a ≠ 145 := fun a ha => by unfold LwA at ha; unfold RsA; omega
/-- builds, by columns -/
theorem builds (d : Nat) (m : Int) (h : HP) (w : RSk h) (h0 : 0 ≤ h_mi h 147 0) (h1 : h_mi h 147 0 ≤ 10) {I G : Int → Int} (k : LkD h I G) : ∃ N, ev (d + 2) 220 [vr 145, vi m] h = some (vi (paV I G (h_mi h 147 0) (thV I G (h_mi h 147 0) m)), sM h N) ∧ QA (h_mi h) N ∧ N 145 51 = thV I G (h_mi h 147 0) m ∧ (∀ j : Int, 0 ≤ j → j < h_mi h 147 0 → N 176 j.toNat = buG (thV I G (h_mi h 147 0) m) (G j) (I j)) ∧ (∀ k, k ≠ 51 → N 145 k = h_mi h 145 k) ∧ N 179 = h_mi h 179 := by
  refine ⟨buM h m, ?_, ⟨(buM_ag h m).up (fun a ha => by have ha : a = 145 ∨ a = 176 := ha; unfold RsA; omega), buM_f h m (by omega), buM_f h m (by omega)⟩, ?_, fun j j0 j1 => ?_, fun k hk => buM_f h m hk, buM_ag h m 179 (by omega)⟩
  · rw [m_220 d m h w h0 h1 k.ig, k.al, k.bd]
  · rw [buM_51, k.bd]
  · rw [buM_i h m j0 j1, k.bd, (k j j0 j1).1.1, (k j j0 j1).1.2]
theorem nwI_q {M N : MM} (q : QA M N) (row : Int) : nwI N row = nwI M row := by
  funext j; unfold nwI; exact seeG_ag (q.e (nR (by omega) (by omega))) (q.e (nR (by omega) (by omega))) row j
theorem nwG_q {M N : MM} (q : QA M N) (E : EE) (row : Int) : nwG N E row = nwG M E row := by
  funext j; unfold nwG; rw [q.e (a := 172) (nR (by omega) (by omega))]; exact gmV_ag (q.e (nR (by omega) (by omega))) (q.e (nR (by omega) (by omega))) E row _ _ _ j
/-- what a row is built to with so many pails, and with how many -/
def rT (M : MM) (E : EE) (m row : Int) : Int := thV (nwI M row) (nwG M E row) (M 147 0) m
def rP (M : MM) (E : EE) (m row : Int) : Int := paV (nwI M row) (nwG M E row) (M 147 0) (rT M E m row)
theorem rT_q {M N : MM} (q : QA M N) (E : EE) (m row : Int) : rT N E m row = rT M E m row := by unfold rT; rw [nwI_q q, nwG_q q, q.e (nR (by omega) (by omega))]
theorem rP_q {M N : MM} (q : QA M N) (E : EE) (m row : Int) : rP N E m row = rP M E m row := by unfold rP; rw [rT_q q, nwI_q q, nwG_q q, q.e (nR (by omega) (by omega))]
/-- looks and builds -/
theorem lb {E : EE} (d : Nat) (m row : Int) (h : HP) (w : RSk h) (v : VM (h_mi h) E) (r0 : 0 ≤ row) (r1 : row < 6) : ∃ N, ev (d + 7) 222 [vr 145, vi row] h = some (vr 0, sM h N) ∧ QA (h_mi h) N ∧ N 145 = h_mi h 145 ∧ ∃ N2, ev (d + 7) 220 [vr 145, vi m] (sM h N) = some (vi (rP (h_mi h) E m row), sM h N2) ∧ QA N N2 ∧ N2 145 51 = rT (h_mi h) E m row ∧ (∀ j : Int, 0 ≤ j → j < h_mi h 147 0 → N2 176 j.toNat = buG (rT (h_mi h) E m row) (nwG (h_mi h) E row j) (nwI (h_mi h) row j)) ∧ ∀ k, k ≠ 51 → N2 145 k = h_mi h 145 k := by
  obtain ⟨N, e1, g1, k1⟩ := looks (E := E) d row h w v r0 r1
  have hc := v.c
  have e147 : N 147 = h_mi h 147 := g1 147 (by unfold LkA; omega)
  have e145 : N 145 = h_mi h 145 := g1 145 (by unfold LkA; omega)
  obtain ⟨N2, e2, q2, p2, i2, f2, -⟩ := builds (d + 5) m (sM h N) w (by rw [mi_sM, e147]; omega) (by rw [mi_sM, e147]; omega) k1
  rw [mi_sM, e147] at e2 p2 i2
  rw [mi_sM, e145] at f2
  exact ⟨N, e1, QA.of g1 LkA_q, e145, N2, e2, q2, p2, i2, f2⟩
def builtV (M : MM) (E : EE) (row m what : Int) : Int := if (0 ≤ row ∧ row < M 147 1) ∧ (0 ≤ m ∧ m < 1000) ∧ 0 ≤ what ∧ what ≤ 1 then (if what = 0 then rT M E m row else rP M E m row) else -1
theorem m_221 (d : Nat) (x : Int) (h : HP) : ev d 221 [vi x] h = some (vi (bb (0 ≤ x ∧ x < 1000)), h) := by
  rw [v_221, q_221_0]
  by_cases h1 : x < 0
  · rw [dt h1, bb_f (by omega)]; rfl
  · rw [df h1]
    by_cases h2 : 1000 ≤ x
    · rw [dt h2, bb_f (by omega)]; rfl
    · rw [df h2, bb_t (by omega)]; rfl
theorem r_built {E : EE} (d : Nat) (row m what : Int) (h : HP) (w : RSk h) (v : VM (h_mi h) E) : ∃ N, ev (d + 8) 223 [vr 145, vi row, vi m, vi what] h = some (vi (builtV (h_mi h) E row m what), sM h N) ∧ QA (h_mi h) N := by
  have q0 : QA (h_mi h) (up2 (h_mi h) 145 0 0) := QA.f 0 0 (by omega) (by omega)
  have e147 : (up2 (h_mi h) 145 0 0) 147 = h_mi h 147 := u2_ne _ _ _ (by omega)
  have hr := v.r
  rw [v_223, q_223_0 (d + 7) row m what h w, sI_h, m_185 _ _ _ (w.m _), mi_sM, e147, bI_s, q_223_10]
  unfold builtV
  by_cases c1 : 0 ≤ row ∧ row < h_mi h 147 1
  · rw [bb_dt c1, m_221]
    simp only [zb, bI_s]
    rw [q_223_17]
    by_cases c2 : 0 ≤ m ∧ m < 1000
    · rw [bb_dt c2, m_148]
      simp only [zb, bI_s]
      rw [q_223_26 (d + 7) row m what _ _ (w.m _)]
      by_cases c3 : 0 ≤ what ∧ what ≤ 1
      · obtain ⟨N, e1, g1, -, N2, e2, q2, p2, -⟩ := lb (E := E) d m row (sM h (up2 (h_mi h) 145 0 0)) w (q0.vm v) c1.1 (by omega)
        rw [mi_sM, rP_q q0, sM_sM, sM_sM] at e2
        rw [mi_sM, rT_q q0] at p2
        rw [mi_sM] at g1
        refine ⟨N2, ?_, (q0.tr g1).tr q2⟩
        rw [bb_nt c3, e1, if_pos ⟨c1, c2, c3⟩]
        simp only [zb, bV_s, sM_sM]
        rw [q_223_36 (d + 7) row m what _ (w.m N)]
        rw [e2, bI_s, q_223_41 (d + 7) row m what _ _ (w.m N2), mi_sM, p2]
        by_cases c4 : what = 0
        · rw [df (by omega), if_pos c4]; rfl
        · rw [dt c4, if_neg c4]; rfl
      · refine ⟨_, ?_, q0⟩
        rw [bb_nf c3, if_neg (by omega)]; rfl
    · refine ⟨_, ?_, q0⟩
      rw [bb_df c2, if_neg (by omega)]; rfl
  · refine ⟨_, ?_, q0⟩
    rw [bb_df c1, if_neg (by omega)]; rfl
/-- the best of rows: which, how thick, with how many pails -/
def beF (T P : Int → Int) (r : Int) (s : Int × Int × Int) : Int × Int × Int := if 0 ≤ s.1 ∧ (T r < s.2.1 ∨ (T r = s.2.1 ∧ s.2.2 ≤ P r)) then s else (r, T r, P r)
def beS (T P : Int → Int) (n : Int) : Int × Int × Int := itr (beF T P) n.toNat 0 (-1, 0, 0)
theorem l_224 {h : HP} {M : MM} {E : EE} (w : RSk h) (v : VM M E) (m : Int) (d : Nat) : ∀ (k : Nat) (i : Int) (s : Int × Int × Int) (N : MM) (v6 : AV), (M 147 1 - i).toNat = k → 0 ≤ i → i ≤ M 147 1 → QA M N → ∃ N', run (d + 8) md_224 24 [vr 145, vi m, vi s.1, vi s.2.1, vi s.2.2, vi i, v6] [] (sM h N) = some (vi (itr (beF (rT M E m) (rP M E m)) k i s).1, sM h N') ∧ QA M N'
  | 0, i, s, N, v6, h1, h2, h3, q => by
    refine ⟨N, ?_, q⟩
    rw [q_224_24 (d + 7) m _ _ _ i v6 _ (w.m N), mi_sM, q.e (a := 147) (nR (by omega) (by omega)), dt (by omega)]
    rfl
  | k + 1, i, s, N, v6, h1, h2, h3, q => by
    have hr := v.r
    obtain ⟨N1, e1, q1, -, N2, e2, q2, p2, -⟩ := lb (E := E) d m i (sM h N) w (q.vm v) h2 (by omega)
    rw [mi_sM, rP_q q, sM_sM, sM_sM] at e2
    rw [mi_sM, rT_q q] at p2
    rw [mi_sM] at q1
    have q3 := (q.tr q1).tr q2
    have key := fun s2 => l_224 w v m d k (i + 1) s2 N2 (vi (rP M E m i)) (by omega) (by omega) (by omega) q3
    rw [q_224_24 (d + 7) m _ _ _ i v6 _ (w.m N), mi_sM, q.e (a := 147) (nR (by omega) (by omega)), df (by omega), e1]
    simp only [zb, bV_s, sM_sM]
    rw [q_224_41 (d + 7) m _ _ _ i v6 _ (w.m N1), e2, bI_s]
    rw [q_224_46 (d + 7) m _ _ _ i v6 _ _ (w.m N2), mi_sM, p2]
    show ∃ N', _ = some (vi (itr (beF (rT M E m) (rP M E m)) k (i + 1) (beF (rT M E m) (rP M E m) i s)).1, sM h N') ∧ QA M N'
    unfold beF
    simp (disch := omega) only [mi_sM, sI_sM, sRi_sM, isK_sM, inb_sM, ln_sM, mr_sM, ml_sM, dt, df, ia, is_, zb, bI_s, bV_s, bR_s]
    by_cases c1 : s.1 < 0
    · rw [dt c1, if_neg (by omega)]
      exact key (i, rT M E m i, rP M E m i)
    · rw [df c1]
      by_cases c2 : rT M E m i < s.2.1
      · rw [dt c2, if_pos (by omega)]
        exact key s
      · rw [df c2]
        by_cases c3 : rT M E m i = s.2.1
        · rw [df (by omega)]
          by_cases c4 : rP M E m i < s.2.2
          · rw [dt c4, if_neg (by omega)]
            exact key (i, rT M E m i, rP M E m i)
          · rw [df c4, if_pos (by omega)]
            exact key s
        · rw [dt c3, if_neg (by omega)]
          exact key (i, rT M E m i, rP M E m i)
def bestV (M : MM) (E : EE) (m : Int) : Int := if 0 ≤ m ∧ m < 1000 then (beS (rT M E m) (rP M E m) (M 147 1)).1 else -1
theorem r_best {E : EE} (d : Nat) (m : Int) (h : HP) (w : RSk h) (v : VM (h_mi h) E) : ∃ N, ev (d + 8) 224 [vr 145, vi m] h = some (vi (bestV (h_mi h) E m), sM h N) ∧ QA (h_mi h) N := by
  have q0 : QA (h_mi h) (up2 (h_mi h) 145 0 0) := QA.f 0 0 (by omega) (by omega)
  have hr := v.r
  rw [v_224, q_224_0 (d + 7) m h w, sI_h, m_221, bI_s, q_224_9]
  unfold bestV
  by_cases c : 0 ≤ m ∧ m < 1000
  · rw [bb_nt c, if_pos c]
    obtain ⟨N, e1, q1⟩ := l_224 (h := h) w v m d _ 0 (-1, 0, 0) (up2 (h_mi h) 145 0 0) vu rfl (by omega) (by omega) q0
    rw [Int.sub_zero] at e1
    exact ⟨N, e1, q1⟩
  · refine ⟨_, ?_, q0⟩
    rw [bb_nf c, if_neg c]; rfl
