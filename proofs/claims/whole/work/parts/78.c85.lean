/-! the law's loop: one call -/
/-- the script at x4 -/
def Lfx (h : HP) (L : Nat) (x4 : Int) : Prop := h_kd h 40 = 21 ∧ h_ln h 40 = L ∧ h_kd h 100 = 8 ∧ h_kd h 145 = 9 ∧ L ≤ 3584 ∧ 0 ≤ x4 ∧ x4 + 7 ≤ (L : Int)
section
variable {h h1 : HP} {L : Nat} {x4 : Int} {v5 v6 : AV} {P : HP → Prop}
theorem Lfx.a1 (f : Lfx h L x4) : (isK h 40 11 || isK h 40 22 || isK h 40 21 || isK h 40 24 || isK h 40 10 || isK h 40 12) = true := by unfold isK; rw [f.1]; rfl
theorem kA2 (e : h_kd h 40 = 21) : (isK h 40 11 || isK h 40 21) = true := by unfold isK; rw [e]; rfl
theorem Lfx.l (f : Lfx h L x4) : decide (i_sub (h_ln h 40 : Int) 7 < x4) = false := by
  obtain ⟨_, f2, _, _, f5, f6, f7⟩ := f
  rw [f2, is_ (by omega) (by omega)]
  exact df (by omega)
theorem iB (e : h_ln h 40 = L) (h3 : L ≤ 3584) (x0 : 0 ≤ x4) (x7 : x4 + 7 ≤ (L : Int)) {j : Int} (j0 : 0 ≤ j) (j7 : j < 7) : inb h 40 (i_add x4 j) = true := by
  unfold inb
  rw [e, ia (by omega) (by omega), dt (show 0 ≤ x4 + j by omega), dt (show x4 + j < (L : Int) by omega)]; rfl
theorem Lfx.b (f : Lfx h L x4) {j : Int} (j0 : 0 ≤ j) (j7 : j < 7) : inb h 40 (i_add x4 j) = true := iB f.2.1 f.2.2.2.2.1 f.2.2.2.2.2.1 f.2.2.2.2.2.2 j0 j7
theorem Lfx.b0 (f : Lfx h L x4) : inb h 40 x4 = true := by
  unfold inb
  obtain ⟨_, f2, _, _, f5, f6, f7⟩ := f
  rw [f2, dt f6, dt (show x4 < (L : Int) by omega)]; rfl
theorem Lfx.k (f : Lfx h L x4) : isK h 100 8 = true := isKc f.2.2.1
theorem Lfx.t (f : Lfx h L x4) (w : Lw1 h h1) : (isK h1 40 11 || isK h1 40 21) = true ∧ isK h1 145 9 = true ∧ ∀ j : Int, 0 ≤ j → j < 7 → inb h1 40 (i_add x4 j) = true := ⟨kA2 (w.1.trans f.1), isKc (w.2.2.2.trans f.2.2.2.1), fun j j0 j7 => iB (w.2.1.trans f.2.1) f.2.2.2.2.1 f.2.2.2.2.2.1 f.2.2.2.2.2.2 j0 j7⟩
theorem lw_e (f : Lfx h L x4) {c : Int} (hc : i_and (h_mi h 40 x4.toNat) 31 = c) (c0 : ¬ (0 ≤ c ∧ c ≤ 29)) : run (199 + 1) md_268 23 [vr 40, vr 100, vr 145, vr 181, vi x4, v5, v6] [] h = run (199 + 1) md_268 23 [vr 40, vr 100, vr 145, vr 181, vi (i_add x4 7), v5, v6] [] h := by
  rw [q_268_23, f.a1, f.l, kA2 f.1, f.b0, hc, df (show ¬ c = 0 by omega), df (show ¬ c = 1 by omega), df (show ¬ c = 2 by omega), df (show ¬ c = 3 by omega), df (show ¬ c = 4 by omega), df (show ¬ c = 5 by omega), df (show ¬ c = 6 by omega), df (show ¬ c = 7 by omega), df (show ¬ c = 8 by omega), df (show ¬ c = 9 by omega), df (show ¬ c = 10 by omega), df (show ¬ c = 11 by omega), df (show ¬ c = 12 by omega), df (show ¬ c = 13 by omega), df (show ¬ c = 14 by omega), df (show ¬ c = 15 by omega), df (show ¬ c = 16 by omega), df (show ¬ c = 17 by omega), df (show ¬ c = 18 by omega), df (show ¬ c = 19 by omega), df (show ¬ c = 20 by omega), df (show ¬ c = 21 by omega), df (show ¬ c = 22 by omega), df (show ¬ c = 23 by omega), df (show ¬ c = 24 by omega), df (show ¬ c = 25 by omega), df (show ¬ c = 26 by omega), df (show ¬ c = 27 by omega), df (show ¬ c = 28 by omega), df (show ¬ c = 29 by omega)]
  rfl
set_option maxRecDepth 20000 in
theorem lw_0 (f : Lfx h L x4) (hc : i_and (h_mi h 40 x4.toNat) 31 = 0) (p : Pb h 110 150 [vl (l_or (l_shl (h_mi h 40 ((i_add x4 1 : Int).toNat)) 32) (l_and (h_mi h 40 ((i_add x4 2 : Int).toNat)) 4294967295)), vl (l_or (l_shl (h_mi h 40 ((i_add x4 3 : Int).toNat)) 32) (l_and (h_mi h 40 ((i_add x4 4 : Int).toNat)) 4294967295)), vl (l_or (l_shl (h_mi h 40 ((i_add x4 5 : Int).toNat)) 32) (l_and (h_mi h 40 ((i_add x4 6 : Int).toNat)) 4294967295))] [vl (l_or (l_shl (h_mi h 40 ((i_add x4 1 : Int).toNat)) 32) (l_and (h_mi h 40 ((i_add x4 2 : Int).toNat)) 4294967295)), vl (l_or (l_shl (h_mi h 40 ((i_add x4 3 : Int).toNat)) 32) (l_and (h_mi h 40 ((i_add x4 4 : Int).toNat)) 4294967295)), vl (l_or (l_shl (h_mi h 40 ((i_add x4 5 : Int).toNat)) 32) (l_and (h_mi h 40 ((i_add x4 6 : Int).toNat)) 4294967295))] P) : ∃ w5 w6 h2, run (199 + 1) md_268 23 [vr 40, vr 100, vr 145, vr 181, vi x4, v5, v6] [] h = run (199 + 1) md_268 23 [vr 40, vr 100, vr 145, vr 181, vi (i_add x4 7), w5, w6] [] h2 ∧ P h2 := by
  obtain ⟨v, h1, h2, e1, w, e2, pp⟩ := p
  obtain ⟨t1, t2, t3⟩ := f.t w
  refine ⟨v5, v6, h2, ?_, pp⟩
  rw [q_268_23, f.a1, f.l, kA2 f.1, f.b0, hc, f.k, f.b (j := 1) (by omega) (by omega), f.b (j := 2) (by omega) (by omega), f.b (j := 3) (by omega) (by omega), f.b (j := 4) (by omega) (by omega), f.b (j := 5) (by omega) (by omega), f.b (j := 6) (by omega) (by omega)]
  show bI (ev 199 110 [vr 100, vl (l_or (l_shl (h_mi h 40 ((i_add x4 1 : Int).toNat)) 32) (l_and (h_mi h 40 ((i_add x4 2 : Int).toNat)) 4294967295)), vl (l_or (l_shl (h_mi h 40 ((i_add x4 3 : Int).toNat)) 32) (l_and (h_mi h 40 ((i_add x4 4 : Int).toNat)) 4294967295)), vl (l_or (l_shl (h_mi h 40 ((i_add x4 5 : Int).toNat)) 32) (l_and (h_mi h 40 ((i_add x4 6 : Int).toNat)) 4294967295))] h) _ = _
  rw [e1, bI_s, q_268_247, t2, t1, t3 1 (by omega) (by omega), t3 2 (by omega) (by omega), t3 3 (by omega) (by omega), t3 4 (by omega) (by omega), t3 5 (by omega) (by omega), t3 6 (by omega) (by omega), w.2.2.1]
  show bI (ev 199 150 [vr 145, vl (l_or (l_shl (h_mi h 40 ((i_add x4 1 : Int).toNat)) 32) (l_and (h_mi h 40 ((i_add x4 2 : Int).toNat)) 4294967295)), vl (l_or (l_shl (h_mi h 40 ((i_add x4 3 : Int).toNat)) 32) (l_and (h_mi h 40 ((i_add x4 4 : Int).toNat)) 4294967295)), vl (l_or (l_shl (h_mi h 40 ((i_add x4 5 : Int).toNat)) 32) (l_and (h_mi h 40 ((i_add x4 6 : Int).toNat)) 4294967295))] h1) _ = _
  rw [e2, bI_s, q_268_318, dt (show v = v from rfl)]
  rfl
set_option maxRecDepth 20000 in
theorem lw_1 (f : Lfx h L x4) (hc : i_and (h_mi h 40 x4.toNat) 31 = 1) (p : Pb h 111 183 [] [] P) : ∃ w5 w6 h2, run (199 + 1) md_268 23 [vr 40, vr 100, vr 145, vr 181, vi x4, v5, v6] [] h = run (199 + 1) md_268 23 [vr 40, vr 100, vr 145, vr 181, vi (i_add x4 7), w5, w6] [] h2 ∧ P h2 := by
  obtain ⟨v, h1, h2, e1, w, e2, pp⟩ := p
  obtain ⟨t1, t2, t3⟩ := f.t w
  refine ⟨v5, v6, h2, ?_, pp⟩
  rw [q_268_23, f.a1, f.l, kA2 f.1, f.b0, hc, f.k]
  show bI (ev 199 111 [vr 100] h) _ = _
  rw [e1, bI_s, q_268_327, t2]
  show bI (ev 199 183 [vr 145] h1) _ = _
  rw [e2, bI_s, q_268_331, dt (show v = v from rfl)]
  rfl
set_option maxRecDepth 20000 in
theorem lw_2 (f : Lfx h L x4) (hc : i_and (h_mi h 40 x4.toNat) 31 = 2) (p : Pb h 112 194 [vi (h_mi h 40 ((i_add x4 1 : Int).toNat)), vi (h_mi h 40 ((i_add x4 2 : Int).toNat)), vi (h_mi h 40 ((i_add x4 3 : Int).toNat))] [vi (h_mi h 40 ((i_add x4 1 : Int).toNat)), vi (h_mi h 40 ((i_add x4 2 : Int).toNat)), vi (h_mi h 40 ((i_add x4 3 : Int).toNat))] P) : ∃ w5 w6 h2, run (199 + 1) md_268 23 [vr 40, vr 100, vr 145, vr 181, vi x4, v5, v6] [] h = run (199 + 1) md_268 23 [vr 40, vr 100, vr 145, vr 181, vi (i_add x4 7), w5, w6] [] h2 ∧ P h2 := by
  obtain ⟨v, h1, h2, e1, w, e2, pp⟩ := p
  obtain ⟨t1, t2, t3⟩ := f.t w
  refine ⟨v5, v6, h2, ?_, pp⟩
  rw [q_268_23, f.a1, f.l, kA2 f.1, f.b0, hc, f.k, f.b (j := 1) (by omega) (by omega), f.b (j := 2) (by omega) (by omega), f.b (j := 3) (by omega) (by omega)]
  show bI (ev 199 112 [vr 100, vi (h_mi h 40 ((i_add x4 1 : Int).toNat)), vi (h_mi h 40 ((i_add x4 2 : Int).toNat)), vi (h_mi h 40 ((i_add x4 3 : Int).toNat))] h) _ = _
  rw [e1, bI_s, q_268_358, t2, t1, t3 1 (by omega) (by omega), t3 2 (by omega) (by omega), t3 3 (by omega) (by omega), w.2.2.1]
  show bI (ev 199 194 [vr 145, vi (h_mi h 40 ((i_add x4 1 : Int).toNat)), vi (h_mi h 40 ((i_add x4 2 : Int).toNat)), vi (h_mi h 40 ((i_add x4 3 : Int).toNat))] h1) _ = _
  rw [e2, bI_s, q_268_380, dt (show v = v from rfl)]
  rfl
set_option maxRecDepth 20000 in
theorem lw_3 (f : Lfx h L x4) (hc : i_and (h_mi h 40 x4.toNat) 31 = 3) (p : Pb h 113 195 [vi (h_mi h 40 ((i_add x4 1 : Int).toNat)), vi (h_mi h 40 ((i_add x4 2 : Int).toNat))] [vi (h_mi h 40 ((i_add x4 1 : Int).toNat)), vi (h_mi h 40 ((i_add x4 2 : Int).toNat))] P) : ∃ w5 w6 h2, run (199 + 1) md_268 23 [vr 40, vr 100, vr 145, vr 181, vi x4, v5, v6] [] h = run (199 + 1) md_268 23 [vr 40, vr 100, vr 145, vr 181, vi (i_add x4 7), w5, w6] [] h2 ∧ P h2 := by
  obtain ⟨v, h1, h2, e1, w, e2, pp⟩ := p
  obtain ⟨t1, t2, t3⟩ := f.t w
  refine ⟨v5, v6, h2, ?_, pp⟩
  rw [q_268_23, f.a1, f.l, kA2 f.1, f.b0, hc, f.k, f.b (j := 1) (by omega) (by omega), f.b (j := 2) (by omega) (by omega)]
  show bI (ev 199 113 [vr 100, vi (h_mi h 40 ((i_add x4 1 : Int).toNat)), vi (h_mi h 40 ((i_add x4 2 : Int).toNat))] h) _ = _
  rw [e1, bI_s, q_268_401, t2, t1, t3 1 (by omega) (by omega), t3 2 (by omega) (by omega), w.2.2.1]
  show bI (ev 199 195 [vr 145, vi (h_mi h 40 ((i_add x4 1 : Int).toNat)), vi (h_mi h 40 ((i_add x4 2 : Int).toNat))] h1) _ = _
  rw [e2, bI_s, q_268_417, dt (show v = v from rfl)]
  rfl
set_option maxRecDepth 20000 in
theorem lw_4 (f : Lfx h L x4) (hc : i_and (h_mi h 40 x4.toNat) 31 = 4) (p : Pb h 114 198 [vi (h_mi h 40 ((i_add x4 1 : Int).toNat)), vi (h_mi h 40 ((i_add x4 2 : Int).toNat))] [vi (h_mi h 40 ((i_add x4 1 : Int).toNat)), vi (h_mi h 40 ((i_add x4 2 : Int).toNat))] P) : ∃ w5 w6 h2, run (199 + 1) md_268 23 [vr 40, vr 100, vr 145, vr 181, vi x4, v5, v6] [] h = run (199 + 1) md_268 23 [vr 40, vr 100, vr 145, vr 181, vi (i_add x4 7), w5, w6] [] h2 ∧ P h2 := by
  obtain ⟨v, h1, h2, e1, w, e2, pp⟩ := p
  obtain ⟨t1, t2, t3⟩ := f.t w
  refine ⟨v5, v6, h2, ?_, pp⟩
  rw [q_268_23, f.a1, f.l, kA2 f.1, f.b0, hc, f.k, f.b (j := 1) (by omega) (by omega), f.b (j := 2) (by omega) (by omega)]
  show bI (ev 199 114 [vr 100, vi (h_mi h 40 ((i_add x4 1 : Int).toNat)), vi (h_mi h 40 ((i_add x4 2 : Int).toNat))] h) _ = _
  rw [e1, bI_s, q_268_438, t2, t1, t3 1 (by omega) (by omega), t3 2 (by omega) (by omega), w.2.2.1]
  show bI (ev 199 198 [vr 145, vi (h_mi h 40 ((i_add x4 1 : Int).toNat)), vi (h_mi h 40 ((i_add x4 2 : Int).toNat))] h1) _ = _
  rw [e2, bI_s, q_268_454, dt (show v = v from rfl)]
  rfl
set_option maxRecDepth 20000 in
theorem lw_5 (f : Lfx h L x4) (hc : i_and (h_mi h 40 x4.toNat) 31 = 5) (p : Pb h 115 201 [vi (h_mi h 40 ((i_add x4 1 : Int).toNat)), vi (h_mi h 40 ((i_add x4 2 : Int).toNat)), vi (h_mi h 40 ((i_add x4 3 : Int).toNat))] [vi (h_mi h 40 ((i_add x4 1 : Int).toNat)), vi (h_mi h 40 ((i_add x4 2 : Int).toNat)), vi (h_mi h 40 ((i_add x4 3 : Int).toNat))] P) : ∃ w5 w6 h2, run (199 + 1) md_268 23 [vr 40, vr 100, vr 145, vr 181, vi x4, v5, v6] [] h = run (199 + 1) md_268 23 [vr 40, vr 100, vr 145, vr 181, vi (i_add x4 7), w5, w6] [] h2 ∧ P h2 := by
  obtain ⟨v, h1, h2, e1, w, e2, pp⟩ := p
  obtain ⟨t1, t2, t3⟩ := f.t w
  refine ⟨v5, v6, h2, ?_, pp⟩
  rw [q_268_23, f.a1, f.l, kA2 f.1, f.b0, hc, f.k, f.b (j := 1) (by omega) (by omega), f.b (j := 2) (by omega) (by omega), f.b (j := 3) (by omega) (by omega)]
  show bI (ev 199 115 [vr 100, vi (h_mi h 40 ((i_add x4 1 : Int).toNat)), vi (h_mi h 40 ((i_add x4 2 : Int).toNat)), vi (h_mi h 40 ((i_add x4 3 : Int).toNat))] h) _ = _
  rw [e1, bI_s, q_268_481, t2, t1, t3 1 (by omega) (by omega), t3 2 (by omega) (by omega), t3 3 (by omega) (by omega), w.2.2.1]
  show bI (ev 199 201 [vr 145, vi (h_mi h 40 ((i_add x4 1 : Int).toNat)), vi (h_mi h 40 ((i_add x4 2 : Int).toNat)), vi (h_mi h 40 ((i_add x4 3 : Int).toNat))] h1) _ = _
  rw [e2, bI_s, q_268_503, dt (show v = v from rfl)]
  rfl
set_option maxRecDepth 20000 in
theorem lw_6 (f : Lfx h L x4) (hc : i_and (h_mi h 40 x4.toNat) 31 = 6) (p : Pb h 116 206 [vi (h_mi h 40 ((i_add x4 1 : Int).toNat)), vi (h_mi h 40 ((i_add x4 2 : Int).toNat))] [vi (h_mi h 40 ((i_add x4 1 : Int).toNat)), vi (h_mi h 40 ((i_add x4 2 : Int).toNat))] P) : ∃ w5 w6 h2, run (199 + 1) md_268 23 [vr 40, vr 100, vr 145, vr 181, vi x4, v5, v6] [] h = run (199 + 1) md_268 23 [vr 40, vr 100, vr 145, vr 181, vi (i_add x4 7), w5, w6] [] h2 ∧ P h2 := by
  obtain ⟨v, h1, h2, e1, w, e2, pp⟩ := p
  obtain ⟨t1, t2, t3⟩ := f.t w
  refine ⟨v5, v6, h2, ?_, pp⟩
  rw [q_268_23, f.a1, f.l, kA2 f.1, f.b0, hc, f.k, f.b (j := 1) (by omega) (by omega), f.b (j := 2) (by omega) (by omega)]
  show bI (ev 199 116 [vr 100, vi (h_mi h 40 ((i_add x4 1 : Int).toNat)), vi (h_mi h 40 ((i_add x4 2 : Int).toNat))] h) _ = _
  rw [e1, bI_s, q_268_524, t2, t1, t3 1 (by omega) (by omega), t3 2 (by omega) (by omega), w.2.2.1]
  show bI (ev 199 206 [vr 145, vi (h_mi h 40 ((i_add x4 1 : Int).toNat)), vi (h_mi h 40 ((i_add x4 2 : Int).toNat))] h1) _ = _
  rw [e2, bI_s, q_268_540, dt (show v = v from rfl)]
  rfl
set_option maxRecDepth 20000 in
theorem lw_7 (f : Lfx h L x4) (hc : i_and (h_mi h 40 x4.toNat) 31 = 7) (p : Pb h 117 207 [] [] P) : ∃ w5 w6 h2, run (199 + 1) md_268 23 [vr 40, vr 100, vr 145, vr 181, vi x4, v5, v6] [] h = run (199 + 1) md_268 23 [vr 40, vr 100, vr 145, vr 181, vi (i_add x4 7), w5, w6] [] h2 ∧ P h2 := by
  obtain ⟨v, h1, h2, e1, w, e2, pp⟩ := p
  obtain ⟨t1, t2, t3⟩ := f.t w
  refine ⟨v5, v6, h2, ?_, pp⟩
  rw [q_268_23, f.a1, f.l, kA2 f.1, f.b0, hc, f.k]
  show bI (ev 199 117 [vr 100] h) _ = _
  rw [e1, bI_s, q_268_549, t2]
  show bI (ev 199 207 [vr 145] h1) _ = _
  rw [e2, bI_s, q_268_553, dt (show v = v from rfl)]
  rfl
set_option maxRecDepth 20000 in
theorem lw_8 (f : Lfx h L x4) (hc : i_and (h_mi h 40 x4.toNat) 31 = 8) (p : Pb h 118 210 [vi (h_mi h 40 ((i_add x4 1 : Int).toNat))] [vi (h_mi h 40 ((i_add x4 1 : Int).toNat))] P) : ∃ w5 w6 h2, run (199 + 1) md_268 23 [vr 40, vr 100, vr 145, vr 181, vi x4, v5, v6] [] h = run (199 + 1) md_268 23 [vr 40, vr 100, vr 145, vr 181, vi (i_add x4 7), w5, w6] [] h2 ∧ P h2 := by
  obtain ⟨v, h1, h2, e1, w, e2, pp⟩ := p
  obtain ⟨t1, t2, t3⟩ := f.t w
  refine ⟨v5, v6, h2, ?_, pp⟩
  rw [q_268_23, f.a1, f.l, kA2 f.1, f.b0, hc, f.k, f.b (j := 1) (by omega) (by omega)]
  show bI (ev 199 118 [vr 100, vi (h_mi h 40 ((i_add x4 1 : Int).toNat))] h) _ = _
  rw [e1, bI_s, q_268_568, t2, t1, t3 1 (by omega) (by omega), w.2.2.1]
  show bI (ev 199 210 [vr 145, vi (h_mi h 40 ((i_add x4 1 : Int).toNat))] h1) _ = _
  rw [e2, bI_s, q_268_578, dt (show v = v from rfl)]
  rfl
set_option maxRecDepth 20000 in
theorem lw_9 (f : Lfx h L x4) (hc : i_and (h_mi h 40 x4.toNat) 31 = 9) (p : Pb h 119 211 [vi (h_mi h 40 ((i_add x4 1 : Int).toNat))] [vi (h_mi h 40 ((i_add x4 1 : Int).toNat))] P) : ∃ w5 w6 h2, run (199 + 1) md_268 23 [vr 40, vr 100, vr 145, vr 181, vi x4, v5, v6] [] h = run (199 + 1) md_268 23 [vr 40, vr 100, vr 145, vr 181, vi (i_add x4 7), w5, w6] [] h2 ∧ P h2 := by
  obtain ⟨v, h1, h2, e1, w, e2, pp⟩ := p
  obtain ⟨t1, t2, t3⟩ := f.t w
  refine ⟨v5, v6, h2, ?_, pp⟩
  rw [q_268_23, f.a1, f.l, kA2 f.1, f.b0, hc, f.k, f.b (j := 1) (by omega) (by omega)]
  show bI (ev 199 119 [vr 100, vi (h_mi h 40 ((i_add x4 1 : Int).toNat))] h) _ = _
  rw [e1, bI_s, q_268_593, t2, t1, t3 1 (by omega) (by omega), w.2.2.1]
  show bI (ev 199 211 [vr 145, vi (h_mi h 40 ((i_add x4 1 : Int).toNat))] h1) _ = _
  rw [e2, bI_s, q_268_603, dt (show v = v from rfl)]
  rfl
set_option maxRecDepth 20000 in
theorem lw_10 (f : Lfx h L x4) (hc : i_and (h_mi h 40 x4.toNat) 31 = 10) (p : Pb h 120 212 [vi (h_mi h 40 ((i_add x4 1 : Int).toNat)), vi (h_mi h 40 ((i_add x4 2 : Int).toNat))] [vi (h_mi h 40 ((i_add x4 1 : Int).toNat)), vi (h_mi h 40 ((i_add x4 2 : Int).toNat))] P) : ∃ w5 w6 h2, run (199 + 1) md_268 23 [vr 40, vr 100, vr 145, vr 181, vi x4, v5, v6] [] h = run (199 + 1) md_268 23 [vr 40, vr 100, vr 145, vr 181, vi (i_add x4 7), w5, w6] [] h2 ∧ P h2 := by
  obtain ⟨v, h1, h2, e1, w, e2, pp⟩ := p
  obtain ⟨t1, t2, t3⟩ := f.t w
  refine ⟨v5, v6, h2, ?_, pp⟩
  rw [q_268_23, f.a1, f.l, kA2 f.1, f.b0, hc, f.k, f.b (j := 1) (by omega) (by omega), f.b (j := 2) (by omega) (by omega)]
  show bI (ev 199 120 [vr 100, vi (h_mi h 40 ((i_add x4 1 : Int).toNat)), vi (h_mi h 40 ((i_add x4 2 : Int).toNat))] h) _ = _
  rw [e1, bI_s, q_268_624, t2, t1, t3 1 (by omega) (by omega), t3 2 (by omega) (by omega), w.2.2.1]
  show bI (ev 199 212 [vr 145, vi (h_mi h 40 ((i_add x4 1 : Int).toNat)), vi (h_mi h 40 ((i_add x4 2 : Int).toNat))] h1) _ = _
  rw [e2, bI_s, q_268_640, dt (show v = v from rfl)]
  rfl
set_option maxRecDepth 20000 in
theorem lw_11 (f : Lfx h L x4) (hc : i_and (h_mi h 40 x4.toNat) 31 = 11) (p : Pb h 121 216 [vi (h_mi h 40 ((i_add x4 1 : Int).toNat)), vi (h_mi h 40 ((i_add x4 2 : Int).toNat))] [vi (h_mi h 40 ((i_add x4 1 : Int).toNat)), vi (h_mi h 40 ((i_add x4 2 : Int).toNat))] P) : ∃ w5 w6 h2, run (199 + 1) md_268 23 [vr 40, vr 100, vr 145, vr 181, vi x4, v5, v6] [] h = run (199 + 1) md_268 23 [vr 40, vr 100, vr 145, vr 181, vi (i_add x4 7), w5, w6] [] h2 ∧ P h2 := by
  obtain ⟨v, h1, h2, e1, w, e2, pp⟩ := p
  obtain ⟨t1, t2, t3⟩ := f.t w
  refine ⟨v5, v6, h2, ?_, pp⟩
  rw [q_268_23, f.a1, f.l, kA2 f.1, f.b0, hc, f.k, f.b (j := 1) (by omega) (by omega), f.b (j := 2) (by omega) (by omega)]
  show bI (ev 199 121 [vr 100, vi (h_mi h 40 ((i_add x4 1 : Int).toNat)), vi (h_mi h 40 ((i_add x4 2 : Int).toNat))] h) _ = _
  rw [e1, bI_s, q_268_661, t2, t1, t3 1 (by omega) (by omega), t3 2 (by omega) (by omega), w.2.2.1]
  show bI (ev 199 216 [vr 145, vi (h_mi h 40 ((i_add x4 1 : Int).toNat)), vi (h_mi h 40 ((i_add x4 2 : Int).toNat))] h1) _ = _
  rw [e2, bI_s, q_268_677, dt (show v = v from rfl)]
  rfl
set_option maxRecDepth 20000 in
theorem lw_12 (f : Lfx h L x4) (hc : i_and (h_mi h 40 x4.toNat) 31 = 12) (p : Pb h 122 223 [vi (h_mi h 40 ((i_add x4 1 : Int).toNat)), vi (h_mi h 40 ((i_add x4 2 : Int).toNat)), vi (h_mi h 40 ((i_add x4 3 : Int).toNat))] [vi (h_mi h 40 ((i_add x4 1 : Int).toNat)), vi (h_mi h 40 ((i_add x4 2 : Int).toNat)), vi (h_mi h 40 ((i_add x4 3 : Int).toNat))] P) : ∃ w5 w6 h2, run (199 + 1) md_268 23 [vr 40, vr 100, vr 145, vr 181, vi x4, v5, v6] [] h = run (199 + 1) md_268 23 [vr 40, vr 100, vr 145, vr 181, vi (i_add x4 7), w5, w6] [] h2 ∧ P h2 := by
  obtain ⟨v, h1, h2, e1, w, e2, pp⟩ := p
  obtain ⟨t1, t2, t3⟩ := f.t w
  refine ⟨v5, v6, h2, ?_, pp⟩
  rw [q_268_23, f.a1, f.l, kA2 f.1, f.b0, hc, f.k, f.b (j := 1) (by omega) (by omega), f.b (j := 2) (by omega) (by omega), f.b (j := 3) (by omega) (by omega)]
  show bI (ev 199 122 [vr 100, vi (h_mi h 40 ((i_add x4 1 : Int).toNat)), vi (h_mi h 40 ((i_add x4 2 : Int).toNat)), vi (h_mi h 40 ((i_add x4 3 : Int).toNat))] h) _ = _
  rw [e1, bI_s, q_268_704, t2, t1, t3 1 (by omega) (by omega), t3 2 (by omega) (by omega), t3 3 (by omega) (by omega), w.2.2.1]
  show bI (ev 199 223 [vr 145, vi (h_mi h 40 ((i_add x4 1 : Int).toNat)), vi (h_mi h 40 ((i_add x4 2 : Int).toNat)), vi (h_mi h 40 ((i_add x4 3 : Int).toNat))] h1) _ = _
  rw [e2, bI_s, q_268_726, dt (show v = v from rfl)]
  rfl
set_option maxRecDepth 20000 in
theorem lw_13 (f : Lfx h L x4) (hc : i_and (h_mi h 40 x4.toNat) 31 = 13) (p : Pb h 123 224 [vi (h_mi h 40 ((i_add x4 1 : Int).toNat))] [vi (h_mi h 40 ((i_add x4 1 : Int).toNat))] P) : ∃ w5 w6 h2, run (199 + 1) md_268 23 [vr 40, vr 100, vr 145, vr 181, vi x4, v5, v6] [] h = run (199 + 1) md_268 23 [vr 40, vr 100, vr 145, vr 181, vi (i_add x4 7), w5, w6] [] h2 ∧ P h2 := by
  obtain ⟨v, h1, h2, e1, w, e2, pp⟩ := p
  obtain ⟨t1, t2, t3⟩ := f.t w
  refine ⟨v5, v6, h2, ?_, pp⟩
  rw [q_268_23, f.a1, f.l, kA2 f.1, f.b0, hc, f.k, f.b (j := 1) (by omega) (by omega)]
  show bI (ev 199 123 [vr 100, vi (h_mi h 40 ((i_add x4 1 : Int).toNat))] h) _ = _
  rw [e1, bI_s, q_268_741, t2, t1, t3 1 (by omega) (by omega), w.2.2.1]
  show bI (ev 199 224 [vr 145, vi (h_mi h 40 ((i_add x4 1 : Int).toNat))] h1) _ = _
  rw [e2, bI_s, q_268_751, dt (show v = v from rfl)]
  rfl
set_option maxRecDepth 20000 in
theorem lw_14 (f : Lfx h L x4) (hc : i_and (h_mi h 40 x4.toNat) 31 = 14) (p : Pb h 124 226 [vi (h_mi h 40 ((i_add x4 1 : Int).toNat)), vi (h_mi h 40 ((i_add x4 2 : Int).toNat))] [vi (h_mi h 40 ((i_add x4 1 : Int).toNat)), vi (h_mi h 40 ((i_add x4 2 : Int).toNat))] P) : ∃ w5 w6 h2, run (199 + 1) md_268 23 [vr 40, vr 100, vr 145, vr 181, vi x4, v5, v6] [] h = run (199 + 1) md_268 23 [vr 40, vr 100, vr 145, vr 181, vi (i_add x4 7), w5, w6] [] h2 ∧ P h2 := by
  obtain ⟨v, h1, h2, e1, w, e2, pp⟩ := p
  obtain ⟨t1, t2, t3⟩ := f.t w
  refine ⟨v5, v6, h2, ?_, pp⟩
  rw [q_268_23, f.a1, f.l, kA2 f.1, f.b0, hc, f.k, f.b (j := 1) (by omega) (by omega), f.b (j := 2) (by omega) (by omega)]
  show bI (ev 199 124 [vr 100, vi (h_mi h 40 ((i_add x4 1 : Int).toNat)), vi (h_mi h 40 ((i_add x4 2 : Int).toNat))] h) _ = _
  rw [e1, bI_s, q_268_772, t2, t1, t3 1 (by omega) (by omega), t3 2 (by omega) (by omega), w.2.2.1]
  show bI (ev 199 226 [vr 145, vi (h_mi h 40 ((i_add x4 1 : Int).toNat)), vi (h_mi h 40 ((i_add x4 2 : Int).toNat))] h1) _ = _
  rw [e2, bI_s, q_268_788, dt (show v = v from rfl)]
  rfl
set_option maxRecDepth 20000 in
theorem lw_15 (f : Lfx h L x4) (hc : i_and (h_mi h 40 x4.toNat) 31 = 15) (p : Pb h 125 229 [vi (h_mi h 40 ((i_add x4 1 : Int).toNat)), vi (h_mi h 40 ((i_add x4 2 : Int).toNat))] [vi (h_mi h 40 ((i_add x4 1 : Int).toNat)), vi (h_mi h 40 ((i_add x4 2 : Int).toNat))] P) : ∃ w5 w6 h2, run (199 + 1) md_268 23 [vr 40, vr 100, vr 145, vr 181, vi x4, v5, v6] [] h = run (199 + 1) md_268 23 [vr 40, vr 100, vr 145, vr 181, vi (i_add x4 7), w5, w6] [] h2 ∧ P h2 := by
  obtain ⟨v, h1, h2, e1, w, e2, pp⟩ := p
  obtain ⟨t1, t2, t3⟩ := f.t w
  refine ⟨v5, v6, h2, ?_, pp⟩
  rw [q_268_23, f.a1, f.l, kA2 f.1, f.b0, hc, f.k, f.b (j := 1) (by omega) (by omega), f.b (j := 2) (by omega) (by omega)]
  show bI (ev 199 125 [vr 100, vi (h_mi h 40 ((i_add x4 1 : Int).toNat)), vi (h_mi h 40 ((i_add x4 2 : Int).toNat))] h) _ = _
  rw [e1, bI_s, q_268_809, t2, t1, t3 1 (by omega) (by omega), t3 2 (by omega) (by omega), w.2.2.1]
  show bI (ev 199 229 [vr 145, vi (h_mi h 40 ((i_add x4 1 : Int).toNat)), vi (h_mi h 40 ((i_add x4 2 : Int).toNat))] h1) _ = _
  rw [e2, bI_s, q_268_825, dt (show v = v from rfl)]
  rfl
set_option maxRecDepth 20000 in
theorem lw_16 (f : Lfx h L x4) (hc : i_and (h_mi h 40 x4.toNat) 31 = 16) (p : Pb h 126 234 [vi (h_mi h 40 ((i_add x4 1 : Int).toNat)), vi (h_mi h 40 ((i_add x4 2 : Int).toNat)), vi (h_mi h 40 ((i_add x4 3 : Int).toNat)), vi (h_mi h 40 ((i_add x4 4 : Int).toNat))] [vi (h_mi h 40 ((i_add x4 1 : Int).toNat)), vi (h_mi h 40 ((i_add x4 2 : Int).toNat)), vi (h_mi h 40 ((i_add x4 3 : Int).toNat)), vi (h_mi h 40 ((i_add x4 4 : Int).toNat))] P) : ∃ w5 w6 h2, run (199 + 1) md_268 23 [vr 40, vr 100, vr 145, vr 181, vi x4, v5, v6] [] h = run (199 + 1) md_268 23 [vr 40, vr 100, vr 145, vr 181, vi (i_add x4 7), w5, w6] [] h2 ∧ P h2 := by
  obtain ⟨v, h1, h2, e1, w, e2, pp⟩ := p
  obtain ⟨t1, t2, t3⟩ := f.t w
  refine ⟨v5, v6, h2, ?_, pp⟩
  rw [q_268_23, f.a1, f.l, kA2 f.1, f.b0, hc, f.k, f.b (j := 1) (by omega) (by omega), f.b (j := 2) (by omega) (by omega), f.b (j := 3) (by omega) (by omega), f.b (j := 4) (by omega) (by omega)]
  show bI (ev 199 126 [vr 100, vi (h_mi h 40 ((i_add x4 1 : Int).toNat)), vi (h_mi h 40 ((i_add x4 2 : Int).toNat)), vi (h_mi h 40 ((i_add x4 3 : Int).toNat)), vi (h_mi h 40 ((i_add x4 4 : Int).toNat))] h) _ = _
  rw [e1, bI_s, q_268_858, t2, t1, t3 1 (by omega) (by omega), t3 2 (by omega) (by omega), t3 3 (by omega) (by omega), t3 4 (by omega) (by omega), w.2.2.1]
  show bI (ev 199 234 [vr 145, vi (h_mi h 40 ((i_add x4 1 : Int).toNat)), vi (h_mi h 40 ((i_add x4 2 : Int).toNat)), vi (h_mi h 40 ((i_add x4 3 : Int).toNat)), vi (h_mi h 40 ((i_add x4 4 : Int).toNat))] h1) _ = _
  rw [e2, bI_s, q_268_886, dt (show v = v from rfl)]
  rfl
set_option maxRecDepth 20000 in
theorem lw_17 (f : Lfx h L x4) (hc : i_and (h_mi h 40 x4.toNat) 31 = 17) (p : Pb h 127 231 [vi (h_mi h 40 ((i_add x4 1 : Int).toNat)), vi (h_mi h 40 ((i_add x4 2 : Int).toNat))] [vi (h_mi h 40 ((i_add x4 1 : Int).toNat)), vi (h_mi h 40 ((i_add x4 2 : Int).toNat))] P) : ∃ w5 w6 h2, run (199 + 1) md_268 23 [vr 40, vr 100, vr 145, vr 181, vi x4, v5, v6] [] h = run (199 + 1) md_268 23 [vr 40, vr 100, vr 145, vr 181, vi (i_add x4 7), w5, w6] [] h2 ∧ P h2 := by
  obtain ⟨v, h1, h2, e1, w, e2, pp⟩ := p
  obtain ⟨t1, t2, t3⟩ := f.t w
  refine ⟨v5, v6, h2, ?_, pp⟩
  rw [q_268_23, f.a1, f.l, kA2 f.1, f.b0, hc, f.k, f.b (j := 1) (by omega) (by omega), f.b (j := 2) (by omega) (by omega)]
  show bI (ev 199 127 [vr 100, vi (h_mi h 40 ((i_add x4 1 : Int).toNat)), vi (h_mi h 40 ((i_add x4 2 : Int).toNat))] h) _ = _
  rw [e1, bI_s, q_268_907, t2, t1, t3 1 (by omega) (by omega), t3 2 (by omega) (by omega), w.2.2.1]
  show bI (ev 199 231 [vr 145, vi (h_mi h 40 ((i_add x4 1 : Int).toNat)), vi (h_mi h 40 ((i_add x4 2 : Int).toNat))] h1) _ = _
  rw [e2, bI_s, q_268_923, dt (show v = v from rfl)]
  rfl
set_option maxRecDepth 20000 in
theorem lw_18 (f : Lfx h L x4) (hc : i_and (h_mi h 40 x4.toNat) 31 = 18) (p : Pt h 266 232 [vi (h_mi h 40 ((i_add x4 1 : Int).toNat)), vi (h_mi h 40 ((i_add x4 2 : Int).toNat))] P) : ∃ w5 w6 h2, run (199 + 1) md_268 23 [vr 40, vr 100, vr 145, vr 181, vi x4, v5, v6] [] h = run (199 + 1) md_268 23 [vr 40, vr 100, vr 145, vr 181, vi (i_add x4 7), w5, w6] [] h2 ∧ P h2 := by
  obtain ⟨x, h1, b, h2, e1, w, e2, ⟨r1, r2⟩, r3, pp⟩ := p
  obtain ⟨t1, t2, t3⟩ := f.t w
  refine ⟨vi x, vi b, h2, ?_, pp⟩
  rw [q_268_23, f.a1, f.l, kA2 f.1, f.b0, hc, f.b (j := 1) (by omega) (by omega), f.b (j := 2) (by omega) (by omega)]
  show bI (ev 199 266 [vr 100, vi (h_mi h 40 ((i_add x4 1 : Int).toNat)), vi (h_mi h 40 ((i_add x4 2 : Int).toNat)), vr 181] h) _ = _
  have e1' : ev 199 266 [vr 100, vi (h_mi h 40 ((i_add x4 1 : Int).toNat)), vi (h_mi h 40 ((i_add x4 2 : Int).toNat)), vr 181] h = some (vi x, h1) := e1
  rw [e1', bI_s, q_268_945, t1, t2, t3 1 (by omega) (by omega), t3 2 (by omega) (by omega), w.2.2.1]
  show bI (ev 199 232 [vr 145, vi (h_mi h 40 ((i_add x4 1 : Int).toNat)), vi (h_mi h 40 ((i_add x4 2 : Int).toNat))] h1) _ = _
  rw [e2, bI_s, q_268_963, isKc (show h_kd h2 145 = 9 from (r1.1 _ (List.mem_of_getElem? (i := 0) rfl)).1), v_147, q_147_0 (w := r1), r2]
  show run (199 + 1) md_268 969 [vr 40, vr 100, vr 145, vr 181, vi x4, vi x, vi b] [vi x] h2 = _
  rw [q_268_969, dt (show x = x from rfl)]
  by_cases x0 : x = 0
  · obtain ⟨y1, y2, y3⟩ := r3 x0
    rw [df (show ¬ x ≠ 0 from fun u => u x0), isKc y1, show inb h2 181 0 = true by (unfold inb; rw [y2]; rfl), y3, dt ((lcmp_e b b).mpr rfl)]
    rfl
  · rw [dt x0]; rfl
set_option maxRecDepth 20000 in
theorem lw_19 (f : Lfx h L x4) (hc : i_and (h_mi h 40 x4.toNat) 31 = 19) (p : Pb h 129 236 [vi (h_mi h 40 ((i_add x4 1 : Int).toNat)), vi (h_mi h 40 ((i_add x4 2 : Int).toNat))] [vi (h_mi h 40 ((i_add x4 1 : Int).toNat)), vi (h_mi h 40 ((i_add x4 2 : Int).toNat))] P) : ∃ w5 w6 h2, run (199 + 1) md_268 23 [vr 40, vr 100, vr 145, vr 181, vi x4, v5, v6] [] h = run (199 + 1) md_268 23 [vr 40, vr 100, vr 145, vr 181, vi (i_add x4 7), w5, w6] [] h2 ∧ P h2 := by
  obtain ⟨v, h1, h2, e1, w, e2, pp⟩ := p
  obtain ⟨t1, t2, t3⟩ := f.t w
  refine ⟨v5, v6, h2, ?_, pp⟩
  rw [q_268_23, f.a1, f.l, kA2 f.1, f.b0, hc, f.k, f.b (j := 1) (by omega) (by omega), f.b (j := 2) (by omega) (by omega)]
  show bI (ev 199 129 [vr 100, vi (h_mi h 40 ((i_add x4 1 : Int).toNat)), vi (h_mi h 40 ((i_add x4 2 : Int).toNat))] h) _ = _
  rw [e1, bI_s, q_268_1012, t2, t1, t3 1 (by omega) (by omega), t3 2 (by omega) (by omega), w.2.2.1]
  show bI (ev 199 236 [vr 145, vi (h_mi h 40 ((i_add x4 1 : Int).toNat)), vi (h_mi h 40 ((i_add x4 2 : Int).toNat))] h1) _ = _
  rw [e2, bI_s, q_268_1028, dt (show v = v from rfl)]
  rfl
set_option maxRecDepth 20000 in
theorem lw_20 (f : Lfx h L x4) (hc : i_and (h_mi h 40 x4.toNat) 31 = 20) (p : Pb h 130 237 [vi (h_mi h 40 ((i_add x4 1 : Int).toNat)), vi (h_mi h 40 ((i_add x4 2 : Int).toNat)), vi (h_mi h 40 ((i_add x4 3 : Int).toNat))] [vi (h_mi h 40 ((i_add x4 1 : Int).toNat)), vi (h_mi h 40 ((i_add x4 2 : Int).toNat)), vi (h_mi h 40 ((i_add x4 3 : Int).toNat))] P) : ∃ w5 w6 h2, run (199 + 1) md_268 23 [vr 40, vr 100, vr 145, vr 181, vi x4, v5, v6] [] h = run (199 + 1) md_268 23 [vr 40, vr 100, vr 145, vr 181, vi (i_add x4 7), w5, w6] [] h2 ∧ P h2 := by
  obtain ⟨v, h1, h2, e1, w, e2, pp⟩ := p
  obtain ⟨t1, t2, t3⟩ := f.t w
  refine ⟨v5, v6, h2, ?_, pp⟩
  rw [q_268_23, f.a1, f.l, kA2 f.1, f.b0, hc, f.k, f.b (j := 1) (by omega) (by omega), f.b (j := 2) (by omega) (by omega), f.b (j := 3) (by omega) (by omega)]
  show bI (ev 199 130 [vr 100, vi (h_mi h 40 ((i_add x4 1 : Int).toNat)), vi (h_mi h 40 ((i_add x4 2 : Int).toNat)), vi (h_mi h 40 ((i_add x4 3 : Int).toNat))] h) _ = _
  rw [e1, bI_s, q_268_1055, t2, t1, t3 1 (by omega) (by omega), t3 2 (by omega) (by omega), t3 3 (by omega) (by omega), w.2.2.1]
  show bI (ev 199 237 [vr 145, vi (h_mi h 40 ((i_add x4 1 : Int).toNat)), vi (h_mi h 40 ((i_add x4 2 : Int).toNat)), vi (h_mi h 40 ((i_add x4 3 : Int).toNat))] h1) _ = _
  rw [e2, bI_s, q_268_1077, dt (show v = v from rfl)]
  rfl
set_option maxRecDepth 20000 in
theorem lw_21 (f : Lfx h L x4) (hc : i_and (h_mi h 40 x4.toNat) 31 = 21) (p : Pb h 131 239 [vi (h_mi h 40 ((i_add x4 1 : Int).toNat))] [vi (h_mi h 40 ((i_add x4 1 : Int).toNat))] P) : ∃ w5 w6 h2, run (199 + 1) md_268 23 [vr 40, vr 100, vr 145, vr 181, vi x4, v5, v6] [] h = run (199 + 1) md_268 23 [vr 40, vr 100, vr 145, vr 181, vi (i_add x4 7), w5, w6] [] h2 ∧ P h2 := by
  obtain ⟨v, h1, h2, e1, w, e2, pp⟩ := p
  obtain ⟨t1, t2, t3⟩ := f.t w
  refine ⟨v5, v6, h2, ?_, pp⟩
  rw [q_268_23, f.a1, f.l, kA2 f.1, f.b0, hc, f.k, f.b (j := 1) (by omega) (by omega)]
  show bI (ev 199 131 [vr 100, vi (h_mi h 40 ((i_add x4 1 : Int).toNat))] h) _ = _
  rw [e1, bI_s, q_268_1092, t2, t1, t3 1 (by omega) (by omega), w.2.2.1]
  show bI (ev 199 239 [vr 145, vi (h_mi h 40 ((i_add x4 1 : Int).toNat))] h1) _ = _
  rw [e2, bI_s, q_268_1102, dt (show v = v from rfl)]
  rfl
set_option maxRecDepth 20000 in
theorem lw_22 (f : Lfx h L x4) (hc : i_and (h_mi h 40 x4.toNat) 31 = 22) (p : Pb h 132 240 [vi (h_mi h 40 ((i_add x4 1 : Int).toNat)), vi (h_mi h 40 ((i_add x4 2 : Int).toNat))] [vi (h_mi h 40 ((i_add x4 1 : Int).toNat)), vi (h_mi h 40 ((i_add x4 2 : Int).toNat))] P) : ∃ w5 w6 h2, run (199 + 1) md_268 23 [vr 40, vr 100, vr 145, vr 181, vi x4, v5, v6] [] h = run (199 + 1) md_268 23 [vr 40, vr 100, vr 145, vr 181, vi (i_add x4 7), w5, w6] [] h2 ∧ P h2 := by
  obtain ⟨v, h1, h2, e1, w, e2, pp⟩ := p
  obtain ⟨t1, t2, t3⟩ := f.t w
  refine ⟨v5, v6, h2, ?_, pp⟩
  rw [q_268_23, f.a1, f.l, kA2 f.1, f.b0, hc, f.k, f.b (j := 1) (by omega) (by omega), f.b (j := 2) (by omega) (by omega)]
  show bI (ev 199 132 [vr 100, vi (h_mi h 40 ((i_add x4 1 : Int).toNat)), vi (h_mi h 40 ((i_add x4 2 : Int).toNat))] h) _ = _
  rw [e1, bI_s, q_268_1123, t2, t1, t3 1 (by omega) (by omega), t3 2 (by omega) (by omega), w.2.2.1]
  show bI (ev 199 240 [vr 145, vi (h_mi h 40 ((i_add x4 1 : Int).toNat)), vi (h_mi h 40 ((i_add x4 2 : Int).toNat))] h1) _ = _
  rw [e2, bI_s, q_268_1139, dt (show v = v from rfl)]
  rfl
set_option maxRecDepth 20000 in
theorem lw_23 (f : Lfx h L x4) (hc : i_and (h_mi h 40 x4.toNat) 31 = 23) (p : Pb h 133 241 [] [] P) : ∃ w5 w6 h2, run (199 + 1) md_268 23 [vr 40, vr 100, vr 145, vr 181, vi x4, v5, v6] [] h = run (199 + 1) md_268 23 [vr 40, vr 100, vr 145, vr 181, vi (i_add x4 7), w5, w6] [] h2 ∧ P h2 := by
  obtain ⟨v, h1, h2, e1, w, e2, pp⟩ := p
  obtain ⟨t1, t2, t3⟩ := f.t w
  refine ⟨v5, v6, h2, ?_, pp⟩
  rw [q_268_23, f.a1, f.l, kA2 f.1, f.b0, hc, f.k]
  show bI (ev 199 133 [vr 100] h) _ = _
  rw [e1, bI_s, q_268_1148, t2]
  show bI (ev 199 241 [vr 145] h1) _ = _
  rw [e2, bI_s, q_268_1152, dt (show v = v from rfl)]
  rfl
set_option maxRecDepth 20000 in
theorem lw_24 (f : Lfx h L x4) (hc : i_and (h_mi h 40 x4.toNat) 31 = 24) (p : Pb h 134 242 [vi (h_mi h 40 ((i_add x4 1 : Int).toNat)), vi (h_mi h 40 ((i_add x4 2 : Int).toNat)), vi (h_mi h 40 ((i_add x4 3 : Int).toNat))] [vi (h_mi h 40 ((i_add x4 1 : Int).toNat)), vi (h_mi h 40 ((i_add x4 2 : Int).toNat)), vi (h_mi h 40 ((i_add x4 3 : Int).toNat))] P) : ∃ w5 w6 h2, run (199 + 1) md_268 23 [vr 40, vr 100, vr 145, vr 181, vi x4, v5, v6] [] h = run (199 + 1) md_268 23 [vr 40, vr 100, vr 145, vr 181, vi (i_add x4 7), w5, w6] [] h2 ∧ P h2 := by
  obtain ⟨v, h1, h2, e1, w, e2, pp⟩ := p
  obtain ⟨t1, t2, t3⟩ := f.t w
  refine ⟨v5, v6, h2, ?_, pp⟩
  rw [q_268_23, f.a1, f.l, kA2 f.1, f.b0, hc, f.k, f.b (j := 1) (by omega) (by omega), f.b (j := 2) (by omega) (by omega), f.b (j := 3) (by omega) (by omega)]
  show bI (ev 199 134 [vr 100, vi (h_mi h 40 ((i_add x4 1 : Int).toNat)), vi (h_mi h 40 ((i_add x4 2 : Int).toNat)), vi (h_mi h 40 ((i_add x4 3 : Int).toNat))] h) _ = _
  rw [e1, bI_s, q_268_1179, t2, t1, t3 1 (by omega) (by omega), t3 2 (by omega) (by omega), t3 3 (by omega) (by omega), w.2.2.1]
  show bI (ev 199 242 [vr 145, vi (h_mi h 40 ((i_add x4 1 : Int).toNat)), vi (h_mi h 40 ((i_add x4 2 : Int).toNat)), vi (h_mi h 40 ((i_add x4 3 : Int).toNat))] h1) _ = _
  rw [e2, bI_s, q_268_1201, dt (show v = v from rfl)]
  rfl
set_option maxRecDepth 20000 in
theorem lw_25 (f : Lfx h L x4) (hc : i_and (h_mi h 40 x4.toNat) 31 = 25) (p : Pb h 135 245 [vi (h_mi h 40 ((i_add x4 1 : Int).toNat)), vi (h_mi h 40 ((i_add x4 2 : Int).toNat)), vi (h_mi h 40 ((i_add x4 3 : Int).toNat)), vi (h_mi h 40 ((i_add x4 4 : Int).toNat)), vi (h_mi h 40 ((i_add x4 5 : Int).toNat))] [vi (h_mi h 40 ((i_add x4 1 : Int).toNat)), vi (h_mi h 40 ((i_add x4 2 : Int).toNat)), vi (h_mi h 40 ((i_add x4 3 : Int).toNat)), vi (h_mi h 40 ((i_add x4 4 : Int).toNat)), vi (h_mi h 40 ((i_add x4 5 : Int).toNat))] P) : ∃ w5 w6 h2, run (199 + 1) md_268 23 [vr 40, vr 100, vr 145, vr 181, vi x4, v5, v6] [] h = run (199 + 1) md_268 23 [vr 40, vr 100, vr 145, vr 181, vi (i_add x4 7), w5, w6] [] h2 ∧ P h2 := by
  obtain ⟨v, h1, h2, e1, w, e2, pp⟩ := p
  obtain ⟨t1, t2, t3⟩ := f.t w
  refine ⟨v5, v6, h2, ?_, pp⟩
  rw [q_268_23, f.a1, f.l, kA2 f.1, f.b0, hc, f.k, f.b (j := 1) (by omega) (by omega), f.b (j := 2) (by omega) (by omega), f.b (j := 3) (by omega) (by omega), f.b (j := 4) (by omega) (by omega), f.b (j := 5) (by omega) (by omega)]
  show bI (ev 199 135 [vr 100, vi (h_mi h 40 ((i_add x4 1 : Int).toNat)), vi (h_mi h 40 ((i_add x4 2 : Int).toNat)), vi (h_mi h 40 ((i_add x4 3 : Int).toNat)), vi (h_mi h 40 ((i_add x4 4 : Int).toNat)), vi (h_mi h 40 ((i_add x4 5 : Int).toNat))] h) _ = _
  rw [e1, bI_s, q_268_1240, t2, t1, t3 1 (by omega) (by omega), t3 2 (by omega) (by omega), t3 3 (by omega) (by omega), t3 4 (by omega) (by omega), t3 5 (by omega) (by omega), w.2.2.1]
  show bI (ev 199 245 [vr 145, vi (h_mi h 40 ((i_add x4 1 : Int).toNat)), vi (h_mi h 40 ((i_add x4 2 : Int).toNat)), vi (h_mi h 40 ((i_add x4 3 : Int).toNat)), vi (h_mi h 40 ((i_add x4 4 : Int).toNat)), vi (h_mi h 40 ((i_add x4 5 : Int).toNat))] h1) _ = _
  rw [e2, bI_s, q_268_1274, dt (show v = v from rfl)]
  rfl
set_option maxRecDepth 20000 in
theorem lw_26 (f : Lfx h L x4) (hc : i_and (h_mi h 40 x4.toNat) 31 = 26) (p : Pb h 136 246 [vi (h_mi h 40 ((i_add x4 1 : Int).toNat)), vi (h_mi h 40 ((i_add x4 2 : Int).toNat)), vi (h_mi h 40 ((i_add x4 3 : Int).toNat))] [vi (h_mi h 40 ((i_add x4 1 : Int).toNat)), vi (h_mi h 40 ((i_add x4 2 : Int).toNat)), vi (h_mi h 40 ((i_add x4 3 : Int).toNat))] P) : ∃ w5 w6 h2, run (199 + 1) md_268 23 [vr 40, vr 100, vr 145, vr 181, vi x4, v5, v6] [] h = run (199 + 1) md_268 23 [vr 40, vr 100, vr 145, vr 181, vi (i_add x4 7), w5, w6] [] h2 ∧ P h2 := by
  obtain ⟨v, h1, h2, e1, w, e2, pp⟩ := p
  obtain ⟨t1, t2, t3⟩ := f.t w
  refine ⟨v5, v6, h2, ?_, pp⟩
  rw [q_268_23, f.a1, f.l, kA2 f.1, f.b0, hc, f.k, f.b (j := 1) (by omega) (by omega), f.b (j := 2) (by omega) (by omega), f.b (j := 3) (by omega) (by omega)]
  show bI (ev 199 136 [vr 100, vi (h_mi h 40 ((i_add x4 1 : Int).toNat)), vi (h_mi h 40 ((i_add x4 2 : Int).toNat)), vi (h_mi h 40 ((i_add x4 3 : Int).toNat))] h) _ = _
  rw [e1, bI_s, q_268_1301, t2, t1, t3 1 (by omega) (by omega), t3 2 (by omega) (by omega), t3 3 (by omega) (by omega), w.2.2.1]
  show bI (ev 199 246 [vr 145, vi (h_mi h 40 ((i_add x4 1 : Int).toNat)), vi (h_mi h 40 ((i_add x4 2 : Int).toNat)), vi (h_mi h 40 ((i_add x4 3 : Int).toNat))] h1) _ = _
  rw [e2, bI_s, q_268_1323, dt (show v = v from rfl)]
  rfl
set_option maxRecDepth 20000 in
theorem lw_27 (f : Lfx h L x4) (hc : i_and (h_mi h 40 x4.toNat) 31 = 27) (p : Pt h 267 250 [vi (h_mi h 40 ((i_add x4 1 : Int).toNat)), vi (h_mi h 40 ((i_add x4 2 : Int).toNat)), vi (h_mi h 40 ((i_add x4 3 : Int).toNat)), vi (h_mi h 40 ((i_add x4 4 : Int).toNat))] P) : ∃ w5 w6 h2, run (199 + 1) md_268 23 [vr 40, vr 100, vr 145, vr 181, vi x4, v5, v6] [] h = run (199 + 1) md_268 23 [vr 40, vr 100, vr 145, vr 181, vi (i_add x4 7), w5, w6] [] h2 ∧ P h2 := by
  obtain ⟨x, h1, b, h2, e1, w, e2, ⟨r1, r2⟩, r3, pp⟩ := p
  obtain ⟨t1, t2, t3⟩ := f.t w
  refine ⟨vi x, vi b, h2, ?_, pp⟩
  rw [q_268_23, f.a1, f.l, kA2 f.1, f.b0, hc, f.b (j := 1) (by omega) (by omega), f.b (j := 2) (by omega) (by omega), f.b (j := 3) (by omega) (by omega), f.b (j := 4) (by omega) (by omega)]
  show bI (ev 199 267 [vr 100, vi (h_mi h 40 ((i_add x4 1 : Int).toNat)), vi (h_mi h 40 ((i_add x4 2 : Int).toNat)), vi (h_mi h 40 ((i_add x4 3 : Int).toNat)), vi (h_mi h 40 ((i_add x4 4 : Int).toNat)), vr 181] h) _ = _
  have e1' : ev 199 267 [vr 100, vi (h_mi h 40 ((i_add x4 1 : Int).toNat)), vi (h_mi h 40 ((i_add x4 2 : Int).toNat)), vi (h_mi h 40 ((i_add x4 3 : Int).toNat)), vi (h_mi h 40 ((i_add x4 4 : Int).toNat)), vr 181] h = some (vi x, h1) := e1
  rw [e1', bI_s, q_268_1357, t1, t2, t3 1 (by omega) (by omega), t3 2 (by omega) (by omega), t3 3 (by omega) (by omega), t3 4 (by omega) (by omega), w.2.2.1]
  show bI (ev 199 250 [vr 145, vi (h_mi h 40 ((i_add x4 1 : Int).toNat)), vi (h_mi h 40 ((i_add x4 2 : Int).toNat)), vi (h_mi h 40 ((i_add x4 3 : Int).toNat)), vi (h_mi h 40 ((i_add x4 4 : Int).toNat))] h1) _ = _
  rw [e2, bI_s, q_268_1387, isKc (show h_kd h2 145 = 9 from (r1.1 _ (List.mem_of_getElem? (i := 0) rfl)).1), v_147, q_147_0 (w := r1), r2]
  show run (199 + 1) md_268 1393 [vr 40, vr 100, vr 145, vr 181, vi x4, vi x, vi b] [vi x] h2 = _
  rw [q_268_1393, dt (show x = x from rfl)]
  by_cases x0 : x = 0
  · obtain ⟨y1, y2, y3⟩ := r3 x0
    rw [df (show ¬ x ≠ 0 from fun u => u x0), isKc y1, show inb h2 181 0 = true by (unfold inb; rw [y2]; rfl), y3, dt ((lcmp_e b b).mpr rfl)]
    rfl
  · rw [dt x0]; rfl
set_option maxRecDepth 20000 in
theorem lw_28_0 (f : Lfx h L x4) (hc : i_and (h_mi h 40 x4.toNat) 31 = 28) (hy : (h_mi h 40 ((i_add x4 2 : Int).toNat)) = 0) (p : Pb h 138 251 [vi (h_mi h 40 ((i_add x4 1 : Int).toNat)), vi 0] [vi (h_mi h 40 ((i_add x4 1 : Int).toNat)), vi 0] P) : ∃ w5 w6 h2, run (199 + 1) md_268 23 [vr 40, vr 100, vr 145, vr 181, vi x4, v5, v6] [] h = run (199 + 1) md_268 23 [vr 40, vr 100, vr 145, vr 181, vi (i_add x4 7), w5, w6] [] h2 ∧ P h2 := by
  obtain ⟨v, h1, h2, e1, w, e2, pp⟩ := p
  obtain ⟨t1, t2, t3⟩ := f.t w
  refine ⟨v5, v6, h2, ?_, pp⟩
  rw [q_268_23, f.a1, f.l, kA2 f.1, f.b0, hc, f.k, f.b (j := 1) (by omega) (by omega), f.b (j := 2) (by omega) (by omega), dt hy]
  show bI (ev 199 138 [vr 100, vi (h_mi h 40 ((i_add x4 1 : Int).toNat)), vi 0] h) _ = _
  rw [e1, bI_s, q_268_1444, t1, t2, t3 1 (by omega) (by omega), t3 2 (by omega) (by omega), w.2.2.1, dt hy]
  show bI (ev 199 251 [vr 145, vi (h_mi h 40 ((i_add x4 1 : Int).toNat)), vi 0] h1) _ = _
  rw [e2, bI_s, q_268_1468, dt (show v = v from rfl)]
  rfl
set_option maxRecDepth 20000 in
theorem lw_28_1 (f : Lfx h L x4) (hc : i_and (h_mi h 40 x4.toNat) 31 = 28) (hy : ¬ (h_mi h 40 ((i_add x4 2 : Int).toNat)) = 0) (p : Pb h 138 251 [vi (h_mi h 40 ((i_add x4 1 : Int).toNat)), vi 1] [vi (h_mi h 40 ((i_add x4 1 : Int).toNat)), vi 1] P) : ∃ w5 w6 h2, run (199 + 1) md_268 23 [vr 40, vr 100, vr 145, vr 181, vi x4, v5, v6] [] h = run (199 + 1) md_268 23 [vr 40, vr 100, vr 145, vr 181, vi (i_add x4 7), w5, w6] [] h2 ∧ P h2 := by
  obtain ⟨v, h1, h2, e1, w, e2, pp⟩ := p
  obtain ⟨t1, t2, t3⟩ := f.t w
  refine ⟨v5, v6, h2, ?_, pp⟩
  rw [q_268_23, f.a1, f.l, kA2 f.1, f.b0, hc, f.k, f.b (j := 1) (by omega) (by omega), f.b (j := 2) (by omega) (by omega), df hy]
  show bI (ev 199 138 [vr 100, vi (h_mi h 40 ((i_add x4 1 : Int).toNat)), vi 1] h) _ = _
  rw [e1, bI_s, q_268_1444, t1, t2, t3 1 (by omega) (by omega), t3 2 (by omega) (by omega), w.2.2.1, df hy]
  show bI (ev 199 251 [vr 145, vi (h_mi h 40 ((i_add x4 1 : Int).toNat)), vi 1] h1) _ = _
  rw [e2, bI_s, q_268_1468, dt (show v = v from rfl)]
  rfl
set_option maxRecDepth 20000 in
theorem lw_29 (f : Lfx h L x4) (hc : i_and (h_mi h 40 x4.toNat) 31 = 29) (p : Pb h 139 252 [vi (h_mi h 40 ((i_add x4 1 : Int).toNat))] [vi (h_mi h 40 ((i_add x4 1 : Int).toNat))] P) : ∃ w5 w6 h2, run (199 + 1) md_268 23 [vr 40, vr 100, vr 145, vr 181, vi x4, v5, v6] [] h = run (199 + 1) md_268 23 [vr 40, vr 100, vr 145, vr 181, vi (i_add x4 7), w5, w6] [] h2 ∧ P h2 := by
  obtain ⟨v, h1, h2, e1, w, e2, pp⟩ := p
  obtain ⟨t1, t2, t3⟩ := f.t w
  refine ⟨v5, v6, h2, ?_, pp⟩
  rw [q_268_23, f.a1, f.l, kA2 f.1, f.b0, hc, f.k, f.b (j := 1) (by omega) (by omega)]
  show bI (ev 199 139 [vr 100, vi (h_mi h 40 ((i_add x4 1 : Int).toNat))] h) _ = _
  rw [e1, bI_s, q_268_1483, t2, t1, t3 1 (by omega) (by omega), w.2.2.1]
  show bI (ev 199 252 [vr 145, vi (h_mi h 40 ((i_add x4 1 : Int).toNat))] h1) _ = _
  rw [e2, bI_s, q_268_1493, dt (show v = v from rfl)]
  rfl
end
