/-! the first state -/
theorem Stt.h00 (w : WP) : Stt (h00 w) := fun a a1 a2 => by
  have lt : a < 100 := by omega
  refine ⟨if_pos lt, ?_, fun k => ?_, ?_, fun k => if_pos lt⟩
  · show (if a < 100 then sln w a else 0) = _
    rw [if_pos lt]
    unfold sln slnS
    simp only [a2, if_false]
  · show (if a < 100 then smi w a k else 0) = _
    rw [if_pos lt]
    unfold smi smiS
    simp only [a2, if_false]
  · show (if a < 100 then sml a else 0) = _
    rw [if_pos lt]
theorem ck_c : (CSk_t.all fun q => decide (100 ≤ q.1 ∧ q.1 < 145) && decide (bT.getD (q.1 - 100) (0, 0) = (q.2.1, q.2.2))) = true := by decide +kernel
theorem ck_r : (RSk_t.all fun q => decide (145 ≤ q.1 ∧ q.1 < 181) && decide (bT.getD (q.1 - 100) (0, 0) = (q.2.1, q.2.2))) = true := by decide +kernel
theorem ck_cr : (CSk_r.all fun q => decide (100 ≤ q.1 ∧ q.1 < 145)) = true := by decide +kernel
theorem ck_rr : (RSk_r.all fun q => decide (145 ≤ q.1 ∧ q.1 < 181)) = true := by decide +kernel
/-- the law's start: both objects are made -/
theorem inv_0 (w : WP) : ∃ H, run (199 + 1) md_268 0 [vr 40, vu, vu, vu, vu, vu, vu] [] (h00 w) = run (199 + 1) md_268 23 [vr 40, vr 100, vr 145, vr 181, vi 0, vu, vu] [] H ∧ Inv H 107 (fun _ l => dfl l) 0 (w_L w) (w_xs w) ∧ h_sz H = 182 ∧ h_sl H ≤ 20000 := by
  obtain ⟨h1, G, M, s, e1, n1, s1, gd, ⟨m0, m1, m2⟩, ⟨l0, l1, l2, l3⟩, m27, mz⟩ := c_109 w 196
  simp only [Bool.and_eq_true] at gd
  obtain ⟨⟨⟨⟨⟨g1, g2⟩, g3⟩, g4⟩, g5⟩, g6⟩ := gd
  obtain ⟨h2, G', M', s', e2, n2, s2, ge, g7, mz2⟩ := c_146 w 198 n1 (by rw [Bool.and_eq_true]; exact ⟨g1, g2⟩)
  have bT2 := n2.1.2.2
  have k2 : ∀ a, 100 ≤ a → a < 181 → h_kd h2 a = (bT.getD (a - 100) (0, 0)).1 ∧ h_ln h2 a = (bT.getD (a - 100) (0, 0)).2 := fun a a1 a2 => by
    have := bT2 (a - 100) (by omega)
    rw [show h_sz (h00 w) + (a - 100) = a by (show 100 + (a - 100) = a); omega] at this
    exact this
  have r2 : ∀ a, 100 ≤ a → a < 181 → h_mr h2 a = G' (a - 100) := fun a a1 a2 => by
    have := n2.2.1 (a - 100) (by omega)
    rw [show 100 + (a - 100) = a by omega] at this
    exact this
  have i2 : ∀ a, 100 ≤ a → a < 181 → h_mi h2 a = M' (a - 100) := fun a a1 a2 => by
    have := n2.2.2.1 (a - 100) (by omega)
    rw [show 100 + (a - 100) = a by omega] at this
    exact this
  have w2 : RSk h2 := by
    refine ⟨fun q hq => ?_, fun q hq => ?_⟩
    · have c := List.all_eq_true.mp ck_r q hq
      rw [Bool.and_eq_true] at c
      have c1 := of_decide_eq_true c.1
      have c2 := of_decide_eq_true c.2
      rw [(k2 q.1 (by omega) (by omega)).1, (k2 q.1 (by omega) (by omega)).2, c2]; exact ⟨rfl, rfl⟩
    · have c1 := of_decide_eq_true (List.all_eq_true.mp ck_rr q hq)
      have c2 := of_decide_eq_true (List.all_eq_true.mp g7 q hq)
      rw [r2 q.1 (by omega) (by omega)]; exact c2
  obtain ⟨N, e3, p0, p1, p2, p3, p4, p5⟩ := m_156 w2 (r := 0) (by omega) 198
  have e3' : ev 198 156 [vr 145, vi 0] h2 = some (vr 0, sM h2 N) := e3
  generalize hH : alo (sM h2 N) 12 1 1 = H
  have z2 : h_sz h2 = 181 := n2.z
  have zH : h_sz H = 182 := by rw [← hH, sz_alo]; show h_sz h2 + 1 = 182; omega
  have kH : ∀ a, a < 181 → h_kd H a = h_kd h2 a ∧ h_ln H a = h_ln h2 a ∧ h_mi H a = N a ∧ h_ml H a = h_ml h2 a ∧ h_mr H a = h_mr h2 a := fun a ha => by
    obtain ⟨b1, b2, b3, b4, b5⟩ := (Ex.alo (sM h2 N) 12 1 1).2 a (by show a < h_sz h2; omega)
    rw [hH] at b1 b2 b3 b4 b5
    exact ⟨b1, b2, b3, b4, b5⟩
  have k181 : h_kd H 181 = 12 ∧ h_ln H 181 = 1 := by
    rw [← hH, kd_alo, ln_alo]
    rw [show h_sz (sM h2 N) = 181 from z2, up_eq, up_eq]; exact ⟨rfl, rfl⟩
  have eH : run (199 + 1) md_268 0 [vr 40, vu, vu, vu, vu, vu, vu] [] (h00 w) = run (199 + 1) md_268 23 [vr 40, vr 100, vr 145, vr 181, vi 0, vu, vu] [] H := by
    have z0 : h_sz (h00 w) = 100 := rfl
    have z1 : h_sz h1 = 145 := n1.z
    have e1' : ev 199 109 [vr 100] (alo (h00 w) 8 0 7) = some (vr 0, h1) := e1
    have ka : isK (alo (h00 w) 8 0 7) 100 8 = true := isKc (by rw [kd_alo, z0, up_eq])
    have kb : isK (alo h1 9 0 55) 145 9 = true := isKc (by rw [kd_alo, z1, up_eq])
    have e2' : ev 199 146 [vr 145] (alo h1 9 0 55) = some (vr 0, sM h2 N) := by
      have : ev 199 146 [vr 145] (alo h1 9 0 55) = bV (ev 198 156 [vr 145, vi 0] h2) (fun h2 => some (vr 0, h2)) := e2
      rw [this, e3', bV_s]
    rw [q_268_0, z0, q_268_3, ka, e1']
    simp only [zb, bV_s]
    rw [q_268_7, z1, q_268_11, kb, e2']
    simp only [zb, bV_s]
    rw [q_268_15, show h_sz (sM h2 N) = 181 from z2, hH, q_268_19]
  -- numbers
  have nM : ∀ a, 100 ≤ a → a < 181 → a ≠ 147 → a ≠ 148 → a ≠ 149 → a ≠ 157 → a ≠ 158 → h_mi H a = M' (a - 100) := fun a a1 a2 b1 b2 b3 b4 b5 => by
    rw [(kH a a2).2.2.1, p0 a b1 b2 b3 b4 b5, i2 a a1 a2]
  have nR : ∀ a, 145 ≤ a → a < 181 → a ≠ 147 → a ≠ 148 → a ≠ 149 → a ≠ 157 → a ≠ 158 → ∀ j, h_mi H a j = 0 := fun a a1 a2 b1 b2 b3 b4 b5 j => by
    rw [nM a (by omega) a2 b1 b2 b3 b4 b5]; exact mz2 _ (by omega) (by omega) j
  have nC : ∀ a, 100 ≤ a → a < 145 → h_mi H a = M (a - 100) := fun a a1 a2 => by
    rw [nM a a1 (by omega) (by omega) (by omega) (by omega) (by omega) (by omega), (ge (a - 100) (by omega)).2]
  have nZ : ∀ a, 100 ≤ a → a < 145 → a ≠ 107 → a ≠ 119 → a ≠ 121 → a ≠ 123 → a ≠ 125 → a ≠ 127 → ∀ j, h_mi H a j = 0 := fun a a1 a2 b1 b2 b3 b4 b5 b6 j => by
    rw [nC a a1 a2]; exact mz _ (by omega) (by omega) (by omega) (by omega) (by omega) (by omega) (by omega) j
  have n7 : ∀ j, h_mi H 147 j = if j = 0 then 2 else if j = 1 then 1 else 0 := fun j => by
    rw [(kH 147 (by omega)).2.2.1, p1]
    by_cases j0 : j = 0
    · rw [if_pos (by omega), if_pos j0]
    · rw [if_neg (by omega), if_neg j0]
      by_cases j1 : j = 1
      · rw [if_pos (by omega), if_pos j1]
      · rw [if_neg (by omega), if_neg j1]
        split
        · rfl
        · rw [i2 147 (by omega) (by omega)]; exact mz2 _ (by omega) (by omega) j
  have n8 : ∀ a, a = 148 ∨ a = 149 ∨ a = 157 ∨ a = 158 → ∀ j, h_mi H a j = 0 := fun a ha j => by
    rw [(kH a (by omega)).2.2.1]
    rcases ha with q | q | q | q <;> subst q
    · rw [p2]; split
      · rfl
      · rw [i2 148 (by omega) (by omega)]; exact mz2 _ (by omega) (by omega) j
    · rw [p3]; split
      · rfl
      · rw [i2 149 (by omega) (by omega)]; exact mz2 _ (by omega) (by omega) j
    · rw [p4]; split
      · rfl
      · rw [i2 157 (by omega) (by omega)]; exact mz2 _ (by omega) (by omega) j
    · rw [p5]; split
      · rfl
      · rw [i2 158 (by omega) (by omega)]; exact mz2 _ (by omega) (by omega) j
  have rH : ∀ a, 100 ≤ a → a < 145 → h_mr H a = G (a - 100) := fun a a1 a2 => by
    rw [(kH a (by omega)).2.2.2.2, r2 a a1 (by omega), (ge (a - 100) (by omega)).1]
  have kdH : ∀ a, 100 ≤ a → a < 181 → h_kd H a = (bT.getD (a - 100) (0, 0)).1 ∧ h_ln H a = (bT.getD (a - 100) (0, 0)).2 := fun a a1 a2 => by
    rw [(kH a a2).1, (kH a a2).2.1]; exact k2 a a1 a2
  have wR : RSk H := by
    refine ⟨fun q hq => ?_, fun q hq => ?_⟩
    · have c := List.all_eq_true.mp ck_r q hq
      rw [Bool.and_eq_true] at c
      have c1 := of_decide_eq_true c.1
      rw [(kH q.1 (by omega)).1, (kH q.1 (by omega)).2.1]; exact w2.1 q hq
    · have c1 := of_decide_eq_true (List.all_eq_true.mp ck_rr q hq)
      rw [(kH q.1 (by omega)).2.2.2.2]; exact w2.2 q hq
  have wC : CSk H := by
    refine ⟨fun q hq => ?_, fun q hq => ?_⟩
    · have c := List.all_eq_true.mp ck_c q hq
      rw [Bool.and_eq_true] at c
      have c1 := of_decide_eq_true c.1
      have c2 := of_decide_eq_true c.2
      rw [(kdH q.1 (by omega) (by omega)).1, (kdH q.1 (by omega) (by omega)).2, c2]; exact ⟨rfl, rfl⟩
    · have c1 := of_decide_eq_true (List.all_eq_true.mp ck_cr q hq)
      have c2 := of_decide_eq_true (List.all_eq_true.mp g1 q hq)
      rw [rH q.1 (by omega) (by omega)]; exact c2
  have ex2 : Ex (h00 w) h2 := n2.1.1
  have stH : Stt H := fun a a1 a2 => by
    obtain ⟨b1, b2, b3, b4, b5⟩ := ex2.2 a (by show a < 100; omega)
    obtain ⟨c1, c2, c3, c4, c5⟩ := kH a (by omega)
    have c3' : h_mi H a = h_mi h2 a := by rw [c3]; exact p0 a (by omega) (by omega) (by omega) (by omega) (by omega)
    rw [c1, c2, c3', c4, c5, b1, b2, b3, b4, b5]
    exact Stt.h00 w a a1 a2
  have gl : ∀ l, l < 4 → h_mr H 107 (l + 15) = 118 + 2 * l ∧ h_mr H (118 + 2 * l) 0 = 119 + 2 * l := fun l hl => by
    have c := List.all_eq_true.mp g3 l (List.mem_range.mpr hl)
    rw [Bool.and_eq_true] at c
    have c1 := of_decide_eq_true c.1
    have c2 := of_decide_eq_true c.2
    rw [rH 107 (by omega) (by omega), rH (118 + 2 * l) (by omega) (by omega)]
    exact ⟨c1, by rw [show 118 + 2 * l - 100 = 18 + 2 * l by omega]; exact c2⟩
  have fo : FjO H 107 := by
    refine ⟨⟨Or.inl rfl, (kdH 107 (by omega) (by omega)).1, fun i hi => ?_, fun j hj => ?_, fun l hl => ?_⟩, by omega, fun l hl => by rw [(gl l hl).1]; omega⟩
    · rw [(kdH (107 + (i + 1)) (by omega) (by omega)).1, (kdH (107 + (i + 1)) (by omega) (by omega)).2]
      have : i = 0 ∨ i = 1 ∨ i = 2 ∨ i = 3 ∨ i = 4 ∨ i = 5 ∨ i = 6 ∨ i = 7 ∨ i = 8 ∨ i = 9 := by omega
      rcases this with q | q | q | q | q | q | q | q | q | q <;> subst q <;> exact ⟨rfl, rfl⟩
    · rw [rH 107 (by omega) (by omega)]
      exact of_decide_eq_true (List.all_eq_true.mp g2 j (List.mem_range.mpr hj))
    · rw [(gl l hl).1, (gl l hl).2, (kdH (118 + 2 * l) (by omega) (by omega)).1, (kdH (118 + 2 * l + 1) (by omega) (by omega)).1]
      have : l = 0 ∨ l = 1 ∨ l = 2 ∨ l = 3 := by omega
      rcases this with q | q | q | q <;> subst q <;> exact ⟨rfl, rfl, rfl⟩
  have lc : LCs H 107 0 (fun _ l => dfl l) := fun l hl => by
    rw [(gl l hl).1]
    obtain ⟨v, ev, wg⟩ := dfl_w l hl
    have ln : h_ln H (118 + 2 * l + 1) = 1 := by
      rw [(kdH (118 + 2 * l + 1) (by omega) (by omega)).2]
      have : l = 0 ∨ l = 1 ∨ l = 2 ∨ l = 3 := by omega
      rcases this with q | q | q | q <;> subst q <;> rfl
    refine ⟨Or.inl ⟨by omega, by omega⟩, fun j => [v].getD j 0, by rw [ln]; exact wg, fun j hj => ?_⟩
    rw [ln] at hj
    have j0 : j = 0 := by omega
    subst j0
    rw [nC (118 + 2 * l + 1) (by omega) (by omega)]
    have : l = 0 ∨ l = 1 ∨ l = 2 ∨ l = 3 := by omega
    rcases this with q | q | q | q <;> subst q <;> subst ev
    · exact l0
    · exact l1
    · exact l2
    · exact l3
  have c107 : h_mi H 107 = M 7 := nC 107 (by omega) (by omega)
  have s172 : ∀ j, h_mi H 172 j = 0 := nR 172 (by omega) (by omega) (by omega) (by omega) (by omega) (by omega) (by omega)
  have ln0 : LnO (h_mi H) 0 := fun l hl => by rw [n8 157 (by omega), n8 158 (by omega)]; omega
  have fb : FB (h_mi H) 0 := by
    unfold FB
    rw [n7, n7, n7, n7, n7]
    refine ⟨by omega, by omega, by omega, by omega, by omega, fun c hc => ?_, fun p hp => ?_, fun l hl => ?_⟩
    · rw [n8 148 (by omega), n8 149 (by omega)]; omega
    · rw [if_neg (by omega), if_neg (by omega)] at hp; omega
    · rw [if_neg (by omega), if_neg (by omega)] at hl; omega
  refine ⟨H, eH, ⟨⟨⟨wR, wC, stH, nZ 138 (by omega) (by omega) (by omega) (by omega) (by omega) (by omega) (by omega) (by omega) 0, nZ 139 (by omega) (by omega) (by omega) (by omega) (by omega) (by omega) (by omega) (by omega) 0⟩, fo.1, ?_, ⟨fb, ⟨fun c hc => ?_, fun p hp => ?_, ?_, ?_, ?_, fun j _ _ => s172 j⟩, fun l hl => ⟨Or.inl ⟨?_, rfl⟩, dfl_al l hl⟩⟩, ?_, lc, ?_⟩, fo, ⟨?_, ?_, fun j hj => ?_⟩, ⟨?_, ?_, ?_, fun i hi => ?_⟩, ⟨fun k hk => Or.inl ⟨?_, ?_⟩, fun k j hk hj hn => Or.inl ?_, ln0⟩, ⟨⟨?_, ?_, ?_⟩, ?_⟩, ⟨?_, ?_, ?_, k181.1, k181.2, by omega⟩⟩, zH, ?_⟩
  · rw [rH 106 (by omega) (by omega)]; exact of_decide_eq_true g4
  · rw [s172, s172]; exact ⟨by omega, by omega, fun _ => ⟨rfl, rfl⟩⟩
  · rw [s172, s172]; omega
  · rw [s172]; omega
  · rw [s172]; omega
  · rw [s172]; omega
  · rw [n8 157 (by omega), n8 158 (by omega)]
  · unfold FN
    rw [n7, n7, n7, n7, n7, c107, m0, m1, m2 12 (by omega), m2 13 (by omega), m2 14 (by omega)]
    refine ⟨⟨rfl, rfl, rfl, rfl, rfl⟩, fun c hc => ?_, fun p hp => ?_, fun l hl => ?_⟩
    · rw [n8 148 (by omega), n8 149 (by omega), nZ (107 + 1) (by omega) (by omega) (by omega) (by omega) (by omega) (by omega) (by omega) (by omega), nZ (107 + 2) (by omega) (by omega) (by omega) (by omega) (by omega) (by omega) (by omega) (by omega)]; exact ⟨rfl, rfl⟩
    · rw [if_neg (by omega), if_neg (by omega)] at hp; omega
    · rw [if_neg (by omega), if_neg (by omega)] at hl; omega
  · have z6 : ∀ j, h_mi H 106 j = 0 := nZ 106 (by omega) (by omega) (by omega) (by omega) (by omega) (by omega) (by omega) (by omega)
    refine ⟨fun c hc => ⟨?_, ?_⟩, fun p hp => ⟨fun _ => ?_, ?_⟩, by rw [z6, s172], by rw [z6, s172], by rw [z6, s172], by rw [z6, s172], by rw [z6, s172], by rw [z6, s172]⟩
    · rw [s172]; exact nZ 126 (by omega) (by omega) (by omega) (by omega) (by omega) (by omega) (by omega) (by omega) c
    · rw [s172, nC (126 + 1) (by omega) (by omega)]
      show M 27 c = _
      rw [m27, if_pos hc]; rfl
    · rw [s172]; exact nZ (126 + 2) (by omega) (by omega) (by omega) (by omega) (by omega) (by omega) (by omega) (by omega) p
    · rw [s172]; exact nZ (126 + 3) (by omega) (by omega) (by omega) (by omega) (by omega) (by omega) (by omega) (by omega) p
  · rw [nZ 101 (by omega) (by omega) (by omega) (by omega) (by omega) (by omega) (by omega) (by omega), nR 145 (by omega) (by omega) (by omega) (by omega) (by omega) (by omega) (by omega)]
  · rw [nR 145 (by omega) (by omega) (by omega) (by omega) (by omega) (by omega) (by omega)]; omega
  · rw [nR 145 (by omega) (by omega) (by omega) (by omega) (by omega) (by omega) (by omega)] at hj; omega
  · rw [nZ 130 (by omega) (by omega) (by omega) (by omega) (by omega) (by omega) (by omega) (by omega), nR 145 (by omega) (by omega) (by omega) (by omega) (by omega) (by omega) (by omega)]
  · rw [nR 145 (by omega) (by omega) (by omega) (by omega) (by omega) (by omega) (by omega)]; omega
  · rw [nZ 130 (by omega) (by omega) (by omega) (by omega) (by omega) (by omega) (by omega) (by omega)]; omega
  · rw [nR 145 (by omega) (by omega) (by omega) (by omega) (by omega) (by omega) (by omega)] at hi; omega
  · exact nR 180 (by omega) (by omega) (by omega) (by omega) (by omega) (by omega) (by omega) k
  · rw [rH 144 (by omega) (by omega)]
    exact of_decide_eq_true (List.all_eq_true.mp g6 k (List.mem_range.mpr hk))
  · rw [rH 144 (by omega) (by omega)]
    exact of_decide_eq_true (List.all_eq_true.mp g6 k (List.mem_range.mpr hk))
  · rw [s172]; unfold i3; omega
  · rw [s172]; unfold i3; omega
  · rw [s172]; unfold i3; omega
  · rw [s172]; omega
  · rw [(kH 40 (by omega)).1, (ex2.2 40 (by show 40 < 100; omega)).1]; rfl
  · rw [(kH 40 (by omega)).2.1, (ex2.2 40 (by show 40 < 100; omega)).2.1]; rfl
  · rw [(kH 40 (by omega)).2.2.1, p0 40 (by omega) (by omega) (by omega) (by omega) (by omega), (ex2.2 40 (by show 40 < 100; omega)).2.2.1]; rfl
  · rw [← hH, sl_alo]
    show h_sl h2 + 1 ≤ _
    rw [n2.2.2.2]; omega
