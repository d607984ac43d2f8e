/-! laws are read: signs, and the class's first token -/
section
variable {h : HP} {f : Nat → Int} {n l p s c : Nat}
theorem jsV_c (f : Nat → Int) (n p : Nat) : (tkK f n p = 1 ∧ tkW f n p = 1111 ∧ jsV f n p = 10) ∨ (tkK f n p = 1 ∧ tkW f n p = 423 ∧ jsV f n p = 11) ∨ (tkK f n p = 3 ∧ f (tB f n p) = 60 ∧ jsV f n p = 12) ∨ (tkK f n p = 3 ∧ f (tB f n p) = 61 ∧ jsV f n p = 13) ∨ (tkK f n p = 3 ∧ f (tB f n p) = 43 ∧ jsV f n p = 14) ∨ (tkK f n p = 3 ∧ f (tB f n p) = 45 ∧ jsV f n p = 15) ∨ (tkK f n p = 3 ∧ f (tB f n p) = 42 ∧ jsV f n p = 16) ∨ (jsV f n p = -1 ∧ ¬ (tkK f n p = 1 ∧ tkW f n p = 1111) ∧ ¬ (tkK f n p = 1 ∧ tkW f n p = 423) ∧ ¬ (tkK f n p = 3 ∧ f (tB f n p) = 60) ∧ ¬ (tkK f n p = 3 ∧ f (tB f n p) = 61) ∧ ¬ (tkK f n p = 3 ∧ f (tB f n p) = 43) ∧ ¬ (tkK f n p = 3 ∧ f (tB f n p) = 45) ∧ ¬ (tkK f n p = 3 ∧ f (tB f n p) = 42)) := by
  unfold jsV
  repeat' split
  all_goals omega
/-- the reference looks for a sign -/
theorem r_s1 (r : RT h f n l p c) (x : TX f n l) (p1 : p ≤ n) (dd : Nat) (dp : Int) (v3 v4 v5 : AV) (k : (tkK f n p = 3 ∧ f (tB f n p) = 43) ∨ (tkK f n p = 3 ∧ f (tB f n p) = 45) ∨ (tkK f n p = 3 ∧ f (tB f n p) = 42)) : run (dd + 2) md_159 11 [vr 145, vi dp, vi 0, v3, v4, v5] [] h = run (dd + 2) md_159 213 [vr 145, vi dp, vi 0, v3, v4, v5] [vi (bb (tkK f n p = 3 ∧ f (tB f n p) = 43)), vr 145] h := by
  rw [q_159_11 (w := r.1), dt (show (0 : Int) = 0 from rfl)]
  simp only [zb]
  rw [r_154 r.1 r.2.1 x.2.1 p1, bI_s, q_159_185 (w := r.1), r_154 r.1 r.2.1 x.2.1 p1, bI_s]
  by_cases a : tkK f n p = 3 ∧ f (tB f n p) = 43
  · rw [bb_nt a]; rfl
  · rw [bb_nf a]
    simp only [zb]
    rw [r_154 r.1 r.2.1 x.2.1 p1, bI_s, q_159_194 (w := r.1), r_154 r.1 r.2.1 x.2.1 p1, bI_s]
    by_cases b : tkK f n p = 3 ∧ f (tB f n p) = 45
    · rw [bb_nt b]; rfl
    · have e : tkK f n p = 3 ∧ f (tB f n p) = 42 := by omega
      rw [bb_nf b]
      simp only [zb]
      rw [r_154 r.1 r.2.1 x.2.1 p1, bI_s, q_159_203 (w := r.1), bb_dt e]
      simp only [zb]
      rw [r_154 r.1 r.2.1 x.2.1 p1, bI_s]
theorem r_s2 (r : RT h f n l p c) (x : TX f n l) (p1 : p ≤ n) (dd : Nat) (dp : Int) (v3 v4 v5 : AV) (k1 : ¬ (tkK f n p = 3 ∧ f (tB f n p) = 43)) (k2 : ¬ (tkK f n p = 3 ∧ f (tB f n p) = 45)) (k3 : ¬ (tkK f n p = 3 ∧ f (tB f n p) = 42)) : run (dd + 2) md_159 11 [vr 145, vi dp, vi 0, v3, v4, v5] [] h = run (dd + 2) md_159 251 [vr 145, vi dp, vi 0, v3, v4, v5] [vi (bb (tkK f n p = 3 ∧ f (tB f n p) = 60))] h := by
  rw [q_159_11 (w := r.1), dt (show (0 : Int) = 0 from rfl)]
  simp only [zb]
  rw [r_154 r.1 r.2.1 x.2.1 p1, bI_s, q_159_185 (w := r.1), bb_nf k1]
  simp only [zb]
  rw [r_154 r.1 r.2.1 x.2.1 p1, bI_s, q_159_194 (w := r.1), bb_nf k2]
  simp only [zb]
  rw [r_154 r.1 r.2.1 x.2.1 p1, bI_s, q_159_203 (w := r.1), bb_df k3]
  simp only [zb]
  rw [r_154 r.1 r.2.1 x.2.1 p1, bI_s]
theorem r_s3 (r : RT h f n l p c) (x : TX f n l) (p1 : p ≤ n) (dd : Nat) {dp : Nat} (hd : dp < 7) (v3 v4 v5 : AV) (k : (tkK f n p = 3 ∧ f (tB f n p) = 60) ∨ (tkK f n p = 3 ∧ f (tB f n p) = 61)) (hc : h_mi h 161 dp = 0) : run (dd + 2) md_159 251 [vr 145, vi (dp : Int), vi 0, v3, v4, v5] [vi (bb (tkK f n p = 3 ∧ f (tB f n p) = 60))] h = run (dd + 2) md_159 279 [vr 145, vi (dp : Int), vi 0, v3, v4, v5] [vi (bb (tkK f n p = 3 ∧ f (tB f n p) = 60)), vr 145] h := by
  rw [q_159_251 (w := r.1), dt (show 0 ≤ (dp : Int) by omega), dt (show (dp : Int) < 7 by omega), Int.toNat_natCast, hc]
  by_cases a : tkK f n p = 3 ∧ f (tB f n p) = 60
  · rw [bb_nt a, r_154 r.1 r.2.1 x.2.1 p1, bb_t a]; rfl
  · have e : tkK f n p = 3 ∧ f (tB f n p) = 61 := by omega
    rw [bb_nf a]
    simp only [zb]
    rw [r_154 r.1 r.2.1 x.2.1 p1 _ 61, bI_s, q_159_260 (w := r.1), dt (show 0 ≤ (dp : Int) by omega), dt (show (dp : Int) < 7 by omega), Int.toNat_natCast, hc, bb_dt e, r_154 r.1 r.2.1 x.2.1 p1]
    rfl
theorem r_s4 (r : RT h f n l p c) (x : TX f n l) (p1 : p ≤ n) (dd : Nat) {dp : Nat} (hd : dp < 7) (v3 v4 v5 : AV) (k : ((tkK f n p = 3 ∧ f (tB f n p) = 60) ∨ (tkK f n p = 3 ∧ f (tB f n p) = 61)) → h_mi h 161 dp ≠ 0) : run (dd + 2) md_159 251 [vr 145, vi (dp : Int), vi 0, v3, v4, v5] [vi (bb (tkK f n p = 3 ∧ f (tB f n p) = 60))] h = run (dd + 2) md_159 311 [vr 145, vi (dp : Int), vi 0, v3, v4, v5] [vi (bb (tkK f n p = 1 ∧ tkW f n p = 1111))] h := by
  rw [q_159_251 (w := r.1), dt (show 0 ≤ (dp : Int) by omega), dt (show (dp : Int) < 7 by omega), Int.toNat_natCast]
  by_cases a : tkK f n p = 3 ∧ f (tB f n p) = 60
  · rw [bb_nt a, dt (k (Or.inl a)), r_153 r.1 r.2.1]; rfl
  · rw [bb_nf a]
    simp only [zb]
    rw [r_154 r.1 r.2.1 x.2.1 p1 _ 61, bI_s, q_159_260 (w := r.1), dt (show 0 ≤ (dp : Int) by omega), dt (show (dp : Int) < 7 by omega), Int.toNat_natCast, r_153 r.1 r.2.1]
    by_cases b : tkK f n p = 3 ∧ f (tB f n p) = 61
    · rw [bb_dt b, dt (k (Or.inr b))]; rfl
    · rw [bb_df b]; rfl
/-- no sign that the reference takes here -/
theorem r_no (r : RT h f n l p c) (x : TX f n l) (p1 : p ≤ n) (dd : Nat) {dp : Nat} (hd : dp < 7) (v3 v4 v5 : AV) (j : jsV f n p = -1 ∨ ((jsV f n p = 12 ∨ jsV f n p = 13) ∧ h_mi h 161 dp ≠ 0)) : run (dd + 2) md_159 11 [vr 145, vi (dp : Int), vi 0, v3, v4, v5] [] h = run (dd + 2) md_159 363 [vr 145, vi (dp : Int), vi 0, v3, v4, v5] [vi (bb (tkK f n p = 3 ∧ f (tB f n p) = 41))] h := by
  have z := jsV_c f n p
  rw [r_s2 r x p1 dd dp v3 v4 v5 (by omega) (by omega) (by omega), r_s4 r x p1 dd hd v3 v4 v5 (fun q => by rcases j with y | y; exact absurd q (by omega); exact y.2), q_159_311 (w := r.1), bb_nf (show ¬ (tkK f n p = 1 ∧ tkW f n p = 1111) by omega)]
  simp only [zb]
  rw [r_153 r.1 r.2.1, bI_s, q_159_321 (w := r.1), bb_df (show ¬ (tkK f n p = 1 ∧ tkW f n p = 423) by omega)]
  simp only [zb]
  rw [r_154 r.1 r.2.1 x.2.1 p1, bI_s]
def rcO (o : Int) : Int := if o = 10 then 26 else if o = 11 then 27 else if o = 12 then 24 else if o = 13 then 25 else if o = 14 then 20 else if o = 15 then 21 else 22
theorem r_sg (r : RT h f n l p c) (x : TX f n l) (p1 : p ≤ n) (c1 : c ≤ 1000 + p) (dd : Nat) {dp : Nat} (hd : dp < 7) (v3 v4 v5 : AV) (j : jsV f n p ≠ -1) (hc : (jsV f n p = 12 ∨ jsV f n p = 13) → h_mi h 161 dp = 0) : ∃ h1, run (dd + 2) md_159 11 [vr 145, vi (dp : Int), vi 0, v3, v4, v5] [] h = run (dd + 2) md_159 11 [vr 145, vi (dp : Int), vi 1, v3, v4, v5] [] h1 ∧ RG h h1 f n l (tkE f n p) c [rcO (jsV f n p)] 7 (if 14 ≤ jsV f n p then 8 else dp) ∧ (jsV f n p ≤ 13 → h_mi h1 161 dp = if jsV f n p ≤ 11 then 0 else 1) := by
  obtain ⟨h1, e1, g1⟩ := r_lay r x p1 c1 (by rcases jsV_c f n p with z | z | z | z | z | z | z | z <;> omega) (rcO (jsV f n p)) (dd + 1)
  have z := jsV_c f n p
  by_cases j14 : 14 ≤ jsV f n p
  · obtain ⟨h2, e2, g2⟩ := r_go g1.2.1 x p1 dd
    rw [if_pos j14]
    refine ⟨h2, ?_, g1.tr g2 (by omega) (by omega), fun q => by omega⟩
    rw [r_s1 r x p1 dd dp v3 v4 v5 (by omega), q_159_213 (w := r.1)]
    by_cases a : tkK f n p = 3 ∧ f (tB f n p) = 43
    · have o : jsV f n p = 14 := by omega
      rw [o] at e1
      rw [bb_dt a, show (20 : Int) = rcO 14 from rfl, e1]
      simp only [zb, bV_s]
      rw [q_159_240 (w := g1.2.1.1), e2, bV_s, q_159_428]
    · rw [bb_df a]
      simp only [zb]
      rw [r_154 r.1 r.2.1 x.2.1 p1, bI_s, q_159_227 (w := r.1)]
      by_cases b : tkK f n p = 3 ∧ f (tB f n p) = 45
      · have o : jsV f n p = 15 := by omega
        rw [o] at e1
        rw [bb_dt b, show (21 : Int) = rcO 15 from rfl, e1]
        simp only [zb, bV_s]
        rw [q_159_240 (w := g1.2.1.1), e2, bV_s, q_159_428]
      · have o : jsV f n p = 16 := by omega
        rw [o] at e1
        rw [bb_df b, show (22 : Int) = rcO 16 from rfl, e1]
        simp only [zb, bV_s]
        rw [q_159_240 (w := g1.2.1.1), e2, bV_s, q_159_428]
  · obtain ⟨g2, m2⟩ := r_cm g1.2.1 dp (if jsV f n p ≤ 11 then 0 else 1)
    generalize hh : sI h1 161 dp (if jsV f n p ≤ 11 then 0 else 1) = h2 at g2 m2
    obtain ⟨h3, e3, g3⟩ := r_go g2.2.1 x p1 dd
    rw [if_neg j14]
    refine ⟨h3, ?_, (g1.dn (dp := 7) (e := dp) (by omega) (by omega)).tr (g2.tr g3 (by omega) (by omega)) (by omega) (by omega), fun _ => (g3.2.2.2.2 _ (by omega)).trans m2⟩
    rw [r_s2 r x p1 dd dp v3 v4 v5 (by omega) (by omega) (by omega)]
    by_cases j12 : jsV f n p ≤ 11
    · rw [if_pos j12] at hh
      rw [r_s4 r x p1 dd hd v3 v4 v5 (fun q => by omega), q_159_311 (w := r.1), r_153 r.1 r.2.1, bI_s]
      by_cases a : tkK f n p = 1 ∧ tkW f n p = 1111
      · have o : jsV f n p = 10 := by omega
        rw [o] at e1
        rw [bb_nt a]
        simp only [zb]
        rw [q_159_332 (w := r.1), bb_dt a, show (26 : Int) = rcO 10 from rfl, e1]
        simp only [zb, bV_s]
        rw [q_159_345 (w := g1.2.1.1), dt (show 0 ≤ (dp : Int) by omega), dt (show (dp : Int) < 7 by omega), Int.toNat_natCast, hh, e3]
        simp only [zb, bV_s]
        exact q_159_428 ..
      · have o : jsV f n p = 11 := by omega
        rw [o] at e1
        rw [bb_nf a]
        simp only [zb]
        rw [r_153 r.1 r.2.1, bI_s, q_159_321 (w := r.1), bb_dt (show tkK f n p = 1 ∧ tkW f n p = 423 by omega)]
        simp only [zb]
        rw [r_153 r.1 r.2.1, bI_s, q_159_332 (w := r.1), bb_df a, show (27 : Int) = rcO 11 from rfl, e1]
        simp only [zb, bV_s]
        rw [q_159_345 (w := g1.2.1.1), dt (show 0 ≤ (dp : Int) by omega), dt (show (dp : Int) < 7 by omega), Int.toNat_natCast, hh, e3]
        simp only [zb, bV_s]
        exact q_159_428 ..
    · rw [if_neg j12] at hh
      rw [r_s3 r x p1 dd hd v3 v4 v5 (by omega) (hc (by omega)), q_159_279 (w := r.1)]
      by_cases a : tkK f n p = 3 ∧ f (tB f n p) = 60
      · have o : jsV f n p = 12 := by omega
        rw [o] at e1
        rw [bb_dt a, show (24 : Int) = rcO 12 from rfl, e1]
        simp only [zb, bV_s]
        rw [q_159_292 (w := g1.2.1.1), dt (show 0 ≤ (dp : Int) by omega), dt (show (dp : Int) < 7 by omega), Int.toNat_natCast, hh, e3]
        simp only [zb, bV_s]
        exact q_159_428 ..
      · have o : jsV f n p = 13 := by omega
        rw [o] at e1
        rw [bb_df a, show (25 : Int) = rcO 13 from rfl, e1]
        simp only [zb, bV_s]
        rw [q_159_292 (w := g1.2.1.1), dt (show 0 ≤ (dp : Int) by omega), dt (show (dp : Int) < 7 by omega), Int.toNat_natCast, hh, e3]
        simp only [zb, bV_s]
        exact q_159_428 ..
/-- a closing parenthesis -/
theorem r_cl (r : RT h f n l p c) (x : TX f n l) (p1 : p ≤ n) (c1 : c ≤ 1000 + p) (dd : Nat) {dp : Nat} (hd : dp < 6) (v3 v4 v5 : AV) (j : jsV f n p = -1 ∨ ((jsV f n p = 12 ∨ jsV f n p = 13) ∧ h_mi h 161 (dp + 1) ≠ 0)) (k : tkK f n p = 3 ∧ f (tB f n p) = 41) : ∃ h1, run (dd + 2) md_159 11 [vr 145, vi ((dp + 1 : Nat) : Int), vi 0, v3, v4, v5] [] h = run (dd + 2) md_159 11 [vr 145, vi ((popD (h_mi h 160) dp : Nat) : Int), vi 0, v3, v4, v5] [] h1 ∧ RG h h1 f n l (tkE f n p) c [29] 7 8 := by
  obtain ⟨h1, e1, g1⟩ := r_lay r x p1 c1 (by have := k.1; omega) 29 (dd + 1)
  obtain ⟨h2, e2, g2⟩ := r_go g1.2.1 x p1 dd
  have po : popD (h_mi h1 160) dp = popD (h_mi h 160) dp := popD_cg (fun j hj => g1.2.2.2.1 j (by omega))
  refine ⟨h2, ?_, g1.tr g2 (by omega) (by omega)⟩
  rw [r_no r x p1 dd (by omega) v3 v4 v5 j, q_159_363 (w := r.1), bb_dt k, df (show ¬ ((dp + 1 : Nat) : Int) ≤ 0 by omega), e1]
  simp only [zb, bV_s]
  rw [q_159_376, ia (by omega) (by omega), show ((dp + 1 : Nat) : Int) + -1 = (dp : Int) by omega, r_p2 g1.2.1.1 dd 0 v3 v4 v5 dp (by omega), po, e2, bV_s, q_159_428]
theorem r_bd (r : RT h f n l p c) (x : TX f n l) (p1 : p ≤ n) (dd : Nat) {dp : Nat} (hd : dp < 7) (h0 : dp ≠ 0) (v3 v4 v5 : AV) (j : jsV f n p = -1 ∨ ((jsV f n p = 12 ∨ jsV f n p = 13) ∧ h_mi h 161 dp ≠ 0)) (k : ¬ (tkK f n p = 3 ∧ f (tB f n p) = 41)) : run (dd + 2) md_159 11 [vr 145, vi (dp : Int), vi 0, v3, v4, v5] [] h = some (vi 0, sI h 145 9 (1 + 16 * ((tB f n p : Nat) : Int))) := by
  rw [r_no r x p1 dd hd v3 v4 v5 j, q_159_363 (w := r.1), bb_df k, dt (show (dp : Int) ≠ 0 by omega), r_155 r.1 r.2.1 x.2.1 p1 _ (by omega) (by omega)]
  simp only [zb, bI_s]
  rw [q_159_423]; rfl
end
