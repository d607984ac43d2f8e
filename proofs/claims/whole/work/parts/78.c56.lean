/-! lines are read: words of a group, names -/
def gpV (g w : Int) : Int := if g = 2 then (if w = 456887 then 0 else if w = 99677 then 1 else -1) else if g = 3 then (if w = 8740238 then 0 else if w = 6688728 then 1 else if w = 1758676 then 2 else if w = 10360367 then 3 else -1) else (if w = 129458 then 0 else if w = 4560413 then 1 else if w = 279108050 then 2 else if w = 117481784 then 3 else if w = 2155739 then 4 else -1)
theorem gr_ck : ((List.range 35).all fun a => ([2, 3, 4] : List Int).all fun g => decide (en_group.getD a 0 = g ↔ 0 ≤ gpV g (sml (a + 1))) && (decide (gpV g (sml (a + 1)) < 0) || decide (en_number.getD a 0 = gpV g (sml (a + 1))))) = true := by decide +kernel
theorem gr_c {a : Nat} {g : Int} (ha : a < 35) (hg : g = 2 ∨ g = 3 ∨ g = 4) : (en_group.getD a 0 = g ↔ 0 ≤ gpV g (sml (a + 1))) ∧ (0 ≤ gpV g (sml (a + 1)) → en_number.getD a 0 = gpV g (sml (a + 1))) := by
  have x := List.all_eq_true.mp gr_ck a (List.mem_range.mpr ha)
  have y := List.all_eq_true.mp x g (by rcases hg with z | z | z <;> rw [z] <;> decide)
  rw [Bool.and_eq_true] at y
  refine ⟨of_decide_eq_true y.1, fun q => ?_⟩
  rcases Bool.or_eq_true _ _ ▸ y.2 with z | z
  · have := of_decide_eq_true z; omega
  · exact of_decide_eq_true z
theorem gp_0 {g w : Int} (h : enW w = 0) : gpV g w = -1 := by
  have n := enW_0.mp h
  have k := fun (c : Nat) (hc : c < 35) (x : Int) (hx : sml (c + 1) = x) => show w ≠ x from fun q => n c hc (hx.trans q.symm)
  unfold gpV
  rw [if_neg (k 15 (by omega) 456887 rfl), if_neg (k 16 (by omega) 99677 rfl), if_neg (k 17 (by omega) 8740238 rfl), if_neg (k 18 (by omega) 6688728 rfl), if_neg (k 19 (by omega) 1758676 rfl), if_neg (k 20 (by omega) 10360367 rfl), if_neg (k 21 (by omega) 129458 rfl), if_neg (k 22 (by omega) 4560413 rfl), if_neg (k 23 (by omega) 279108050 rfl), if_neg (k 24 (by omega) 117481784 rfl), if_neg (k 25 (by omega) 2155739 rfl)]
  split
  · rfl
  · split <;> rfl
/-- a word of a group, or -1 -/
noncomputable def gw (f : Nat → Int) (n p : Nat) (g : Int) : Int := if tkK f n p = 1 then gpV g (tkW f n p) else -1
theorem gpV_b (g w : Int) : -1 ≤ gpV g w ∧ gpV g w ≤ 4 := by
  unfold gpV
  repeat' split
  all_goals omega
theorem gw_b (f : Nat → Int) (n p : Nat) (g : Int) : -1 ≤ gw f n p g ∧ gw f n p g ≤ 4 := by
  unfold gw
  split
  · exact gpV_b _ _
  · omega
theorem fq_fq (q : Int) (b : Nat) : fq (fq q 3 b) 3 b = fq q 3 b := by
  unfold fq
  by_cases z : q = 0
  · rw [if_pos z, if_neg (by omega)]
  · rw [if_neg z, if_neg z]
section
variable {h : HP} {f : Nat → Int} {n l p : Nat} {q : Int}
theorem k_82 (c : CL h f n p q) (x : TX f n l) (p1 : p ≤ n) {D : Nat} (hD : 6 ≤ D) {g : Int} (hg : g = 2 ∨ g = 3 ∨ g = 4) : (0 ≤ gw f n p g → ∃ h1, ev D 82 [vr 103, vi g] h = some (vi (gw f n p g), h1) ∧ Qt h h1 ∧ CL h1 f n (tkE f n p) q) ∧ (¬ 0 ≤ gw f n p g → ∃ h1, ev D 82 [vr 103, vi g] h = some (vi 0, h1) ∧ Qt h h1 ∧ CL h1 f n p (fq q 1 (tB f n p))) := by
  obtain ⟨d, rfl⟩ : ∃ d, D = d + 1 := ⟨D - 1, by omega⟩
  have b := tB_b (f := f) p1
  have b2 := x.2.1
  obtain ⟨h0, e0, g0, c0⟩ := k_84 c d (k := 1) (b := tB f n p) (by omega) (by omega) (by omega)
  by_cases n0 : h_mr h 101 7 = 0
  · have g0' : ¬ 0 ≤ gw f n p g := by
      unfold gw
      split
      · rename_i k1
        rw [gp_0 (by rw [← (c.2.2.1.2.2.2.2.1 k1).2]; exact n0)]; omega
      · omega
    refine ⟨fun y => absurd y g0', fun _ => ⟨h0, ?_, g0, c0⟩⟩
    rw [v_82, q_82_0 (w := c.1), dt n0, k_f4 c, e0]
    exact q_82_32 ..
  · have k1 : tkK f n p = 1 := by
      by_cases z : tkK f n p = 1
      · exact z
      · exact absurd (c.2.2.1.2.2.2.2.2.1 z) n0
    obtain ⟨a, a1, e1, e2, kd, mi⟩ := wd_c c.2.1 c.2.2.1 k1 (fun z => n0 (by rw [(c.2.2.1.2.2.2.2.1 k1).2, z]))
    have gc := gr_c a1 hg
    have ge : gw f n p g = gpV g (sml (a + 1)) := by unfold gw; rw [if_pos k1, e2]
    rw [ge, v_82, q_82_0 (w := c.1), df n0, e1, kd, mi 1, (smi_f a a1).2.1]
    refine ⟨fun y => ?_, fun y => ?_⟩
    · obtain ⟨h1, e3, g1, c1⟩ := k_89 c x p1 (D := d) (by omega)
      refine ⟨h1, ?_, g1, c1⟩
      rw [dt (gc.1.mpr y), e3]
      have s := c1.2.1 (a + 1) (by omega) (by omega)
      have kd1 : isK h1 (a + 1) 20 = true := isKc (by rw [s.1]; unfold skd; rw [if_neg (by omega), if_pos (by omega)])
      show run (d + 1) md_82 41 [vr 103, vi g, vr (a + 1)] [] h1 = _
      rw [q_82_41, kd1, s.2.2.1 2, (smi_f a a1).2.2, gc.2 y]
      rfl
    · refine ⟨h0, ?_, g0, c0⟩
      rw [df (fun z => y (gc.1.mp z)), k_f4 c, e0]
      exact q_82_32 ..
theorem s_174 (r : RL h f n p) (d : Nat) : ev (d + 1) 174 [vr 145] h = some (vi (gw f n p 2), h) := by
  rw [v_174, q_174_0 (w := r.1), r_153 r.1 r.2, bI_s, q_174_7 (w := r.1)]
  by_cases k1 : tkK f n p = 1
  · by_cases a : tkW f n p = 456887
    · rw [bb_dt ⟨k1, a⟩]; unfold gw gpV; rw [if_pos k1, if_pos rfl, if_pos a]; rfl
    · rw [bb_df (fun q => a q.2), r_153 r.1 r.2]
      simp only [zb, bI_s]
      rw [q_174_21]
      unfold gw gpV
      rw [if_pos k1, if_pos rfl, if_neg a]
      by_cases b : tkW f n p = 99677
      · rw [bb_dt ⟨k1, b⟩, if_pos b]; rfl
      · rw [bb_df (fun q => b q.2), if_neg b]; rfl
  · rw [bb_df (fun q => k1 q.1), r_153 r.1 r.2]
    simp only [zb, bI_s]
    rw [q_174_21, bb_df (fun q => k1 q.1)]
    unfold gw
    rw [if_neg k1]; rfl
/-- the names so far, on the class's side -/
def NmC (h : HP) (m : Nat) (nm : Nat → Int) : Prop := h_mi h 103 5 = (m : Int) ∧ ∀ j, j < m → h_ml h 105 j = nm j
theorem NmC.qt {h1 : HP} {m : Nat} {nm : Nat → Int} (a : NmC h m nm) (g : Qt h h1) : NmC h1 m nm := ⟨(g.f (by omega)).trans a.1, fun j hj => by rw [g.sh.2.2.2.2.2 105 (by omega)]; exact a.2 j hj⟩
theorem k_83n (c : CL h f n p q) (x : TX f n l) (p1 : p ≤ n) (d : Nat) (y : ¬ nmP f n p) : ∃ h1, ev (d + 1) 83 [vr 103] h = some (vr 0, h1) ∧ Qt h h1 ∧ CL h1 f n p (fq q 1 (tB f n p)) := by
  have b := tB_b (f := f) p1
  have b2 := x.2.1
  obtain ⟨h0, e0, g0, c0⟩ := k_84 c d (k := 1) (b := tB f n p) (by omega) (by omega) (by omega)
  refine ⟨h0, ?_, g0, c0⟩
  rw [v_83, q_83_0 (w := c.1), c.2.2.1.2.2.1, k_f4 c, e0]
  by_cases k1 : tkK f n p = 1
  · rw [k1, df (show ¬ srt 1 ≠ 2 from fun q => q rfl)]
    have iw : tkW f n p ∈ rsL := Classical.byContradiction fun z => y ⟨k1, z⟩
    have n0 : enW (tkW f n p) ≠ 0 := fun z => rs_0 z iw
    obtain ⟨a, a1, e1, e2, kd, mi⟩ := wd_c c.2.1 c.2.2.1 k1 n0
    rw [e1, df (by omega), kd, mi 1, (smi_f a a1).2.1, df (fun z => (rs_c a1).mp z (by rw [← e2]; exact iw))]
    exact q_83_43 ..
  · have s2 : srt (tkK f n p) ≠ 2 := by rcases tk_c f n p with z | z | z | z | z <;> rw [z] at k1 ⊢ <;> first | exact absurd rfl k1 | decide
    rw [dt s2]
    exact q_83_43 ..
theorem l_83 {a1 : Nat} {m : Nat} {nm : Nat → Int} (x : TX f n l) (p1 : p ≤ n) (k1 : tkK f n p = 1) (m1 : m ≤ 12) (d : Nat) : ∀ (k i : Nat) (h : HP) (q : Int), m - i = k → i ≤ m → CL h f n p q → NmC h m nm → ∃ h1, run (d + 1) md_83 46 [vr 103, vr a1, vi (i : Int)] [] h = run (d + 1) md_83 46 [vr 103, vr a1, vi (m : Int)] [] h1 ∧ Qt h h1 ∧ CL h1 f n p (@ite _ (∃ j, i ≤ j ∧ j < m ∧ nm j = tkW f n p) (Classical.propDecidable _) (fq q 3 (tB f n p)) q)
  | 0, i, h, q, hk, hi, c, nc => by
    have : i = m := by omega
    subst this
    refine ⟨h, rfl, Qt.rf h, ?_⟩
    rw [if_neg (by rintro ⟨j, j1, j2, _⟩; omega)]
    exact c
  | k + 1, i, h, q, hk, hi, c, nc => by
    have b := tB_b (f := f) p1
    have b2 := x.2.1
    have w6 : h_ml h 101 6 = tkW f n p := (c.2.2.1.2.2.2.2.1 k1).1
    have ix : i_add (i : Int) 1 = ((i + 1 : Nat) : Int) := by rw [ia (by omega) (by omega)]; rfl
    rw [q_83_46 (w := c.1), nc.1, df (show ¬ (m : Int) ≤ (i : Int) by omega), dt (show 0 ≤ (i : Int) by omega), dt (show (i : Int) < 13 by omega), Int.toNat_natCast i, nc.2 i (by omega), w6]
    by_cases z : nm i = tkW f n p
    · obtain ⟨h0, e0, g0, c0⟩ := k_84 c d (k := 3) (b := tB f n p) (by omega) (by omega) (by omega)
      obtain ⟨h1, e1, g1, c1⟩ := l_83 (a1 := a1) x p1 k1 m1 d k (i + 1) h0 (fq q 3 (tB f n p)) (by omega) (by omega) c0 (nc.qt g0)
      refine ⟨h1, ?_, g0.tr g1, ?_⟩
      · rw [df (show ¬ l_cmp (nm i) (tkW f n p) ≠ 0 from fun u => u ((lcmp_e _ _).mpr z)), k_f4 c, e0]
        show run (d + 1) md_83 83 _ [] h0 = _
        rw [q_83_83, ix, e1]
      · rw [if_pos ⟨i, Nat.le_refl _, by omega, z⟩]
        have c1' := c1
        rw [fq_fq, ite_self] at c1'
        exact c1'
    · obtain ⟨h1, e1, g1, c1⟩ := l_83 (a1 := a1) x p1 k1 m1 d k (i + 1) h q (by omega) (by omega) c nc
      refine ⟨h1, ?_, g1, ?_⟩
      · rw [dt (show l_cmp (nm i) (tkW f n p) ≠ 0 from fun u => z ((lcmp_e _ _).mp u))]
        show run (d + 1) md_83 83 _ [] h = _
        rw [q_83_83, ix, e1]
      · by_cases y : ∃ j, i + 1 ≤ j ∧ j < m ∧ nm j = tkW f n p
        · rw [if_pos y] at c1
          obtain ⟨j, j1, j2, j3⟩ := y
          rw [if_pos ⟨j, by omega, j2, j3⟩]; exact c1
        · rw [if_neg y] at c1
          have y' : ¬ ∃ j, i ≤ j ∧ j < m ∧ nm j = tkW f n p := by
            rintro ⟨j, j1, j2, j3⟩
            by_cases u : j = i
            · exact z (u ▸ j3)
            · exact y ⟨j, by omega, j2, j3⟩
          rw [if_neg y']; exact c1
end
