/-! lines are read: names and words, the reference's small steps -/
def rs28 : List Int := [3396901, 365321, 375050, 1473512789, 47, 237980745, 8529643, 247162, 4351291, 12532058, 3554408, 259868, 262768, 10408315, 3379448, 456887, 99677, 8740238, 6688728, 1758676, 10360367, 129458, 4560413, 279108050, 117481784, 2155739, 10631, 1111]
def rsL : List Int := rs28 ++ [423]
theorem rs_ck : ((List.range 35).all fun a => decide (en_group.getD a 0 = 5 ↔ ¬ sml (a + 1) ∈ rsL)) = true := by decide +kernel
theorem rs_in : (rsL.all fun w => (List.range 35).any fun c => decide (sml (c + 1) = w)) = true := by decide +kernel
theorem rs_c {a : Nat} (ha : a < 35) : en_group.getD a 0 = 5 ↔ ¬ sml (a + 1) ∈ rsL := of_decide_eq_true (List.all_eq_true.mp rs_ck a (List.mem_range.mpr ha))
theorem rs_0 {w : Int} (h : enW w = 0) : ¬ w ∈ rsL := fun q => by
  have x := List.all_eq_true.mp rs_in w q
  obtain ⟨c, c1, c2⟩ := List.any_eq_true.mp x
  exact (enW_0.mp h) c (List.mem_range.mp c1) (of_decide_eq_true c2)
/-- a token that may be a name -/
def nmP (f : Nat → Int) (n p : Nat) : Prop := tkK f n p = 1 ∧ ¬ tkW f n p ∈ rsL
theorem fold_m (W : Int) (A : RS) : ∀ (L : List Int) (B : RS), L.foldr (fun x r => bif decide (l_cmp W x = 0) then A else r) B = @ite _ (W ∈ L) (Classical.propDecidable _) A B
  | [], B => by rw [if_neg (by intro z; cases z)]; rfl
  | x :: L, B => by
    show (bif decide (l_cmp W x = 0) then A else L.foldr (fun x r => bif decide (l_cmp W x = 0) then A else r) B) = _
    rw [fold_m W A L B]
    by_cases z : W = x
    · rw [dt ((lcmp_e _ _).mpr z), if_pos (show W ∈ x :: L by rw [z]; exact List.mem_cons_self)]; rfl
    · rw [df (fun q => z ((lcmp_e _ _).mp q))]
      by_cases y : W ∈ L
      · rw [if_pos y, if_pos (List.mem_cons_of_mem _ y)]; rfl
      · rw [if_neg y, if_neg (by intro u; rcases List.mem_cons.mp u with u | u; exact z u; exact y u)]; rfl
/-- the reference: only the token, the fault and the number changed -/
def RQ (h h1 : HP) : Prop := ∃ g N, h1 = sM (sL h 145 7 g) N ∧ (∀ a, a ≠ 145 → N a = h_mi h a) ∧ ∀ j, j ≠ 4 → j ≠ 5 → j ≠ 6 → j ≠ 8 → j ≠ 9 → j ≠ 39 → N 145 j = h_mi h 145 j
theorem RQ.rf (h : HP) : RQ h h := ⟨_, _, (lc_self h).symm, fun _ _ => rfl, fun _ _ _ _ _ _ _ => rfl⟩
theorem RQ.tr {h h1 h2 : HP} (p : RQ h h1) (q : RQ h1 h2) : RQ h h2 := by
  obtain ⟨g, N, rfl, a1, a2⟩ := p
  obtain ⟨g2, N2, rfl, b1, b2⟩ := q
  exact ⟨g2, N2, lc_lc _ _ _ _ _, fun a h1 => (b1 a h1).trans (a1 a h1), fun j h1 h2 h3 h4 h5 h6 => (b2 j h1 h2 h3 h4 h5 h6).trans (a2 j h1 h2 h3 h4 h5 h6)⟩
theorem RQ.rs {h h1 : HP} (p : RQ h h1) (w : RSk h) : RSk h1 := by
  obtain ⟨g, N, rfl, _⟩ := p
  exact (w.l _ _ _).m _
theorem RQ.si {h h1 : HP} (p : RQ h h1) {k : Nat} (v : Int) (hk : k = 9 ∨ k = 39) : RQ h (sI h1 145 k v) := by
  obtain ⟨g, N, rfl, a1, a2⟩ := p
  exact ⟨g, up2 N 145 k v, rfl, fun a x => by rw [u2_ne _ _ _ x]; exact a1 a x, fun j x1 x2 x3 x4 x5 x6 => by rw [u2_no _ _ _ (by omega)]; exact a2 j x1 x2 x3 x4 x5 x6⟩
theorem RQ.sh {h h1 : HP} (p : RQ h h1) : h_kd h1 = h_kd h ∧ h_ln h1 = h_ln h ∧ h_sz h1 = h_sz h ∧ h_sl h1 = h_sl h ∧ h_mr h1 = h_mr h ∧ (∀ a, a ≠ 145 → h_ml h1 a = h_ml h a) ∧ ∀ a, a ≠ 145 → h_mi h1 a = h_mi h a := by
  obtain ⟨g, N, rfl, a1, _⟩ := p
  exact ⟨rfl, rfl, rfl, rfl, rfl, fun a ha => up_ne _ _ ha, a1⟩
theorem RQ.f {h h1 : HP} (p : RQ h h1) {j : Nat} (h4 : j ≠ 4) (h5 : j ≠ 5) (h6 : j ≠ 6) (h8 : j ≠ 8) (h9 : j ≠ 9) (h39 : j ≠ 39) : h_mi h1 145 j = h_mi h 145 j := by
  obtain ⟨g, N, rfl, _, a2⟩ := p
  exact a2 j h4 h5 h6 h8 h9 h39
section
variable {h : HP} {f : Nat → Int} {n l p : Nat}
def RL (h : HP) (f : Nat → Int) (n p : Nat) : Prop := RSk h ∧ RTk h f n p
/-- the reference ended with a fault -/
def RF (h h1 : HP) (q : Int) : Prop := RQ h h1 ∧ h_mi h1 145 9 = q
theorem s_152 (r : RL h f n p) (x : TX f n l) (p1 : p ≤ n) (d : Nat) : ∃ h1, ev (d + 1) 152 [vr 145] h = some (vr 0, h1) ∧ RQ h h1 ∧ RL h1 f n (tkE f n p) ∧ h_mi h1 145 39 = h_mi h 145 39 := by
  obtain ⟨N, g, e, a1, a2, rt⟩ := m_152 r.1 d r.2.1 r.2.2.1 r.2.2.2.2.2.2.2 x.2.1 (tk_n p1).2.1
  have gq : RQ h (sM (sL h 145 7 g) N) := ⟨g, N, rfl, a1, fun j h1 h2 h3 h4 _ _ => a2 j h1 h2 h3 h4⟩
  exact ⟨_, e, gq, ⟨gq.rs r.1, rt⟩, a2 39 (by omega) (by omega) (by omega) (by omega)⟩
theorem s_155 (r : RL h f n p) (x : TX f n l) (p1 : p ≤ n) (d : Nat) {k : Int} (k0 : 0 ≤ k) (k1 : k ≤ 10) : ∃ h1, ev d 155 [vr 145, vi k] h = some (vi 0, h1) ∧ RF h h1 (k + 16 * ((tB f n p : Nat) : Int)) := ⟨_, r_155 r.1 r.2 x.2.1 p1 d k0 k1, (RQ.rf h).si _ (Or.inl rfl), by rw [miI_eq, up_eq]⟩
theorem s_167y (r : RL h f n p) (x : TX f n l) (p1 : p ≤ n) (d : Nat) {v : Int} (y : tkK f n p = 1 ∧ tkW f n p = v) : ∃ h1, ev (d + 2) 167 [vr 145, vl v] h = some (vi 1, h1) ∧ RQ h h1 ∧ RL h1 f n (tkE f n p) := by
  obtain ⟨h1, e1, g1, r1, _⟩ := s_152 r x p1 d
  refine ⟨h1, ?_, g1, r1⟩
  rw [v_167, q_167_0 (w := r.1), r_153 r.1 r.2, bI_s, q_167_5 (w := r.1), bb_nt y, e1]
  exact q_167_18 ..
theorem s_167n (r : RL h f n p) (x : TX f n l) (p1 : p ≤ n) (d : Nat) {v : Int} (y : ¬ (tkK f n p = 1 ∧ tkW f n p = v)) : ∃ h1, ev (d + 2) 167 [vr 145, vl v] h = some (vi 0, h1) ∧ RF h h1 (1 + 16 * ((tB f n p : Nat) : Int)) := by
  obtain ⟨h1, e1, g1⟩ := s_155 r x p1 (d + 1) (k := 1) (by omega) (by omega)
  refine ⟨h1, ?_, g1⟩
  rw [v_167, q_167_0 (w := r.1), r_153 r.1 r.2, bI_s, q_167_5 (w := r.1), bb_nf y, e1]
  simp only [zb, bI_s]
  rw [q_167_13]; rfl
theorem s_168y (r : RL h f n p) (x : TX f n l) (p1 : p ≤ n) (d : Nat) (y : tkK f n p = 3 ∧ f (tB f n p) = 59) : ∃ h1, ev (d + 2) 168 [vr 145] h = some (vi 1, h1) ∧ RQ h h1 ∧ RL h1 f n (tkE f n p) := by
  obtain ⟨h1, e1, g1, r1, _⟩ := s_152 r x p1 d
  refine ⟨h1, ?_, g1, r1⟩
  rw [v_168, q_168_0 (w := r.1), r_154 r.1 r.2 x.2.1 p1, bI_s, q_168_6 (w := r.1), bb_nt y, e1]
  exact q_168_19 ..
theorem s_168n (r : RL h f n p) (x : TX f n l) (p1 : p ≤ n) (d : Nat) (y : ¬ (tkK f n p = 3 ∧ f (tB f n p) = 59)) : ∃ h1, ev (d + 2) 168 [vr 145] h = some (vi 0, h1) ∧ RF h h1 (1 + 16 * ((tB f n p : Nat) : Int)) := by
  obtain ⟨h1, e1, g1⟩ := s_155 r x p1 (d + 1) (k := 1) (by omega) (by omega)
  refine ⟨h1, ?_, g1⟩
  rw [v_168, q_168_0 (w := r.1), r_154 r.1 r.2 x.2.1 p1, bI_s, q_168_6 (w := r.1), bb_nf y, e1]
  simp only [zb, bI_s]
  rw [q_168_14]; rfl
theorem RL.i39 (r : RL h f n p) (v : Int) : RL (sI h 145 39 v) f n p := ⟨r.1, r.2.si (by omega) (by omega)⟩
theorem s_166y (r : RL h f n p) (x : TX f n l) (p1 : p ≤ n) (d : Nat) {lo hi : Int} (y : nuP f n p lo hi) : ∃ h1, ev (d + 2) 166 [vr 145, vi lo, vi hi] h = some (vi 1, h1) ∧ RQ h h1 ∧ RL h1 f n (tkE f n p) ∧ h_mi h1 145 39 = tkN f n p := by
  obtain ⟨h1, e1, g1, r1, m1⟩ := s_152 (r.i39 (tkN f n p)) x p1 d
  refine ⟨h1, ?_, ((RQ.rf h).si _ (Or.inr rfl)).tr g1, r1, m1.trans (by rw [miI_eq, up_eq])⟩
  rw [v_166, q_166_0 (w := r.1), r.2.2.2.2.1, dt y.1, r.2.2.2.2.2.2.1 y.1, m_148, bI_s]
  simp only [zb]
  rw [q_166_23 (w := r.1), bb_nt ⟨y.2.1, y.2.2⟩, r.2.2.2.2.2.2.1 y.1, e1]
  exact q_166_44 ..
theorem s_166n (r : RL h f n p) (x : TX f n l) (p1 : p ≤ n) (d : Nat) {lo hi : Int} (y : ¬ nuP f n p lo hi) : ∃ h1, ev (d + 2) 166 [vr 145, vi lo, vi hi] h = some (vi 0, h1) ∧ RF h h1 ((if tkK f n p = 2 then 4 else 1) + 16 * ((tB f n p : Nat) : Int)) := by
  by_cases k2 : tkK f n p = 2
  · obtain ⟨h1, e1, g1⟩ := s_155 r x p1 (d + 1) (k := 4) (by omega) (by omega)
    rw [if_pos k2]
    refine ⟨h1, ?_, g1⟩
    rw [v_166, q_166_0 (w := r.1), r.2.2.2.2.1, dt k2, r.2.2.2.2.2.2.1 k2, m_148, bI_s]
    simp only [zb]
    rw [q_166_23 (w := r.1), bb_nf (fun u => y ⟨k2, u⟩), e1]
    simp only [zb, bI_s]
    rw [q_166_31]; rfl
  · obtain ⟨h1, e1, g1⟩ := s_155 r x p1 (d + 1) (k := 1) (by omega) (by omega)
    rw [if_neg k2]
    refine ⟨h1, ?_, g1⟩
    rw [v_166, q_166_0 (w := r.1), r.2.2.2.2.1, df k2, e1]
    simp only [zb, bI_s]
    rw [q_166_13]; rfl
theorem s_164 (r : RL h f n p) (d : Nat) : (nmP f n p → ev d 164 [vr 145] h = some (vi 0, h)) ∧ (¬ nmP f n p → ev d 164 [vr 145] h = some (vi 1, h)) := by
  rw [v_164, q_164_0 (w := r.1), r.2.2.2.2.1]
  by_cases k1 : tkK f n p = 1
  · rw [dt k1, r.2.2.2.2.2.1 k1]
    have e := fun B : RS => fold_m (tkW f n p) (some (vi 1, h)) rs28 B
    by_cases y : tkW f n p ∈ rs28
    · have ee := (e (bif decide (l_cmp (tkW f n p) 423 ≠ 0) then some (vi 0, h) else some (vi 1, h))).trans (if_pos y)
      simp only [rs28, List.foldr] at ee
      simp only [zb]
      rw [ee]
      have no : ¬ nmP f n p := fun q => q.2 (List.mem_append.mpr (Or.inl y))
      exact ⟨fun q => absurd q no, fun _ => rfl⟩
    · have ee := (e (bif decide (l_cmp (tkW f n p) 423 ≠ 0) then some (vi 0, h) else some (vi 1, h))).trans (if_neg y)
      simp only [rs28, List.foldr] at ee
      simp only [zb]
      rw [ee]
      by_cases z : tkW f n p = 423
      · have no : ¬ nmP f n p := fun q => q.2 (List.mem_append.mpr (Or.inr (by rw [z]; decide)))
        refine ⟨fun q => absurd q no, fun _ => ?_⟩
        rw [df (fun q => q ((lcmp_e _ _).mpr z))]; rfl
      · rw [dt (show l_cmp (tkW f n p) 423 ≠ 0 from fun q => z ((lcmp_e _ _).mp q))]
        have ys : nmP f n p := ⟨k1, fun q => by rcases List.mem_append.mp q with u | u; exact y u; exact z (List.mem_singleton.mp u)⟩
        exact ⟨fun _ => rfl, fun q => absurd ys q⟩
  · rw [df k1]
    exact ⟨fun q => absurd q.1 k1, fun _ => rfl⟩
end
