/-! lines are read: a place on the water, the reference; words of a group -/
section
variable {h : HP} {f : Nat → Int} {n l p : Nat}
theorem s_175 (r : RL h f n p) (d : Nat) : ev (d + 1) 175 [vr 145] h = some (vi (gw f n p 3), h) := by
  rw [v_175, q_175_0 (w := r.1), r_153 r.1 r.2, bI_s, q_175_7 (w := r.1), r_153 r.1 r.2, bI_s, q_175_21 (w := r.1), r_153 r.1 r.2, bI_s, q_175_35 (w := r.1), r_153 r.1 r.2, bI_s, q_175_49]
  unfold gw gpV
  by_cases k1 : tkK f n p = 1
  · rw [if_pos k1, if_neg (by omega), if_pos rfl]
    by_cases a : tkW f n p = 8740238
    · rw [bb_dt ⟨k1, a⟩, if_pos a]; rfl
    · rw [bb_df (fun q => a q.2), if_neg a]
      by_cases b : tkW f n p = 6688728
      · rw [bb_dt ⟨k1, b⟩, if_pos b]; rfl
      · rw [bb_df (fun q => b q.2), if_neg b]
        by_cases c : tkW f n p = 1758676
        · rw [bb_dt ⟨k1, c⟩, if_pos c]; rfl
        · rw [bb_df (fun q => c q.2), if_neg c]
          by_cases e : tkW f n p = 10360367
          · rw [bb_dt ⟨k1, e⟩, if_pos e]; rfl
          · rw [bb_df (fun q => e q.2), if_neg e]; rfl
  · rw [if_neg k1]
    have no : ∀ x : Int, decide (bb (tkK f n p = 1 ∧ tkW f n p = x) = 0) = true := fun x => bb_df (fun q => k1 q.1)
    rw [no, no, no, no]; rfl
theorem s_176 (r : RL h f n p) (d : Nat) : ev (d + 1) 176 [vr 145] h = some (vi (gw f n p 4), h) := by
  rw [v_176, q_176_0 (w := r.1), r_153 r.1 r.2, bI_s, q_176_7 (w := r.1), r_153 r.1 r.2, bI_s, q_176_21 (w := r.1), r_153 r.1 r.2, bI_s, q_176_35 (w := r.1), r_153 r.1 r.2, bI_s, q_176_49 (w := r.1), r_153 r.1 r.2, bI_s, q_176_63]
  unfold gw gpV
  by_cases k1 : tkK f n p = 1
  · rw [if_pos k1, if_neg (by omega), if_neg (by omega)]
    by_cases a : tkW f n p = 129458
    · rw [bb_dt ⟨k1, a⟩, if_pos a]; rfl
    · rw [bb_df (fun q => a q.2), if_neg a]
      by_cases b : tkW f n p = 4560413
      · rw [bb_dt ⟨k1, b⟩, if_pos b]; rfl
      · rw [bb_df (fun q => b q.2), if_neg b]
        by_cases c : tkW f n p = 279108050
        · rw [bb_dt ⟨k1, c⟩, if_pos c]; rfl
        · rw [bb_df (fun q => c q.2), if_neg c]
          by_cases e : tkW f n p = 117481784
          · rw [bb_dt ⟨k1, e⟩, if_pos e]; rfl
          · rw [bb_df (fun q => e q.2), if_neg e]
            by_cases g : tkW f n p = 2155739
            · rw [bb_dt ⟨k1, g⟩, if_pos g]; rfl
            · rw [bb_df (fun q => g q.2), if_neg g]; rfl
  · rw [if_neg k1]
    have no : ∀ x : Int, decide (bb (tkK f n p = 1 ∧ tkW f n p = x) = 0) = true := fun x => bb_df (fun q => k1 q.1)
    rw [no, no, no, no, no]; rfl
def GdR (h : HP) (W H : Int) : Prop := (h_mi h 147 5 = W ∧ h_mi h 147 6 = H) ∧ 1 ≤ W ∧ W ≤ 10 ∧ 1 ≤ H ∧ H ≤ 6
theorem RF.tr {h1 h2 : HP} {q : Int} (a : RQ h h1) (b : RF h1 h2 q) : RF h h2 q := ⟨a.tr b.1, b.2⟩
theorem s_171a {W H : Int} (r : RL h f n p) (x : TX f n l) (p1 : p ≤ n) (d : Nat) (x1 : Int) (g : GdR h W H) (y : ¬ nuP f n p 0 (W - 1)) : ∃ h1, ev (d + 3) 171 [vr 145, vi x1] h = some (vi 0, h1) ∧ RF h h1 (kdN f n p + 16 * ((tB f n p : Nat) : Int)) := by
  obtain ⟨⟨g1, g2⟩, u1, u2, u3, u4⟩ := g
  obtain ⟨h1, e1, f1⟩ := s_166n r x p1 d y
  rw [kdN_e] at f1
  refine ⟨h1, ?_, f1⟩
  rw [v_171, q_171_0 (w := r.1), g1, is_ (by omega) (by omega), e1, bI_s, q_171_13 (w := f1.1.rs r.1)]
  rfl
theorem s_171c {W H : Int} (r : RL h f n p) (x : TX f n l) (p1 : p ≤ n) (d : Nat) (x1 : Int) (g : GdR h W H) (y : nuP f n p 0 (W - 1)) : (¬ nuP f n (tkE f n p) 0 (H - 1) → ∃ h1, ev (d + 3) 171 [vr 145, vi x1] h = some (vi 0, h1) ∧ RF h h1 (kdN f n (tkE f n p) + 16 * ((tB f n (tkE f n p) : Nat) : Int))) ∧ (nuP f n (tkE f n p) 0 (H - 1) → (0 < h_mi h (if x1 = 0 then 148 else 149) (60 + (10 * tkN f n (tkE f n p) + tkN f n p)).toNat → ∃ h1, ev (d + 3) 171 [vr 145, vi x1] h = some (vi 0, h1) ∧ RF h h1 (3 + 16 * ((tB f n (tkE f n p) : Nat) : Int))) ∧ (¬ 0 < h_mi h (if x1 = 0 then 148 else 149) (60 + (10 * tkN f n (tkE f n p) + tkN f n p)).toNat → ∃ h1, ev (d + 3) 171 [vr 145, vi x1] h = some (vi 1, h1) ∧ RQ h h1 ∧ RL h1 f n (tkE f n (tkE f n p)) ∧ h_mi h1 145 39 = 60 + (10 * tkN f n (tkE f n p) + tkN f n p))) := by
  obtain ⟨⟨g1, g2⟩, u1, u2, u3, u4⟩ := g
  have p2 := (tk_n (f := f) p1).2.1
  obtain ⟨h1, e1, q1, r1, m1⟩ := s_166y r x p1 d y
  have m6 : h_mi h1 147 6 = H := by rw [q1.sh.2.2.2.2.2.2 147 (by omega)]; exact g2
  have st : ev (d + 3) 171 [vr 145, vi x1] h = run (d + 2 + 1) md_171 13 [vr 145, vi x1, vu, vu] [vi 1] h1 := by
    rw [v_171, q_171_0 (w := r.1), g1, is_ (by omega) (by omega), e1, bI_s]
  obtain ⟨y1, y2, y3⟩ := y
  refine ⟨fun z => ?_, fun z => ?_⟩
  · obtain ⟨h2, e2, f2⟩ := s_166n r1 x p2 d z
    rw [kdN_e] at f2
    refine ⟨h2, ?_, RF.tr q1 f2⟩
    have fin : ∀ v3, run (d + 2 + 1) md_171 106 [vr 145, vi x1, vi (tkN f n p), v3] [vi 0] h2 = some (vi 0, h2) := fun v3 => by
      rw [q_171_106 (w := f2.1.rs r1.1)]; rfl
    rw [st, q_171_13 (w := r1.1), r1.2.2.2.2.1, m6, is_ (by omega) (by omega), m1, e2, m_148]
    by_cases k2 : tkK f n (tkE f n p) = 2
    · rw [df (show ¬ tkK f n (tkE f n p) ≠ 2 from fun q => q k2), r1.2.2.2.2.2.2.1 k2]
      simp only [bI_s]
      rw [q_171_48 (w := r1.1), m6, is_ (by omega) (by omega), e2, bb_df (fun q => z ⟨k2, q⟩)]
      show run (d + 2 + 1) md_171 106 [vr 145, vi x1, vi (tkN f n p), vu] [vi 0] h2 = _
      exact fin _
    · rw [dt (show tkK f n (tkE f n p) ≠ 2 from k2)]
      show run (d + 2 + 1) md_171 106 [vr 145, vi x1, vi (tkN f n p), vu] [vi 0] h2 = _
      exact fin _
  · have z' := z
    obtain ⟨z1, z2, z3⟩ := z'
    have ix : i_add (i_add 60 (i_mul 10 (tkN f n (tkE f n p)))) (tkN f n p) = 60 + (10 * tkN f n (tkE f n p) + tkN f n p) := by
      rw [im (by omega) (by omega), ia (x := 60) (by omega) (by omega), ia (by omega) (by omega)]; omega
    have s48 : ev (d + 3) 171 [vr 145, vi x1] h = run (d + 2 + 1) md_171 48 [vr 145, vi x1, vi (tkN f n p), vu] [vi 1] h1 := by
      rw [st, q_171_13 (w := r1.1), r1.2.2.2.2.1, m1, df (show ¬ tkK f n (tkE f n p) ≠ 2 from fun q => q z1), r1.2.2.2.2.2.2.1 z1, m6, is_ (by omega) (by omega), m_148, bb_t ⟨z2, z3⟩]
      rfl
    have k8 : h_mi h1 148 = h_mi h 148 ∧ h_mi h1 149 = h_mi h 149 := ⟨q1.sh.2.2.2.2.2.2 148 (by omega), q1.sh.2.2.2.2.2.2 149 (by omega)⟩
    rw [s48, q_171_48 (w := r1.1), r1.2.2.2.2.2.2.1 z1, ix, m6, is_ (by omega) (by omega), k8.1, k8.2, dt (show 0 ≤ 60 + (10 * tkN f n (tkE f n p) + tkN f n p) by omega), dt (show 60 + (10 * tkN f n (tkE f n p) + tkN f n p) < 360 by omega)]
    obtain ⟨h2, e2, q2, r2, m2⟩ := s_166y r1 x p2 d z
    obtain ⟨h3, e3, f3⟩ := s_155 r1 x p2 (d + 2) (k := 3) (by omega) (by omega)
    rw [e2, e3]
    have ok : ∀ v3, run (d + 2 + 1) md_171 106 [vr 145, vi x1, vi (tkN f n p), v3] [vi 1] h2 = some (vi 1, sI h2 145 39 (60 + (10 * tkN f n (tkE f n p) + tkN f n p))) := fun v3 => by
      rw [q_171_106 (w := r2.1), m2, ix]; rfl
    have bad : ∀ v3, run (d + 2 + 1) md_171 91 [vr 145, vi x1, vi (tkN f n p), vi v3] [vi 0] h3 = some (vi 0, h3) := fun v3 => by
      rw [q_171_91]; rfl
    simp only [bI_s]
    rw [ok, ok, bad]
    by_cases x0 : x1 = 0
    · rw [dt x0, if_pos x0]
      refine ⟨fun v => ?_, fun v => ?_⟩
      · rw [df (show ¬ h_mi h 148 (60 + (10 * tkN f n (tkE f n p) + tkN f n p)).toNat ≤ 0 by omega)]; exact ⟨h3, rfl, RF.tr q1 f3⟩
      · rw [dt (show h_mi h 148 (60 + (10 * tkN f n (tkE f n p) + tkN f n p)).toNat ≤ 0 by omega)]; exact ⟨_, rfl, (q1.tr q2).si _ (Or.inr rfl), r2.i39 _, by rw [miI_eq, up_eq]⟩
    · rw [df x0, if_neg x0]
      refine ⟨fun v => ?_, fun v => ?_⟩
      · rw [df (show ¬ h_mi h 149 (60 + (10 * tkN f n (tkE f n p) + tkN f n p)).toNat ≤ 0 by omega)]; exact ⟨h3, rfl, RF.tr q1 f3⟩
      · rw [dt (show h_mi h 149 (60 + (10 * tkN f n (tkE f n p) + tkN f n p)).toNat ≤ 0 by omega)]; exact ⟨_, rfl, (q1.tr q2).si _ (Or.inr rfl), r2.i39 _, by rw [miI_eq, up_eq]⟩
end
