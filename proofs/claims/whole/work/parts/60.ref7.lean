/-! the reference: half, rests, guess -/
def ap (a b : Int) : Int := if a < b then b - a else a - b
theorem ap_b {a b n : Int} (a0 : 0 ≤ a) (a1 : a < n) (b0 : 0 ≤ b) (b1 : b < n) : 0 ≤ ap a b ∧ ap a b < n := by unfold ap; split <;> omega
theorem ap_c (a b : Int) : ap a b = ap b a := by unfold ap; split <;> split <;> omega
theorem m_227 (d : Nat) (a b : Int) (h : HP) (a0 : -1000 ≤ a) (a1 : a ≤ 1000) (b0 : -1000 ≤ b) (b1 : b ≤ 1000) : ev d 227 [vi a, vi b] h = some (vi (ap a b), h) := by
  rw [v_227, q_227_0]
  unfold ap
  simp (disch := omega) only [mi_sM, sI_sM, sRi_sM, isK_sM, inb_sM, ln_sM, mr_sM, ml_sM, dt, df, ia, is_, zb, bI_s, bV_s, bR_s]
  by_cases c : b ≤ a
  · rw [dt c, if_neg (by omega)]; rfl
  · rw [df c, if_pos (by omega)]; rfl
/-- pails of a half, by columns -/
def hfS (I G : Int → Int) (n side : Int) : Int := if side = 0 then itr (fun k a => a + ptV (I k) (G k) 1) ((n + 1) / 2).toNat 0 0 else itr (fun k a => a + ptV (I k) (G k) 1) (n - (n + 1) / 2).toNat ((n + 1) / 2) 0
theorem l_225 {h : HP} (w : RSk h) {I G : Int → Int} (kd : LkD h I G) {side mid lim : Int} (hl : (side ≠ 0 ∧ lim = h_mi h 147 0) ∨ (side = 0 ∧ lim = mid)) (l10 : lim ≤ 10) (ln : lim ≤ h_mi h 147 0) (d : Nat) (row : Int) : ∀ (k : Nat) (i a : Int), (lim - i).toNat = k → 0 ≤ i → i ≤ lim → 0 ≤ a → a ≤ i * 100000 → run (d + 1) md_225 30 [vr 145, vi side, vi row, vi mid, vi a, vi i] [] h = some (vi (min 99 (itr (fun k a => a + ptV (I k) (G k) 1) k i a)), h)
  | 0, i, a, h1, h2, h3, a0, a1 => by
    rw [q_225_30 d side row mid a i h w]
    rcases hl with ⟨s, e⟩ | ⟨s, e⟩
    · rw [dt s, dt (by omega)]; rfl
    · rw [df (by omega), dt (p := mid ≤ i) (by omega)]; rfl
  | k + 1, i, a, h1, h2, h3, a0, a1 => by
    rw [q_225_30 d side row mid a i h w]
    have b := kd i h2 (by omega)
    have pb := ptV_b (x := I i) (g := G i) (th := 1) (by omega) (by omega) (by omega)
    have e1 : ev d 218 [vr 145, vi i, vi 1] h = some (vi (ptV (I i) (G i) 1), h) := by
      rw [m_218 d i 1 h w h2 (by omega) (by omega) (by omega) (by rw [b.1.1]; omega) (by rw [b.1.1]; omega) (by rw [b.1.2]; omega) (by rw [b.1.2]; omega), b.1.1, b.1.2]
    have key := l_225 w kd hl l10 ln d row k (i + 1) (a + ptV (I i) (G i) 1) (by omega) (by omega) (by omega) (by omega) (by omega)
    rw [e1]
    simp only [bI_s]
    rw [q_225_58, ia (by omega) (by omega), ia (by omega) (by omega), key]
    rcases hl with ⟨s, e⟩ | ⟨s, e⟩
    · rw [dt s, df (by omega)]; rfl
    · rw [df (p := side ≠ 0) (by omega), df (p := mid ≤ i) (by omega)]; rfl
def hfV (M : MM) (E : EE) (side row : Int) : Int := min 99 (hfS (nwI M row) (nwG M E row) (M 147 0) side)
theorem itr_nn {P : Int → Int} : ∀ (k : Nat) (i a : Int), 0 ≤ a → (∀ j, i ≤ j → j < i + k → 0 ≤ P j) → 0 ≤ itr (fun k a => a + P k) k i a
  | 0, _, a, h, _ => h
  | k + 1, i, a, h, hp => itr_nn k (i + 1) (a + P i) (by have := hp i (by omega) (by omega); omega) (fun j j0 j1 => hp j (by omega) (by omega))
theorem hfV_b {M : MM} {E : EE} (v : VM M E) {side row : Int} (r0 : 0 ≤ row) (r1 : row < 6) : 0 ≤ hfV M E side row ∧ hfV M E side row ≤ 99 := by
  have hc := v.c
  have key : ∀ j, 0 ≤ j → j < 10 → 0 ≤ ptV (nwI M row j) (nwG M E row j) 1 := fun j j0 j1 => (ptV_b (seeG_b v r0 r1 j0 j1).1 (gmV_b _ _ _ _ _ _ _).1 (by omega)).1
  unfold hfV hfS
  refine ⟨?_, by omega⟩
  split
  · have := itr_nn (P := fun k => ptV (nwI M row k) (nwG M E row k) 1) ((M 147 0 + 1) / 2).toNat 0 0 (by omega) (fun j j0 j1 => key j j0 (by omega))
    omega
  · have := itr_nn (P := fun k => ptV (nwI M row k) (nwG M E row k) 1) (M 147 0 - (M 147 0 + 1) / 2).toNat ((M 147 0 + 1) / 2) 0 (by omega) (fun j j0 j1 => key j (by omega) (by omega))
    omega
theorem hfV_q {M N : MM} (q : QA M N) (E : EE) (side row : Int) : hfV N E side row = hfV M E side row := by unfold hfV; rw [nwI_q q, nwG_q q, q.e (nR (by omega) (by omega))]
theorem m_225 {E : EE} (d : Nat) (side row : Int) (h : HP) (w : RSk h) (v : VM (h_mi h) E) (r0 : 0 ≤ row) (r1 : row < 6) : ∃ N, ev (d + 8) 225 [vr 145, vi side, vi row] h = some (vi (hfV (h_mi h) E side row), sM h N) ∧ QA (h_mi h) N := by
  obtain ⟨N, e1, g1, k1⟩ := looks (E := E) d row h w v r0 r1
  have hc := v.c
  have e147 : N 147 = h_mi h 147 := g1 147 (by unfold LkA; omega)
  refine ⟨N, ?_, QA.of g1 LkA_q⟩
  rw [v_225, q_225_0 (d + 7) side row h w, e1, bV_s, q_225_5 (d + 7) side row _ (w.m N), mi_sM, e147, ia (by omega) (by omega), id_ (by omega) (by omega) (by omega) (by omega)]
  unfold hfV hfS
  by_cases s : side = 0
  · have := l_225 (h := sM h N) w k1 (side := side) (mid := (h_mi h 147 0 + 1) / 2) (lim := (h_mi h 147 0 + 1) / 2) (Or.inr ⟨s, rfl⟩) (by omega) (by rw [mi_sM, e147]; omega) (d + 7) row _ 0 0 rfl (by omega) (by omega) (by omega) (by omega)
    rw [Int.sub_zero] at this
    rw [df (by omega), if_pos s]
    exact this
  · have := l_225 (h := sM h N) w k1 (side := side) (mid := (h_mi h 147 0 + 1) / 2) (lim := h_mi h 147 0) (Or.inl ⟨s, by rw [mi_sM, e147]⟩) (by omega) (by rw [mi_sM, e147]; omega) (d + 7) row _ ((h_mi h 147 0 + 1) / 2) 0 rfl (by omega) (by omega) (by omega) (by omega)
    rw [dt s, if_neg s]
    exact this
def halfV (M : MM) (E : EE) (side row : Int) : Int := if (0 ≤ side ∧ side ≤ 1) ∧ 0 ≤ row ∧ row < M 147 1 then hfV M E side row else -1
theorem r_half {E : EE} (d : Nat) (side row : Int) (h : HP) (w : RSk h) (v : VM (h_mi h) E) : ∃ N, ev (d + 9) 226 [vr 145, vi side, vi row] h = some (vi (halfV (h_mi h) E side row), sM h N) ∧ QA (h_mi h) N := by
  have q0 : QA (h_mi h) (up2 (h_mi h) 145 0 0) := QA.f 0 0 (by omega) (by omega)
  have e147 : (up2 (h_mi h) 145 0 0) 147 = h_mi h 147 := u2_ne _ _ _ (by omega)
  have hr := v.r
  rw [v_226, q_226_0 (d + 8) side row h w, sI_h, m_148, bI_s, q_226_11 (d + 8) side row _ _ (w.m _)]
  unfold halfV
  by_cases c1 : 0 ≤ side ∧ side ≤ 1
  · rw [bb_dt c1, m_185 _ _ _ (w.m _), mi_sM, e147]
    simp only [zb, bI_s]
    rw [q_226_19 (d + 8) side row _ _ (w.m _)]
    by_cases c2 : 0 ≤ row ∧ row < h_mi h 147 1
    · obtain ⟨N, e1, q1⟩ := m_225 (E := E) d side row (sM h (up2 (h_mi h) 145 0 0)) w (q0.vm v) c2.1 (by omega)
      rw [mi_sM, hfV_q q0, sM_sM] at e1
      rw [mi_sM] at q1
      refine ⟨N, ?_, q0.tr q1⟩
      rw [bb_dt c2, e1, if_pos ⟨c1, c2⟩]
      simp only [zb, bI_s]
      rw [q_226_28]
    · refine ⟨_, ?_, q0⟩
      rw [bb_df c2, if_neg (by omega)]; rfl
  · refine ⟨_, ?_, q0⟩
    rw [bb_df c1, if_neg (by omega)]; rfl
/-- what a side pays -/
def payV (M : MM) (E : EE) (side mis row other : Int) : Int := hfV M E side row + mis * ap row other
theorem payV_q {M N : MM} (q : QA M N) (E : EE) (side mis row other : Int) : payV N E side mis row other = payV M E side mis row other := by unfold payV; rw [hfV_q q]
/-- nobody would rather choose another row -/
def irF (a b : Int → Int) (w e : Int) (r : Int) (_ : Unit) : Int ⊕ Unit := if a r < w ∨ b r < e then .inl 0 else .inr ()
def ends (x : Int ⊕ Unit) : Int := match x with
  | .inl y => y
  | .inr _ => 1
def irV (M : MM) (E : EE) (mis w e : Int) : Int := ends (itx (irF (fun r => payV M E 0 mis r e) (fun r => payV M E 1 mis r w) (payV M E 0 mis w e) (payV M E 1 mis e w)) (M 147 1).toNat 0 ())
theorem l_228 {h : HP} {M : MM} {E : EE} (w : RSk h) (v : VM M E) {we ea mis : Int} (m0 : 0 ≤ mis) (m1 : mis ≤ 99) (w0 : 0 ≤ we) (w1 : we < 6) (e0 : 0 ≤ ea) (e1 : ea < 6) (x y : Int) (d : Nat) : ∀ (k : Nat) (i : Int) (N : MM), (M 147 1 - i).toNat = k → 0 ≤ i → i ≤ M 147 1 → QA M N → ∃ N', run (d + 9) md_228 35 [vr 145, vi we, vi ea, vi mis, vi x, vi y, vi i] [] (sM h N) = some (vi (ends (itx (irF (fun r => payV M E 0 mis r ea) (fun r => payV M E 1 mis r we) x y) k i ())), sM h N') ∧ QA M N'
  | 0, i, N, h1, h2, h3, q => by
    refine ⟨N, ?_, q⟩
    rw [q_228_35 (d + 8) we ea mis x y i _ (w.m N), mi_sM, q.e (a := 147) (nR (by omega) (by omega)), dt (by omega)]
    rfl
  | k + 1, i, N, h1, h2, h3, q => by
    have hr := v.r
    have a1 := ap_b (n := 6) h2 (by omega) e0 e1
    have a2 := ap_b (n := 6) w0 w1 h2 (by omega)
    have m2 := mulb m0 m1 a1.1 (show ap i ea ≤ 6 by omega)
    have m3 := mulb m0 m1 a2.1 (show ap we i ≤ 6 by omega)
    have b1 := hfV_b v (side := 0) h2 (show i < 6 by omega)
    have b2 := hfV_b v (side := 1) h2 (show i < 6 by omega)
    obtain ⟨N1, f1, q1⟩ := m_225 (E := E) d 0 i (sM h N) w (q.vm v) h2 (by omega)
    rw [mi_sM, hfV_q q, sM_sM] at f1
    rw [mi_sM] at q1
    obtain ⟨N2, f2, q2⟩ := m_225 (E := E) d 1 i (sM h N1) w ((q.tr q1).vm v) h2 (by omega)
    rw [mi_sM, hfV_q (q.tr q1), sM_sM] at f2
    rw [mi_sM] at q2
    have q3 := (q.tr q1).tr q2
    rw [q_228_35 (d + 8) we ea mis x y i _ (w.m N), mi_sM, q.e (a := 147) (nR (by omega) (by omega)), df (by omega), f1]
    simp only [zb, bI_s]
    rw [q_228_53, m_227 _ _ _ _ (by omega) (by omega) (by omega) (by omega), bI_s, q_228_60 (d + 8) we ea mis x y i _ _ _ _ (w.m N1), im (by omega) (by omega), ia (by omega) (by omega), f2]
    by_cases c1 : payV M E 0 mis i ea < x
    · refine ⟨N1, ?_, q.tr q1⟩
      have c1' : hfV M E 0 i + mis * ap i ea < x := c1
      rw [dt c1', itx_l (b := 0) (if_pos (Or.inl c1))]
      rfl
    · have c1' : ¬ hfV M E 0 i + mis * ap i ea < x := c1
      rw [df c1']
      simp only [zb, bI_s]
      rw [q_228_74, m_227 _ _ _ _ (by omega) (by omega) (by omega) (by omega), bI_s, q_228_81, im (by omega) (by omega), ia (by omega) (by omega), ia (by omega) (by omega)]
      have pe : payV M E 1 mis i we = hfV M E 1 i + mis * ap we i := by unfold payV; rw [ap_c]
      by_cases c2 : payV M E 1 mis i we < y
      · refine ⟨N2, ?_, q3⟩
        rw [itx_l (b := 0) (if_pos (Or.inr c2)), df (by omega)]
        rfl
      · obtain ⟨N3, f3, q4⟩ := l_228 w v m0 m1 w0 w1 e0 e1 x y d k (i + 1) N2 (by omega) (by omega) (by omega) q3
        refine ⟨N3, ?_, q4⟩
        rw [itx_r (a2 := ()) (if_neg (fun z => z.elim c1 c2)), dt (by omega)]
        exact f3
theorem m_228 {E : EE} (d : Nat) (we ea mis : Int) (h : HP) (w : RSk h) (v : VM (h_mi h) E) (m0 : 0 ≤ mis) (m1 : mis ≤ 99) (w0 : 0 ≤ we) (w1 : we < 6) (e0 : 0 ≤ ea) (e1 : ea < 6) : ∃ N, ev (d + 9) 228 [vr 145, vi we, vi ea, vi mis] h = some (vi (irV (h_mi h) E mis we ea), sM h N) ∧ QA (h_mi h) N := by
  have hr := v.r
  have a1 := ap_b (n := 6) w0 w1 e0 e1
  have m2 := mulb m0 m1 a1.1 (show ap we ea ≤ 6 by omega)
  have b1 := hfV_b v (side := 0) w0 w1
  have b2 := hfV_b v (side := 1) e0 e1
  obtain ⟨N1, f1, q1⟩ := m_225 (E := E) d 0 we h w v w0 w1
  obtain ⟨N2, f2, q2⟩ := m_225 (E := E) d 1 ea (sM h N1) w (q1.vm v) e0 e1
  rw [mi_sM, hfV_q q1, sM_sM] at f2
  rw [mi_sM] at q2
  obtain ⟨N3, f3, q3⟩ := l_228 (h := h) w v m0 m1 w0 w1 e0 e1 (payV (h_mi h) E 0 mis we ea) (payV (h_mi h) E 1 mis ea we) d _ 0 N2 rfl (by omega) (by omega) (q1.tr q2)
  rw [Int.sub_zero] at f3
  refine ⟨N3, ?_, q3⟩
  rw [v_228, q_228_0 (d + 8) we ea mis h w, f1, bI_s, q_228_6, m_227 _ _ _ _ (by omega) (by omega) (by omega) (by omega), bI_s, q_228_12 (d + 8) we ea mis _ _ _ _ (w.m N1), f2, bI_s, q_228_22, m_227 _ _ _ _ (by omega) (by omega) (by omega) (by omega), bI_s, q_228_28, im (by omega) (by omega), ia (by omega) (by omega), ia (by omega) (by omega)]
  have pe : payV (h_mi h) E 1 mis ea we = hfV (h_mi h) E 1 ea + mis * ap we ea := by unfold payV; rw [ap_c]
  rw [← pe]
  exact f3
