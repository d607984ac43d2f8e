/-! the reference: marks -/
def LyD (M : MM) (r q : Nat) (N : MM) : Prop := (∀ a, a < 147 ∨ a = 150 ∨ 159 < a → N a = M a) ∧ N 147 = mvR (M 147) 5 r q ∧ N 148 = mvR (M 148) 60 r q ∧ N 149 = mvR (M 149) 60 r q ∧ N 151 = mvR (M 151) 6 r q ∧ N 152 = mvR (M 152) 6 r q ∧ N 153 = mvR (M 153) 6 r q ∧ N 154 = mvR (M 154) 7 r q ∧ N 155 = mvR (M 155) 7 r q ∧ N 156 = mvR (M 156) 7 r q ∧ N 159 = mvR (M 159) 1000 r q ∧
  (∀ j, N 157 j = if 4 * q ≤ j ∧ j < 4 * q + 4 then M 157 (4 * r + (j - 4 * q)) + 1000 * ((q : Int) - r) else M 157 j) ∧ ∀ j, N 158 j = if 4 * q ≤ j ∧ j < 4 * q + 4 then M 158 (4 * r + (j - 4 * q)) + 1000 * ((q : Int) - r) else M 158 j
theorem l_181 {h : HP} {M : MM} (w : RSk h) {r q : Nat} (hr : r ≤ 5) (hq : q ≤ 5) (hne : r ≠ q) (b : ∀ l, l < 4 → (0 ≤ M 157 (4 * r + l) ∧ M 157 (4 * r + l) ≤ 6000) ∧ 0 ≤ M 158 (4 * r + l) ∧ M 158 (4 * r + l) ≤ 6000) (d : Nat) : ∀ (k i : Nat) (N : MM), 4 - i = k → i ≤ 4 → (∀ a, a ≠ 157 → a ≠ 158 → N a = M a) → (∀ j, N 157 j = if 4 * q ≤ j ∧ j < 4 * q + i then M 157 (4 * r + (j - 4 * q)) + 1000 * ((q : Int) - r) else M 157 j) → (∀ j, N 158 j = if 4 * q ≤ j ∧ j < 4 * q + i then M 158 (4 * r + (j - 4 * q)) + 1000 * ((q : Int) - r) else M 158 j) → ∃ N', run (d + 1) md_181 112 [vr 145, vi r, vi q, vi i] [] (sM h N) = some (vr 0, sM h N') ∧ (∀ a, a ≠ 157 → a ≠ 158 → N' a = M a) ∧ (∀ j, N' 157 j = if 4 * q ≤ j ∧ j < 4 * q + 4 then M 157 (4 * r + (j - 4 * q)) + 1000 * ((q : Int) - r) else M 157 j) ∧ ∀ j, N' 158 j = if 4 * q ≤ j ∧ j < 4 * q + 4 then M 158 (4 * r + (j - 4 * q)) + 1000 * ((q : Int) - r) else M 158 j
  | 0, i, N, h1, h2, e0, e1, e2 => by
    have : i = 4 := by omega
    subst this
    refine ⟨N, ?_, e0, e1, e2⟩
    rw [q_181_112 (w := w.m _), dt (by omega)]; rfl
  | k + 1, i, N, h1, h2, e0, e1, e2 => by
    have bi := b i (by omega)
    have f1 : N 157 (4 * r + i) = M 157 (4 * r + i) := by rw [e1, if_neg (by omega)]
    have f2 : N 158 (4 * r + i) = M 158 (4 * r + i) := by rw [e2, if_neg (by omega)]
    have t1 : (4 * (r : Int) + (i : Int)).toNat = 4 * r + i := by omega
    have t2 : (4 * (q : Int) + (i : Int)).toNat = 4 * q + i := by omega
    rw [q_181_112 (w := w.m _)]
    simp (disch := omega) only [dt, df, zb, im, ia, is_, mi_sM, t1, t2, f1, f2, sI_sM]
    have key := l_181 w hr hq hne b d k (i + 1) (up2 (up2 N 157 (4 * q + i) (M 157 (4 * r + i) + 1000 * ((q : Int) - r))) 158 (4 * q + i) (M 158 (4 * r + i) + 1000 * ((q : Int) - r))) (by omega) (by omega) (fun a a1 a2 => by rw [u2_ne _ _ _ a2, u2_ne _ _ _ a1, e0 a a1 a2]) (fun j => by
      rw [u2_ne _ _ _ (by omega), u2_eq]
      by_cases z : j = 4 * q + i
      · rw [z, up_eq, if_pos (by omega)]
        congr 2; omega
      · rw [up_ne _ _ z, e1]
        by_cases y : 4 * q ≤ j ∧ j < 4 * q + i
        · rw [if_pos y, if_pos (by omega)]
        · rw [if_neg y, if_neg (by omega)]) (fun j => by
      rw [u2_eq]
      by_cases z : j = 4 * q + i
      · rw [z, up_eq, if_pos (by omega)]
        congr 2; omega
      · rw [up_ne _ _ z, u2_ne _ _ _ (by omega), e2]
        by_cases y : 4 * q ≤ j ∧ j < 4 * q + i
        · rw [if_pos y, if_pos (by omega)]
        · rw [if_neg y, if_neg (by omega)])
    have ei : ((i + 1 : Nat) : Int) = (i : Int) + 1 := by omega
    rw [ei] at key
    exact key
theorem m_181 (d : Nat) (r q : Nat) (h : HP) (w : RSk h) (hr : r ≤ 5) (hq : q ≤ 5) (hne : r ≠ q) (b : ∀ l, l < 4 → (0 ≤ h_mi h 157 (4 * r + l) ∧ h_mi h 157 (4 * r + l) ≤ 6000) ∧ 0 ≤ h_mi h 158 (4 * r + l) ∧ h_mi h 158 (4 * r + l) ≤ 6000) : ∃ N, ev (d + 1) 181 [vr 145, vi r, vi q] h = some (vr 0, sM h N) ∧ LyD (h_mi h) r q N := by
  have mv : ∀ (M : MM) (a n L : Nat), isK h a 11 = true → h_ln h a = L → n ≤ 1000 → n * r + n ≤ L → n * q + n ≤ L → ev d 180 [vr a, vi n, vi r, vi q] (sM h M) = some (vr 0, sM h (va_up M a (mvR (M a) n r q))) := fun M a n L k0 hl hn x1 x2 => by
    have := m_180 d (a := a) n r q (sM h M) k0 hn hr hq hne (by rw [ln_sM, hl]; exact x1) (by rw [ln_sM, hl]; exact x2)
    rw [mi_sM, sM_sM] at this
    exact this
  have c5 : ((5 : Nat) : Int) = 5 := rfl
  have c60 : ((60 : Nat) : Int) = 60 := rfl
  have c6 : ((6 : Nat) : Int) = 6 := rfl
  have c7 : ((7 : Nat) : Int) = 7 := rfl
  have c1000 : ((1000 : Nat) : Int) = 1000 := rfl
  have s1 := mv (h_mi h) 147 5 30 (k_147 w) (n_147 w) (by omega) (by omega) (by omega)
  rw [sM_self, c5] at s1
  have s2 := fun M => mv M 148 60 360 (k_148 w) (n_148 w) (by omega) (by omega) (by omega)
  have s3 := fun M => mv M 149 60 360 (k_149 w) (n_149 w) (by omega) (by omega) (by omega)
  have s4 := fun M => mv M 151 6 36 (k_151 w) (n_151 w) (by omega) (by omega) (by omega)
  have s5 := fun M => mv M 152 6 36 (k_152 w) (n_152 w) (by omega) (by omega) (by omega)
  have s6 := fun M => mv M 153 6 36 (k_153 w) (n_153 w) (by omega) (by omega) (by omega)
  have s7 := fun M => mv M 154 7 42 (k_154 w) (n_154 w) (by omega) (by omega) (by omega)
  have s8 := fun M => mv M 155 7 42 (k_155 w) (n_155 w) (by omega) (by omega) (by omega)
  have s9 := fun M => mv M 156 7 42 (k_156 w) (n_156 w) (by omega) (by omega) (by omega)
  have s10 := fun M => mv M 159 1000 6000 (k_159 w) (n_159 w) (by omega) (by omega) (by omega)
  rw [c60] at s2 s3
  rw [c6] at s4 s5 s6
  rw [c7] at s7 s8 s9
  rw [c1000] at s10
  rw [v_181, q_181_0 (w := w), s1, bV_s, q_181_10 (w := w.m _), s2, bV_s, q_181_21 (w := w.m _), s3, bV_s, q_181_32 (w := w.m _), s4, bV_s, q_181_43 (w := w.m _), s5, bV_s, q_181_54 (w := w.m _), s6, bV_s, q_181_65 (w := w.m _), s7, bV_s, q_181_76 (w := w.m _), s8, bV_s, q_181_87 (w := w.m _), s9, bV_s, q_181_98 (w := w.m _), s10, bV_s, q_181_110]
  generalize hN : va_up _ 159 _ = N
  have n7 : N 157 = h_mi h 157 := by rw [← hN]; simp (disch := omega) only [up_ne]
  have n8 : N 158 = h_mi h 158 := by rw [← hN]; simp (disch := omega) only [up_ne]
  obtain ⟨N', e, a0, a1, a2⟩ := l_181 (M := N) w hr hq hne (by rw [n7, n8]; exact b) d 4 0 N rfl (by omega) (fun _ _ _ => rfl) (fun j => by rw [if_neg (by omega)]) (fun j => by rw [if_neg (by omega)])
  refine ⟨N', e, fun a ha => ?_, ?_, ?_, ?_, ?_, ?_, ?_, ?_, ?_, ?_, ?_, fun j => by rw [a1, n7], fun j => by rw [a2, n8]⟩
  · rw [a0 a (by omega) (by omega), ← hN]; simp (disch := omega) only [up_ne]
  · rw [a0 _ (by omega) (by omega), ← hN]; simp (disch := omega) only [up_ne, up_eq]
  · rw [a0 _ (by omega) (by omega), ← hN]; simp (disch := omega) only [up_ne, up_eq]
  · rw [a0 _ (by omega) (by omega), ← hN]; simp (disch := omega) only [up_ne, up_eq]
  · rw [a0 _ (by omega) (by omega), ← hN]; simp (disch := omega) only [up_ne, up_eq]
  · rw [a0 _ (by omega) (by omega), ← hN]; simp (disch := omega) only [up_ne, up_eq]
  · rw [a0 _ (by omega) (by omega), ← hN]; simp (disch := omega) only [up_ne, up_eq]
  · rw [a0 _ (by omega) (by omega), ← hN]; simp (disch := omega) only [up_ne, up_eq]
  · rw [a0 _ (by omega) (by omega), ← hN]; simp (disch := omega) only [up_ne, up_eq]
  · rw [a0 _ (by omega) (by omega), ← hN]; simp (disch := omega) only [up_ne, up_eq]
  · rw [a0 _ (by omega) (by omega), ← hN]; simp (disch := omega) only [up_ne, up_eq]
theorem mvR_in {f : Nat → Int} {n r q j : Nat} (h : j < n) : mvR f n r q (n * q + j) = f (n * r + j) := by
  unfold mvR
  rw [if_pos (by omega)]
  congr 1; omega
theorem mvR_out {f : Nat → Int} {n r q k : Nat} (h : k < n * q ∨ n * q + n ≤ k) : mvR f n r q k = f k := by
  unfold mvR
  rw [if_neg (by omega)]
/-- place q is now what place r was -/
theorem LyD.fb {M N : MM} {r q : Nat} (y : LyD M r q N) (f : FB M r) : FB N q := by
  obtain ⟨_, y1, y2, y3, y4, y5, y6, y7, y8, y9, _⟩ := y
  obtain ⟨f1, f2, f3, f4, f5, f6, f7, f8⟩ := f
  have a0 : N 147 (5 * q) = M 147 (5 * r) := by rw [y1]; exact mvR_in (j := 0) (by omega)
  have a1 : ∀ j, j < 5 → N 147 (5 * q + j) = M 147 (5 * r + j) := fun j hj => by rw [y1, mvR_in hj]
  unfold FB
  rw [a0, a1 1 (by omega), a1 2 (by omega), a1 3 (by omega), a1 4 (by omega), y2, y3, y4, y5, y6, y7, y8, y9]
  refine ⟨f1, f2, f3, f4, f5, fun c hc => ?_, fun p hp => ?_, fun l hl => ?_⟩
  · rw [mvR_in hc, mvR_in hc]; exact f6 c hc
  · have : p < 6 := by omega
    rw [mvR_in this, mvR_in this, mvR_in this]; exact f7 p hp
  · have : l < 7 := by omega
    rw [mvR_in this, mvR_in this, mvR_in this]; exact f8 l hl
theorem LyD.fb2 {M N : MM} {r q p : Nat} (y : LyD M r q N) (hp : p ≠ q) (f : FB M p) : FB N p := by
  obtain ⟨_, y1, y2, y3, y4, y5, y6, y7, y8, y9, _⟩ := y
  obtain ⟨f1, f2, f3, f4, f5, f6, f7, f8⟩ := f
  have a0 : N 147 (5 * p) = M 147 (5 * p) := by rw [y1]; exact mvR_out (by omega)
  have a1 : ∀ j, j < 5 → N 147 (5 * p + j) = M 147 (5 * p + j) := fun j hj => by rw [y1, mvR_out (by omega)]
  unfold FB
  rw [a0, a1 1 (by omega), a1 2 (by omega), a1 3 (by omega), a1 4 (by omega), y2, y3, y4, y5, y6, y7, y8, y9]
  refine ⟨f1, f2, f3, f4, f5, fun c hc => ?_, fun p hp => ?_, fun l hl => ?_⟩
  · rw [mvR_out (by omega), mvR_out (by omega)]; exact f6 c hc
  · rw [mvR_out (by omega), mvR_out (by omega), mvR_out (by omega)]; exact f7 p hp
  · rw [mvR_out (by omega), mvR_out (by omega), mvR_out (by omega)]; exact f8 l hl
theorem LyD.sb {M N : MM} {r q : Nat} {S : Nat → Int} (y : LyD M r q N) (f : SB M r S) : SB N q S := by
  obtain ⟨f1, f2⟩ := f
  refine ⟨fun c hc => ?_, f2⟩
  rw [y.2.2.1, mvR_in hc]; exact f1 c hc
theorem LyD.sb2 {M N : MM} {r q p : Nat} {S : Nat → Int} (y : LyD M r q N) (hp : p ≠ q) (f : SB M p S) : SB N p S := by
  obtain ⟨f1, f2⟩ := f
  refine ⟨fun c hc => ?_, f2⟩
  rw [y.2.2.1, mvR_out (by omega)]; exact f1 c hc
theorem LyD.ln {M N : MM} {r q : Nat} (y : LyD M r q N) (f : LnO M r) : LnO N q := fun l hl => by
  have := f l hl
  rw [y.2.2.2.2.2.2.2.2.2.2.2.1, y.2.2.2.2.2.2.2.2.2.2.2.2, if_pos (by omega), if_pos (by omega), show 4 * q + l - 4 * q = l by omega]
  omega
theorem LyD.ln2 {M N : MM} {r q p : Nat} (y : LyD M r q N) (hp : p ≠ q) (f : LnO M p) : LnO N p := fun l hl => by
  have := f l hl
  rw [y.2.2.2.2.2.2.2.2.2.2.2.1, y.2.2.2.2.2.2.2.2.2.2.2.2, if_neg (by omega), if_neg (by omega)]
  exact this
theorem LyD.lr {M N : MM} {r q l : Nat} {e : (Nat → Int) → Int} (y : LyD M r q N) (hq : q ≤ 5) (hl : l < 4) (ln : LnO M r) (f : LR M e r l) : LR N e q l := by
  have b := ln l hl
  have e7 : N 157 (4 * q + l) = M 157 (4 * r + l) + 1000 * ((q : Int) - r) := by
    rw [y.2.2.2.2.2.2.2.2.2.2.2.1, if_pos (by omega), show 4 * q + l - 4 * q = l by omega]
  have e8 : N 158 (4 * q + l) = M 158 (4 * r + l) + 1000 * ((q : Int) - r) := by
    rw [y.2.2.2.2.2.2.2.2.2.2.2.2, if_pos (by omega), show 4 * q + l - 4 * q = l by omega]
  rcases f with ⟨f1, f2⟩ | ⟨f1, f2, f3, c, f4, f5⟩
  · exact Or.inl ⟨by rw [e7, e8, f1], f2⟩
  · refine Or.inr ⟨by omega, by omega, by omega, c, ?_, fun j j0 j1 => ?_⟩
    · rw [e7, e8, show M 158 (4 * r + l) + 1000 * ((q : Int) - r) - (M 157 (4 * r + l) + 1000 * ((q : Int) - r)) = M 158 (4 * r + l) - M 157 (4 * r + l) by omega]
      exact f4
    · rw [e7, e8] at j1
      rw [e7, ← f5 j j0 (by omega), y.2.2.2.2.2.2.2.2.2.2.1]
      unfold mvR
      rw [if_pos (by omega)]
      congr 1; omega
theorem LyD.lr2 {M N : MM} {r q p l : Nat} {e : (Nat → Int) → Int} (y : LyD M r q N) (hp : p ≠ q) (hl : l < 4) (ln : LnO M p) (f : LR M e p l) : LR N e p l := by
  have b := ln l hl
  have e7 : N 157 (4 * p + l) = M 157 (4 * p + l) := by
    rw [y.2.2.2.2.2.2.2.2.2.2.2.1, if_neg (by omega)]
  have e8 : N 158 (4 * p + l) = M 158 (4 * p + l) := by
    rw [y.2.2.2.2.2.2.2.2.2.2.2.2, if_neg (by omega)]
  rcases f with ⟨f1, f2⟩ | ⟨f1, f2, f3, c, f4, f5⟩
  · exact Or.inl ⟨by rw [e7, e8, f1], f2⟩
  · refine Or.inr ⟨by omega, by omega, by omega, c, ?_, fun j j0 j1 => ?_⟩
    · rw [e7, e8]; exact f4
    · rw [e7, e8] at j1
      rw [e7, ← f5 j j0 (by omega), y.2.2.2.2.2.2.2.2.2.2.1]
      exact mvR_out (by omega)
theorem LyD.fn {M N : MM} {t r q : Nat} (y : LyD M r q N) (fb : FB M r) (hN : ∀ i, i ≤ 8 → N (t + i) = M (t + i)) (f : FN M t r) : FN N t q := by
  obtain ⟨_, y1, y2, y3, y4, y5, y6, y7, y8, y9, _⟩ := y
  obtain ⟨⟨a1, a2, a3, a4, a5⟩, b1, b2, b3⟩ := f
  have e0 : N t = M t := hN 0 (by omega)
  have c0 : N 147 (5 * q) = M 147 (5 * r) := by rw [y1]; exact mvR_in (j := 0) (by omega)
  have c1 : ∀ j, j < 5 → N 147 (5 * q + j) = M 147 (5 * r + j) := fun j hj => by rw [y1, mvR_in hj]
  unfold FN
  rw [e0, c0, c1 1 (by omega), c1 2 (by omega), c1 3 (by omega), c1 4 (by omega), hN 1 (by omega), hN 2 (by omega), hN 3 (by omega), hN 4 (by omega), hN 5 (by omega), hN 6 (by omega), hN 7 (by omega), hN 8 (by omega), y2, y3, y4, y5, y6, y7, y8, y9]
  refine ⟨⟨a1, a2, a3, a4, a5⟩, fun c hc => ?_, fun p hp => ?_, fun l hl => ?_⟩
  · rw [mvR_in hc, mvR_in hc]; exact b1 c hc
  · have p6 := fb.2.2.1.2
    have : p < 6 := by omega
    rw [mvR_in this, mvR_in this, mvR_in this]; exact b2 p hp
  · have l7 := fb.2.2.2.1.2
    have : l < 7 := by omega
    rw [mvR_in this, mvR_in this, mvR_in this]; exact b3 l hl
theorem LyD.fn2 {M N : MM} {t r q p : Nat} (y : LyD M r q N) (hp : p ≠ q) (fb : FB M p) (hN : ∀ i, i ≤ 8 → N (t + i) = M (t + i)) (f : FN M t p) : FN N t p := by
  obtain ⟨_, y1, y2, y3, y4, y5, y6, y7, y8, y9, _⟩ := y
  obtain ⟨⟨a1, a2, a3, a4, a5⟩, b1, b2, b3⟩ := f
  have e0 : N t = M t := hN 0 (by omega)
  have c0 : N 147 (5 * p) = M 147 (5 * p) := by rw [y1]; exact mvR_out (by omega)
  have c1 : ∀ j, j < 5 → N 147 (5 * p + j) = M 147 (5 * p + j) := fun j hj => by rw [y1, mvR_out (by omega)]
  unfold FN
  rw [e0, c0, c1 1 (by omega), c1 2 (by omega), c1 3 (by omega), c1 4 (by omega), hN 1 (by omega), hN 2 (by omega), hN 3 (by omega), hN 4 (by omega), hN 5 (by omega), hN 6 (by omega), hN 7 (by omega), hN 8 (by omega), y2, y3, y4, y5, y6, y7, y8, y9]
  refine ⟨⟨a1, a2, a3, a4, a5⟩, fun c hc => ?_, fun p' hp' => ?_, fun l hl => ?_⟩
  · rw [mvR_out (by omega), mvR_out (by omega)]; exact b1 c hc
  · have p6 := fb.2.2.1.2
    rw [mvR_out (by omega), mvR_out (by omega), mvR_out (by omega)]; exact b2 p' hp'
  · have l7 := fb.2.2.2.1.2
    rw [mvR_out (by omega), mvR_out (by omega), mvR_out (by omega)]; exact b3 l hl
