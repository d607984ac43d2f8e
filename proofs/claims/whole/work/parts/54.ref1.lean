/-! the reference: small members -/
theorem m_148 (d : Nat) (x0 x1 x2 : Int) (h : HP) : ev d 148 [vi x0, vi x1, vi x2] h = some (vi (bb (x1 ≤ x0 ∧ x0 ≤ x2)), h) := by
  rw [v_148, q_148_0]
  by_cases h1 : x0 < x1
  · rw [dt h1, bb_f (by omega)]; rfl
  · rw [df h1]
    by_cases h2 : x2 < x0
    · rw [dt h2, bb_f (by omega)]; rfl
    · rw [df h2, bb_t (by omega)]; rfl
theorem m_149 (d : Nat) (x0 x1 x2 : Int) (h12 : x1 ≤ x2) (h : HP) : ev d 149 [vi x0, vi x1, vi x2] h = some (vi (max x1 (min x2 x0)), h) := by
  rw [v_149, q_149_0]
  by_cases h1 : x1 ≤ x0
  · rw [dt h1]
    by_cases h2 : x0 ≤ x2
    · rw [dt h2]; simp only [zb]; congr 3; omega
    · rw [df h2]; simp only [zb]; congr 3; omega
  · rw [df h1]; simp only [zb]; congr 3; omega
theorem m_185 (d : Nat) (x : Int) (h : HP) (w : RSk h) : ev d 185 [vr 145, vi x] h = some (vi (bb (0 ≤ x ∧ x < h_mi h 147 1)), h) := by
  rw [v_185, q_185_0 d x h w]
  by_cases h1 : x < 0
  · rw [dt h1, bb_f (by omega)]; rfl
  · rw [df h1]
    by_cases h2 : h_mi h 147 1 ≤ x
    · rw [dt h2, bb_f (by omega)]; rfl
    · rw [df h2, bb_t (by omega)]; rfl
theorem m_187 (d : Nat) (x : Int) (h : HP) (w : RSk h) : ev d 187 [vr 145, vi x] h = some (vi (bb (0 ≤ x ∧ x < h_mi h 147 2)), h) := by
  rw [v_187, q_187_0 d x h w]
  by_cases h1 : x < 0
  · rw [dt h1, bb_f (by omega)]; rfl
  · rw [df h1]
    by_cases h2 : h_mi h 147 2 ≤ x
    · rw [dt h2, bb_f (by omega)]; rfl
    · rw [df h2, bb_t (by omega)]; rfl
theorem m_188 (d : Nat) (x : Int) (h : HP) (w : RSk h) : ev d 188 [vr 145, vi x] h = some (vi (bb (0 ≤ x ∧ x < h_mi h 147 3)), h) := by
  rw [v_188, q_188_0 d x h w]
  by_cases h1 : x < 0
  · rw [dt h1, bb_f (by omega)]; rfl
  · rw [df h1]
    by_cases h2 : h_mi h 147 3 ≤ x
    · rw [dt h2, bb_f (by omega)]; rfl
    · rw [df h2, bb_t (by omega)]; rfl
theorem m_186 (d : Nat) (x y : Int) (h : HP) (w : RSk h) : ev (d + 1) 186 [vr 145, vi x, vi y] h = some (vi (bb (0 ≤ x ∧ x < h_mi h 147 0 ∧ 0 ≤ y ∧ y < h_mi h 147 1)), h) := by
  rw [v_186, q_186_0 d x y h w]
  by_cases h1 : x < 0
  · rw [dt h1, bb_f (by omega)]; rfl
  · rw [df h1]
    by_cases h2 : h_mi h 147 0 ≤ x
    · rw [dt h2, bb_f (by omega)]; rfl
    · rw [df h2, m_185 d y h w]
      simp only [zb, bI_s]
      rw [q_186_19]
      by_cases h3 : 0 ≤ y ∧ y < h_mi h 147 1
      · rw [bb_dt h3, bb_t (by omega)]; rfl
      · rw [bb_df h3, bb_f (by omega)]; rfl
/-- what a load needs, how it wears, by its kind and its weight -/
def needK (k v : Int) : Int := if k = 1 then v + 1 else if k = 2 then max 1 (v - 1) else v
def wearK (k : Int) : Int := if k = 1 then 2 else if k = 3 then 0 else if k = 4 then 3 else 1
theorem m_196 (d : Nat) (x : Int) (h : HP) (w : RSk h) (h0 : 0 ≤ x) (h1 : x < 42) (b0 : -1000 ≤ h_mi h 155 x.toNat) (b1 : h_mi h 155 x.toNat ≤ 1000) : ev d 196 [vr 145, vi x] h = some (vi (needK (h_mi h 154 x.toNat) (h_mi h 155 x.toNat)), h) := by
  rw [v_196, q_196_0 d x h w]
  unfold needK
  simp (disch := first | assumption | omega) only [mi_sM, sI_sM, sRi_sM, isK_sM, inb_sM, ln_sM, mr_sM, ml_sM, dt, df, ia, is_, zb, bI_s, bV_s, bR_s]
  by_cases k1 : h_mi h 154 x.toNat = 1
  · rw [if_pos k1, df (by omega)]; rfl
  · rw [if_neg k1, dt k1]
    by_cases k2 : h_mi h 154 x.toNat = 2
    · rw [if_pos k2, df (by omega)]; rfl
    · rw [if_neg k2, dt k2]; rfl
theorem m_197 (d : Nat) (x : Int) (h : HP) (w : RSk h) (h0 : 0 ≤ x) (h1 : x < 42) : ev d 197 [vr 145, vi x] h = some (vi (wearK (h_mi h 154 x.toNat)), h) := by
  rw [v_197, q_197_0 d x h w]
  unfold wearK
  simp (disch := first | assumption | omega) only [mi_sM, sI_sM, sRi_sM, isK_sM, inb_sM, ln_sM, mr_sM, ml_sM, dt, df, ia, is_, zb, bI_s, bV_s, bR_s]
  by_cases k1 : h_mi h 154 x.toNat = 1
  · rw [if_pos k1, df (by omega)]; rfl
  · rw [if_neg k1, dt k1]
    by_cases k2 : h_mi h 154 x.toNat = 3
    · rw [if_pos k2, df (by omega)]; rfl
    · rw [if_neg k2, dt k2]
      by_cases k3 : h_mi h 154 x.toNat = 4
      · rw [if_pos k3, df (by omega)]; rfl
      · rw [if_neg k3, dt k3]; rfl
theorem l_203 {h : HP} (w : RSk h) {n : Int} (hn : h_mi h 147 0 = n) (h10 : n ≤ 10) (d : Nat) : ∀ (k : Nat) (i a : Int), (n - i).toNat = k → 0 ≤ i → i ≤ n → run d md_203 5 [vr 145, vi a, vi i] [] h = some (vi (itr (mnF (h_mi h 176)) k i a), h)
  | 0, i, a, h1, h2, h3 => by
    rw [q_203_5 d a i h w]
    simp (disch := first | assumption | omega) only [mi_sM, sI_sM, sRi_sM, isK_sM, inb_sM, ln_sM, mr_sM, ml_sM, dt, df, ia, is_, zb, bI_s, bV_s, bR_s, hn]
    rfl
  | k + 1, i, a, h1, h2, h3 => by
    rw [q_203_5 d a i h w]
    simp (disch := first | assumption | omega) only [mi_sM, sI_sM, sRi_sM, isK_sM, inb_sM, ln_sM, mr_sM, ml_sM, dt, df, ia, is_, zb, bI_s, bV_s, bR_s, hn]
    rw [l_203 w hn h10 d k (i + 1) _ (by omega) (by omega) (by omega)]
    rfl
theorem m_203 (d : Nat) (h : HP) (w : RSk h) (h0 : 0 ≤ h_mi h 147 0) (h1 : h_mi h 147 0 ≤ 10) : ev d 203 [vr 145] h = some (vi (lo (h_mi h 176) (h_mi h 147 0)), h) := by
  rw [v_203, q_203_0, l_203 w rfl h1 d _ 0 99 rfl (by omega) h0, Int.sub_zero]
  rfl
/-- the row that is looked at -/
def seeG (M : MM) (row i : Int) : Int := if M 148 (10 * row + i).toNat = 1 then 1000 else M 172 (10 * row + i).toNat
theorem l_202 {h : HP} {M : MM} (w : RSk h) {n row : Int} (hn : M 147 0 = n) (h10 : n ≤ 10) (r0 : 0 ≤ row) (r1 : row < 6) (d : Nat) : ∀ (k : Nat) (i : Int) (f : Nat → Int), (n - i).toNat = k → 0 ≤ i → i ≤ n → run d md_202 2 [vr 145, vi row, vi i] [] (sM h (va_up M 176 f)) = some (vr 0, sM h (va_up M 176 (rowF (fun i _ => seeG M row i) k i f)))
  | 0, i, f, h1, h2, h3 => by
    rw [q_202_2 d row i (sM h (va_up M 176 f)) w]
    simp (disch := first | assumption | omega) only [mi_sM, sI_sM, sRi_sM, isK_sM, inb_sM, ln_sM, mr_sM, ml_sM, dt, df, ia, is_, zb, bI_s, bV_s, bR_s, up_ne, hn]
    rfl
  | k + 1, i, f, h1, h2, h3 => by
    rw [q_202_2 d row i (sM h (va_up M 176 f)) w]
    simp (disch := first | assumption | omega) only [mi_sM, sI_sM, sRi_sM, isK_sM, inb_sM, ln_sM, mr_sM, ml_sM, dt, df, ia, is_, zb, bI_s, bV_s, bR_s, up_ne, hn, im, up2_row]
    have key : ∀ v, run d md_202 2 [vr 145, vi row, vi (i + 1)] [] (sM h (va_up M 176 (va_up f i.toNat v))) = some (vr 0, sM h (va_up M 176 (rowF (fun i _ => seeG M row i) k (i + 1) (va_up f i.toNat v)))) := fun v => l_202 w hn h10 r0 r1 d k (i + 1) _ (by omega) (by omega) (by omega)
    show _ = some (vr 0, sM h (va_up M 176 (rowF (fun i _ => seeG M row i) k (i + 1) (va_up f i.toNat (seeG M row i)))))
    rw [key, key]
    unfold seeG
    by_cases k1 : M 148 (10 * row + i).toNat = 1
    · rw [df (by omega), if_pos k1]; rfl
    · rw [dt k1, if_neg k1]; rfl
def seeR (M : MM) (row : Int) : Nat → Int := rowF (fun i _ => seeG M row i) (M 147 0).toNat 0 (M 176)
theorem m_202 (d : Nat) (row : Int) (h : HP) (w : RSk h) (h0 : 0 ≤ h_mi h 147 0) (h1 : h_mi h 147 0 ≤ 10) (r0 : 0 ≤ row) (r1 : row < 6) : ev d 202 [vr 145, vi row] h = some (vr 0, sM h (va_up (h_mi h) 176 (seeR (h_mi h) row))) := by
  rw [v_202, q_202_0]
  have := l_202 (h := h) (M := h_mi h) w rfl h1 r0 r1 d _ 0 (h_mi h 176) rfl (by omega) h0
  rw [up_self, Int.sub_zero] at this
  exact this
theorem seeR_at {M : MM} {row j : Int} (h1 : 0 ≤ j) (h2 : j < M 147 0) : seeR M row j.toNat = seeG M row j := by
  unfold seeR; rw [rowF_in h1 h2]
