/-! the reference: looking, building -/
theorem m_204 (d : Nat) (l : Int) (h : HP) (w : RSk h) (c0 : 0 ≤ h_mi h 147 0) (c1 : h_mi h 147 0 ≤ 10) (h0 : 0 ≤ l) (h1 : l < 42) (b0 : -1000 ≤ h_mi h 155 l.toNat) (b1 : h_mi h 155 l.toNat ≤ 1000) : ev (d + 1) 204 [vr 145, vi l] h = some (vi (bb (needK (h_mi h 154 l.toNat) (h_mi h 155 l.toNat) ≤ lo (h_mi h 176) (h_mi h 147 0))), h) := by
  rw [v_204, q_204_0 d l h w, m_203 d h w c0 c1, bI_s, q_204_4 d l _ h w, m_196 d l h w h0 h1 b0 b1, bI_s, q_204_9]
  by_cases k : lo (h_mi h 176) (h_mi h 147 0) < needK (h_mi h 154 l.toNat) (h_mi h 155 l.toNat)
  · rw [dt k, bb_f (by omega)]; rfl
  · rw [df k, bb_t (by omega)]; rfl
def wrG (by_ x : Int) : Int := if 99 < x then x else max 0 (x - by_)
theorem l_205 {h : HP} {M : MM} (w : RSk h) {n by_ : Int} (hn : M 147 0 = n) (h10 : n ≤ 10) (y0 : 0 ≤ by_) (y1 : by_ ≤ 1000) (d : Nat) : ∀ (k : Nat) (i : Int) (f : Nat → Int), (n - i).toNat = k → 0 ≤ i → i ≤ n → (∀ j : Int, 0 ≤ j → j < n → -1000 ≤ f j.toNat ∧ f j.toNat ≤ 1000) → run d md_205 2 [vr 145, vi by_, vi i] [] (sM h (va_up M 176 f)) = some (vr 0, sM h (va_up M 176 (rowF (fun _ x => wrG by_ x) k i f)))
  | 0, i, f, h1, h2, h3, h4 => by
    rw [q_205_2 d by_ i (sM h (va_up M 176 f)) w]
    simp (disch := first | assumption | omega) only [mi_sM, sI_sM, sRi_sM, isK_sM, inb_sM, ln_sM, mr_sM, ml_sM, dt, df, ia, is_, zb, bI_s, bV_s, bR_s, up_ne, hn]
    rfl
  | k + 1, i, f, h1, h2, h3, h4 => by
    rw [q_205_2 d by_ i (sM h (va_up M 176 f)) w]
    have b := h4 i h2 (by omega)
    simp (disch := first | assumption | omega) only [mi_sM, sI_sM, sRi_sM, isK_sM, inb_sM, ln_sM, mr_sM, ml_sM, dt, df, ia, is_, zb, bI_s, bV_s, bR_s, up_ne, up_eq, hn, im, up2_row]
    have key : ∀ v, -1000 ≤ v ∧ v ≤ 1000 → run d md_205 2 [vr 145, vi by_, vi (i + 1)] [] (sM h (va_up M 176 (va_up f i.toNat v))) = some (vr 0, sM h (va_up M 176 (rowF (fun _ x => wrG by_ x) k (i + 1) (va_up f i.toNat v)))) := fun v hv => l_205 w hn h10 y0 y1 d k (i + 1) _ (by omega) (by omega) (by omega) (fun j j0 j1 => by
      rw [up_if]; split
      · exact hv
      · exact h4 j j0 j1)
    show _ = some (vr 0, sM h (va_up M 176 (rowF (fun _ x => wrG by_ x) k (i + 1) (va_up f i.toNat (wrG by_ (f i.toNat))))))
    unfold wrG
    by_cases k1 : f i.toNat ≤ 99
    · rw [dt k1, if_neg (by omega), key _ (by omega)]; rfl
    · rw [df k1, if_pos (by omega), key _ b]; rfl
theorem m_205 (d : Nat) (by_ : Int) (h : HP) (w : RSk h) (h0 : 0 ≤ h_mi h 147 0) (h1 : h_mi h 147 0 ≤ 10) (y0 : 0 ≤ by_) (y1 : by_ ≤ 1000) (hb : ∀ j : Int, 0 ≤ j → j < h_mi h 147 0 → -1000 ≤ h_mi h 176 j.toNat ∧ h_mi h 176 j.toNat ≤ 1000) : ev d 205 [vr 145, vi by_] h = some (vr 0, sM h (va_up (h_mi h) 176 (rowF (fun _ x => wrG by_ x) (h_mi h 147 0).toNat 0 (h_mi h 176)))) := by
  rw [v_205, q_205_0]
  have := l_205 (h := h) (M := h_mi h) w rfl h1 y0 y1 d _ 0 (h_mi h 176) rfl (by omega) h0 hb
  rw [up_self, Int.sub_zero] at this
  exact this
/-- the thinnest, were all so much thinner -/
def lbF (I : Nat → Int) (by_ i a : Int) : Int := min a (if 99 < I i.toNat then 1000 else max 0 (I i.toNat - by_))
def lob (I : Nat → Int) (by_ n : Int) : Int := itr (lbF I by_) n.toNat 0 99
theorem l_214 {h : HP} (w : RSk h) {n by_ : Int} (hn : h_mi h 147 0 = n) (h10 : n ≤ 10) (y0 : 0 ≤ by_) (y1 : by_ ≤ 1000) (hb : ∀ j : Int, 0 ≤ j → j < n → -1000 ≤ h_mi h 176 j.toNat ∧ h_mi h 176 j.toNat ≤ 1000) (d : Nat) : ∀ (k : Nat) (i a : Int), (n - i).toNat = k → 0 ≤ i → i ≤ n → run d md_214 5 [vr 145, vi by_, vi a, vi i] [] h = some (vi (itr (lbF (h_mi h 176) by_) k i a), h)
  | 0, i, a, h1, h2, h3 => by
    rw [q_214_5 d by_ a i h w]
    simp (disch := first | assumption | omega) only [mi_sM, sI_sM, sRi_sM, isK_sM, inb_sM, ln_sM, mr_sM, ml_sM, dt, df, ia, is_, zb, bI_s, bV_s, bR_s, hn]
    rfl
  | k + 1, i, a, h1, h2, h3 => by
    rw [q_214_5 d by_ a i h w]
    have b := hb i h2 (by omega)
    simp (disch := first | assumption | omega) only [mi_sM, sI_sM, sRi_sM, isK_sM, inb_sM, ln_sM, mr_sM, ml_sM, dt, df, ia, is_, zb, bI_s, bV_s, bR_s, hn]
    show _ = some (vi (itr (lbF (h_mi h 176) by_) k (i + 1) (lbF (h_mi h 176) by_ i a)), h)
    rw [l_214 w hn h10 y0 y1 hb d k (i + 1) _ (by omega) (by omega) (by omega), l_214 w hn h10 y0 y1 hb d k (i + 1) _ (by omega) (by omega) (by omega)]
    unfold lbF
    by_cases k1 : h_mi h 176 i.toNat ≤ 99
    · rw [dt k1, if_neg (by omega)]; rfl
    · rw [df k1, if_pos (by omega)]; rfl
theorem m_214 (d : Nat) (by_ : Int) (h : HP) (w : RSk h) (h0 : 0 ≤ h_mi h 147 0) (h1 : h_mi h 147 0 ≤ 10) (y0 : 0 ≤ by_) (y1 : by_ ≤ 1000) (hb : ∀ j : Int, 0 ≤ j → j < h_mi h 147 0 → -1000 ≤ h_mi h 176 j.toNat ∧ h_mi h 176 j.toNat ≤ 1000) : ev d 214 [vr 145, vi by_] h = some (vi (lob (h_mi h 176) by_ (h_mi h 147 0)), h) := by
  rw [v_214, q_214_0, l_214 w rfl h1 y0 y1 hb d _ 0 99 rfl (by omega) h0, Int.sub_zero]
  rfl
/-! sums -/
def sm (P : Int → Int) (n : Int) : Int := itr (fun k a => a + P k) n.toNat 0 0
theorem itr_sum (P : Int → Int) : ∀ (k : Nat) (i a : Int), itr (fun k a => a + P k) k i a = a + itr (fun k a => a + P k) k i 0
  | 0, i, a => by simp [itr]
  | k + 1, i, a => by
    show itr _ k (i + 1) (a + P i) = a + itr _ k (i + 1) (0 + P i)
    rw [itr_sum P k (i + 1) (a + P i), itr_sum P k (i + 1) (0 + P i)]; omega
theorem sm_congr {P Q : Int → Int} {n : Int} (h : ∀ k, 0 ≤ k → k < n → P k = Q k) : sm P n = sm Q n := by
  unfold sm
  by_cases hn : 0 ≤ n
  · exact itr_congr (lo := 0) (n := n) (fun i a h1 h2 => by rw [h i h1 h2]) _ 0 0 (by omega) (by omega)
  · have : n.toNat = 0 := by omega
    rw [this]; rfl
theorem sm_bd {P : Int → Int} {B : Int} : ∀ (k : Nat) (i a : Int), (∀ j, i ≤ j → j < i + k → 0 ≤ P j ∧ P j ≤ B) → a ≤ itr (fun k a => a + P k) k i a ∧ itr (fun k a => a + P k) k i a ≤ a + k * B
  | 0, i, a, h => by simp [itr]
  | k + 1, i, a, h => by
    have h1 := sm_bd k (i + 1) (a + P i) (fun j j0 j1 => h j (by omega) (by omega))
    have h2 := h i (by omega) (by omega)
    have e : ((k + 1 : Nat) : Int) * B = k * B + B := by rw [Int.natCast_add, Int.add_mul]; simp
    show a ≤ itr _ k (i + 1) (a + P i) ∧ itr _ k (i + 1) (a + P i) ≤ _
    rw [e]
    omega
theorem sm_b {P : Int → Int} {n B : Int} (hn : 0 ≤ n) (h : ∀ k, 0 ≤ k → k < n → 0 ≤ P k ∧ P k ≤ B) : 0 ≤ sm P n ∧ sm P n ≤ n * B := by
  have := sm_bd (P := P) (B := B) n.toNat 0 0 (fun j j0 j1 => h j j0 (by omega))
  have e : ((n.toNat : Nat) : Int) = n := by omega
  rw [e] at this
  unfold sm; omega
theorem sm_le {P Q : Int → Int} {n : Int} (h : ∀ k, 0 ≤ k → k < n → P k ≤ Q k) : sm P n ≤ sm Q n := by
  unfold sm
  by_cases hn : 0 ≤ n
  · exact (itr_sim (fun i a b => 0 ≤ i ∧ a ≤ b) (n := n) (fun i a b h1 h2 => ⟨by omega, by have := h i h2.1 h1; omega⟩) _ 0 0 0 (by omega) (by omega) ⟨by omega, by omega⟩).2
  · have : n.toNat = 0 := by omega
    rw [this]; exact Int.le_refl _
theorem sm_0 (P : Int → Int) : sm P 0 = 0 := rfl
theorem sm_s (P : Int → Int) {n : Int} (hn : 0 ≤ n) : sm P (n + 1) = sm P n + P n := by
  unfold sm
  have e : (n + 1).toNat = n.toNat + 1 := by omega
  rw [e, itr_last]
  have e2 : (0 : Int) + ((n.toNat : Nat) : Int) = n := by omega
  rw [e2]
/-- pails by which a cell of thickness x gets as thick as th, by grip g -/
def ptV (x g th : Int) : Int := if th ≤ x then 0 else if g = 0 then 100000 else (th - x + g - 1) / g
theorem ptV_b {x g th : Int} (h0 : 0 ≤ x) (g0 : 0 ≤ g) (t1 : th ≤ 99) : 0 ≤ ptV x g th ∧ ptV x g th ≤ 100000 := by
  unfold ptV
  split
  · omega
  · split
    · omega
    · refine ⟨Int.ediv_nonneg (by omega) (by omega), ?_⟩
      have := Int.ediv_le_self (a := th - x + g - 1) g (by omega)
      have h9 : (th - x + g - 1) / g ≤ th - x := by
        refine Int.le_of_lt_add_one ?_
        refine Int.ediv_lt_of_lt_mul (by omega) ?_
        rw [Int.add_mul]
        have : (th - x) * 1 ≤ (th - x) * g := Int.mul_le_mul_of_nonneg_left (by omega) (by omega)
        omega
      omega
theorem ptV_g {x g th : Int} (h0 : 0 ≤ x) (g0 : 0 < g) (t1 : th ≤ 99) : ptV x g th ≤ 99 := by
  unfold ptV
  split
  · omega
  · rw [if_neg (by omega)]
    have h9 : (th - x + g - 1) / g ≤ th - x := by
      refine Int.le_of_lt_add_one ?_
      refine Int.ediv_lt_of_lt_mul (by omega) ?_
      rw [Int.add_mul]
      have : (th - x) * 1 ≤ (th - x) * g := Int.mul_le_mul_of_nonneg_left (by omega) (by omega)
      omega
    omega
theorem m_218 (d : Nat) (k th : Int) (h : HP) (w : RSk h) (k0 : 0 ≤ k) (k1 : k < 10) (t0 : -1000 ≤ th) (t1 : th ≤ 1000) (i0 : 0 ≤ h_mi h 176 k.toNat) (i1 : h_mi h 176 k.toNat ≤ 1000) (g0 : 0 ≤ h_mi h 179 k.toNat) (g1 : h_mi h 179 k.toNat ≤ 9) : ev d 218 [vr 145, vi k, vi th] h = some (vi (ptV (h_mi h 176 k.toNat) (h_mi h 179 k.toNat) th), h) := by
  rw [v_218, q_218_0 d k th h w]
  unfold ptV
  simp (disch := first | assumption | omega) only [mi_sM, sI_sM, sRi_sM, isK_sM, inb_sM, ln_sM, mr_sM, ml_sM, dt, df, ia, is_, zb, bI_s, bV_s, bR_s]
  by_cases c1 : h_mi h 176 k.toNat < th
  · rw [dt c1, if_neg (by omega)]
    by_cases c2 : h_mi h 179 k.toNat = 0
    · rw [df (by omega), if_pos c2]; rfl
    · rw [dt c2, if_neg c2]
      simp (disch := first | assumption | omega) only [mi_sM, sI_sM, sRi_sM, isK_sM, inb_sM, ln_sM, mr_sM, ml_sM, dt, df, ia, is_, zb, bI_s, bV_s, bR_s, id_]
  · rw [df c1, if_pos (by omega)]; rfl
/-- the rows that are looked at have numbers as they must -/
def IG (h : HP) : Prop := ∀ j : Int, 0 ≤ j → j < h_mi h 147 0 → (0 ≤ h_mi h 176 j.toNat ∧ h_mi h 176 j.toNat ≤ 1000) ∧ 0 ≤ h_mi h 179 j.toNat ∧ h_mi h 179 j.toNat ≤ 9
theorem l_219 {h : HP} (w : RSk h) {n th : Int} (hn : h_mi h 147 0 = n) (h10 : n ≤ 10) (t0 : -1000 ≤ th) (t1 : th ≤ 99) (hb : IG h) (d : Nat) : ∀ (k : Nat) (i a : Int), (n - i).toNat = k → 0 ≤ i → i ≤ n → 0 ≤ a → a ≤ i * 100000 → run (d + 1) md_219 4 [vr 145, vi th, vi a, vi i] [] h = some (vi (itr (fun k a => a + ptV (h_mi h 176 k.toNat) (h_mi h 179 k.toNat) th) k i a), h)
  | 0, i, a, h1, h2, h3, a0, a1 => by
    rw [q_219_4 d th a i h w]
    simp (disch := first | assumption | omega) only [mi_sM, sI_sM, sRi_sM, isK_sM, inb_sM, ln_sM, mr_sM, ml_sM, dt, df, ia, is_, zb, bI_s, bV_s, bR_s, hn]
    rfl
  | k + 1, i, a, h1, h2, h3, a0, a1 => by
    rw [q_219_4 d th a i h w]
    have b := hb i h2 (by omega)
    have pb := ptV_b (x := h_mi h 176 i.toNat) (g := h_mi h 179 i.toNat) (th := th) (by omega) (by omega) t1
    rw [m_218 d i th h w h2 (by omega) t0 (by omega) (by omega) (by omega) (by omega) (by omega)]
    simp (disch := first | assumption | omega) only [mi_sM, sI_sM, sRi_sM, isK_sM, inb_sM, ln_sM, mr_sM, ml_sM, dt, df, ia, is_, zb, bI_s, bV_s, bR_s, hn]
    rw [q_219_21]
    simp (disch := first | assumption | omega) only [mi_sM, sI_sM, sRi_sM, isK_sM, inb_sM, ln_sM, mr_sM, ml_sM, dt, df, ia, is_, zb, bI_s, bV_s, bR_s]
    rw [l_219 w hn h10 t0 t1 hb d k (i + 1) _ (by omega) (by omega) (by omega) (by omega) (by omega)]
    rfl
def alV (h : HP) (th : Int) : Int := sm (fun k => ptV (h_mi h 176 k.toNat) (h_mi h 179 k.toNat) th) (h_mi h 147 0)
theorem m_219 (d : Nat) (th : Int) (h : HP) (w : RSk h) (h0 : 0 ≤ h_mi h 147 0) (h1 : h_mi h 147 0 ≤ 10) (t0 : -1000 ≤ th) (t1 : th ≤ 99) (hb : IG h) : ev (d + 1) 219 [vr 145, vi th] h = some (vi (alV h th), h) := by
  rw [v_219, q_219_0, l_219 w rfl h1 t0 t1 hb d _ 0 0 rfl (by omega) h0 (by omega) (by omega), Int.sub_zero]
  rfl
