/-! the reference: building -/
/-- the greatest x up to k with f x at most m, or 0 -/
def bdN (f : Int → Int) (m : Int) : Nat → Int
  | 0 => 0
  | k + 1 => if f (((k + 1 : Nat) : Int)) ≤ m then ((k + 1 : Nat) : Int) else bdN f m k
theorem bdN_b (f : Int → Int) (m : Int) : ∀ k, 0 ≤ bdN f m k ∧ bdN f m k ≤ k
  | 0 => ⟨Int.le_refl _, Int.le_refl _⟩
  | k + 1 => by
    unfold bdN
    have := bdN_b f m k
    split <;> omega
theorem bdN_s (f : Int → Int) (m : Int) : ∀ k, bdN f m k = 0 ∨ f (bdN f m k) ≤ m
  | 0 => Or.inl rfl
  | k + 1 => by
    unfold bdN
    split
    · exact Or.inr (by assumption)
    · exact bdN_s f m k
theorem bdN_m (f : Int → Int) (m : Int) : ∀ (k : Nat) (y : Int), bdN f m k < y → y ≤ k → m < f y
  | 0, y, h1, h2 => by unfold bdN at h1; omega
  | k + 1, y, h1, h2 => by
    unfold bdN at h1
    split at h1
    · omega
    · by_cases hy : y = ((k + 1 : Nat) : Int)
      · subst hy; omega
      · exact bdN_m f m k y h1 (by omega)
theorem bdN_is {f : Int → Int} {m x : Int} {k : Nat} (h0 : 0 ≤ x) (h1 : x ≤ k) (h2 : x = 0 ∨ f x ≤ m) (h3 : ∀ y, x < y → y ≤ k → m < f y) : bdN f m k = x := by
  have b := bdN_b f m k
  by_cases c : bdN f m k < x
  · have := bdN_m f m k x c h1
    omega
  · by_cases e : x < bdN f m k
    · have := h3 _ e b.2
      rcases bdN_s f m k with z | z <;> omega
    · omega
theorem bdN_congr {f g : Int → Int} {m : Int} : ∀ {k : Nat}, (∀ y : Int, 0 < y → y ≤ k → f y = g y) → bdN f m k = bdN g m k
  | 0, _ => rfl
  | k + 1, h => by
    unfold bdN
    rw [h _ (by omega) (by omega), bdN_congr (fun y y0 y1 => h y y0 (by omega))]
theorem IG.sM {h : HP} {N : MM} (hb : IG h) (h1 : N 147 = h_mi h 147) (h2 : N 176 = h_mi h 176) (h3 : N 179 = h_mi h 179) : IG (sM h N) := by
  unfold IG; rw [mi_sM, h1, h2, h3]; exact hb
theorem alV_sM {h : HP} {N : MM} (h1 : N 147 = h_mi h 147) (h2 : N 176 = h_mi h 176) (h3 : N 179 = h_mi h 179) (th : Int) : alV (sM h N) th = alV h th := by
  unfold alV; rw [mi_sM, h1, h2, h3]
theorem l_220a {h : HP} (w : RSk h) (h0 : 0 ≤ h_mi h 147 0) (h1 : h_mi h 147 0 ≤ 10) (hb : IG h) (d : Nat) (m : Int) : ∀ k : Nat, k ≤ 99 → run (d + 2) md_220 6 [vr 145, vi m, vu, vu] [] (sM h (up2 (h_mi h) 145 51 k)) = run (d + 2) md_220 49 [vr 145, vi m, vi (alV h (bdN (alV h) m k)), vi 0] [] (sM h (up2 (h_mi h) 145 51 (bdN (alV h) m k)))
  | 0, hk => by
    have e1 : ∀ x : Int, x ≤ 99 → -1000 ≤ x → ev (d + 1) 219 [vr 145, vi x] (sM h (up2 (h_mi h) 145 51 ((0 : Nat) : Int))) = some (vi (alV h x), sM h (up2 (h_mi h) 145 51 ((0 : Nat) : Int))) := fun x x1 x0 => by
      rw [m_219 d x _ (w.m _) (by rw [mi_sM, u2_ne _ _ _ (by omega)]; exact h0) (by rw [mi_sM, u2_ne _ _ _ (by omega)]; exact h1) x0 x1 (hb.sM (u2_ne _ _ _ (by omega)) (u2_ne _ _ _ (by omega)) (u2_ne _ _ _ (by omega))), alV_sM (u2_ne _ _ _ (by omega)) (u2_ne _ _ _ (by omega)) (u2_ne _ _ _ (by omega))]
    rw [q_220_6 (d + 1) m _ (w.m _)]
    simp only [mi_sM, u2_at]
    rw [dt (by omega), e1 _ (by omega) (by omega)]
    simp only [zb, bI_s]
    rw [q_220_46]
    rfl
  | k + 1, hk => by
    have e1 : ∀ x : Int, x ≤ 99 → -1000 ≤ x → ev (d + 1) 219 [vr 145, vi x] (sM h (up2 (h_mi h) 145 51 ((k + 1 : Nat) : Int))) = some (vi (alV h x), sM h (up2 (h_mi h) 145 51 ((k + 1 : Nat) : Int))) := fun x x1 x0 => by
      rw [m_219 d x _ (w.m _) (by rw [mi_sM, u2_ne _ _ _ (by omega)]; exact h0) (by rw [mi_sM, u2_ne _ _ _ (by omega)]; exact h1) x0 x1 (hb.sM (u2_ne _ _ _ (by omega)) (u2_ne _ _ _ (by omega)) (u2_ne _ _ _ (by omega))), alV_sM (u2_ne _ _ _ (by omega)) (u2_ne _ _ _ (by omega)) (u2_ne _ _ _ (by omega))]
    rw [q_220_6 (d + 1) m _ (w.m _)]
    simp only [mi_sM, u2_at]
    rw [df (by omega), e1 _ (by omega) (by omega)]
    simp only [zb, bI_s]
    rw [q_220_21 (d + 1) m _ _ (w.m _)]
    simp only [mi_sM, u2_at]
    rw [e1 _ (by omega) (by omega)]
    unfold bdN
    by_cases c : alV h ((k + 1 : Nat) : Int) ≤ m
    · rw [dt c, if_pos c]
      simp only [zb, bI_s]
      rw [q_220_46]
    · rw [df c, if_neg c, is_ (by omega) (by omega)]
      have e2 : ((k + 1 : Nat) : Int) - 1 = (k : Int) := by omega
      simp only [zb, sI_sM, u2_u2, e2]
      exact l_220a w h0 h1 hb d m k (by omega)
/-- a cell once it is built -/
def buG (b g x : Int) : Int := if 99 < x then x else min 99 (x + g * ptV x g b)
theorem mulb {g p B C : Int} (g0 : 0 ≤ g) (g1 : g ≤ B) (p0 : 0 ≤ p) (p1 : p ≤ C) : 0 ≤ g * p ∧ g * p ≤ B * C := ⟨Int.mul_nonneg g0 p0, Int.mul_le_mul g1 p1 p0 (by omega)⟩
theorem l_220b {h : HP} {M : MM} (w : RSk h) {n b : Int} (hn : M 147 0 = n) (h10 : n ≤ 10) (hB : M 145 51 = b) (b0 : 0 ≤ b) (b1 : b ≤ 99) (d : Nat) (m nn : Int) (hG : ∀ j : Int, 0 ≤ j → j < n → 0 ≤ M 179 j.toNat ∧ M 179 j.toNat ≤ 9) : ∀ (k : Nat) (i : Int) (f : Nat → Int), (n - i).toNat = k → 0 ≤ i → i ≤ n → (∀ j : Int, 0 ≤ j → j < n → 0 ≤ f j.toNat ∧ f j.toNat ≤ 1000) → run (d + 1) md_220 49 [vr 145, vi m, vi nn, vi i] [] (sM h (va_up M 176 f)) = some (vi nn, sM h (va_up M 176 (rowF (fun i x => buG b (M 179 i.toNat) x) k i f)))
  | 0, i, f, h1, h2, h3, h4 => by
    rw [q_220_49 d m nn i (sM h (va_up M 176 f)) w]
    simp (disch := first | assumption | omega) only [mi_sM, sI_sM, sRi_sM, isK_sM, inb_sM, ln_sM, mr_sM, ml_sM, dt, df, ia, is_, zb, bI_s, bV_s, bR_s, up_ne, hn]
    rfl
  | k + 1, i, f, h1, h2, h3, h4 => by
    rw [q_220_49 d m nn i (sM h (va_up M 176 f)) w]
    have fb := h4 i h2 (by omega)
    have gb := hG i h2 (by omega)
    have pb := ptV_b (x := f i.toNat) (g := M 179 i.toNat) (th := b) (by omega) (by omega) b1
    have mb := mulb gb.1 gb.2 pb.1 pb.2
    have key : ∀ v, 0 ≤ v ∧ v ≤ 1000 → run (d + 1) md_220 49 [vr 145, vi m, vi nn, vi (i + 1)] [] (sM h (va_up M 176 (va_up f i.toNat v))) = some (vi nn, sM h (va_up M 176 (rowF (fun i x => buG b (M 179 i.toNat) x) k (i + 1) (va_up f i.toNat v)))) := fun v hv => l_220b w hn h10 hB b0 b1 d m nn hG k (i + 1) _ (by omega) (by omega) (by omega) (fun j j0 j1 => by
      rw [up_if]; split
      · exact hv
      · exact h4 j j0 j1)
    have e1 : ev d 218 [vr 145, vi i, vi b] (sM h (va_up M 176 f)) = some (vi (ptV (f i.toNat) (M 179 i.toNat) b), sM h (va_up M 176 f)) := by
      rw [m_218 d i b (sM h (va_up M 176 f)) w h2 (by omega) (by omega) (by omega) (by rw [mi_sM, up_eq]; omega) (by rw [mi_sM, up_eq]; omega) (by rw [mi_sM, up_ne _ _ (by omega)]; omega) (by rw [mi_sM, up_ne _ _ (by omega)]; omega), mi_sM, up_eq, up_ne _ _ (show (179 : Nat) ≠ 176 by omega)]
    simp (disch := first | assumption | omega) only [mi_sM, sI_sM, sRi_sM, isK_sM, inb_sM, ln_sM, mr_sM, ml_sM, dt, df, ia, is_, zb, bI_s, bV_s, bR_s, up_ne, up_eq, hn, hB, up2_row]
    show _ = some (vi nn, sM h (va_up M 176 (rowF (fun i x => buG b (M 179 i.toNat) x) k (i + 1) (va_up f i.toNat (buG b (M 179 i.toNat) (f i.toNat))))))
    unfold buG
    by_cases k1 : f i.toNat ≤ 99
    · rw [dt k1, if_neg (by omega), e1]
      simp only [zb, bI_s]
      rw [q_220_107 d m nn i _ _ _ _ _ (sM h (va_up M 176 f)) w]
      simp (disch := first | assumption | omega) only [mi_sM, sI_sM, sRi_sM, isK_sM, inb_sM, ln_sM, mr_sM, ml_sM, dt, df, ia, is_, zb, bI_s, bV_s, bR_s, up2_row, im]
      rw [key _ (by omega)]
      rfl
    · rw [df k1, if_pos (by omega), key _ fb]; rfl
def bdV (h : HP) (m : Int) : Int := bdN (alV h) m 99
def buM (h : HP) (m : Int) : MM := va_up (up2 (h_mi h) 145 51 (bdV h m)) 176 (rowF (fun i x => buG (bdV h m) (h_mi h 179 i.toNat) x) (h_mi h 147 0).toNat 0 (h_mi h 176))
theorem m_220 (d : Nat) (m : Int) (h : HP) (w : RSk h) (h0 : 0 ≤ h_mi h 147 0) (h1 : h_mi h 147 0 ≤ 10) (hb : IG h) : ev (d + 2) 220 [vr 145, vi m] h = some (vi (alV h (bdV h m)), sM h (buM h m)) := by
  rw [v_220, q_220_0 (d + 1) m h w]
  have e1 := l_220a w h0 h1 hb d m 99 (by omega)
  have bb' := bdN_b (alV h) m 99
  have e2 := l_220b (h := h) (M := up2 (h_mi h) 145 51 (bdV h m)) w (n := h_mi h 147 0) (b := bdV h m) (by rw [u2_ne _ _ _ (by omega)]) h1 (by rw [u2_at]) bb'.1 bb'.2 (d + 1) m (alV h (bdV h m)) (by rw [u2_ne _ _ _ (show (179 : Nat) ≠ 145 by omega)]; exact fun j j0 j1 => (hb j j0 j1).2) _ 0 (h_mi h 176) rfl (by omega) h0 (fun j j0 j1 => (hb j j0 j1).1)
  rw [Int.sub_zero, u2_ne _ _ _ (show (179 : Nat) ≠ 145 by omega)] at e2
  have e3 : va_up (up2 (h_mi h) 145 51 (bdV h m)) 176 (h_mi h 176) = up2 (h_mi h) 145 51 (bdV h m) := by
    have : h_mi h 176 = up2 (h_mi h) 145 51 (bdV h m) 176 := (u2_ne _ _ _ (by omega)).symm
    rw [this, up_self]
  rw [e3] at e2
  exact e1.trans e2
theorem buM_ag (h : HP) (m : Int) : Ag (fun a => a = 145 ∨ a = 176) (h_mi h) (buM h m) := fun a ha => by
  have ha : ¬ (a = 145 ∨ a = 176) := ha
  unfold buM
  rw [up_ne _ _ (by omega), u2_ne _ _ _ (by omega)]
theorem buM_51 (h : HP) (m : Int) : buM h m 145 51 = bdV h m := by unfold buM; rw [up_ne _ _ (by omega), u2_at]
theorem buM_f (h : HP) (m : Int) {k : Nat} (hk : k ≠ 51) : buM h m 145 k = h_mi h 145 k := by unfold buM; rw [up_ne _ _ (by omega), u2_no _ _ _ hk]
theorem buM_i (h : HP) (m : Int) {j : Int} (j0 : 0 ≤ j) (j1 : j < h_mi h 147 0) : buM h m 176 j.toNat = buG (bdV h m) (h_mi h 179 j.toNat) (h_mi h 176 j.toNat) := by unfold buM; rw [up_eq, rowF_in j0 j1]
