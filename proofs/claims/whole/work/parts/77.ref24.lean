/-! the reference: feed, moves, lays -/
/-- byte j of eight, from the left -/
def fdB (y : Int) (j : Int) : Int := l_2i (l_and (l_ushr y (56 - 8 * j)) 255)
theorem o64 (x : Int64) : Int64.ofInt x.toInt = x := Int64.ofInt_toInt x
theorem o32 (x : Int32) : Int32.ofInt x.toInt = x := Int32.ofInt_toInt x
theorem and_l2i (z : Int) : l_2i (l_and z 255) = i_and (l_2i z) 255 := by
  unfold l_2i l_and i_and
  rw [o64, o32, Int64.toInt32_and]
  rfl
theorem fdB_c (y j : Int) : i_and (l_2i (l_ushr y (56 - 8 * j))) 255 = fdB y j := (and_l2i _).symm
def fdF (x : Int) (s : (Nat → Int) × Int) : (Nat → Int) × Int := if s.2 < 1000 ∧ (x = 10 ∨ (32 ≤ x ∧ x ≤ 126)) then (va_up s.1 s.2.toNat x, s.2 + 1) else s
def fdW (y : Int) (s : (Nat → Int) × Int) : (Nat → Int) × Int := itr (fun j s => fdF (fdB y j) s) 8 0 s
def fdS (a b c : Int) (s : (Nat → Int) × Int) : (Nat → Int) × Int := fdW c (fdW b (fdW a s))
def fdP (a b c k : Int) : Int := if k < 8 then fdB a k else if k < 16 then fdB b (k - 8) else fdB c (k - 16)
theorem fdS_is (a b c : Int) (s : (Nat → Int) × Int) : itr (fun k s => fdF (fdP a b c k) s) 24 0 s = fdS a b c s := by
  rw [show (24 : Nat) = 8 + (8 + 8) from rfl, itr_add, itr_add]
  unfold fdS fdW
  have e1 : ∀ s, itr (fun k s => fdF (fdP a b c k) s) 8 0 s = itr (fun j s => fdF (fdB a j) s) 8 0 s := fun s => itr_congr (lo := 0) (n := 8) (fun i s h0 h1 => by
    have : fdP a b c i = fdB a i := if_pos h1
    rw [this]) 8 0 s (by omega) (by omega)
  have sh : ∀ (k : Nat) (f g : Int → (Nat → Int) × Int → (Nat → Int) × Int) (i o : Int) (s : (Nat → Int) × Int), (∀ j s, i ≤ j → j < i + k → f (j + o) s = g j s) → itr f k (i + o) s = itr g k i s := by
    intro k
    induction k with
    | zero => intros; rfl
    | succ k ih =>
      intro f g i o s hfg
      show itr f k (i + o + 1) (f (i + o) s) = itr g k (i + 1) (g i s)
      rw [hfg i s (by omega) (by omega), show i + o + 1 = i + 1 + o by omega]
      exact ih f g (i + 1) o _ (fun j s j0 j1 => hfg j s (by omega) (by omega))
  rw [e1]
  have e2 : ∀ s, itr (fun k s => fdF (fdP a b c k) s) 8 (0 + ((8 : Nat) : Int)) s = itr (fun j s => fdF (fdB b j) s) 8 0 s := fun s => sh 8 _ _ 0 8 s (fun j s j0 j1 => by
    have : fdP a b c (j + 8) = fdB b j := by unfold fdP; rw [if_neg (by omega), if_pos (by omega)]; congr 1; omega
    show fdF (fdP a b c (j + 8)) s = _
    rw [this])
  have e3 : ∀ s, itr (fun k s => fdF (fdP a b c k) s) 8 (0 + ((8 : Nat) : Int) + ((8 : Nat) : Int)) s = itr (fun j s => fdF (fdB c j) s) 8 0 s := fun s => sh 8 _ _ 0 16 s (fun j s j0 j1 => by
    have : fdP a b c (j + 16) = fdB c j := by unfold fdP; rw [if_neg (by omega), if_neg (by omega)]; congr 1; omega
    show fdF (fdP a b c (j + 16)) s = _
    rw [this])
  rw [e2, e3]
def fM (M : MM) (s : (Nat → Int) × Int) : MM := up2 (va_up M 146 s.1) 145 1 s.2
theorem fM_146 (M : MM) (s : (Nat → Int) × Int) : fM M s 146 = s.1 := by unfold fM; rw [u2_ne _ _ _ (by omega), up_eq]
theorem fM_1 (M : MM) (s : (Nat → Int) × Int) : fM M s 145 1 = s.2 := by unfold fM; rw [u2_at]
theorem fM_st (M : MM) (s : (Nat → Int) × Int) (k : Nat) (x m : Int) : up2 (up2 (fM M s) 146 k x) 145 1 m = fM M (va_up s.1 k x, m) := by
  unfold fM
  funext a
  by_cases a1 : a = 145
  · subst a1
    rw [u2_eq, u2_ne _ _ _ (by omega), u2_eq, u2_eq, up_ne _ _ (by omega), up_ne _ _ (by omega), up_up]
  · rw [u2_ne _ _ _ a1, u2_ne _ _ _ a1]
    by_cases a2 : a = 146
    · subst a2; rw [u2_eq, u2_ne _ _ _ (by omega), up_eq, up_eq]
    · rw [u2_ne _ _ _ a2, u2_ne _ _ _ a1, up_ne _ _ a2, up_ne _ _ a2]
theorem and7_ck : ((List.range 24).all fun k => decide (i_and (k : Int) 7 = (k : Int) % 8)) = true := by decide +kernel
theorem and7 {k : Int} (k0 : 0 ≤ k) (k1 : k < 24) : i_and k 7 = k % 8 := by
  have := List.all_eq_true.mp and7_ck k.toNat (List.mem_range.mpr (by omega))
  have h := of_decide_eq_true this
  have e : ((k.toNat : Nat) : Int) = k := by omega
  rw [e] at h; exact h
theorem l_150 {h : HP} {M : MM} (w : RSk h) (a b c : Int) (d : Nat) : ∀ (k : Nat) (i : Int) (s : (Nat → Int) × Int) (v8 v10 : AV), (24 - i).toNat = k → 0 ≤ i → i ≤ 24 → 0 ≤ s.2 → s.2 ≤ 1000 → run d md_150 8 [vr 145, vl a, vu, vl b, vu, vl c, vu, vi i, v8, vu, v10] [] (sM h (fM M s)) = some (vi (itr (fun k s => fdF (fdP a b c k) s) k i s).2, sM h (fM M (itr (fun k s => fdF (fdP a b c k) s) k i s)))
  | 0, i, s, v8, v10, h1, h2, h3, s0, s1 => by
    rw [q_150_8 d a b c i v8 v10 _ (w.m _), dt (by omega), mi_sM, fM_1]; rfl
  | k + 1, i, s, v8, v10, h1, h2, h3, s0, s1 => by
    have stp : ∀ (y : Int) (v8 v10 : AV), fdB y (i % 8) = fdP a b c i → run d md_150 39 [vr 145, vl a, vu, vl b, vu, vl c, vu, vi i, v8, vu, v10] [vl y] (sM h (fM M s)) = some (vi (itr (fun k s => fdF (fdP a b c k) s) k (i + 1) (fdF (fdP a b c i) s)).2, sM h (fM M (itr (fun k s => fdF (fdP a b c k) s) k (i + 1) (fdF (fdP a b c i) s)))) := fun y v8 v10 hy => by
      rw [q_150_39 d a b c i v8 v10 y _ (w.m _), mi_sM, fM_1, and7 h2 (by omega), im (by omega) (by omega), is_ (by omega) (by omega)]
      have hx : l_2i (l_and (l_ushr y (56 - 8 * (i % 8))) 255) = fdP a b c i := hy
      rw [hx]
      generalize fdP a b c i = x
      simp (disch := omega) only [mi_sM, sI_sM, sRi_sM, isK_sM, inb_sM, ln_sM, mr_sM, ml_sM, dt, df, ia, is_, zb, bI_s, bV_s, bR_s]
      simp only [fM_st]
      by_cases c1 : 1000 ≤ s.2
      · have e : fdF x s = s := if_neg (by omega)
        rw [dt c1, e]
        exact l_150 w a b c d k (i + 1) s _ _ (by omega) (by omega) (by omega) s0 s1
      · have yes : (x = 10 ∨ (32 ≤ x ∧ x ≤ 126)) → ∀ v8 v10 : AV, (bif decide (s.2 < 1000) then run d md_150 8 [vr 145, vl a, vu, vl b, vu, vl c, vu, vi (i + 1), v8, vu, v10] [] (sM h (fM M (va_up s.1 s.2.toNat x, s.2 + 1))) else none) = some (vi (itr (fun k s => fdF (fdP a b c k) s) k (i + 1) (fdF x s)).2, sM h (fM M (itr (fun k s => fdF (fdP a b c k) s) k (i + 1) (fdF x s)))) := fun hx v8 v10 => by
          have e : fdF x s = (va_up s.1 s.2.toNat x, s.2 + 1) := if_pos ⟨by omega, hx⟩
          rw [dt (show s.2 < 1000 by omega), e]
          exact l_150 w a b c d k (i + 1) (va_up s.1 s.2.toNat x, s.2 + 1) v8 v10 (by omega) (by omega) (by omega) (by show 0 ≤ s.2 + 1; omega) (by show s.2 + 1 ≤ 1000; omega)
        have nay : ¬ (x = 10 ∨ (32 ≤ x ∧ x ≤ 126)) → ∀ v8 v10 : AV, run d md_150 8 [vr 145, vl a, vu, vl b, vu, vl c, vu, vi (i + 1), v8, vu, v10] [] (sM h (fM M s)) = some (vi (itr (fun k s => fdF (fdP a b c k) s) k (i + 1) (fdF x s)).2, sM h (fM M (itr (fun k s => fdF (fdP a b c k) s) k (i + 1) (fdF x s)))) := fun hx v8 v10 => by
          have e : fdF x s = s := if_neg (fun z => hx z.2)
          rw [e]
          exact l_150 w a b c d k (i + 1) s v8 v10 (by omega) (by omega) (by omega) s0 s1
        rw [df c1]
        by_cases c2 : x = 10
        · rw [dt c2]; exact yes (Or.inl c2) _ _
        · rw [df c2]
          by_cases c3 : x < 32
          · rw [dt c3]; exact nay (by omega) _ _
          · rw [df c3]
            by_cases c4 : 126 < x
            · rw [dt c4]; exact nay (by omega) _ _
            · rw [df c4]; exact yes (by omega) _ _
    rw [q_150_8 d a b c i v8 v10 _ (w.m _), df (by omega)]
    show _ = some (vi (itr (fun k s => fdF (fdP a b c k) s) k (i + 1) (fdF (fdP a b c i) s)).2, sM h (fM M (itr (fun k s => fdF (fdP a b c k) s) k (i + 1) (fdF (fdP a b c i) s))))
    by_cases c1 : i < 8
    · rw [df (show ¬ 8 ≤ i by omega)]
      exact stp a v8 v10 (by unfold fdP; rw [if_pos c1]; congr 1; omega)
    · rw [dt (show 8 ≤ i by omega)]
      by_cases c2 : i < 16
      · rw [df (show ¬ 16 ≤ i by omega)]
        exact stp b v8 v10 (by unfold fdP; rw [if_neg c1, if_pos c2]; congr 1; omega)
      · rw [dt (show 16 ≤ i by omega)]
        exact stp c v8 v10 (by unfold fdP; rw [if_neg c1, if_neg c2]; congr 1; omega)
theorem fM_self (M : MM) : fM M (M 146, M 145 1) = M := by
  unfold fM
  rw [up_self, up2_def, up_self, up_self]
def feedV (M : MM) (a b c : Int) : Int := (fdS a b c (M 146, M 145 1)).2
def feedD (M : MM) (a b c : Int) : MM := fM M (fdS a b c (M 146, M 145 1))
theorem r_feed (d : Nat) (a b c : Int) (h : HP) (w : RSk h) (t0 : 0 ≤ h_mi h 145 1) (t1 : h_mi h 145 1 ≤ 1000) : ∃ N, ev d 150 [vr 145, vl a, vl b, vl c] h = some (vi (feedV (h_mi h) a b c), sM h N) ∧ QA (feedD (h_mi h) a b c) N := by
  have e1 : (up2 (h_mi h) 145 0 0) 145 1 = h_mi h 145 1 := u2_no _ _ _ (by omega)
  have e2 : (up2 (h_mi h) 145 0 0) 146 = h_mi h 146 := u2_ne _ _ _ (by omega)
  rw [v_150, q_150_0 d a b c h w, sI_h]
  have l := l_150 (h := h) (M := up2 (h_mi h) 145 0 0) w a b c d _ 0 ((up2 (h_mi h) 145 0 0) 146, (up2 (h_mi h) 145 0 0) 145 1) vu vu rfl (by omega) (by omega) (by show 0 ≤ (up2 (h_mi h) 145 0 0) 145 1; omega) (by show (up2 (h_mi h) 145 0 0) 145 1 ≤ 1000; omega)
  rw [fM_self, e1, e2, show ((24 : Int) - 0).toNat = 24 from rfl, fdS_is] at l
  refine ⟨_, l, fun x hx => ?_, ?_, ?_⟩
  · have hx' : ¬ (x = 145 ∨ (160 ≤ x ∧ x ≤ 171) ∨ x = 173 ∨ (176 ≤ x ∧ x ≤ 179)) := hx
    unfold feedD fM
    rw [u2_ne _ _ _ (show x ≠ 145 by omega), u2_ne _ _ _ (show x ≠ 145 by omega)]
    by_cases x1 : x = 146
    · subst x1; rw [up_eq, up_eq]
    · rw [up_ne _ _ x1, up_ne _ _ x1, u2_ne _ _ _ (show x ≠ 145 by omega)]
  · unfold feedD; rw [fM_1, fM_1]
  · unfold feedD fM; rw [u2_no _ _ _ (by omega), u2_no _ _ _ (by omega), up_ne _ _ (by omega), up_ne _ _ (by omega), u2_no _ _ _ (by omega)]
/-- a segment of n moved from place r to place q -/
def mvR (f : Nat → Int) (n r q : Nat) : Nat → Int := fun j => if n * q ≤ j ∧ j < n * q + n then f (n * r + (j - n * q)) else f j
theorem l_180 {h : HP} {M : MM} {a : Nat} (k0 : isK h a 11 = true) {n r q : Nat} (hn : n ≤ 1000) (hr : r ≤ 5) (hq : q ≤ 5) (hne : r ≠ q) (x1 : n * r + n ≤ h_ln h a) (x2 : n * q + n ≤ h_ln h a) (d : Nat) (f0 : Nat → Int) : ∀ (k : Nat) (i : Nat) (f : Nat → Int), n - i = k → i ≤ n → (∀ j, f j = if n * q ≤ j ∧ j < n * q + i then f0 (n * r + (j - n * q)) else f0 j) → run d md_180 3 [vr a, vi n, vi r, vi q, vi i] [] (sM h (va_up M a f)) = some (vr 0, sM h (va_up M a (mvR f0 n r q)))
  | 0, i, f, h1, h2, hf => by
    have : i = n := by omega
    subst this
    have e : f = mvR f0 i r q := by funext j; rw [hf j]; rfl
    rw [q_180_3 d a i r q i _, dt (by omega), e]; rfl
  | k + 1, i, f, h1, h2, hf => by
    have m1 : n * r ≤ 5000 := Nat.le_trans (Nat.mul_le_mul hn hr) (by omega)
    have m2 : n * q ≤ 5000 := Nat.le_trans (Nat.mul_le_mul hn hq) (by omega)
    have c1 : ((n : Int) * (r : Int)) = ((n * r : Nat) : Int) := (Int.natCast_mul n r).symm
    have c2 : ((n : Int) * (q : Int)) = ((n * q : Nat) : Int) := (Int.natCast_mul n q).symm
    have dis : n * r + n ≤ n * q ∨ n * q + n ≤ n * r := by
      rcases Nat.lt_or_gt_of_ne hne with z | z
      · left
        have := Nat.mul_le_mul_left n (show r + 1 ≤ q by omega)
        rw [Nat.mul_add, Nat.mul_one] at this
        exact this
      · right
        have := Nat.mul_le_mul_left n (show q + 1 ≤ r by omega)
        rw [Nat.mul_add, Nat.mul_one] at this
        exact this
    have i1 : inb (sM h (va_up M a f)) a (((n * r : Nat) : Int) + (i : Int)) = true := by
      rw [inb_sM]; unfold inb; rw [dt (show 0 ≤ ((n * r : Nat) : Int) + (i : Int) by omega), dt (by omega)]; rfl
    have i2 : inb (sM h (va_up M a f)) a (((n * q : Nat) : Int) + (i : Int)) = true := by
      rw [inb_sM]; unfold inb; rw [dt (show 0 ≤ ((n * q : Nat) : Int) + (i : Int) by omega), dt (by omega)]; rfl
    rw [q_180_3 d a n r q i _, df (by omega), im (by omega) (by omega), im (by omega) (by omega), c1, c2, ia (by omega) (by omega), ia (by omega) (by omega), ia (by omega) (by omega), isK_sM, k0, i1, i2, mi_sM, sI_sM, up_eq, up2_row]
    have t1 : (((n * r : Nat) : Int) + (i : Int)).toNat = n * r + i := by omega
    have t2 : (((n * q : Nat) : Int) + (i : Int)).toNat = n * q + i := by omega
    rw [t1, t2]
    have key := l_180 (M := M) k0 hn hr hq hne x1 x2 d f0 k (i + 1) (va_up f (n * q + i) (f (n * r + i))) (by omega) (by omega) (fun j => by
      have fr : f (n * r + i) = f0 (n * r + i) := by rw [hf, if_neg (by omega)]
      rw [fr]
      by_cases z : j = n * q + i
      · rw [z, up_eq, if_pos (by omega)]
        congr 1; omega
      · rw [up_ne _ _ z, hf j]
        by_cases z2 : n * q ≤ j ∧ j < n * q + i
        · rw [if_pos z2, if_pos (by omega)]
        · rw [if_neg z2, if_neg (by omega)])
    have ei : ((i + 1 : Nat) : Int) = (i : Int) + 1 := by omega
    rw [ei] at key
    exact key
theorem m_180 (d : Nat) {a : Nat} (n r q : Nat) (h : HP) (k0 : isK h a 11 = true) (hn : n ≤ 1000) (hr : r ≤ 5) (hq : q ≤ 5) (hne : r ≠ q) (x1 : n * r + n ≤ h_ln h a) (x2 : n * q + n ≤ h_ln h a) : ev d 180 [vr a, vi n, vi r, vi q] h = some (vr 0, sM h (va_up (h_mi h) a (mvR (h_mi h a) n r q))) := by
  have l := l_180 (h := h) (M := h_mi h) (a := a) k0 hn hr hq hne x1 x2 d (h_mi h a) n 0 (h_mi h a) (by omega) (by omega) (fun j => by rw [if_neg (by omega)])
  rw [up_self, sM_self] at l
  rw [v_180, q_180_0]
  exact l
