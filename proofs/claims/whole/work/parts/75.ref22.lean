/-! the reference: keeps, leads, pour -/
def shR (U : Nat → Int) (k : Nat) (i : Int) (f : Nat → Int) : Nat → Int := itr (fun i f => va_up f i.toNat (f (i + 144).toNat)) k i f
theorem shR_at : ∀ (k : Nat) (i : Int) (f : Nat → Int), 0 ≤ i → ∀ j : Nat, shR f k i f j = if i ≤ (j : Int) ∧ (j : Int) < i + k then f (j + 144) else f j := by
  have key : ∀ (k : Nat) (i : Int) (f : Nat → Int), 0 ≤ i → ∀ j : Nat, itr (fun i (f : Nat → Int) => va_up f i.toNat (f (i + 144).toNat)) k i f j = if i ≤ (j : Int) ∧ (j : Int) < i + k then f (j + 144) else f j := by
    intro k
    induction k with
    | zero => intro i f h0 j; rw [if_neg (by omega)]; rfl
    | succ k ih =>
      intro i f h0 j
      show itr _ k (i + 1) (va_up f i.toNat (f (i + 144).toNat)) j = _
      rw [ih (i + 1) _ (by omega) j]
      have e : (i + 144).toNat = i.toNat + 144 := by omega
      by_cases c : i + 1 ≤ (j : Int) ∧ (j : Int) < i + 1 + k
      · rw [if_pos c, if_pos (by omega), up_ne _ _ (by omega)]
      · rw [if_neg c]
        by_cases c2 : j = i.toNat
        · rw [if_pos (by omega), c2, up_eq, e]
        · rw [if_neg (by omega), up_ne _ _ c2]
  intro k i f h0 j
  exact key k i f h0 j
theorem VM.ag2 {M N : MM} {E : EE} (h : VM M E) (g : ∀ a, a ≠ 145 → a ≠ 175 → N a = M a) : VM N E := by
  have fb := h.1
  have sb := h.2.1
  refine ⟨?_, ?_, fun l hl => ⟨(h.2.2 l hl).1.ag (g _ (by omega) (by omega)) (g _ (by omega) (by omega)) (g _ (by omega) (by omega)), (h.2.2 l hl).2⟩⟩
  · unfold FB at fb ⊢
    rw [g 147 (by omega) (by omega), g 148 (by omega) (by omega), g 149 (by omega) (by omega), g 151 (by omega) (by omega), g 152 (by omega) (by omega), g 153 (by omega) (by omega), g 154 (by omega) (by omega), g 155 (by omega) (by omega), g 156 (by omega) (by omega)]
    exact fb
  · unfold SB at sb ⊢
    rw [g 148 (by omega) (by omega), g 172 (by omega) (by omega)]
    exact sb
/-- what is laid aside: one row more, the oldest of twenty gone -/
def kpN (M : MM) : Int := if M 145 44 = 20 then 20 else M 145 44 + 1
def kpU (M : MM) : Nat → Int := fun j => if 144 * (kpN M - 1) ≤ (j : Int) ∧ (j : Int) < 144 * kpN M then M 172 ((j : Int) - 144 * (kpN M - 1)).toNat else if M 145 44 = 20 ∧ j < 2736 then M 175 (j + 144) else M 175 j
def kpM (M : MM) : MM := up2 (va_up M 175 (kpU M)) 145 44 (kpN M)
theorem l_199 {h : HP} {M : MM} (w : RSk h) (d : Nat) : ∀ (k : Nat) (i : Int) (f : Nat → Int), (2736 - i).toNat = k → 0 ≤ i → i ≤ 2736 → run (d + 1) md_199 11 [vr 145, vi i] [] (sM h (va_up M 175 f)) = run (d + 1) md_199 11 [vr 145, vi 2736] [] (sM h (va_up M 175 (itr (fun i f => va_up f i.toNat (f (i + 144).toNat)) k i f)))
  | 0, i, f, h1, h2, h3 => by
    have : i = 2736 := by omega
    subst this; rfl
  | k + 1, i, f, h1, h2, h3 => by
    rw [q_199_11 d i _ (w.m _)]
    simp (disch := omega) only [mi_sM, sI_sM, sRi_sM, isK_sM, inb_sM, ln_sM, mr_sM, ml_sM, dt, df, ia, is_, zb, bI_s, bV_s, bR_s, up_eq, up2_row]
    exact l_199 w d k (i + 1) _ (by omega) (by omega) (by omega)
theorem m_199 (d : Nat) (h : HP) (w : RSk h) (d0 : 0 ≤ h_mi h 145 44) (d1 : h_mi h 145 44 ≤ 20) : ev (d + 1) 199 [vr 145] h = some (vr 0, sM h (kpM (h_mi h))) := by
  have k172 := k_172 w
  have k175 := k_175 w
  have n172 := n_172 w
  have n175 := n_175 w
  have cp : ∀ (P : MM) (x : Int), 0 ≤ x → x ≤ 19 → P 172 = h_mi h 172 → ev d 182 [vr 172, vi 0, vr 175, vi (144 * x)] (sM h P) = some (vr 0, sM h (va_up P 175 (cpR (h_mi h 172) 0 (144 * x) 144 0 (P 175)))) := fun P x x0 x1 hP => by
    rw [m_182 d (a0 := 172) (a2 := 175) 0 (144 * x) (sM h P) k172 k175 (by omega) (by omega) (by rw [ln_sM, n172]; omega) (by omega) (by rw [ln_sM, n175]; omega) (by rw [ln_sM, n172]; omega) (by rw [ln_sM, n175]; omega), mi_sM, hP, sM_sM]
  rw [v_199, q_199_0 d h w]
  unfold kpM kpN
  by_cases c : h_mi h 145 44 = 20
  · rw [df (show ¬ h_mi h 145 44 ≠ 20 by omega)]
    have e1 := l_199 (h := h) (M := h_mi h) w d _ 0 (h_mi h 175) rfl (by omega) (by omega)
    rw [up_self, sM_self] at e1
    generalize hK : ((2736 : Int) - 0).toNat = K at e1
    simp only [zb]
    rw [e1, q_199_11 d 2736 _ (w.m _), dt (by omega), mi_sM, up_ne _ _ (show (145 : Nat) ≠ 175 by omega), c, is_ (by omega) (by omega), show (20 : Int) - 1 = 19 from rfl, sI_sM]
    simp only [zb]
    generalize hP : up2 (va_up (h_mi h) 175 (itr (fun i f => va_up f i.toNat (f (i + 144).toNat)) K 0 (h_mi h 175))) 145 44 19 = P
    have p175 : P 175 = itr (fun i f => va_up f i.toNat (f (i + 144).toNat)) K 0 (h_mi h 175) := by rw [← hP, u2_ne _ _ _ (by omega), up_eq]
    rw [im (by omega) (by omega), cp P 19 (by omega) (by omega) (by rw [← hP, u2_ne _ _ _ (by omega), up_ne _ _ (by omega)]), bV_s, q_199_70 d _ _ (w.m _), mi_sM, up_ne _ _ (show (145 : Nat) ≠ 175 by omega)]
    have p44 : P 145 44 = 19 := by rw [← hP, u2_at]
    rw [p44, ia (by omega) (by omega), sI_sM, if_pos trivial]
    have ef : cpR (h_mi h 172) 0 (144 * 19) 144 0 (P 175) = kpU (h_mi h) := by
      funext j
      rw [cpR_at _ (by omega) (by omega) 144 0 _ (by omega) j, p175]
      have sa := shR_at K 0 (h_mi h 175) (by omega) j
      have sa : itr (fun i f => va_up f i.toNat (f (i + 144).toNat)) K 0 (h_mi h 175) j = _ := sa
      rw [sa]
      unfold kpU kpN
      rw [if_pos c]
      by_cases z : 144 * 19 + 0 ≤ (j : Int) ∧ (j : Int) < 144 * 19 + 0 + ((144 : Nat) : Int)
      · rw [if_pos z, if_pos (show 144 * ((20 : Int) - 1) ≤ (j : Int) ∧ (j : Int) < 144 * 20 by omega)]
        have : (0 + (j : Int) - 144 * 19).toNat = ((j : Int) - 144 * (20 - 1)).toNat := by omega
        rw [this]
      · rw [if_neg z, if_neg (show ¬ (144 * ((20 : Int) - 1) ≤ (j : Int) ∧ (j : Int) < 144 * 20) from fun y => z (by omega))]
        by_cases z2 : j < 2736
        · rw [if_pos (show (0 : Int) ≤ (j : Int) ∧ (j : Int) < 0 + (K : Int) by omega), if_pos ⟨c, z2⟩]
        · rw [if_neg (show ¬ ((0 : Int) ≤ (j : Int) ∧ (j : Int) < 0 + (K : Int)) by omega), if_neg (fun y => z2 y.2)]
    rw [ef]
    have em : up2 (va_up P 175 (kpU (h_mi h))) 145 44 (19 + 1) = up2 (va_up (h_mi h) 175 (kpU (h_mi h))) 145 44 20 := by
      funext a
      by_cases a1 : a = 145
      · subst a1
        rw [u2_eq, u2_eq, up_ne _ _ (by omega), ← hP, u2_eq, up_ne _ _ (by omega), up_up, up_ne _ _ (by omega)]
        rfl
      · rw [u2_ne _ _ _ a1, u2_ne _ _ _ a1]
        by_cases a2 : a = 175
        · subst a2; rw [up_eq, up_eq]
        · rw [up_ne _ _ a2, ← hP, u2_ne _ _ _ a1, up_ne _ _ a2, up_ne _ _ a2]
    rw [em]
  · have cp0 := cp (h_mi h) (h_mi h 145 44) d0 (by omega) rfl
    rw [sM_self] at cp0
    rw [dt c, im (by omega) (by omega), cp0]
    simp only [zb, bV_s]
    rw [q_199_70 d _ _ (w.m _), mi_sM, up_ne _ _ (show (145 : Nat) ≠ 175 by omega), ia (by omega) (by omega), sI_sM, if_neg c]
    have ef : cpR (h_mi h 172) 0 (144 * h_mi h 145 44) 144 0 (h_mi h 175) = kpU (h_mi h) := by
      funext j
      rw [cpR_at _ (by omega) (by omega) 144 0 _ (by omega) j]
      unfold kpU kpN
      rw [if_neg c]
      by_cases z : 144 * h_mi h 145 44 + 0 ≤ (j : Int) ∧ (j : Int) < 144 * h_mi h 145 44 + 0 + ((144 : Nat) : Int)
      · rw [if_pos z, if_pos (by omega)]
        congr 2; omega
      · rw [if_neg z, if_neg (by omega), if_neg (fun y => c y.1)]
    rw [ef]
/-- from one column to another all are rocks or have ice -/
def leF (M : MM) (y : Int) (k : Int) (_ : Unit) : Int ⊕ Unit := if M 148 (10 * y + k).toNat = 1 ∨ M 172 (10 * y + k).toNat ≠ 0 then .inr () else .inl 0
theorem l_200 {h : HP} (w : RSk h) {y to : Int} (y0 : 0 ≤ y) (y1 : y < 6) (t1 : to ≤ 10) (p x f : Int) (d : Nat) : ∀ (k : Nat) (i : Int), (to - i).toNat = k → 0 ≤ i → run d md_200 43 [vr 145, vi p, vi x, vi y, vi f, vi to, vi i] [] h = some (vi (ends (itx (leF (h_mi h) y) k i ())), h)
  | 0, i, h1, h2 => by
    rw [q_200_43 d p x y f to i h w, dt (by omega)]; rfl
  | k + 1, i, h1, h2 => by
    rw [q_200_43 d p x y f to i h w]
    simp (disch := omega) only [mi_sM, sI_sM, sRi_sM, isK_sM, inb_sM, ln_sM, mr_sM, ml_sM, dt, df, ia, is_, zb, bI_s, bV_s, bR_s, im]
    by_cases c1 : h_mi h 148 (10 * y + i).toNat = 1
    · rw [dt c1, itx_r (a2 := ()) (if_pos (Or.inl c1))]
      exact l_200 w y0 y1 t1 p x f d k (i + 1) (by omega) (by omega)
    · rw [df c1]
      by_cases c2 : h_mi h 172 (10 * y + i).toNat = 0
      · rw [df (show ¬ h_mi h 172 (10 * y + i).toNat ≠ 0 by omega), itx_l (b := 0) (if_neg (fun z => z.elim c1 (fun z => z c2)))]
        rfl
      · rw [dt c2, itx_r (a2 := ()) (if_pos (Or.inr c2))]
        exact l_200 w y0 y1 t1 p x f d k (i + 1) (by omega) (by omega)
def ldFrom (M : MM) (p x : Int) : Int := if M 151 p.toNat = 0 then 0 else x + 1
def ldTo (M : MM) (p x : Int) : Int := if M 151 p.toNat = 0 then x else M 147 0
def ldV (M : MM) (p x y : Int) : Int := ends (itx (leF M y) (ldTo M p x - ldFrom M p x).toNat (ldFrom M p x) ())
theorem m_200 (d : Nat) (p x y : Int) (h : HP) (w : RSk h) (p0 : 0 ≤ p) (p1 : p < 36) (x0 : 0 ≤ x) (x1 : x < 10) (y0 : 0 ≤ y) (y1 : y < 6) (c1 : h_mi h 147 0 ≤ 10) : ev d 200 [vr 145, vi p, vi x, vi y] h = some (vi (ldV (h_mi h) p x y), h) := by
  rw [v_200, q_200_0 d p x y h w]
  unfold ldV ldFrom ldTo
  simp (disch := omega) only [mi_sM, sI_sM, sRi_sM, isK_sM, inb_sM, ln_sM, mr_sM, ml_sM, dt, df, ia, is_, zb, bI_s, bV_s, bR_s]
  by_cases c : h_mi h 151 p.toNat = 0
  · rw [df (show ¬ h_mi h 151 p.toNat ≠ 0 by omega), if_pos c, if_pos c]
    simp only [zb]
    rw [q_200_16 d p x y 0 h w]
    simp (disch := omega) only [mi_sM, sI_sM, sRi_sM, isK_sM, inb_sM, ln_sM, mr_sM, ml_sM, dt, df, ia, is_, zb, bI_s, bV_s, bR_s]
    exact l_200 w y0 y1 (by omega) p x 0 d _ 0 rfl (by omega)
  · rw [dt c, if_neg c, if_neg c]
    simp only [zb]
    rw [q_200_16 d p x y (x + 1) h w]
    simp (disch := omega) only [mi_sM, sI_sM, sRi_sM, isK_sM, inb_sM, ln_sM, mr_sM, ml_sM, dt, df, ia, is_, zb, bI_s, bV_s, bR_s]
    exact l_200 w y0 y1 c1 p x (x + 1) d _ (x + 1) rfl (by omega)
/-- how far from a pourer's shore -/
def frmV (M : MM) (p x : Int) : Int := if M 151 p.toNat = 0 then x else M 147 0 - 1 - x
def pourOk (M : MM) (p x y : Int) : Prop := (0 ≤ p ∧ p < M 147 2) ∧ (0 ≤ x ∧ x < M 147 0 ∧ 0 ≤ y ∧ y < M 147 1) ∧ M 172 133 ≤ 11 ∧ M 172 (120 + p).toNat ≠ 0 ∧ M 148 (10 * y + x).toNat ≠ 1 ∧ ldV M p x y ≠ 0 ∧ (M 152 p.toNat = 1 → M 172 (10 * y + x).toNat = 0) ∧ (M 152 p.toNat = 2 → frmV M p x ≤ 2)
def poV (M : MM) (E : EE) (p c : Int) : Int := min 99 (M 172 c.toNat + grV M E c (M 172 133) (M 172 134) + if M 152 p.toNat = 3 then 1 else 0)
def poS (M : MM) (E : EE) (p c : Int) : Nat → Int := va_up (va_up (va_up (M 172) c.toNat (poV M E p c)) 135 (i_add (M 172 135) (poV M E p c - M 172 c.toNat))) (120 + p).toNat (M 172 (120 + p).toNat - 1)
def pourD (M : MM) (E : EE) (p c : Int) : MM := va_up (kpM M) 172 (poS M E p c)
theorem kpM_ne (M : MM) {a : Nat} (h1 : a ≠ 145) (h2 : a ≠ 175) : kpM M a = M a := by unfold kpM; rw [u2_ne _ _ _ h1, up_ne _ _ h2]
theorem kpM_f (M : MM) {k : Nat} (h : k ≠ 44) : kpM M 145 k = M 145 k := by unfold kpM; rw [u2_no _ _ _ h, up_ne _ _ (by omega)]
theorem kpM_44 (M : MM) : kpM M 145 44 = kpN M := by unfold kpM; rw [u2_at]
theorem kpM_175 (M : MM) : kpM M 175 = kpU M := by unfold kpM; rw [u2_ne _ _ _ (by omega), up_eq]
theorem r_pour {E : EE} (d : Nat) (p x y : Int) (h : HP) (w : RSk h) (v : VM (h_mi h) E) (d0 : 0 ≤ h_mi h 145 44) (d1 : h_mi h 145 44 ≤ 20) : (pourOk (h_mi h) p x y → ∃ N, ev (d + 7) 201 [vr 145, vi p, vi x, vi y] h = some (vi 1, sM h N) ∧ QA (pourD (h_mi h) E p (10 * y + x)) N) ∧ (¬ pourOk (h_mi h) p x y → ∃ N, ev (d + 7) 201 [vr 145, vi p, vi x, vi y] h = some (vi 0, sM h N) ∧ QA (h_mi h) N) := by
  have q0 : QA (h_mi h) (up2 (h_mi h) 145 0 0) := QA.f 0 0 (by omega) (by omega)
  have e0 : ∀ a, a ≠ 145 → (up2 (h_mi h) 145 0 0) a = h_mi h a := fun a ha => u2_ne _ _ _ ha
  have hc := v.c
  have hr := v.r
  have hp := v.p
  have hh := v.hr
  rw [v_201, q_201_0 (d + 6) p x y h w, sI_h, m_187 _ _ _ (w.m _), mi_sM, e0 147 (by omega), bI_s, q_201_10 (d + 6) p x y _ _ (w.m _), m_186 _ _ _ _ (w.m _), mi_sM, e0 147 (by omega)]
  unfold pourOk
  have no : ∀ {P Q : Prop}, ¬ P → ((P ∧ Q → ∃ N, (some (vi 0, sM h (up2 (h_mi h) 145 0 0)) : Option (AV × HP)) = some (vi 1, sM h N) ∧ QA (pourD (h_mi h) E p (10 * y + x)) N) ∧ (¬ (P ∧ Q) → ∃ N, (some (vi 0, sM h (up2 (h_mi h) 145 0 0)) : Option (AV × HP)) = some (vi 0, sM h N) ∧ QA (h_mi h) N)) := fun hn => ⟨fun z => absurd z.1 hn, fun _ => ⟨_, rfl, q0⟩⟩
  by_cases c1 : 0 ≤ p ∧ p < h_mi h 147 2
  · rw [bb_dt c1]
    simp only [zb, bI_s, c1, true_and, and_true]
    rw [q_201_19 (d + 6) p x y _ _ (w.m _)]
    by_cases c2 : 0 ≤ x ∧ x < h_mi h 147 0 ∧ 0 ≤ y ∧ y < h_mi h 147 1
    · rw [bb_dt c2]
      simp only [zb, bI_s, c2, true_and, and_true]
      rw [mi_sM, e0 172 (by omega), e0 147 (by omega), e0 148 (by omega), e0 151 (by omega)]
      by_cases c3 : h_mi h 172 133 ≤ 11
      · rw [df (show ¬ 11 < h_mi h 172 133 by omega)]
        simp only [c3, true_and]
        simp (disch := omega) only [mi_sM, sI_sM, sRi_sM, isK_sM, inb_sM, ln_sM, mr_sM, ml_sM, dt, df, ia, is_, zb, bI_s, bV_s, bR_s, im]
        by_cases c4 : h_mi h 172 (120 + p).toNat ≠ 0
        · rw [dt c4]
          simp only [zb]
          have hbd : ∀ (X : Option (AV × HP)), X = X := fun _ => rfl
          by_cases c5 : h_mi h 148 (10 * y + x).toNat = 1
          · rw [dt c5]
            simp only [zb, Bool.cond_self]
            exact ⟨fun z => absurd c5 z.2.1, fun _ => ⟨_, rfl, q0⟩⟩
          · rw [df c5]
            have e200 := m_200 (d + 6) p x y (sM h (up2 (h_mi h) 145 0 0)) w c1.1 (by omega) c2.1 (by omega) c2.2.2.1 (by omega) (by rw [mi_sM, e0 147 (by omega)]; omega)
            have eld : ldV (up2 (h_mi h) 145 0 0) p x y = ldV (h_mi h) p x y := by
              unfold ldV ldFrom ldTo
              have : leF (up2 (h_mi h) 145 0 0) y = leF (h_mi h) y := by funext k _; unfold leF; rw [e0 148 (by omega), e0 172 (by omega)]
              rw [this, e0 151 (by omega), e0 147 (by omega)]
            rw [mi_sM, eld] at e200
            rw [e200]
            simp only [zb, bI_s]
            have tail : ∀ fr, fr = frmV (h_mi h) p x → ((h_mi h 172 (120 + p).toNat ≠ 0 ∧ h_mi h 148 (10 * y + x).toNat ≠ 1 ∧ ldV (h_mi h) p x y ≠ 0 ∧ (h_mi h 152 p.toNat = 1 → h_mi h 172 (10 * y + x).toNat = 0) ∧ (h_mi h 152 p.toNat = 2 → frmV (h_mi h) p x ≤ 2) → ∃ N, run (d + 6 + 1) md_201 100 [vr 145, vi p, vi x, vi y, vi (10 * y + x), vi fr, vu] [vi (ldV (h_mi h) p x y)] (sM h (up2 (h_mi h) 145 0 0)) = some (vi 1, sM h N) ∧ QA (pourD (h_mi h) E p (10 * y + x)) N) ∧ (¬ (h_mi h 172 (120 + p).toNat ≠ 0 ∧ h_mi h 148 (10 * y + x).toNat ≠ 1 ∧ ldV (h_mi h) p x y ≠ 0 ∧ (h_mi h 152 p.toNat = 1 → h_mi h 172 (10 * y + x).toNat = 0) ∧ (h_mi h 152 p.toNat = 2 → frmV (h_mi h) p x ≤ 2)) → ∃ N, run (d + 6 + 1) md_201 100 [vr 145, vi p, vi x, vi y, vi (10 * y + x), vi fr, vu] [vi (ldV (h_mi h) p x y)] (sM h (up2 (h_mi h) 145 0 0)) = some (vi 0, sM h N) ∧ QA (h_mi h) N)) := fun fr hfr => by
              subst hfr
              rw [q_201_100 (d + 6) p x y _ _ _ _ (w.m _), mi_sM, e0 172 (by omega), e0 152 (by omega)]
              have cb := (v.s (c := (10 * y + x).toNat) (by omega)).1
              by_cases c6 : ldV (h_mi h) p x y = 0
              · rw [dt c6]
                simp only [zb]
                exact ⟨fun z => absurd c6 z.2.2.1, fun _ => ⟨_, rfl, q0⟩⟩
              · rw [df c6]
                simp (disch := omega) only [mi_sM, sI_sM, sRi_sM, isK_sM, inb_sM, ln_sM, mr_sM, ml_sM, dt, df, ia, is_, zb, bI_s, bV_s, bR_s]
                have fin : (h_mi h 152 p.toNat = 1 → h_mi h 172 (10 * y + x).toNat = 0) → ((h_mi h 172 (120 + p).toNat ≠ 0 ∧ h_mi h 148 (10 * y + x).toNat ≠ 1 ∧ ldV (h_mi h) p x y ≠ 0 ∧ (h_mi h 152 p.toNat = 1 → h_mi h 172 (10 * y + x).toNat = 0) ∧ (h_mi h 152 p.toNat = 2 → frmV (h_mi h) p x ≤ 2) → ∃ N, run (d + 6 + 1) md_201 123 [vr 145, vi p, vi x, vi y, vi (10 * y + x), vi (frmV (h_mi h) p x), vu] [] (sM h (up2 (h_mi h) 145 0 0)) = some (vi 1, sM h N) ∧ QA (pourD (h_mi h) E p (10 * y + x)) N) ∧ (¬ (h_mi h 172 (120 + p).toNat ≠ 0 ∧ h_mi h 148 (10 * y + x).toNat ≠ 1 ∧ ldV (h_mi h) p x y ≠ 0 ∧ (h_mi h 152 p.toNat = 1 → h_mi h 172 (10 * y + x).toNat = 0) ∧ (h_mi h 152 p.toNat = 2 → frmV (h_mi h) p x ≤ 2)) → ∃ N, run (d + 6 + 1) md_201 123 [vr 145, vi p, vi x, vi y, vi (10 * y + x), vi (frmV (h_mi h) p x), vu] [] (sM h (up2 (h_mi h) 145 0 0)) = some (vi 0, sM h N) ∧ QA (h_mi h) N)) := fun c7 => by
                  rw [q_201_123 (d + 6) p x y _ _ _ (w.m _), mi_sM, e0 152 (by omega)]
                  have done : (h_mi h 152 p.toNat = 2 → frmV (h_mi h) p x ≤ 2) → ((h_mi h 172 (120 + p).toNat ≠ 0 ∧ h_mi h 148 (10 * y + x).toNat ≠ 1 ∧ ldV (h_mi h) p x y ≠ 0 ∧ (h_mi h 152 p.toNat = 1 → h_mi h 172 (10 * y + x).toNat = 0) ∧ (h_mi h 152 p.toNat = 2 → frmV (h_mi h) p x ≤ 2) → ∃ N, (bV (ev (d + 6) 199 [vr 145] (sM h (up2 (h_mi h) 145 0 0))) fun h1 => run (d + 6 + 1) md_201 145 [vr 145, vi p, vi x, vi y, vi (10 * y + x), vi (frmV (h_mi h) p x), vu] [] h1) = some (vi 1, sM h N) ∧ QA (pourD (h_mi h) E p (10 * y + x)) N) ∧ (¬ (h_mi h 172 (120 + p).toNat ≠ 0 ∧ h_mi h 148 (10 * y + x).toNat ≠ 1 ∧ ldV (h_mi h) p x y ≠ 0 ∧ (h_mi h 152 p.toNat = 1 → h_mi h 172 (10 * y + x).toNat = 0) ∧ (h_mi h 152 p.toNat = 2 → frmV (h_mi h) p x ≤ 2)) → ∃ N, (bV (ev (d + 6) 199 [vr 145] (sM h (up2 (h_mi h) 145 0 0))) fun h1 => run (d + 6 + 1) md_201 145 [vr 145, vi p, vi x, vi y, vi (10 * y + x), vi (frmV (h_mi h) p x), vu] [] h1) = some (vi 0, sM h N) ∧ QA (h_mi h) N)) := fun c8 => by
                    refine ⟨fun _ => ?_, fun z => absurd ⟨c4, c5, c6, c7, c8⟩ z⟩
                    have n44 : (up2 (h_mi h) 145 0 0) 145 44 = h_mi h 145 44 := u2_no _ _ _ (by omega)
                    rw [m_199 _ _ (w.m _) (by rw [mi_sM, n44]; exact d0) (by rw [mi_sM, n44]; exact d1), bV_s, mi_sM, sM_sM]
                    generalize hN : kpM (up2 (h_mi h) 145 0 0) = N
                    have eN : ∀ a, a ≠ 145 → a ≠ 175 → N a = h_mi h a := fun a a1 a2 => by rw [← hN, kpM_ne _ a1 a2, e0 a a1]
                    have eK : kpN (up2 (h_mi h) 145 0 0) = kpN (h_mi h) := by unfold kpN; rw [n44]
                    have eU : kpU (up2 (h_mi h) 145 0 0) = kpU (h_mi h) := by funext j; unfold kpU; rw [eK, n44, e0 172 (by omega), e0 175 (by omega)]
                    have vN : VM N E := v.ag2 (fun a a1 a2 => eN a a1 a2)
                    obtain ⟨N1, f1, g1⟩ := m_193 (E := E) d (10 * y + x) (sM h N) w vN (by omega) (by omega)
                    rw [mi_sM, eN 172 (by omega) (by omega), grV_ag (eN 149 (by omega) (by omega)) (eN 148 (by omega) (by omega)), sM_sM] at f1
                    rw [mi_sM] at g1
                    have gb := grV_b (h_mi h) E (10 * y + x) (h_mi h 172 133) (h_mi h 172 134)
                    have e1 : ∀ a, a ≠ 145 → a ≠ 175 → ¬ (162 ≤ a ∧ a ≤ 171) → N1 a = h_mi h a := fun a a1 a2 a3 => by rw [g1 a a3, eN a a1 a2]
                    have lf := (v.lf (p := p.toNat) (by omega)).1
                    have ep : (120 + p).toNat = 120 + p.toNat := by omega
                    rw [← ep] at lf
                    rw [q_201_145 (d + 6) p x y _ _ _ (w.m N), mi_sM, eN 172 (by omega) (by omega), f1]
                    simp (disch := omega) only [mi_sM, sI_sM, sRi_sM, isK_sM, inb_sM, ln_sM, mr_sM, ml_sM, dt, df, ia, is_, zb, bI_s, bV_s, bR_s]
                    rw [q_201_170 (d + 6) p x y _ _ _ (10 * y + x) 99 _ _ _ (w.m N1), mi_sM, e1 152 (by omega) (by omega) (by omega)]
                    have last : ∀ sm, sm = (if h_mi h 152 p.toNat = 3 then (1 : Int) else 0) → ∃ N', run (d + 6 + 1) md_201 186 [vr 145, vi p, vi x, vi y, vi (10 * y + x), vi (frmV (h_mi h) p x), vi (h_mi h 172 (10 * y + x).toNat)] [vi sm, vi (i_add (h_mi h 172 (10 * y + x).toNat) (grV (h_mi h) E (10 * y + x) (h_mi h 172 133) (h_mi h 172 134))), vi 99, vi (10 * y + x), vr 172] (sM h N1) = some (vi 1, sM h N') ∧ QA (pourD (h_mi h) E p (10 * y + x)) N' := fun sm hsm => by
                      have sb : 0 ≤ sm ∧ sm ≤ 1 := by rw [hsm]; split <;> omega
                      rw [q_201_186 (d + 6) p x y _ _ _ (10 * y + x) 99 _ _ _ (w.m N1), mi_sM, e1 172 (by omega) (by omega) (by omega)]
                      simp (disch := omega) only [mi_sM, sI_sM, sRi_sM, isK_sM, inb_sM, ln_sM, mr_sM, ml_sM, dt, df, ia, is_, zb, bI_s, bV_s, bR_s, up_eq, up_ne]
                      have ev : min 99 (h_mi h 172 (10 * y + x).toNat + grV (h_mi h) E (10 * y + x) (h_mi h 172 133) (h_mi h 172 134) + sm) = poV (h_mi h) E p (10 * y + x) := by unfold poV; rw [hsm]
                      rw [ev]
                      refine ⟨_, rfl, ?_⟩
                      have er : ∀ a, a ≠ 172 → up2 (up2 (up2 N1 172 (10 * y + x).toNat (poV (h_mi h) E p (10 * y + x))) 172 135 (i_add (h_mi h 172 135) (poV (h_mi h) E p (10 * y + x) - h_mi h 172 (10 * y + x).toNat))) 172 (120 + p).toNat (h_mi h 172 (120 + p).toNat - 1) a = N1 a := fun a ha => by rw [u2_ne _ _ _ ha, u2_ne _ _ _ ha, u2_ne _ _ _ ha]
                      refine ⟨fun a ha => ?_, ?_, ?_⟩
                      · by_cases a1 : a = 172
                        · subst a1
                          rw [u2_eq, u2_eq, u2_eq, e1 172 (by omega) (by omega) (by omega)]
                          unfold pourD
                          rw [up_eq]; rfl
                        · have ha' : ¬ (a = 145 ∨ (160 ≤ a ∧ a ≤ 171) ∨ a = 173 ∨ (176 ≤ a ∧ a ≤ 179)) := ha
                          rw [er a a1, g1 a (by unfold LwA; omega), ← hN]
                          unfold pourD
                          rw [up_ne _ _ a1]
                          by_cases a2 : a = 175
                          · subst a2; rw [kpM_175, kpM_175, eU]
                          · rw [kpM_ne _ (by omega) a2, kpM_ne _ (by omega) a2, e0 a (by omega)]
                      · unfold pourD
                        rw [er 145 (by omega), g1 145 (by unfold LwA; omega), ← hN, up_ne _ _ (by omega), kpM_f _ (by omega), kpM_f _ (by omega), u2_no _ _ _ (by omega)]
                      · unfold pourD
                        rw [er 145 (by omega), g1 145 (by unfold LwA; omega), ← hN, up_ne _ _ (by omega), kpM_44, kpM_44, eK]
                    by_cases c9 : h_mi h 152 p.toNat = 3
                    · rw [dt c1.1, dt (show p < 36 by omega), df (show ¬ h_mi h 152 p.toNat ≠ 3 by omega)]
                      exact last 1 (by rw [if_pos c9])
                    · rw [dt c1.1, dt (show p < 36 by omega), dt c9]
                      exact last 0 (by rw [if_neg c9])
                  simp (disch := omega) only [mi_sM, sI_sM, sRi_sM, isK_sM, inb_sM, ln_sM, mr_sM, ml_sM, dt, df, ia, is_, zb, bI_s, bV_s, bR_s]
                  by_cases c8 : h_mi h 152 p.toNat = 2
                  · rw [df (show ¬ h_mi h 152 p.toNat ≠ 2 by omega)]
                    by_cases c9 : frmV (h_mi h) p x ≤ 2
                    · rw [dt c9]
                      exact done (fun _ => c9)
                    · rw [df c9]
                      exact ⟨fun z => absurd (z.2.2.2.2 c8) c9, fun _ => ⟨_, rfl, q0⟩⟩
                  · rw [dt c8]
                    exact done (fun z => absurd z c8)
                by_cases c7 : h_mi h 152 p.toNat = 1
                · rw [df (show ¬ h_mi h 152 p.toNat ≠ 1 by omega)]
                  by_cases c8 : 0 < h_mi h 172 (10 * y + x).toNat
                  · rw [dt c8]
                    exact ⟨fun z => absurd (z.2.2.2.1 c7) (by omega), fun _ => ⟨_, rfl, q0⟩⟩
                  · rw [df c8]
                    exact fin (fun _ => by omega)
                · rw [dt c7]
                  exact fin (fun z => absurd z c7)
            by_cases cs : h_mi h 151 p.toNat = 0
            · rw [df (show ¬ h_mi h 151 p.toNat ≠ 0 by omega)]
              exact tail x (by unfold frmV; rw [if_pos cs])
            · rw [dt cs]
              exact tail (h_mi h 147 0 - 1 - x) (by unfold frmV; rw [if_neg cs])
        · rw [df c4]
          exact no c4
      · rw [dt (show 11 < h_mi h 172 133 by omega)]
        exact no c3
    · rw [bb_df c2]
      exact no c2
  · rw [bb_df c1]
    exact no c1
