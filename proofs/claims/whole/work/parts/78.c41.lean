/-! tokens; the reference takes one -/
def spn (Q : Nat → Bool) : Nat → Nat → Nat
  | 0, p => p
  | k + 1, p => bif Q p then spn Q k (p + 1) else p
theorem spn_b (Q : Nat → Bool) : ∀ k p, p ≤ spn Q k p ∧ spn Q k p ≤ p + k
  | 0, p => ⟨Nat.le_refl _, Nat.le_refl _⟩
  | k + 1, p => by
    show p ≤ (bif Q p then spn Q k (p + 1) else p) ∧ (bif Q p then spn Q k (p + 1) else p) ≤ p + (k + 1)
    have := spn_b Q k (p + 1)
    cases Q p
    · show p ≤ p ∧ p ≤ _; omega
    · show p ≤ spn Q k (p + 1) ∧ spn Q k (p + 1) ≤ _; omega
theorem spn_in (Q : Nat → Bool) : ∀ k p j, p ≤ j → j < spn Q k p → Q j = true
  | 0, p, j, h1, h2 => by have h2 : j < p := h2; omega
  | k + 1, p, j, h1, h2 => by
    have h2 : j < (bif Q p then spn Q k (p + 1) else p) := h2
    cases e : Q p with
    | false => rw [e] at h2; have h2 : j < p := h2; omega
    | true =>
      rw [e] at h2
      have h2 : j < spn Q k (p + 1) := h2
      by_cases z : j = p
      · rw [z]; exact e
      · exact spn_in Q k (p + 1) j (by omega) h2
theorem spn_out (Q : Nat → Bool) {n : Nat} (hQ : ∀ j, n ≤ j → Q j = false) : ∀ k p, p + k = n → Q (spn Q k p) = false
  | 0, p, h => hQ p (by omega)
  | k + 1, p, h => by
    show Q (bif Q p then spn Q k (p + 1) else p) = false
    cases e : Q p with
    | false => exact e
    | true => exact spn_out Q hQ k (p + 1) (by omega)
def qS (f : Nat → Int) (n : Nat) : Nat → Bool := fun p => decide (p < n) && (decide (f p = 32) || decide (f p = 10))
def qL (f : Nat → Int) (n : Nat) : Nat → Bool := fun p => decide (p < n) && (decide (97 ≤ f p) && decide (f p ≤ 122))
def qD (f : Nat → Int) (n : Nat) : Nat → Bool := fun p => decide (p < n) && (decide (48 ≤ f p) && decide (f p ≤ 57))
theorem qL_t {f : Nat → Int} {n p : Nat} : qL f n p = true ↔ p < n ∧ 97 ≤ f p ∧ f p ≤ 122 := by unfold qL; simp only [Bool.and_eq_true, decide_eq_true_eq]
theorem qD_t {f : Nat → Int} {n p : Nat} : qD f n p = true ↔ p < n ∧ 48 ≤ f p ∧ f p ≤ 57 := by unfold qD; simp only [Bool.and_eq_true, decide_eq_true_eq]
theorem qS_t {f : Nat → Int} {n p : Nat} : qS f n p = true ↔ p < n ∧ (f p = 32 ∨ f p = 10) := by unfold qS; simp only [Bool.and_eq_true, Bool.or_eq_true, decide_eq_true_eq]
def tB (f : Nat → Int) (n p : Nat) : Nat := spn (qS f n) (n - p) p
def tL (f : Nat → Int) (n b : Nat) : Nat := spn (qL f n) (n - b) b
def tD (f : Nat → Int) (n b : Nat) : Nat := spn (qD f n) (n - b) b
def wdA (f : Nat → Int) : Nat → Nat → Int → Int
  | 0, _, w => w
  | k + 1, p, w => wdA f k (p + 1) (l_add (l_mul w 27) (f p - 96))
def nuA (f : Nat → Int) : Nat → Nat → Int → Int
  | 0, _, w => w
  | k + 1, p, w => nuA f k (p + 1) (i_add (i_mul w 10) (f p - 48))
def sgn (c : Int) : Prop := (40 ≤ c ∧ c ≤ 43) ∨ c = 45 ∨ (59 ≤ c ∧ c ≤ 61)
def lt_ (c : Int) : Prop := 97 ≤ c ∧ c ≤ 122
def dg (c : Int) : Prop := 48 ≤ c ∧ c ≤ 57
/-- the token from p on: where it begins, ends; its kind; its word, its number -/
noncomputable def tkK (f : Nat → Int) (n p : Nat) : Int := @ite _ (tB f n p = n) (Classical.propDecidable _) 0 (@ite _ (lt_ (f (tB f n p))) (Classical.propDecidable _) (if 8 < tL f n (tB f n p) - tB f n p then 4 else 1) (@ite _ (dg (f (tB f n p))) (Classical.propDecidable _) (if 4 < tD f n (tB f n p) - tB f n p then 4 else 2) (@ite _ (sgn (f (tB f n p))) (Classical.propDecidable _) 3 4)))
noncomputable def tkE (f : Nat → Int) (n p : Nat) : Nat := @ite _ (tB f n p = n) (Classical.propDecidable _) n (@ite _ (lt_ (f (tB f n p))) (Classical.propDecidable _) (tL f n (tB f n p)) (@ite _ (dg (f (tB f n p))) (Classical.propDecidable _) (tD f n (tB f n p)) (tB f n p + 1)))
def tkW (f : Nat → Int) (n p : Nat) : Int := wdA f (tL f n (tB f n p) - tB f n p) (tB f n p) 0
def tkN (f : Nat → Int) (n p : Nat) : Int := nuA f (tD f n (tB f n p) - tB f n p) (tB f n p) 0
theorem tB_b {f : Nat → Int} {n p : Nat} (h : p ≤ n) : p ≤ tB f n p ∧ tB f n p ≤ n := by
  have := spn_b (qS f n) (n - p) p
  unfold tB; omega
theorem l_sa (x c : Int) : l_sub (l_add x c) 96 = l_add x (c - 96) := by
  rw [l_sub_b, l_add_b, l_add_b, Int.bmod_sub_bmod]
  congr 1; omega
theorem i_sa (x c : Int) : i_sub (i_add x c) 48 = i_add x (c - 48) := by
  rw [i_sub_b, i_add_b, i_add_b, Int.bmod_sub_bmod]
  congr 1; omega
theorem sL_sM (h : HP) (N : MM) (a k : Nat) (v : Int) : sL (sM h N) a k v = sM (sL h a k v) N := rfl
theorem sI_L (h : HP) (N : MM) (g : Int) (a k : Nat) (v : Int) : sI (sM (sL h 145 7 g) N) a k v = sM (sL h 145 7 g) (up2 N a k v) := rfl
theorem sLL (h : HP) (N : MM) (g g2 : Int) : sL (sM (sL h 145 7 g) N) 145 7 g2 = sM (sL h 145 7 g2) N := by
  rw [sL_sM]
  congr 1
  unfold sL sRl
  show (h.1, h.2.1, h.2.2.1, va_up (va_up h.2.2.2.1 145 (va_up (h_ml h 145) 7 g)) 145 (va_up (va_up h.2.2.2.1 145 (va_up (h_ml h 145) 7 g) 145) 7 g2), h.2.2.2.2) = _
  rw [up_eq, up_up, up_up]
theorem mlLL (h : HP) (N : MM) (g : Int) : h_ml (sM (sL h 145 7 g) N) 145 7 = g := by
  show va_up h.2.2.2.1 145 (va_up (h_ml h 145) 7 g) 145 7 = g
  rw [up_eq, up_eq]
theorem RSk.l {h : HP} (w : RSk h) (a k : Nat) (v : Int) : RSk (sL h a k v) := w
section
variable {h : HP} {N : MM} {f : Nat → Int} {n : Nat}
theorem m_151 (w : RSk h) (d : Nat) {p : Nat} (h3 : N 145 3 = (n : Int)) (h6 : N 146 = f) (n1 : n ≤ 1000) : ev d 151 [vr 145, vi (p : Int)] (sM h N) = some (vi (if p < n then f p else 0), sM h N) := by
  rw [v_151, q_151_0 (w := w.m _), mi_sM, h3, h6, Int.toNat_natCast]
  by_cases z : p < n
  · rw [df (by omega), if_pos z, dt (by omega), dt (by omega)]; rfl
  · rw [dt (by omega), if_neg z]; rfl
theorem l_152s (w : RSk h) (d : Nat) (h3 : N 145 3 = (n : Int)) (h6 : N 146 = f) (n1 : n ≤ 1000) : ∀ k p : Nat, p + k = n → run (d + 1) md_152 0 [vr 145, vu] [] (sM h (up2 N 145 4 (p : Int))) = run (d + 1) md_152 52 [vr 145, vu] [] (sM h (up2 N 145 4 ((spn (qS f n) k p : Nat) : Int)))
  | 0, p, hp => by
    have e3 : up2 N 145 4 (p : Int) 145 3 = (n : Int) := by rw [u2_no _ _ _ (by omega)]; exact h3
    rw [q_152_0 (w := w.m _), mi_sM, e3, u2_at, dt (by omega)]; rfl
  | k + 1, p, hp => by
    have e3 : up2 N 145 4 (p : Int) 145 3 = (n : Int) := by rw [u2_no _ _ _ (by omega)]; exact h3
    have e6 : up2 N 145 4 (p : Int) 146 = f := by rw [u2_ne _ _ _ (by omega)]; exact h6
    rw [q_152_0 (w := w.m _), mi_sM, e3, u2_at, e6, Int.toNat_natCast, df (by omega), dt (show 0 ≤ (p : Int) by omega), dt (show (p : Int) < 1000 by omega), ia (by omega) (by omega), sI_sM, u2_u2, show (p : Int) + 1 = ((p + 1 : Nat) : Int) by omega, l_152s w d h3 h6 n1 k (p + 1) (by omega)]
    show _ = run (d + 1) md_152 52 [vr 145, vu] [] (sM h (up2 N 145 4 (((bif qS f n p then spn (qS f n) k (p + 1) else p) : Nat) : Int)))
    cases e : qS f n p with
    | true =>
      have := (qS_t.mp e).2
      by_cases z : f p = 32
      · rw [dt z]; rfl
      · rw [df z, df (show ¬ f p ≠ 10 by omega)]; rfl
    | false =>
      have hn : ¬ (f p = 32 ∨ f p = 10) := fun q => by rw [qS_t.mpr ⟨by omega, q⟩] at e; cases e
      rw [df (fun z => hn (Or.inl z)), dt (show f p ≠ 10 from fun z => hn (Or.inr z))]; rfl
theorem l_152w (w : RSk h) (d : Nat) (h3 : N 145 3 = (n : Int)) (h6 : N 146 = f) (n1 : n ≤ 1000) {b : Nat} (h5 : N 145 5 = (b : Int)) (x1 : Int) : ∀ (k p : Nat) (g : Int), p + k = n → b ≤ p → ∃ g', run (d + 1) md_152 109 [vr 145, vi x1] [] (sM (sL h 145 7 g) (up2 N 145 4 (p : Int))) = run (d + 1) md_152 188 [vr 145, vi x1] [] (sM (sL h 145 7 g') (up2 N 145 4 ((spn (qL f n) k p : Nat) : Int))) ∧ (spn (qL f n) k p ≤ b + 8 → g' = wdA f (spn (qL f n) k p - p) p g)
  | 0, p, g, hp, hb => by
    have e3 : up2 N 145 4 (p : Int) 145 3 = (n : Int) := by rw [u2_no _ _ _ (by omega)]; exact h3
    have e6 : up2 N 145 4 (p : Int) 146 = f := by rw [u2_ne _ _ _ (by omega)]; exact h6
    refine ⟨g, ?_, fun _ => by show g = wdA f (p - p) p g; rw [Nat.sub_self]; rfl⟩
    rw [q_152_109 (w := (w.l _ _ _).m _), mi_sM, u2_at, m_151 (w.l _ _ _) d (n := n) e3 e6 n1, bI_s, q_152_117 (w := (w.l _ _ _).m _), if_neg (by omega), dt (by omega)]
    rfl
  | k + 1, p, g, hp, hb => by
    have e3 : up2 N 145 4 (p : Int) 145 3 = (n : Int) := by rw [u2_no _ _ _ (by omega)]; exact h3
    have e5 : up2 N 145 4 (p : Int) 145 5 = (b : Int) := by rw [u2_no _ _ _ (by omega)]; exact h5
    have e6 : up2 N 145 4 (p : Int) 146 = f := by rw [u2_ne _ _ _ (by omega)]; exact h6
    have m := m_151 (N := up2 N 145 4 (p : Int)) (w.l 145 7 g) d (n := n) (p := p) e3 e6 n1
    rw [if_pos (by omega)] at m
    rw [q_152_109 (w := (w.l _ _ _).m _), mi_sM, u2_at, m, bI_s, q_152_117 (w := (w.l _ _ _).m _), mi_sM, u2_at, m]
    show ∃ g', _ = run (d + 1) md_152 188 [vr 145, vi x1] [] (sM (sL h 145 7 g') (up2 N 145 4 (((bif qL f n p then spn (qL f n) k (p + 1) else p) : Nat) : Int))) ∧ ((bif qL f n p then spn (qL f n) k (p + 1) else p) ≤ b + 8 → g' = wdA f ((bif qL f n p then spn (qL f n) k (p + 1) else p) - p) p g)
    cases e : qL f n p with
    | false =>
      refine ⟨g, ?_, fun _ => by show g = wdA f (p - p) p g; rw [Nat.sub_self]; rfl⟩
      have hn : ¬ (97 ≤ f p ∧ f p ≤ 122) := fun q => by rw [qL_t.mpr ⟨by omega, q⟩] at e; cases e
      by_cases z : f p < 97
      · rw [dt z]; rfl
      · rw [df z]
        simp only [zb, bI_s]
        rw [q_152_130 (w := (w.l _ _ _).m _), dt (by omega)]; rfl
    | true =>
      have hq := (qL_t.mp e).2
      have sb := spn_b (qL f n) k (p + 1)
      have go : ∀ g1, (∀ c : Nat, p - b < 8 → c = p → g1 = l_add (l_mul g 27) (f p - 96)) → run (d + 1) md_152 109 [vr 145, vi x1] [] (sM (sL h 145 7 g1) (up2 N 145 4 ((p + 1 : Nat) : Int))) = run (d + 1) md_152 109 [vr 145, vi x1] [] (sM (sL h 145 7 g1) (up2 N 145 4 ((p + 1 : Nat) : Int))) := fun _ _ => rfl
      rw [df (by omega)]
      simp only [zb, bI_s]
      rw [q_152_130 (w := (w.l _ _ _).m _), df (by omega), mi_sM, u2_at, e5, is_ (by omega) (by omega), ia (by omega) (by omega), show (p : Int) + 1 = ((p + 1 : Nat) : Int) by omega, sI_L, u2_u2, m]
      by_cases z : p - b < 8
      · rw [df (show ¬ 8 ≤ (p : Int) - (b : Int) by omega)]
        simp only [zb, bI_s]
        rw [q_152_166 (w := (w.l _ _ _).m _), mlLL, l_sa, sLL, sI_L, mi_sM, u2_at, u2_u2, ia (by omega) (by omega), show (p : Int) + 1 = ((p + 1 : Nat) : Int) by omega]
        obtain ⟨g', r, hg⟩ := l_152w w d h3 h6 n1 h5 x1 k (p + 1) (l_add (l_mul g 27) (f p - 96)) (by omega) (by omega)
        refine ⟨g', r, fun q => ?_⟩
        have q : spn (qL f n) k (p + 1) ≤ b + 8 := q
        rw [hg q]
        show wdA f _ (p + 1) _ = wdA f (spn (qL f n) k (p + 1) - p) p g
        rw [show spn (qL f n) k (p + 1) - p = spn (qL f n) k (p + 1) - (p + 1) + 1 by omega]
        rfl
      · rw [dt (show 8 ≤ (p : Int) - (b : Int) by omega)]
        obtain ⟨g', r, hg⟩ := l_152w w d h3 h6 n1 h5 x1 k (p + 1) g (by omega) (by omega)
        refine ⟨g', r, fun q => ?_⟩
        have q : spn (qL f n) k (p + 1) ≤ b + 8 := q
        omega
end
