/-! the reference: rows copied; until -/
def cpR (src : Nat → Int) (a b : Int) (k : Nat) (i : Int) (f : Nat → Int) : Nat → Int := itr (fun k f => va_up f (b + k).toNat (src (a + k).toNat)) k i f
theorem cpR_at (src : Nat → Int) {a b : Int} (a0 : 0 ≤ a) (b0 : 0 ≤ b) : ∀ (k : Nat) (i : Int) (f : Nat → Int), 0 ≤ i → ∀ j : Nat, cpR src a b k i f j = if b + i ≤ (j : Int) ∧ (j : Int) < b + i + k then src (a + j - b).toNat else f j
  | 0, i, f, _, j => by rw [if_neg (by omega)]; rfl
  | k + 1, i, f, h0, j => by
    show cpR src a b k (i + 1) (va_up f (b + i).toNat (src (a + i).toNat)) j = _
    rw [cpR_at src a0 b0 k (i + 1) _ (by omega) j]
    by_cases c : (j : Int) = b + i
    · rw [if_neg (by omega), if_pos (by omega)]
      have e1 : j = (b + i).toNat := by omega
      rw [e1, up_eq]
      congr 1; omega
    · rw [up_ne _ _ (show j ≠ (b + i).toNat by omega)]
      by_cases c2 : b + (i + 1) ≤ (j : Int) ∧ (j : Int) < b + (i + 1) + k
      · rw [if_pos c2, if_pos (by omega)]
      · rw [if_neg c2, if_neg (by omega)]
theorem l_182 {h : HP} {M : MM} {a0 a2 : Nat} (k0 : isK h a0 11 = true) (k2 : isK h a2 11 = true) (hne : a0 ≠ a2) {a b : Int} (x0 : 0 ≤ a) (x1 : a + 144 ≤ h_ln h a0) (y0 : 0 ≤ b) (y1 : b + 144 ≤ h_ln h a2) (z0 : h_ln h a0 ≤ 10000) (z2 : h_ln h a2 ≤ 10000) (d : Nat) : ∀ (k : Nat) (i : Int) (f : Nat → Int), (144 - i).toNat = k → 0 ≤ i → i ≤ 144 → run d md_182 3 [vr a0, vi a, vr a2, vi b, vi i] [] (sM h (va_up M a2 f)) = some (vr 0, sM h (va_up M a2 (cpR (M a0) a b k i f)))
  | 0, i, f, h1, h2, h3 => by
    rw [q_182_3, dt (by omega)]; rfl
  | k + 1, i, f, h1, h2, h3 => by
    rw [q_182_3]
    simp (disch := omega) only [mi_sM, sI_sM, sRi_sM, isK_sM, inb_sM, ln_sM, mr_sM, ml_sM, dt, df, ia, is_, zb, bI_s, bV_s, bR_s, inb, k0, k2, up_ne M, up2_row]
    exact l_182 k0 k2 hne x0 x1 y0 y1 z0 z2 d k (i + 1) _ (by omega) (by omega) (by omega)
theorem m_182 (d : Nat) {a0 a2 : Nat} (a b : Int) (h : HP) (k0 : isK h a0 11 = true) (k2 : isK h a2 11 = true) (hne : a0 ≠ a2) (x0 : 0 ≤ a) (x1 : a + 144 ≤ h_ln h a0) (y0 : 0 ≤ b) (y1 : b + 144 ≤ h_ln h a2) (z0 : h_ln h a0 ≤ 10000) (z2 : h_ln h a2 ≤ 10000) : ev d 182 [vr a0, vi a, vr a2, vi b] h = some (vr 0, sM h (va_up (h_mi h) a2 (cpR (h_mi h a0) a b 144 0 (h_mi h a2)))) := by
  rw [v_182, q_182_0]
  have := l_182 (h := h) (M := h_mi h) k0 k2 hne x0 x1 y0 y1 z0 z2 d 144 0 (h_mi h a2) rfl (by omega) (by omega)
  rw [up_self] at this
  exact this
/-- the thinnest of a row, as a row s has it -/
def tnS (M : MM) (S : Nat → Int) (row : Int) : Int := lo (fun k => if M 148 (10 * row + k).toNat = 1 then 1000 else S (10 * row + k).toNat) (M 147 0)
theorem tnS_M (M : MM) (row : Int) : tnS M (M 172) row = tnV M row := rfl
/-- for how many hours a row bears a load -/
def utN (M : MM) (E : EE) (nd row : Int) : Nat → (Nat → Int) → Int
  | 0, _ => 0
  | k + 1, S => if nd ≤ tnS M S row then 1 + utN M E nd row k (psS M E S) else 0
def UtA : Nat → Prop := fun a => (162 ≤ a ∧ a ≤ 172) ∨ a = 176
theorem FB.ut {M N : MM} {r : Nat} (h : FB M r) (g : Ag UtA M N) : FB N r := by
  unfold FB at h ⊢
  rw [g 147 (by unfold UtA; omega), g 148 (by unfold UtA; omega), g 149 (by unfold UtA; omega), g 151 (by unfold UtA; omega), g 152 (by unfold UtA; omega), g 153 (by unfold UtA; omega), g 154 (by unfold UtA; omega), g 155 (by unfold UtA; omega), g 156 (by unfold UtA; omega)]
  exact h
theorem VL.ut {M N : MM} {E : EE} (v : VL M E) (g : Ag UtA M N) : VL N E := ⟨v.1.ut g, fun l hl => ⟨(v.2 l hl).1.ag (g _ (by unfold UtA; omega)) (g _ (by unfold UtA; omega)) (g _ (by unfold UtA; omega)), (v.2 l hl).2⟩⟩
theorem l_212 {h : HP} {M : MM} {E : EE} (w : RSk h) (v : VL M E) {l row : Int} (l0 : 0 ≤ l) (l1 : l < M 147 3) (r0 : 0 ≤ row) (r1 : row < 6) (d : Nat) : ∀ (k : Nat) (i : Int) (S : Nat → Int) (N : MM), (24 - i).toNat = k → 0 ≤ i → i ≤ 24 → SB M 0 S → S 134 + k ≤ 1000000 → N 172 = S → Ag UtA M N → (∀ j : Int, 0 ≤ j → j < M 147 0 → N 176 j.toNat = if M 148 (10 * row + j).toNat = 1 then 1000 else S (10 * row + j).toNat) → ∃ N', run (d + 6) md_212 43 [vr 145, vi l, vi row, vi i] [] (sM h N) = some (vi (i + utN M E (ndV M l) row k S), sM h N') ∧ (∀ j : Nat, N' 172 j = if j < 144 then M 173 j else S j) ∧ Ag UtA M N'
  | 0, i, S, N, h1, h2, h3, hS, hn, hN, g, hI => by
    have hi : i = 24 := by omega
    subst hi
    have e173 : N 173 = M 173 := g 173 (by unfold UtA; omega)
    rw [q_212_43 (d + 5) l row _ _ (w.m N), dt (by omega), m_182 (d + 5) 0 0 (sM h N) (k_173 (w.m N)) (k_172 (w.m N)) (by omega) (by omega) (by rw [n_173 (w.m N)]; omega) (by omega) (by rw [n_172 (w.m N)]; omega) (by rw [n_173 (w.m N)]; omega) (by rw [n_172 (w.m N)]; omega)]
    simp only [zb, bV_s, mi_sM, sM_sM]
    rw [q_212_85, e173]
    refine ⟨va_up N 172 (cpR (M 173) 0 0 144 0 (N 172)), ?_, fun j => ?_, ?_⟩
    · show some (vi 24, _) = some (vi (24 + 0), _); rfl
    · rw [up_eq, cpR_at _ (by omega) (by omega) 144 0 _ (by omega), hN]
      by_cases cj : j < 144
      · rw [if_pos (by omega), if_pos cj]; congr 1; omega
      · rw [if_neg (by omega), if_neg cj]
    · intro a ha
      have ha' : ¬ ((162 ≤ a ∧ a ≤ 172) ∨ a = 176) := ha
      rw [up_ne _ _ (by omega)]; exact g a ha
  | k + 1, i, S, N, h1, h2, h3, hS, hn, hN, g, hI => by
    have hc : 2 ≤ M 147 0 ∧ M 147 0 ≤ 10 := v.1.1
    have hl : 0 ≤ M 147 3 ∧ M 147 3 ≤ 7 := v.1.2.2.2.1
    have lb : (1 ≤ M 155 l.toNat ∧ M 155 l.toNat ≤ 50) := by
      have := (v.1.2.2.2.2.2.2.2 l.toNat (show ((l.toNat : Nat) : Int) < M 147 3 by omega)).2.1
      rw [Nat.mul_zero, Nat.zero_add] at this
      exact this
    have e147 : N 147 = M 147 := g 147 (by unfold UtA; omega)
    have e154 : N 154 = M 154 := g 154 (by unfold UtA; omega)
    have e155 : N 155 = M 155 := g 155 (by unfold UtA; omega)
    have e173 : N 173 = M 173 := g 173 (by unfold UtA; omega)
    have eb := m_204 (d + 4) l (sM h N) w (by rw [mi_sM, e147]; omega) (by rw [mi_sM, e147]; omega) l0 (by omega) (by rw [mi_sM, e155]; omega) (by rw [mi_sM, e155]; omega)
    have elo : lo (N 176) (M 147 0) = tnS M S row := lo_congr (fun j j0 j1 => by
      rw [hI j j0 j1]
      have : ((j.toNat : Nat) : Int) = j := by omega
      simp only [this])
    rw [mi_sM, e147, e154, e155, elo] at eb
    rw [q_212_43 (d + 5) l row i _ (w.m N), df (by omega), eb]
    simp only [zb, bI_s]
    rw [q_212_54 (d + 5) l row i _ _ (w.m N)]
    show ∃ N', _ = some (vi (i + (if ndV M l ≤ tnS M S row then 1 + utN M E (ndV M l) row k (psS M E S) else 0)), sM h N') ∧ _
    by_cases c : ndV M l ≤ tnS M S row
    · have c' : needK (M 154 l.toNat) (M 155 l.toNat) ≤ tnS M S row := c
      have pb := psS_b (E := E) v.1 hS (by omega)
      obtain ⟨s1, s2, s3, s4, s5, s6⟩ := id hS
      obtain ⟨N1, e1, k1, g1⟩ := m_209 (E := E) d (sM h N) w (v.ut g) (by rw [mi_sM, hN]; exact hS.c99) (by rw [mi_sM, hN]; omega) (by rw [mi_sM, hN]; omega) (by rw [mi_sM, hN]; omega) (by rw [mi_sM, hN]; omega)
      rw [mi_sM, hN, psS_ag (g 149 (by unfold UtA; omega)) (g 147 (by unfold UtA; omega)) (g 153 (by unfold UtA; omega))] at k1
      rw [mi_sM] at g1
      have g2 : Ag UtA M N1 := fun a ha => by
        have ha' : ¬ ((162 ≤ a ∧ a ≤ 172) ∨ a = 176) := ha
        rw [g1 a (by unfold S2A; omega)]; exact g a ha
      rw [bb_dt c', e1, if_pos c]
      simp only [zb, bV_s, sM_sM]
      rw [q_212_61 (d + 5) l row i _ (w.m N1), m_202 _ row _ (w.m N1) (by rw [mi_sM, g2 147 (by unfold UtA; omega)]; omega) (by rw [mi_sM, g2 147 (by unfold UtA; omega)]; omega) r0 r1, bV_s, q_212_66, ia (by omega) (by omega)]
      simp only [mi_sM, sM_sM]
      have e6 : i + (1 + utN M E (ndV M l) row k (psS M E S)) = (i + 1) + utN M E (ndV M l) row k (psS M E S) := by omega
      rw [e6]
      have hp : 0 ≤ M 147 2 ∧ M 147 2 ≤ 6 := v.1.2.2.1
      have hps : ∀ j : Nat, (if j < 144 then M 173 j else psS M E S j) = if j < 144 then M 173 j else S j := fun j => by
        split
        · rfl
        · exact (psS_at (E := E) hp.1 hp.2 hS.c99).2.2.2.2.1 j (by omega)
      simp only [← hps]
      refine l_212 w v l0 l1 r0 r1 d k (i + 1) (psS M E S) _ (by omega) (by omega) (by omega) pb.1 (by omega) ?_ ?_ ?_
      · rw [up_ne _ _ (by omega)]; exact k1
      · intro a ha
        have ha' : ¬ ((162 ≤ a ∧ a ≤ 172) ∨ a = 176) := ha
        rw [up_ne _ _ (by omega)]; exact g2 a ha
      · intro j j0 j1
        rw [up_eq, seeR_at j0 (by rw [g2 147 (by unfold UtA; omega)]; exact j1)]
        unfold seeG
        rw [g2 148 (by unfold UtA; omega), k1]
    · have c' : ¬ needK (M 154 l.toNat) (M 155 l.toNat) ≤ tnS M S row := c
      rw [bb_df c', if_neg c, m_182 (d + 5) 0 0 (sM h N) (k_173 (w.m N)) (k_172 (w.m N)) (by omega) (by omega) (by rw [n_173 (w.m N)]; omega) (by omega) (by rw [n_172 (w.m N)]; omega) (by rw [n_173 (w.m N)]; omega) (by rw [n_172 (w.m N)]; omega)]
      simp only [zb, bV_s, mi_sM, sM_sM]
      rw [q_212_85, e173, Int.add_zero]
      refine ⟨_, rfl, fun j => ?_, ?_⟩
      · rw [up_eq, cpR_at _ (by omega) (by omega) 144 0 _ (by omega), hN]
        by_cases cj : j < 144
        · rw [if_pos (by omega), if_pos cj]; congr 1; omega
        · rw [if_neg (by omega), if_neg cj]
      · intro a ha
        have ha' : ¬ ((162 ≤ a ∧ a ≤ 172) ∨ a = 176) := ha
        rw [up_ne _ _ (by omega)]; exact g a ha
def untilV (M : MM) (E : EE) (l row : Int) : Int := if (0 ≤ l ∧ l < M 147 3) ∧ 0 ≤ row ∧ row < M 147 1 then utN M E (ndV M l) row 24 (M 172) else -1
theorem r_until {E : EE} (d : Nat) (l row : Int) (h : HP) (w : RSk h) (v : VM (h_mi h) E) (hn : h_mi h 172 134 + 1000 ≤ 1000000) : ∃ N, ev (d + 6) 212 [vr 145, vi l, vi row] h = some (vi (untilV (h_mi h) E l row), sM h N) ∧ QA (h_mi h) N := by
  have q0 : QA (h_mi h) (up2 (h_mi h) 145 0 0) := QA.f 0 0 (by omega) (by omega)
  have e0 : ∀ a, a ≠ 145 → (up2 (h_mi h) 145 0 0) a = h_mi h a := fun a ha => u2_ne _ _ _ ha
  have hc := v.c
  have hr := v.r
  rw [v_212, q_212_0 (d + 5) l row h w, sI_h, m_188 _ _ _ (w.m _), mi_sM, e0 147 (by omega), bI_s, q_212_10 (d + 5) l row _ _ (w.m _), m_185 _ _ _ (w.m _), mi_sM, e0 147 (by omega)]
  unfold untilV
  by_cases c1 : 0 ≤ l ∧ l < h_mi h 147 3
  · rw [bb_dt c1]
    simp only [zb, bI_s]
    rw [q_212_18 (d + 5) l row _ _ (w.m _)]
    by_cases c2 : 0 ≤ row ∧ row < h_mi h 147 1
    · rw [bb_nt c2, if_pos ⟨c1, c2⟩]
      have hN : ∃ N0 : MM, N0 = va_up (up2 (h_mi h) 145 0 0) 173 (cpR (h_mi h 172) 0 0 144 0 (h_mi h 173)) := ⟨_, rfl⟩
      obtain ⟨N0, hN0⟩ := hN
      have e1 : ev (d + 5) 182 [vr 172, vi 0, vr 173, vi 0] (sM h (up2 (h_mi h) 145 0 0)) = some (vr 0, sM h N0) := by
        rw [m_182 (d + 5) 0 0 (sM h _) (k_172 (w.m _)) (k_173 (w.m _)) (by omega) (by omega) (by rw [n_172 (w.m _)]; omega) (by omega) (by rw [n_173 (w.m _)]; omega) (by rw [n_172 (w.m _)]; omega) (by rw [n_173 (w.m _)]; omega), mi_sM, e0 172 (by omega), e0 173 (by omega), sM_sM, hN0]
      have f0 : ∀ a, a ≠ 173 → a ≠ 145 → N0 a = h_mi h a := fun a h1 h2 => by rw [hN0, up_ne _ _ h1, e0 a h2]
      have f173 : ∀ j, j < 144 → N0 173 j = h_mi h 172 j := fun j hj => by
        rw [hN0, up_eq, cpR_at _ (by omega) (by omega) 144 0 _ (by omega), if_pos (by omega)]; congr 1; omega
      have q1 : QA (h_mi h) N0 := by
        refine ⟨fun a ha => f0 a (fun z => ha (by unfold RsA; omega)) (fun z => ha (by unfold RsA; omega)), ?_, ?_⟩
        · rw [hN0, up_ne _ _ (by omega)]; exact q0.2.1
        · rw [hN0, up_ne _ _ (by omega)]; exact q0.2.2
      have vl := (q1.vm v).vl
      have hs0 : SB N0 0 (h_mi h 172) := by
        have := (q1.vm v).2.1
        rw [f0 172 (by omega) (by omega)] at this
        exact this
      obtain ⟨N, e2, p2, g2⟩ := l_212 (h := h) (M := N0) w vl (l := l) (row := row) c1.1 (by rw [f0 147 (by omega) (by omega)]; exact c1.2) c2.1 (by omega) d 24 0 (h_mi h 172) (va_up N0 176 (seeR N0 row)) rfl (by omega) (by omega) hs0 (by omega) (by rw [up_ne _ _ (by omega), f0 172 (by omega) (by omega)]) (fun a ha => by
        have ha' : ¬ ((162 ≤ a ∧ a ≤ 172) ∨ a = 176) := ha
        exact up_ne _ _ (by omega)) (fun j j0 j1 => by
        rw [up_eq, seeR_at j0 j1]; unfold seeG; rw [f0 172 (by omega) (by omega)])
      have eu : ∀ k S, utN N0 E (ndV N0 l) row k S = utN (h_mi h) E (ndV (h_mi h) l) row k S := by
        intro k
        induction k with
        | zero => intro S; rfl
        | succ k ih =>
          intro S
          have e4 : ndV N0 l = ndV (h_mi h) l := by unfold ndV; rw [f0 154 (by omega) (by omega), f0 155 (by omega) (by omega)]
          have e5 : tnS N0 S row = tnS (h_mi h) S row := by unfold tnS; rw [f0 147 (by omega) (by omega), f0 148 (by omega) (by omega)]
          rw [utN.eq_2, utN.eq_2, e5, psS_ag (f0 149 (by omega) (by omega)) (f0 147 (by omega) (by omega)) (f0 153 (by omega) (by omega)), ih, e4]
      rw [eu, Int.zero_add] at e2
      refine ⟨N, ?_, fun a ha => ?_, ?_, ?_⟩
      · rw [e1]
        simp only [zb, bV_s]
        rw [q_212_36 (d + 5) l row _ (w.m N0), m_202 _ row _ (w.m N0) (by rw [mi_sM, f0 147 (by omega) (by omega)]; omega) (by rw [mi_sM, f0 147 (by omega) (by omega)]; omega) c2.1 (by omega), bV_s]
        simp only [mi_sM, sM_sM]
        exact e2
      · by_cases ha2 : a = 172
        · subst ha2
          funext j
          rw [p2 j]
          split
          · exact f173 j (by assumption)
          · rfl
        · have ha' : ¬ (a = 145 ∨ (160 ≤ a ∧ a ≤ 171) ∨ a = 173 ∨ (176 ≤ a ∧ a ≤ 179)) := ha
          rw [g2 a (by unfold UtA; omega)]
          exact f0 a (by omega) (by omega)
      · rw [g2 145 (by unfold UtA; omega)]; exact q1.2.1
      · rw [g2 145 (by unfold UtA; omega)]; exact q1.2.2
    · refine ⟨_, ?_, q0⟩
      rw [bb_nf c2, if_neg (fun z => c2 z.2)]; rfl
  · refine ⟨_, ?_, q0⟩
    rw [bb_df c1, if_neg (fun z => c1 z.1)]; rfl
