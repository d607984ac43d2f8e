/-! the reference: hours, until -/
theorem mlF_0 {M : MM} {E : EE} {hr nt c : Int} {S : Nat → Int} (c0 : 0 ≤ c) {j : Nat} (hj : j < 60) (h0 : S j = 0) : mlF M E hr nt c S j = 0 := by
  unfold mlF
  split
  · exact h0
  · rw [up_ne _ _ (by omega), up_if]
    split
    · rename_i e; subst e; omega
    · exact h0
theorem mlS_0 {M : MM} {E : EE} {hr nt : Int} {j : Nat} (hj : j < 60) : ∀ (k : Nat) (i : Int) (S : Nat → Int), 0 ≤ i → S j = 0 → itr (mlF M E hr nt) k i S j = 0
  | 0, _, _, _, h => h
  | k + 1, i, S, h1, h => mlS_0 hj k (i + 1) _ (by omega) (mlF_0 h1 hj h)
theorem flS_i {M : MM} : ∀ (k : Nat) (i : Int) (S : Nat → Int), 0 ≤ i → ∀ j : Nat, itr (flF M) k i S j = if 120 + i ≤ (j : Int) ∧ (j : Int) < 120 + i + k then M 153 (j - 120) else S j
  | 0, i, S, _, j => by rw [if_neg (by omega)]; rfl
  | k + 1, i, S, h0, j => by
    show itr (flF M) k (i + 1) (flF M i S) j = _
    rw [flS_i k (i + 1) _ (by omega) j]
    unfold flF
    by_cases c : (j : Int) = 120 + i
    · rw [if_neg (by omega), if_pos (by omega)]
      have e1 : j = (120 + i).toNat := by omega
      rw [e1, up_eq]
      congr 1; omega
    · rw [up_ne _ _ (show j ≠ (120 + i).toNat by omega)]
      by_cases c2 : 120 + (i + 1) ≤ (j : Int) ∧ (j : Int) < 120 + (i + 1) + k
      · rw [if_pos c2, if_pos (by omega)]
      · rw [if_neg c2, if_neg (by omega)]
theorem flS_at {M : MM} {S : Nat → Int} (p0 : 0 ≤ M 147 2) (j : Nat) : flS M S j = if j = 132 then 0 else if 120 ≤ j ∧ (j : Int) < 120 + M 147 2 then M 153 (j - 120) else S j := by
  unfold flS
  rw [up_if]
  by_cases c : j = 132
  · rw [if_pos c, if_pos c]
  · rw [if_neg c, if_neg c, flS_i _ 0 S (by omega) j]
    by_cases c2 : 120 ≤ j ∧ (j : Int) < 120 + M 147 2
    · rw [if_pos c2, if_pos (by omega)]
    · rw [if_neg c2, if_neg (by omega)]
theorem psS_at {M : MM} {E : EE} {S : Nat → Int} (p0 : 0 ≤ M 147 2) (p1 : M 147 2 ≤ 6) (hS : C99 S) : C99 (psS M E S) ∧ (∀ j, j < 60 → S j = 0 → psS M E S j = 0) ∧ (∀ j, 60 ≤ j → j < 120 → psS M E S j = S j) ∧ (∀ j, 126 ≤ j → j < 132 → psS M E S j = S j) ∧ (∀ j, 137 ≤ j → psS M E S j = S j) ∧ psS M E S 135 = S 135 ∧
    (S 133 = 23 → psS M E S 133 = 0 ∧ psS M E S 134 = S 134 + 1 ∧ psS M E S 132 = 0 ∧ ∀ p : Nat, p < 6 → psS M E S (120 + p) = if (p : Int) < M 147 2 then M 153 p else S (120 + p)) ∧
    (S 133 ≠ 23 → psS M E S 133 = S 133 + 1 ∧ psS M E S 134 = S 134 ∧ psS M E S 132 = S 132 ∧ ∀ p : Nat, p < 6 → psS M E S (120 + p) = S (120 + p)) := by
  have mk := fun hr => mlS_k (M := M) (E := E) (hr := hr) hS
  have mz : ∀ hr j, j < 60 → S j = 0 → mlS M E hr S j = 0 := fun hr j hj h0 => mlS_0 hj 60 0 S (by omega) h0
  unfold psS
  by_cases c : S 133 = 23
  · simp only [if_pos c]
    have key : ∀ j, j ≠ 132 → j ≠ 133 → j ≠ 134 → ¬ (120 ≤ j ∧ j < 126) → flS M (va_up (va_up (mlS M E 23 S) 133 0) 134 (S 134 + 1)) j = mlS M E 23 S j := fun j h1 h2 h3 h4 => by
      rw [flS_at p0, if_neg h1, if_neg (by omega), up_ne _ _ h3, up_ne _ _ h2]
    refine ⟨fun j hj => ?_, fun j hj h0 => ?_, fun j j0 j1 => ?_, fun j j0 j1 => ?_, fun j j0 => ?_, ?_, fun _ => ⟨?_, ?_, ?_, fun p hp => ?_⟩, fun z => absurd c z⟩
    · rw [key j (by omega) (by omega) (by omega) (by omega)]; exact (mk 23).1 j hj
    · rw [key j (by omega) (by omega) (by omega) (by omega)]; exact mz 23 j hj h0
    · rw [key j (by omega) (by omega) (by omega) (by omega)]; exact (mk 23).2 j (by omega) (by omega)
    · rw [key j (by omega) (by omega) (by omega) (by omega)]; exact (mk 23).2 j (by omega) (by omega)
    · rw [key j (by omega) (by omega) (by omega) (by omega)]; exact (mk 23).2 j (by omega) (by omega)
    · rw [key 135 (by omega) (by omega) (by omega) (by omega)]; exact (mk 23).2 135 (by omega) (by omega)
    · rw [flS_at p0, if_neg (by omega), if_neg (by omega), up_ne _ _ (by omega), up_eq]
    · rw [flS_at p0, if_neg (by omega), if_neg (by omega), up_eq]
    · rw [flS_at p0, if_pos rfl]
    · rw [flS_at p0, if_neg (by omega)]
      by_cases c2 : (p : Int) < M 147 2
      · rw [if_pos (by omega), if_pos c2]; congr 1; omega
      · rw [if_neg (by omega), if_neg c2, up_ne _ _ (by omega), up_ne _ _ (by omega)]
        exact (mk 23).2 _ (by omega) (by omega)
  · simp only [if_neg c]
    have key : ∀ j, j ≠ 133 → (va_up (if 11 < S 133 then mlS M E (S 133) S else S) 133 (S 133 + 1)) j = (if 11 < S 133 then mlS M E (S 133) S else S) j := fun j hj => up_ne _ _ hj
    have out : ∀ j, 60 ≤ j → j ≠ 136 → (if 11 < S 133 then mlS M E (S 133) S else S) j = S j := fun j j0 j1 => by
      split
      · exact (mk _).2 j j0 j1
      · rfl
    refine ⟨fun j hj => ?_, fun j hj h0 => ?_, fun j j0 j1 => ?_, fun j j0 j1 => ?_, fun j j0 => ?_, ?_, fun z => absurd z c, fun _ => ⟨?_, ?_, ?_, fun p hp => ?_⟩⟩
    · rw [key j (by omega)]
      split
      · exact (mk _).1 j hj
      · exact hS j hj
    · rw [key j (by omega)]
      split
      · exact mz _ j hj h0
      · exact h0
    · rw [key j (by omega), out j j0 (by omega)]
    · rw [key j (by omega), out j (by omega) (by omega)]
    · rw [key j (by omega), out j (by omega) (by omega)]
    · rw [key 135 (by omega), out 135 (by omega) (by omega)]
    · rw [up_eq]
    · rw [key 134 (by omega), out 134 (by omega) (by omega)]
    · rw [key 132 (by omega), out 132 (by omega) (by omega)]
    · rw [key _ (by omega), out _ (by omega) (by omega)]
theorem SB.c99 {M : MM} {r : Nat} {S : Nat → Int} (h : SB M r S) : C99 S := fun c hc => (h.1 c hc).1
/-- an hour leaves a good row good; the night at most one more -/
theorem psS_b {M : MM} {E : EE} {S : Nat → Int} (fb : FB M 0) (h : SB M 0 S) (hn : S 134 < 1000000) : SB M 0 (psS M E S) ∧ psS M E S 134 ≤ S 134 + 1 := by
  have hp : 0 ≤ M 147 2 ∧ M 147 2 ≤ 6 := fb.2.2.1
  obtain ⟨a1, a2, a3, a4, a5, a6, a7, a8⟩ := psS_at (E := E) hp.1 hp.2 h.c99
  obtain ⟨s1, s2, s3, s4, s5, s6⟩ := h
  have pb : ∀ p : Nat, (p : Int) < M 147 2 → 0 ≤ M 153 p ∧ M 153 p ≤ 99 := fun p hp => by
    have := (fb.2.2.2.2.2.2.1 p hp).2.2
    rw [Nat.mul_zero, Nat.zero_add] at this
    exact this
  refine ⟨⟨fun c hc => ⟨a1 c hc, ?_, fun z => ?_⟩, fun p hp => ?_, ?_, ?_, ?_, fun k k0 k1 => ?_⟩, ?_⟩
  · rw [a3 _ (by omega) (by omega)]; exact (s1 c hc).2.1
  · have := (s1 c hc).2.2 z
    exact ⟨a2 c hc this.1, by rw [a3 _ (by omega) (by omega)]; exact this.2⟩
  · rw [a4 (126 + p) (by omega) (by omega)]
    refine ⟨?_, (s2 p hp).2⟩
    by_cases c : S 133 = 23
    · rw [(a7 c).2.2.2 p hp]
      split
      · rename_i q; exact pb p q
      · exact (s2 p hp).1
    · rw [(a8 c).2.2.2 p hp]; exact (s2 p hp).1
  · by_cases c : S 133 = 23
    · rw [(a7 c).2.2.1]; omega
    · rw [(a8 c).2.2.1]; exact s3
  · by_cases c : S 133 = 23
    · rw [(a7 c).1]; omega
    · rw [(a8 c).1]; omega
  · by_cases c : S 133 = 23
    · rw [(a7 c).2.1]; omega
    · rw [(a8 c).2.1]; exact s5
  · rw [a5 k (by omega)]; exact s6 k k0 k1
  · by_cases c : S 133 = 23
    · rw [(a7 c).2.1]; omega
    · rw [(a8 c).2.1]; omega
def psN (M : MM) (E : EE) : Nat → (Nat → Int) → Nat → Int
  | 0, S => S
  | k + 1, S => psN M E k (psS M E S)
theorem psN_b {M : MM} {E : EE} (fb : FB M 0) : ∀ (k : Nat) (S : Nat → Int), SB M 0 S → S 134 + k ≤ 1000000 → SB M 0 (psN M E k S) ∧ psN M E k S 134 ≤ S 134 + k
  | 0, S, h, _ => ⟨h, by show S 134 ≤ S 134 + 0; omega⟩
  | k + 1, S, h, hn => by
    have a := psS_b (E := E) fb h (by omega)
    have b := psN_b (E := E) fb k (psS M E S) a.1 (by omega)
    exact ⟨b.1, by have := b.2; show psN M E k (psS M E S) 134 ≤ _; omega⟩
theorem mlS_ag {M N : MM} (h : N 149 = M 149) (E : EE) (hr : Int) (S : Nat → Int) : mlS N E hr S = mlS M E hr S := by
  unfold mlS
  have : mlF N E hr (S 134) = mlF M E hr (S 134) := by
    funext c T
    unfold mlF
    rw [meV_ag h]
  rw [this]
theorem psS_ag {M N : MM} (h1 : N 149 = M 149) (h2 : N 147 = M 147) (h3 : N 153 = M 153) (E : EE) (S : Nat → Int) : psS N E S = psS M E S := by
  unfold psS flS flF
  rw [mlS_ag h1, mlS_ag h1, h2, h3]
/-- hours: so many pass -/
theorem l_210 {h : HP} {M : MM} {E : EE} (w : RSk h) (v : VL M E) {many : Int} (m1 : many ≤ 1000) (d : Nat) : ∀ (k : Nat) (i : Int) (S : Nat → Int) (N : MM), (many - i).toNat = k → 0 ≤ i → i ≤ many → SB M 0 S → S 134 + k ≤ 1000000 → N 172 = S → Ag S2A M N → ∃ N', run (d + 6) md_210 20 [vr 145, vi many, vi i] [] (sM h N) = some (vi (psN M E k S 133 + 24 * psN M E k S 134), sM h (up2 N' 145 44 0)) ∧ N' 172 = psN M E k S ∧ Ag S2A M N'
  | 0, i, S, N, h1, h2, h3, hS, hn, hN, g => by
    refine ⟨N, ?_, hN, g⟩
    obtain ⟨s1, s2, s3, s4, s5, s6⟩ := hS
    rw [q_210_20 (d + 5) many i _ (w.m N), dt (by omega), mi_sM, hN, im (by omega) (by omega), ia (by omega) (by omega)]
    rfl
  | k + 1, i, S, N, h1, h2, h3, hS, hn, hN, g => by
    have pb := psS_b (E := E) v.1 hS (by omega)
    obtain ⟨s1, s2, s3, s4, s5, s6⟩ := id hS
    obtain ⟨N1, e1, k1, g1⟩ := m_209 (E := E) d (sM h N) w (v.a2 g) (by rw [mi_sM, hN]; exact hS.c99) (by rw [mi_sM, hN]; omega) (by rw [mi_sM, hN]; omega) (by rw [mi_sM, hN]; omega) (by rw [mi_sM, hN]; omega)
    rw [mi_sM, hN, psS_ag (g 149 (by unfold S2A; omega)) (g 147 (by unfold S2A; omega)) (g 153 (by unfold S2A; omega))] at k1
    rw [mi_sM] at g1
    rw [q_210_20 (d + 5) many i _ (w.m N), df (by omega), e1]
    simp only [zb, bV_s, sM_sM]
    rw [q_210_29, ia (by omega) (by omega)]
    exact l_210 w v m1 d k (i + 1) (psS M E S) N1 (by omega) (by omega) (by omega) pb.1 (by omega) k1 (g.tr g1)
def hoursV (M : MM) (E : EE) (many : Int) : Int := if 1 ≤ many ∧ many ≤ 1000 then psN M E many.toNat (M 172) 133 + 24 * psN M E many.toNat (M 172) 134 else -1
def hoursD (M : MM) (E : EE) (many : Int) : MM := if 1 ≤ many ∧ many ≤ 1000 then up2 (va_up M 172 (psN M E many.toNat (M 172))) 145 44 0 else M
theorem r_hours {E : EE} (d : Nat) (many : Int) (h : HP) (w : RSk h) (v : VM (h_mi h) E) (hn : h_mi h 172 134 + 1000 ≤ 1000000) : ∃ N, ev (d + 6) 210 [vr 145, vi many] h = some (vi (hoursV (h_mi h) E many), sM h N) ∧ QA (hoursD (h_mi h) E many) N := by
  have q0 : QA (h_mi h) (up2 (h_mi h) 145 0 0) := QA.f 0 0 (by omega) (by omega)
  rw [v_210, q_210_0 (d + 5) many h w, sI_h, m_148, bI_s, q_210_13]
  unfold hoursV hoursD
  by_cases c : 1 ≤ many ∧ many ≤ 1000
  · rw [bb_nt c, if_pos c, if_pos c]
    have v0 := (q0.vm v).vl
    obtain ⟨N, e1, k1, g1⟩ := l_210 (h := h) (M := up2 (h_mi h) 145 0 0) w v0 c.2 d many.toNat 0 (h_mi h 172) (up2 (h_mi h) 145 0 0) (by omega) (by omega) (by omega) (by have := (q0.vm v).2.1; rw [u2_ne _ _ _ (by omega)] at this; exact this) (by omega) (u2_ne _ _ _ (by omega)) (Ag.rf _)
    have ep : ∀ k S, psN (up2 (h_mi h) 145 0 0) E k S = psN (h_mi h) E k S := by
      intro k
      induction k with
      | zero => intro S; rfl
      | succ k ih => intro S; show psN _ E k _ = psN _ E k _; rw [psS_ag (u2_ne _ _ _ (by omega)) (u2_ne _ _ _ (by omega)) (u2_ne _ _ _ (by omega)), ih]
    rw [ep] at e1 k1
    refine ⟨_, e1, fun a ha => ?_, ?_, ?_⟩
    · by_cases ha2 : a = 172
      · subst ha2; rw [u2_ne _ _ _ (by omega), k1, u2_ne _ _ _ (by omega), up_eq]
      · have ha' : ¬ (a = 145 ∨ (160 ≤ a ∧ a ≤ 171) ∨ a = 173 ∨ (176 ≤ a ∧ a ≤ 179)) := ha
        rw [u2_ne _ _ _ (by omega), g1 a (by unfold S2A; omega), u2_ne _ _ _ (by omega), u2_ne _ _ _ (by omega), up_ne _ _ ha2]
    · rw [u2_no _ _ _ (by omega), g1 145 (by unfold S2A; omega), u2_no _ _ _ (by omega), u2_no _ _ _ (by omega), up_ne _ _ (by omega)]
    · rw [u2_at, u2_at]
  · refine ⟨up2 (h_mi h) 145 0 0, ?_, ?_⟩
    · rw [bb_nf c, if_neg c]; rfl
    · rw [if_neg c]; exact q0
