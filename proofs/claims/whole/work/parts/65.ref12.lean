/-! the reference: hours -/
/-- melting of one hour on a row s -/
def mlF (M : MM) (E : EE) (hr nt : Int) (c : Int) (S : Nat → Int) : Nat → Int := if S c.toNat = 0 then S else va_up (va_up S c.toNat (S c.toNat - min (S c.toNat) (meV M E c hr nt))) 136 (i_add (S 136) (min (S c.toNat) (meV M E c hr nt)))
def mlS (M : MM) (E : EE) (hr : Int) (S : Nat → Int) : Nat → Int := itr (mlF M E hr (S 134)) 60 0 S
def S2A : Nat → Prop := fun a => (162 ≤ a ∧ a ≤ 171) ∨ a = 172
/-- cells that are between 0 and 99 -/
def C99 (S : Nat → Int) : Prop := ∀ c, c < 60 → 0 ≤ S c ∧ S c ≤ 99
theorem mlF_e {M : MM} {E : EE} {hr nt c : Int} {S : Nat → Int} (c0 : 0 ≤ c) (c1 : c < 60) (hS : C99 S) : C99 (mlF M E hr nt c S) ∧ ∀ k, 60 ≤ k → k ≠ 136 → mlF M E hr nt c S k = S k := by
  have mb := meV_b M E c hr nt
  have sb := hS c.toNat (by omega)
  unfold mlF
  split
  · exact ⟨hS, fun _ _ _ => rfl⟩
  · refine ⟨fun j hj => ?_, fun k k0 k1 => ?_⟩
    · rw [up_ne _ _ (by omega), up_if]
      split
      · omega
      · exact hS j hj
    · rw [up_ne _ _ k1, up_ne _ _ (by omega)]
theorem mlS_e {M : MM} {E : EE} {hr nt : Int} : ∀ (k : Nat) (i : Int) (S : Nat → Int), 0 ≤ i → i + k ≤ 60 → C99 S → C99 (itr (mlF M E hr nt) k i S) ∧ ∀ j, 60 ≤ j → j ≠ 136 → itr (mlF M E hr nt) k i S j = S j
  | 0, i, S, _, _, hS => ⟨hS, fun _ _ _ => rfl⟩
  | k + 1, i, S, h0, h1, hS => by
    have a := mlF_e (M := M) (E := E) (hr := hr) (nt := nt) h0 (by omega) hS
    have b := mlS_e (M := M) (E := E) (hr := hr) (nt := nt) k (i + 1) _ (by omega) (by omega) a.1
    exact ⟨b.1, fun j j0 j1 => (b.2 j j0 j1).trans (a.2 j j0 j1)⟩
/-- what laws and sights need of a memory, whatever row 172 holds -/
def VL (M : MM) (E : EE) : Prop := FB M 0 ∧ ∀ l, l < 4 → LR M (E 0 l) 0 l ∧ AlE l (E 0 l)
theorem VM.vl {M : MM} {E : EE} (v : VM M E) : VL M E := ⟨v.1, v.2.2⟩
theorem FB.a2 {M N : MM} {r : Nat} (h : FB M r) (g : Ag S2A M N) : FB N r := by
  unfold FB at h ⊢
  rw [g 147 (by unfold S2A; omega), g 148 (by unfold S2A; omega), g 149 (by unfold S2A; omega), g 151 (by unfold S2A; omega), g 152 (by unfold S2A; omega), g 153 (by unfold S2A; omega), g 154 (by unfold S2A; omega), g 155 (by unfold S2A; omega), g 156 (by unfold S2A; omega)]
  exact h
theorem VL.a2 {M N : MM} {E : EE} (v : VL M E) (g : Ag S2A M N) : VL N E := ⟨v.1.a2 g, fun l hl => ⟨(v.2 l hl).1.ag (g _ (by unfold S2A; omega)) (g _ (by unfold S2A; omega)) (g _ (by unfold S2A; omega)), (v.2 l hl).2⟩⟩
theorem m_190' {E : EE} (d : Nat) (l : Nat) (c hr nt wo : Int) (h : HP) (w : RSk h) (v : VL (h_mi h) E) (hl : l ≤ 1) (hwo : wo = dfl l (fun _ => 0)) (c0 : 0 ≤ c) (c1 : c < 60) : ∃ N, ev (d + 3) 190 [vr 145, vi l, vi c, vi hr, vi nt, vi wo] h = some (vi (c9 (E 0 l (fcl (h_mi h) c hr nt))), sM h N) ∧ Ag LwA (h_mi h) N := by
  -- row 172 doesn't matter here: put a good one in and take it out again
  obtain ⟨lr, ale⟩ := v.2 l (by omega)
  have el : ((l : Int)).toNat = l := by omega
  rw [v_190, q_190_0 (d + 2) l c hr nt wo h w, el]
  simp (disch := first | assumption | omega) only [mi_sM, sI_sM, sRi_sM, isK_sM, inb_sM, ln_sM, mr_sM, ml_sM, dt, df, ia, is_, zb, bI_s, bV_s, bR_s]
  have e4 : 4 * 0 + l = l := by omega
  unfold LR at lr
  rw [e4] at lr
  rcases lr with ⟨l1, l2⟩ | ⟨l1, l2, l3, cc, l4, l5⟩
  · rw [df (by omega)]
    refine ⟨h_mi h, ?_, Ag.rf _⟩
    rw [l2]
    have : c9 (dfl l (fcl (h_mi h) c hr nt)) = wo := by
      subst hwo
      have : l = 0 ∨ l = 1 := by omega
      rcases this with rfl | rfl <;> rfl
    rw [this]; rfl
  · rw [dt (by omega), v_189, q_189_0 (d + 2) c hr nt h w]
    simp (disch := first | assumption | omega) only [mi_sM, sI_sM, sRi_sM, isK_sM, inb_sM, ln_sM, mr_sM, ml_sM, dt, df, ia, is_, zb, bI_s, bV_s, bR_s, ir, id_]
    simp only [sI_h, sM_sM, mi_sM]
    generalize hN : up2 (up2 (up2 (up2 (up2 (h_mi h) 171 1 hr) 171 2 nt) 171 3 (c % 10)) 171 4 (c / 10)) 171 5 (h_mi h 149 c.toNat) = N
    have gN : Ag (fun a => a = 171) (h_mi h) N := by
      intro b hb
      have hb : b ≠ 171 := hb
      rw [← hN, u2_ne _ _ _ hb, u2_ne _ _ _ hb, u2_ne _ _ _ hb, u2_ne _ _ _ hb, u2_ne _ _ _ hb]
    rw [q_190_26 (d + 2) _ _ _ _ _ (sM h N) w]
    obtain ⟨N', e1, g1⟩ := l4 h N d l w (by omega) (by omega) (by rw [el, gN 157 (by omega)]; omega) (by rw [el, gN 157 (by omega), gN 158 (by omega)]; omega) (by rw [el, gN 157 (by omega)]; omega) (fun j j0 j1 => by rw [el, gN 157 (by omega), gN 159 (by omega)]; exact l5 j j0 j1)
    rw [e1, bI_s, q_190_31, m_149 _ _ _ _ (by omega), bI_s, q_190_37]
    have e5 : E 0 l (fun k => N 171 (k + 1)) = E 0 l (fcl (h_mi h) c hr nt) := by
      refine ale _ _ (fun k hk => ?_)
      have hk : k ≤ 4 := by unfold al at hk; omega
      rw [← hN]
      unfold fcl
      have : k = 0 ∨ k = 1 ∨ k = 2 ∨ k = 3 ∨ k = 4 := by omega
      rcases this with rfl | rfl | rfl | rfl | rfl
      · rw [u2_no _ _ _ (by omega), u2_no _ _ _ (by omega), u2_no _ _ _ (by omega), u2_no _ _ _ (by omega), u2_at]; rfl
      · rw [u2_no _ _ _ (by omega), u2_no _ _ _ (by omega), u2_no _ _ _ (by omega), u2_at]; rfl
      · rw [u2_no _ _ _ (by omega), u2_no _ _ _ (by omega), u2_at]; rfl
      · rw [u2_no _ _ _ (by omega), u2_at]; rfl
      · rw [u2_at]; rfl
    rw [e5]
    exact ⟨N', rfl, (gN.up (fun a ha => by unfold LwA; omega)).tr (g1.up (fun a ha => by unfold WkA at ha; unfold LwA; omega))⟩
theorem l_208 {h : HP} {M : MM} {E : EE} (w : RSk h) (v : VL M E) {hr nt : Int} (d : Nat) : ∀ (k : Nat) (i : Int) (S : Nat → Int) (v3 : AV) (N : MM), (60 - i).toNat = k → 0 ≤ i → i ≤ 60 → C99 S → S 134 = nt → N 172 = S → Ag S2A M N → ∃ N', run (d + 4) md_208 2 [vr 145, vi hr, vi i, v3] [] (sM h N) = some (vr 0, sM h N') ∧ N' 172 = itr (mlF M E hr nt) k i S ∧ Ag S2A M N'
  | 0, i, S, v3, N, h1, h2, h3, hS, hn, hN, g => by
    refine ⟨N, ?_, hN, g⟩
    rw [q_208_2 (d + 3) hr i v3 _ (w.m N), dt (by omega)]
    rfl
  | k + 1, i, S, v3, N, h1, h2, h3, hS, hn, hN, g => by
    have sb := hS i.toNat (by omega)
    have mb := meV_b M E i hr nt
    have fe := mlF_e (M := M) (E := E) (hr := hr) (nt := nt) h2 (by omega) hS
    rw [q_208_2 (d + 3) hr i v3 _ (w.m N), mi_sM, hN]
    simp (disch := omega) only [mi_sM, sI_sM, sRi_sM, isK_sM, inb_sM, ln_sM, mr_sM, ml_sM, dt, df, ia, is_, zb, bI_s, bV_s, bR_s]
    show ∃ N', _ = some (vr 0, sM h N') ∧ N' 172 = itr (mlF M E hr nt) k (i + 1) (mlF M E hr nt i S) ∧ Ag S2A M N'
    by_cases c : S i.toNat = 0
    · rw [df (by omega)]
      have : mlF M E hr nt i S = S := if_pos c
      rw [this]
      exact l_208 w v d k (i + 1) S v3 N (by omega) (by omega) (by omega) hS hn hN g
    · obtain ⟨N1, e1, g1⟩ := m_190' (E := E) d 1 i hr nt 1 (sM h N) w (v.a2 g) (by omega) rfl h2 (by omega)
      rw [mi_sM, fcl_ag (g 149 (by unfold S2A; omega)), sM_sM] at e1
      rw [mi_sM] at g1
      have e1 : ev (d + 3) 190 [vr 145, vi 1, vi i, vi hr, vi nt, vi 1] (sM h N) = some (vi (meV M E i hr nt), sM h N1) := e1
      have hN1 : N1 172 = S := by rw [g1 172 (by unfold LwA; omega), hN]
      rw [dt c, hn, e1]
      simp only [zb, bI_s]
      rw [q_208_42 (d + 3) hr i v3 _ _ _ (w.m N1), mi_sM, hN1, up_ne S _ (show (136 : Nat) ≠ i.toNat by omega)]
      simp (disch := omega) only [mi_sM, sI_sM, sRi_sM, isK_sM, inb_sM, ln_sM, mr_sM, ml_sM, dt, df, ia, is_, zb, bI_s, bV_s, bR_s]
      have ef : mlF M E hr nt i S = va_up (va_up S i.toNat (S i.toNat - min (S i.toNat) (meV M E i hr nt))) 136 (i_add (S 136) (min (S i.toNat) (meV M E i hr nt))) := if_neg c
      refine l_208 w v d k (i + 1) (mlF M E hr nt i S) (vi (min (S i.toNat) (meV M E i hr nt))) _ (by omega) (by omega) (by omega) fe.1 ((fe.2 134 (by omega) (by omega)).trans hn) ?_ ?_
      · rw [u2_eq, u2_eq, hN1, ef]
      · intro a ha
        have ha' : ¬ ((162 ≤ a ∧ a ≤ 171) ∨ a = 172) := ha
        rw [u2_ne _ _ _ (by omega), u2_ne _ _ _ (by omega), g1 a (by unfold LwA; omega)]
        exact g a ha
theorem m_208 {E : EE} (d : Nat) (hr : Int) (h : HP) (w : RSk h) (v : VL (h_mi h) E) (hS : C99 (h_mi h 172)) : ∃ N, ev (d + 4) 208 [vr 145, vi hr] h = some (vr 0, sM h N) ∧ N 172 = mlS (h_mi h) E hr (h_mi h 172) ∧ Ag S2A (h_mi h) N := by
  rw [v_208, q_208_0]
  exact l_208 (h := h) w v d 60 0 (h_mi h 172) vu (h_mi h) rfl (by omega) (by omega) hS rfl rfl (Ag.rf _)
/-- all pails full, no load over -/
def flF (M : MM) (p : Int) (S : Nat → Int) : Nat → Int := va_up S (120 + p).toNat (M 153 p.toNat)
def flS (M : MM) (S : Nat → Int) : Nat → Int := va_up (itr (flF M) (M 147 2).toNat 0 S) 132 0
theorem l_184 {h : HP} {M : MM} (w : RSk h) (hp : M 147 2 ≤ 6) (d : Nat) : ∀ (k : Nat) (i : Int) (S : Nat → Int), (M 147 2 - i).toNat = k → 0 ≤ i → i ≤ M 147 2 → run d md_184 2 [vr 145, vi i] [] (sM h (va_up M 172 S)) = some (vr 0, sM h (va_up M 172 (va_up (itr (flF M) k i S) 132 0)))
  | 0, i, S, h1, h2, h3 => by
    rw [q_184_2 d i _ (w.m _)]
    simp (disch := omega) only [mi_sM, sI_sM, sRi_sM, isK_sM, inb_sM, ln_sM, mr_sM, ml_sM, dt, df, ia, is_, zb, bI_s, bV_s, bR_s, up_ne, up2_row]
    rfl
  | k + 1, i, S, h1, h2, h3 => by
    rw [q_184_2 d i _ (w.m _)]
    simp (disch := omega) only [mi_sM, sI_sM, sRi_sM, isK_sM, inb_sM, ln_sM, mr_sM, ml_sM, dt, df, ia, is_, zb, bI_s, bV_s, bR_s, up_ne, up2_row]
    exact l_184 w hp d k (i + 1) (flF M i S) (by omega) (by omega) (by omega)
theorem m_184 (d : Nat) (h : HP) (w : RSk h) (p0 : 0 ≤ h_mi h 147 2) (p1 : h_mi h 147 2 ≤ 6) : ev d 184 [vr 145] h = some (vr 0, sM h (va_up (h_mi h) 172 (flS (h_mi h) (h_mi h 172)))) := by
  rw [v_184, q_184_0]
  have := l_184 (h := h) (M := h_mi h) w p1 d _ 0 (h_mi h 172) rfl (by omega) p0
  rw [up_self, Int.sub_zero] at this
  exact this
/-- an hour goes by -/
def psS (M : MM) (E : EE) (S : Nat → Int) : Nat → Int :=
  if S 133 = 23 then flS M (va_up (va_up (mlS M E 23 S) 133 0) 134 (S 134 + 1)) else va_up (if 11 < S 133 then mlS M E (S 133) S else S) 133 (S 133 + 1)
theorem mlS_k {M : MM} {E : EE} {hr : Int} {S : Nat → Int} (hS : C99 S) : C99 (mlS M E hr S) ∧ ∀ j, 60 ≤ j → j ≠ 136 → mlS M E hr S j = S j := mlS_e 60 0 S (by omega) (by omega) hS
theorem m_209 {E : EE} (d : Nat) (h : HP) (w : RSk h) (v : VL (h_mi h) E) (hS : C99 (h_mi h 172)) (h0 : 0 ≤ h_mi h 172 133) (h1 : h_mi h 172 133 ≤ 23) (n0 : 0 ≤ h_mi h 172 134) (n1 : h_mi h 172 134 ≤ 10000000) : ∃ N, ev (d + 5) 209 [vr 145] h = some (vr 0, sM h N) ∧ N 172 = psS (h_mi h) E (h_mi h 172) ∧ Ag S2A (h_mi h) N := by
  have fb := v.1
  have hp : 0 ≤ h_mi h 147 2 ∧ h_mi h 147 2 ≤ 6 := fb.2.2.1
  have fin : ∀ N : MM, Ag S2A (h_mi h) N → N 172 133 = h_mi h 172 133 → N 172 134 = h_mi h 172 134 → ∃ N', run (d + 5) md_209 25 [vr 145] [] (sM h N) = some (vr 0, sM h N') ∧ N' 172 = (if h_mi h 172 133 = 23 then flS (h_mi h) (va_up (va_up (N 172) 133 0) 134 (h_mi h 172 134 + 1)) else va_up (N 172) 133 (h_mi h 172 133 + 1)) ∧ Ag S2A (h_mi h) N' := by
    intro N g e1 e2
    rw [q_209_25 (d + 4) _ (w.m N), mi_sM, e1, e2]
    simp (disch := omega) only [mi_sM, sI_sM, sRi_sM, isK_sM, inb_sM, ln_sM, mr_sM, ml_sM, dt, df, ia, is_, zb, bI_s, bV_s, bR_s]
    by_cases c : h_mi h 172 133 = 23
    · rw [df (by omega), if_pos c, m_184 (d + 4) _ (w.m _) (by rw [mi_sM, u2_ne _ _ _ (by omega), u2_ne _ _ _ (by omega), u2_ne _ _ _ (by omega), g 147 (by unfold S2A; omega)]; exact hp.1) (by rw [mi_sM, u2_ne _ _ _ (by omega), u2_ne _ _ _ (by omega), u2_ne _ _ _ (by omega), g 147 (by unfold S2A; omega)]; exact hp.2)]
      simp only [zb, bV_s]
      rw [q_209_75]
      refine ⟨_, rfl, ?_, ?_⟩
      · rw [mi_sM, up_eq]
        unfold flS flF
        rw [u2_ne _ _ _ (show (147 : Nat) ≠ 172 by omega), u2_ne _ _ _ (show (147 : Nat) ≠ 172 by omega), u2_ne _ _ _ (show (147 : Nat) ≠ 172 by omega), u2_ne _ _ _ (show (153 : Nat) ≠ 172 by omega), u2_ne _ _ _ (show (153 : Nat) ≠ 172 by omega), u2_ne _ _ _ (show (153 : Nat) ≠ 172 by omega), g 147 (by unfold S2A; omega), g 153 (by unfold S2A; omega), u2_eq, u2_eq, u2_eq, up_up]
      · intro a ha
        have ha' : ¬ ((162 ≤ a ∧ a ≤ 171) ∨ a = 172) := ha
        rw [mi_sM, up_ne _ _ (by omega), u2_ne _ _ _ (by omega), u2_ne _ _ _ (by omega), u2_ne _ _ _ (by omega)]
        exact g a ha
    · rw [dt (by omega), if_neg c]
      simp only [zb]
      rw [q_209_75]
      refine ⟨_, rfl, by rw [u2_eq], ?_⟩
      intro a ha
      have ha' : ¬ ((162 ≤ a ∧ a ≤ 171) ∨ a = 172) := ha
      rw [u2_ne _ _ _ (by omega)]
      exact g a ha
  rw [v_209, q_209_0 (d + 4) h w]
  unfold psS
  by_cases c1 : h_mi h 172 133 ≤ 11
  · rw [dt c1]
    obtain ⟨N, f1, f2, f3⟩ := fin (h_mi h) (Ag.rf _) rfl rfl
    refine ⟨N, f1, ?_, f3⟩
    rw [f2, if_neg (by omega), if_neg (by omega), if_neg (by omega)]
  · obtain ⟨N1, e1, k1, g1⟩ := m_208 (E := E) d (h_mi h 172 133) h w v hS
    have mk := mlS_k (M := h_mi h) (E := E) (hr := h_mi h 172 133) hS
    obtain ⟨N, f1, f2, f3⟩ := fin N1 g1 (by rw [k1]; exact mk.2 133 (by omega) (by omega)) (by rw [k1]; exact mk.2 134 (by omega) (by omega))
    rw [df c1, e1]
    refine ⟨N, f1, ?_, f3⟩
    rw [f2, k1]
    by_cases c2 : h_mi h 172 133 = 23
    · rw [if_pos c2, if_pos c2, c2]
    · rw [if_neg c2, if_neg c2, if_pos (by omega)]
