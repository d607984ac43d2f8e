/-! a fjord is told: what the class leaves -/
theorem Stt.sm {h : HP} (w : Stt h) {N : MM} (g : ∀ a, a < 43 → N a = h_mi h a) : Stt (sM h N) := fun b b1 b2 => by
  obtain ⟨s1, s2, s3, s4, s5⟩ := w b b1 b2
  exact ⟨s1, s2, fun j => by rw [mi_sM, g b b1]; exact s3 j, s4, s5⟩
theorem Fj.s6 {h : HP} {t : Nat} (f : Fj t h) (w : CSk h) (v : Nat) : Fj t (sR h 106 4 v) := by
  obtain ⟨j1, j2, j3, j4, j5⟩ := f
  have k6 : h_kd h 106 = 3 := (w.1 _ (List.mem_of_getElem? (i := 6) rfl)).1
  refine ⟨j1, j2, j3, fun j hj => by rw [mrR_ne _ _ _ (by omega)]; exact j4 j hj, fun j hj => ?_⟩
  obtain ⟨u1, u2, u3⟩ := j5 j hj
  have nn : h_mr h t (j + 15) ≠ 106 := fun z => by rw [z, k6] at u1; omega
  rw [mrR_ne _ _ _ (show t ≠ 106 by omega), mrR_ne _ _ _ nn]
  exact ⟨u1, u2, u3⟩
/-- the ice begins anew -/
theorem c_37 {h : HP} {t : Nat} (w : CSk h) (f : Fj t h) (t2 : 182 ≤ t) (d : Nat) : ∃ N, ev (d + 1) 37 [vr 106, vr t] h = some (vr 0, sM (sR h 106 4 t) N) ∧ (∀ a, a ≠ 106 → a ≠ 126 → a ≠ 127 → a ≠ 128 → a ≠ 129 → N a = h_mi h a) ∧ (∀ j, 5 ≤ j → j ≤ 10 → N 106 j = 0) ∧ (∀ c, c < 60 → N 126 c = 0 ∧ N 127 c = -1) ∧ ∀ p, p < 6 → N 128 p = h_mi h (t + 5) p ∧ N 129 p = 0 := by
  have w1 : CSk (sR h 106 4 t) := w.sr (by omega)
  have f1 := f.s6 w t
  rw [v_37, q_37_0 (w := w), sI_h (sR h 106 4 t) 106 6 0, sI_sM, sI_sM, sI_sM, sI_sM]
  generalize hN : up2 (up2 (up2 (up2 (up2 (h_mi (sR h 106 4 t)) 106 6 0) 106 7 0) 106 8 0) 106 9 0) 106 10 0 = N0
  have n0 : ∀ a, a ≠ 106 → N0 a = h_mi h a := fun a ha => by rw [← hN]; simp (disch := omega) only [u2_ne]; rfl
  have n6 : ∀ j, 6 ≤ j → j ≤ 10 → N0 106 j = 0 := fun j j1 j2 => by
    rw [← hN]
    have : j = 6 ∨ j = 7 ∨ j = 8 ∨ j = 9 ∨ j = 10 := by omega
    rcases this with z | z | z | z | z <;> subst z <;> simp (disch := omega) only [u2_at, u2_no]
  obtain ⟨N1, e1, a1, b1⟩ := c_264 (h := sM (sR h 106 4 t) N0) (a := 126) (k_126 w1) (by rw [ln_sM, n_126 w1]; omega) d 0
  rw [ln_sM, n_126 w1] at b1
  rw [sM_sM] at e1
  obtain ⟨N2, e2, a2, b2⟩ := c_264 (h := sM (sR h 106 4 t) N1) (a := 127) (k_127 w1) (by rw [ln_sM, n_127 w1]; omega) d (-1)
  rw [ln_sM, n_127 w1] at b2
  rw [sM_sM] at e2
  obtain ⟨N3, e3, a3, b3⟩ := c_264 (h := sM (sR h 106 4 t) N2) (a := 129) (k_129 w1) (by rw [ln_sM, n_129 w1]; omega) d 0
  rw [ln_sM, n_129 w1] at b3
  rw [sM_sM] at e3
  rw [mi_sM] at a1 a2 a3 b1 b2 b3
  have m4 : h_mr (sM (sR h 106 4 t) N3) 106 4 = t := by rw [mr_sM, mrR_eq, up_eq]
  refine ⟨va_up (up2 N3 106 5 0) 128 (va_cpy (N3 (t + 5)) (N3 128) 0 0 6), ?_, fun a x1 x2 x3 x4 x5 => ?_, fun j j1 j2 => ?_, fun c hc => ⟨?_, ?_⟩, fun p hp => ⟨?_, ?_⟩⟩
  · rw [e1, bV_s, q_37_38 (w := w1.m _), e2, bV_s, q_37_46 (w := w1.m _), e3, bV_s, q_37_54 (w := w1.m _), v_40, q_40_0 (h := sM (sR h 106 4 t) N3) (t := t) (w := w1.m _) (f := f1) (ht := m4), bV_s, q_37_58, sI_sM, sRi_sM, mi_sM]
  · rw [up_ne _ _ x4, u2_ne _ _ _ x1, a3 a x5, a2 a x3, a1 a x2, n0 a x1]
  · rw [up_ne _ _ (by omega)]
    by_cases z : j = 5
    · rw [z, u2_at]
    · rw [u2_no _ _ _ z, a3 106 (by omega), a2 106 (by omega), a1 106 (by omega)]; exact n6 j (by omega) j2
  · rw [up_ne _ _ (by omega), u2_ne _ _ _ (by omega), a3 126 (by omega), a2 126 (by omega), b1, if_pos hc]
  · rw [up_ne _ _ (by omega), u2_ne _ _ _ (by omega), a3 127 (by omega), b2, if_pos hc]
  · rw [up_eq]
    unfold va_cpy
    rw [if_pos (by omega), show 0 + (p - 0) = p by omega, a3 _ (by omega), a2 _ (by omega), a1 _ (by omega), n0 _ (by omega)]
  · rw [up_ne _ _ (by omega), u2_ne _ _ _ (by omega), b3, if_pos hp]
theorem UnD.ap {M N : MM} {z : Nat} {S0 S : Nat → Int} (u : UnD M z S0 S) (g : ∀ a, a = 131 ∨ a = 132 ∨ a = 133 → N a = M a) (e : N 147 2 = M 147 2) : UnD N z S0 S := by
  unfold UnD at u ⊢
  rw [g 131 (by omega), g 132 (by omega), g 133 (by omega), e]
  exact u
theorem DdG.ap {M N : MM} {n : Int} {U S : Nat → Int} (u : DdG M n U S) (g : ∀ a, 130 ≤ a → a ≤ 133 → N a = M a) (a : AP 0 M N) : DdG N n U S := by
  obtain ⟨u1, u2, u3, u4⟩ := u
  refine ⟨by rw [g 130 (by omega) (by omega)]; exact u1, u2, by rw [g 130 (by omega) (by omega)]; exact u3, fun i hi => ?_⟩
  obtain ⟨⟨x, y⟩, c⟩ := u4 i hi
  rw [g 130 (by omega) (by omega)]
  exact ⟨⟨SB.ap a x, y⟩, c.ap (fun b hb => g b (by omega) (by omega)) (a.1 2 (by omega))⟩
section
variable {h h2 : HP} {t : Nat} {E : EE} {B : Int} {L : Nat} {xs : Nat → Int}
/-- nothing but readers and place 1 has changed, the tape is empty -/
theorem Inv.gz (i : Inv h t E B L xs) (w : RSk h2) (cs : CSk h2) (st : Stt h2) (g : Gt h h2) (gm : ∀ a, a = 40 ∨ a = 106 ∨ (126 ≤ a ∧ a ≤ 133) ∨ a = 138 ∨ a = 139 ∨ a = 172 ∨ a = 175 → h_mi h2 a = h_mi h a) (m6 : h_mr h2 106 4 = h_mr h 106 4) (ap : ∀ p, p ≠ 1 → AP p (h_mi h) (h_mi h2)) (t1 : h_mi h2 101 1 = 0) (t2 : h_mi h2 145 1 = 0) (t3 : h_mi h2 145 44 = h_mi h 145 44) : Inv h2 t E B L xs := by
  obtain ⟨k, fo, tp, dd, ms, ss, lw⟩ := i
  have z := lw.2.2.2.2.2
  have lt := k.fj.lt
  have z1 := fo.2.1
  have a0 := ap 0 (by omega)
  have e172 := gm 172 (by omega)
  have ln0 : LnO (h_mi h) 0 := ms.2.2
  refine ⟨?_, fo.gt (fun l hl => (k.lc l hl).1) g, ⟨by rw [t1, t2], by rw [t2]; omega, fun j hj => by rw [t2] at hj; omega⟩, ?_, ms.gt z g (fun j _ => ap (j + 2) (by omega)) (LnO.ap a0 ln0) (fun _ _ _ _ => rfl), by rw [e172]; exact ss, ?_⟩
  · unfold Cu
    rw [e172]
    refine ⟨⟨w, cs, st, by rw [gm 138 (by omega), gm 139 (by omega)]; exact k.z0⟩, (fo.gt (fun l hl => (k.lc l hl).1) g).1, by rw [m6]; exact k.ht, ⟨FB.ap a0 k.vm.1, by rw [e172]; exact SB.ap a0 k.vm.2.1, fun l hl => ⟨LR.ap a0 hl ln0 (k.vm.2.2 l hl).1, (k.vm.2.2 l hl).2⟩⟩, FN.ap a0 k.vm.1 (fun i hi => (g.2 (t + i) (by omega)).2.2.2 (by omega)) k.fn, k.lc.gt fo g (fun _ _ => rfl), ?_⟩
    rw [show h_mi h2 147 2 = h_mi h 147 2 from a0.1 2 (by omega)]
    exact k.ic.cg (gm 106 (by omega)) (fun j hj => gm _ (by omega))
  · rw [t3, gm 175 (by omega), e172]
    exact dd.ap (fun a a1 a2 => gm a (by omega)) a0
  · obtain ⟨w1, w2, w3, w4, w5, w6⟩ := lw
    have g0 := g.1
    exact ⟨by rw [(g.2 40 (by omega)).1]; exact w1, by rw [(g.2 40 (by omega)).2.1]; exact w2, by rw [gm 40 (by omega)]; exact w3, by rw [(g.2 181 (by omega)).1]; exact w4, by rw [(g.2 181 (by omega)).2.1]; exact w5, by omega⟩
end
