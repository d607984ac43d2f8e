/-! the class: pour, over, undo, share, stump, hours -/
section
variable {h : HP} {t : Nat} {E : EE} {S : Nat → Int}
/-- the deeds alone change -/
theorem Cg.kp (k : Cg h t E S) {N : MM} (g : Ag (fun a => 130 ≤ a ∧ a ≤ 133) (h_mi h) N) : Cg (sM h N) t E S := by
  have lt := k.fj.lt
  exact k.own (g.up (fun a ha => by unfold CA; omega)) (fun a h1 h2 => g a (by omega)) (by rw [g 138 (by omega), g 139 (by omega)]; exact k.z0) (k.ic.cg (g _ (by omega)) (fun j hj => g _ (by omega)))
theorem Cu.kp (k : Cu h t E) {N : MM} (g : Ag (fun a => 130 ≤ a ∧ a ≤ 133) (h_mi h) N) : Cu (sM h N) t E := by
  have := Cg.kp k g
  unfold Cu
  rw [mi_sM, g 172 (by omega)]
  exact this
theorem poS_rr {M N : MM} (g : ∀ a, 145 ≤ a → a ≤ 180 → N a = M a) (E : EE) (p c : Int) : poS N E p c = poS M E p c := by
  unfold poS poV
  rw [g 172 (by omega) (by omega), g 152 (by omega) (by omega), grV_ag (g 149 (by omega) (by omega)) (g 148 (by omega) (by omega))]
def DdB (M : MM) : Prop := (0 ≤ M 130 3 ∧ M 130 3 < 20) ∧ 0 ≤ M 130 4 ∧ M 130 4 ≤ 20
theorem k_pour (k : Cu h t E) (b : DdB (h_mi h)) (d : Nat) (p x y : Int) : (pourOk (h_mi h) p x y → ∃ N, ev (d + 5) 115 [vr 100, vi p, vi x, vi y] h = some (vi 1, sM h N) ∧ Ag (CA t) (h_mi h) N ∧ (∀ a, 145 ≤ a → a ≤ 180 → N a = h_mi h a) ∧ Cg (sM h N) t E (poS (h_mi h) E p (10 * y + x)) ∧ ∀ a, (101 ≤ a ∧ a ≤ 102) ∨ (130 ≤ a ∧ a ≤ 133) → N a = kpC (h_mi h) (8 + p) y a) ∧ (¬ pourOk (h_mi h) p x y → ev (d + 5) 115 [vr 100, vi p, vi x, vi y] h = some (vi 0, h)) := by
  have cc := k.vm.c
  have rr := k.vm.r
  have pp := k.vm.p
  have lt := k.fj.lt
  have c43 := c_43 k (d + 2) p x y
  rw [v_115, q_115_0 (w := k.cs)]
  refine ⟨fun q => ?_, fun q => ?_⟩
  · obtain ⟨q1, q2, _⟩ := id q
    have gk : Ag (fun a => 130 ≤ a ∧ a ≤ 133) (h_mi h) (kpC (h_mi h) (8 + p) y) := fun a ha => kpC_ne _ _ _ (by omega)
    have k1 := k.kp gk
    have r1 : ∀ a, 145 ≤ a → a ≤ 180 → kpC (h_mi h) (8 + p) y a = h_mi h a := fun a h1 h2 => kpC_ne _ _ _ (by omega)
    obtain ⟨N, e, g, kN⟩ := c_45 k1 d (p := p) (c := 10 * y + x) q1.1 (by rw [mi_sM, r1 147 (by omega) (by omega)]; exact q1.2) (by omega) (by omega)
    rw [mi_sM] at g kN
    rw [sM_sM] at e kN
    rw [poS_rr r1] at kN
    have c15 := c_15 k.cs (d + 2) (8 + p) (row := y) (by omega) (by omega) b.1.1 b.1.2 b.2.1 b.2.2
    have c13 : ev (d + 4) 13 [vr 130, vi p, vi y, vr 106] h = some (vr 0, sM h (kpC (h_mi h) (8 + p) y)) := by
      rw [v_13, q_13_0 (w := k.cs), ia (by omega) (by omega), c15, bV_s, q_13_10]
    refine ⟨N, ?_, (gk.up (fun a ha => by unfold CA; omega)).tr (g.up (fun a ha => by unfold IcA CqA at ha; unfold CA; omega)), fun a h1 h2 => ?_, kN, fun a ha => g a (by unfold IcA CqA; omega)⟩
    · rw [c43.1 q, bI_s, q_115_10 (w := k.cs), dt (by omega), c13]
      simp only [cond_true, bV_s]
      rw [q_115_28 (w := k1.cs), c_141 _ _ _ _ (by omega) (by omega) (by omega) (by omega), bI_s, q_115_38 (w := k1.cs), e, bV_s, q_115_41]
    · rw [g a (by unfold IcA CqA; omega), r1 a h1 h2]
  · rw [c43.2 q, bI_s, q_115_10 (w := k.cs), df (by omega)]; rfl
/-- worn of a whole row -/
theorem l_47 (k0 : Cg h t E S) (d : Nat) {l row w : Int} (hw : w = weV (h_mi h) l) (l0 : 0 ≤ l) (l1 : l < h_mi h 147 3) (r0 : 0 ≤ row) (r1 : row < 6) : ∀ (n : Nat) (i : Int) (T : Nat → Int) (v5 v6 : AV) (N : MM), (h_mi h 147 0 - i).toNat = n → 0 ≤ i → i ≤ h_mi h 147 0 → C99 T → i3 (T 137) → (∀ c, c < 60 → h_mi h 148 c = 1 → T c = 0) → Ag (IcA t) (h_mi h) N → Cg (sM h N) t E T → ∃ N' T', run (d + 1) md_47 12 [vr 106, vi l, vi row, vi w, vi i, v5, v6] [] (sM h N) = some (vr 0, sM h (up2 N' 106 5 (i_or (T 132) (i_shl 1 l)))) ∧ Ag (IcA t) (h_mi h) N' ∧ Cg (sM h N') t E T' ∧ T' = itr (ovF (h_mi h) l row) n i T
  | 0, i, T, v5, v6, N, h1, h2, h3, cT, iT, rT, g, k => by
    refine ⟨N, T, ?_, g, k, rfl⟩
    have e7 : h_mi (sM h N) t 0 = h_mi h 147 0 := by rw [k.dc, mi_sM, k0.ri g 147 (by omega) (by omega)]
    have e5 : h_mi (sM h N) 106 5 = T 132 := (k.dat (Ag.rf _)).2.2.2.2.2.2.2.2.2.2.2.2.2.2.2.2.2.1
    rw [q_47_12 (w := k.cs) (f := k.fj) (ht := k.ht), e7, e5, dt (by omega)]; rfl
  | n + 1, i, T, v5, v6, N, h1, h2, h3, cT, iT, rT, g, k => by
    have cc := k0.vm.c
    have wb := weV_b (h_mi h) l
    have e7 : h_mi (sM h N) t 0 = h_mi h 147 0 := by rw [k.dc, mi_sM, k0.ri g 147 (by omega) (by omega)]
    have b := cT (10 * row + i).toNat (by omega)
    rw [q_47_12 (w := k.cs) (f := k.fj) (ht := k.ht), e7, df (by omega), c_141 _ _ _ _ (by omega) (by omega) (by omega) (by omega)]
    simp only [cond_false, bI_s]
    rw [q_47_30 (w := k.cs)]
    simp (disch := omega) only [k.dat (Ag.rf _), dt, df, zb, ia, is_]
    have ii := (k.ic).th (c := (10 * row + i).toNat) (by omega) (f := 10) (s := 137) (by omega) (T (10 * row + i).toNat - min w (T (10 * row + i).toNat)) (i_add (T 137) (min w (T (10 * row + i).toNat)))
    have eo : va_up (va_up T (10 * row + i).toNat (T (10 * row + i).toNat - min w (T (10 * row + i).toNat))) 137 (i_add (T 137) (min w (T (10 * row + i).toNat))) = ovF (h_mi h) l row i T := by
      unfold ovF
      rw [← hw]
      by_cases z : h_mi h 148 (10 * row + i).toNat = 1
      · have z0 := rT (10 * row + i).toNat (by omega) z
        rw [if_pos z, z0, show min w 0 = 0 by omega, ia (by unfold i3 at iT; omega) (by unfold i3 at iT; omega), Int.add_zero, Int.sub_zero]
        have := up_self T (10 * row + i).toNat
        rw [z0] at this
        rw [this, up_self]
      · rw [if_neg z, up_comm _ _ _ (by omega)]
    rw [eo] at ii
    simp only [sI_h, sM_sM, mi_sM] at ii ⊢
    have g2 : Ag (IcA t) (h_mi h) (up2 (up2 N 126 (10 * row + i).toNat (T (10 * row + i).toNat - min w (T (10 * row + i).toNat))) 106 10 (i_add (T 137) (min w (T (10 * row + i).toNat)))) := (g.u2 _ _ (by unfold IcA; omega)).u2 _ _ (by unfold IcA; omega)
    have k2 := k0.ice g2 (S' := ovF (h_mi h) l row i T) (by
      have e7 : N 147 2 = h_mi h 147 2 := by rw [k0.ri g 147 (by omega) (by omega)]
      rw [← e7]; exact ii)
    have c2 : C99 (ovF (h_mi h) l row i T) := by
      rw [← eo]
      intro c hc
      rw [up_ne _ _ (by omega)]
      by_cases z : c = (10 * row + i).toNat
      · rw [z, up_eq]; omega
      · rw [up_ne _ _ z]; exact cT c hc
    have i2 : i3 (ovF (h_mi h) l row i T 137) := by
      rw [← eo, up_eq, i_add_b]
      unfold i3
      rw [Int.bmod_def]; split <;> omega
    have r2 : ∀ c, c < 60 → h_mi h 148 c = 1 → ovF (h_mi h) l row i T c = 0 := fun c hc hr => by
      rw [← eo, up_ne _ _ (by omega)]
      have t0 := rT c hc hr
      by_cases z : c = (10 * row + i).toNat
      · rw [z, up_eq]; rw [z] at t0; omega
      · rw [up_ne _ _ z]; exact t0
    have e132 : ovF (h_mi h) l row i T 132 = T 132 := by rw [← eo, up_ne _ _ (by omega), up_ne _ _ (by omega)]
    obtain ⟨N', T', e, gg, kk, tt⟩ := l_47 k0 d hw l0 l1 r0 r1 n (i + 1) (ovF (h_mi h) l row i T) (vi (10 * row + i)) (vi (min w (T (10 * row + i).toNat))) _ (by omega) (by omega) (by omega) c2 i2 r2 g2 k2
    rw [e132] at e
    exact ⟨N', T', e, gg, kk, tt⟩
theorem IN.ov {M : MM} {n : Int} {S : Nat → Int} (i : IN M 106 126 n S) (v : Int) : IN (up2 M 106 5 v) 106 126 n (va_up S 132 v) := by
  obtain ⟨a, b, e1, e2, e3, e4, e5, e6⟩ := i
  refine ⟨fun x hx => ?_, fun q hq => ?_, ?_⟩
  · rw [u2_ne _ _ _ (show 126 ≠ 106 by omega), u2_ne _ _ _ (show 126 + 1 ≠ 106 by omega), up_ne _ _ (by omega), up_ne _ _ (by omega)]
    exact a x hx
  · rw [u2_ne _ _ _ (show 126 + 3 ≠ 106 by omega), u2_ne _ _ _ (show 126 + 2 ≠ 106 by omega), up_ne (j := 126 + q) _ _ (by omega), up_ne (j := 120 + q) _ _ (by omega)]
    exact b q hq
  · rw [u2_eq, up_eq, up_eq, up_ne _ _ (by omega), up_ne _ _ (by omega), up_ne _ _ (by omega), up_ne _ _ (by omega), up_ne _ _ (by omega), up_ne _ _ (by omega), up_ne _ _ (by omega), up_ne _ _ (by omega), up_ne _ _ (by omega), up_ne _ _ (by omega)]
    exact ⟨rfl, e2, e3, e4, e5, e6⟩
theorem c_47 (k : Cu h t E) (iS : i3 (h_mi h 172 137)) (d : Nat) {l row : Int} (l0 : 0 ≤ l) (l1 : l < h_mi h 147 3) (r0 : 0 ≤ row) (r1 : row < 6) (hb : bit (h_mi h 172 132) l = 0) : ∃ N, ev (d + 1) 47 [vr 106, vi l, vi row] h = some (vr 0, sM h N) ∧ Ag (IcA t) (h_mi h) N ∧ Cg (sM h N) t E (ovS (h_mi h) l row) := by
  have cc := k.vm.c
  have l7 := k.vm.l
  have ov := k.vm.ov
  obtain ⟨N', T', e, g, kk, tt⟩ := l_47 k d (w := weV (h_mi h) l) rfl l0 l1 r0 r1 _ 0 (h_mi h 172) vu vu (h_mi h) rfl (by omega) (by omega) k.vm.2.1.c99 iS (fun c hc hr => ((k.vm.s hc).2.2 hr).1) (Ag.rf _) (by rw [sM_self]; exact k)
  rw [sM_self] at e
  have pi := pcI (s := h_mi h 172 132) (l := l) (by omega) (by omega) l0 (by omega) (by omega)
  have g2 : Ag (IcA t) (h_mi h) (up2 N' 106 5 (i_or (h_mi h 172 132) (i_shl 1 l))) := g.u2 _ _ (by unfold IcA; omega)
  refine ⟨_, ?_, g2, k.ice g2 ?_⟩
  · rw [v_47, q_47_0 (w := k.cs) (f := k.fj) (ht := k.ht), c_26 k d l0 l1, bI_s, q_47_8]
    exact e
  · have := kk.ic.ov (i_or (h_mi h 172 132) (i_shl 1 l))
    rw [mi_sM, k.ri g 147 (by omega) (by omega)] at this
    rw [pi.2.2.1] at this ⊢
    rw [tt, Int.sub_zero] at this
    exact this
theorem ovS_rr {M N : MM} (g : ∀ a, 145 ≤ a → a ≤ 180 → N a = M a) (l row : Int) : ovS N l row = ovS M l row := by
  have : ovF N l row = ovF M l row := by
    funext k S
    unfold ovF weV
    rw [g 148 (by omega) (by omega), g 154 (by omega) (by omega)]
  unfold ovS
  rw [this, g 172 (by omega) (by omega), g 147 (by omega) (by omega)]
theorem k_over (k : Cu h t E) (b : DdB (h_mi h)) (iS : i3 (h_mi h 172 137)) (d : Nat) (l row : Int) : (tollOk (h_mi h) l row → ∃ N, ev (d + 5) 116 [vr 100, vi l, vi row] h = some (vi 1, sM h N) ∧ Ag (CA t) (h_mi h) N ∧ (∀ a, 145 ≤ a → a ≤ 180 → N a = h_mi h a) ∧ Cg (sM h N) t E (ovS (h_mi h) l row) ∧ ∀ a, (101 ≤ a ∧ a ≤ 102) ∨ (130 ≤ a ∧ a ≤ 133) → N a = kpC (h_mi h) l row a) ∧ (¬ tollOk (h_mi h) l row → ev (d + 5) 116 [vr 100, vi l, vi row] h = some (vi 0, h)) := by
  have rr := k.vm.r
  have lt := k.fj.lt
  have c46 := c_46 k (d + 2) l row
  rw [v_116, q_116_0 (w := k.cs)]
  refine ⟨fun q => ?_, fun q => ?_⟩
  · obtain ⟨q1, q2, q3, _⟩ := id q
    have gk : Ag (fun a => 130 ≤ a ∧ a ≤ 133) (h_mi h) (kpC (h_mi h) l row) := fun a ha => kpC_ne _ _ _ (by omega)
    have k1 := k.kp gk
    have r1 : ∀ a, 145 ≤ a → a ≤ 180 → kpC (h_mi h) l row a = h_mi h a := fun a h1 h2 => kpC_ne _ _ _ (by omega)
    obtain ⟨N, e, g, kN⟩ := c_47 k1 (by rw [mi_sM, r1 172 (by omega) (by omega)]; exact iS) (d + 3) (l := l) (row := row) q1.1 (by rw [mi_sM, r1 147 (by omega) (by omega)]; exact q1.2) q2.1 (by omega) (by rw [mi_sM, r1 172 (by omega) (by omega)]; exact q3)
    rw [mi_sM] at g kN
    rw [sM_sM] at e kN
    rw [ovS_rr r1] at kN
    have c15 := c_15 k.cs (d + 2) l (row := row) (by omega) (by omega) b.1.1 b.1.2 b.2.1 b.2.2
    have c14 : ev (d + 4) 14 [vr 130, vi l, vi row, vr 106] h = some (vr 0, sM h (kpC (h_mi h) l row)) := by
      rw [v_14, q_14_0 (w := k.cs), c15, bV_s, q_14_7]
    refine ⟨N, ?_, (gk.up (fun a ha => by unfold CA; omega)).tr (g.up (fun a ha => by unfold IcA CqA at ha; unfold CA; omega)), fun a h1 h2 => ?_, kN, fun a ha => g a (by unfold IcA CqA; omega)⟩
    · rw [c46.1 q, bI_s, q_116_9 (w := k.cs), dt (by omega), c14]
      simp only [cond_true, bV_s]
      rw [q_116_27 (w := k1.cs), e, bV_s, q_116_36]
    · rw [g a (by unfold IcA CqA; omega), r1 a h1 h2]
  · rw [c46.2 q, bI_s, q_116_9 (w := k.cs), df (by omega)]; rfl
end
