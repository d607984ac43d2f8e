/-! the class: an hour goes by -/
def IcA (t : Nat) : Nat → Prop := fun a => CqA t a ∨ a = 106 ∨ (126 ≤ a ∧ a ≤ 129)
theorem IcA_q {t : Nat} : ∀ a, CqA t a → IcA t a := fun _ ha => Or.inl ha
section
variable {h : HP} {t : Nat} {E : EE} {S : Nat → Int}
theorem Cg.ri (k : Cg h t E S) {N : MM} (g : Ag (IcA t) (h_mi h) N) : ∀ a, 145 ≤ a → a ≤ 181 → N a = h_mi h a := fun a h1 h2 => g a (by
  have lt := k.fj.lt
  unfold IcA CqA; omega)
theorem Cg.ti (k : Cg h t E S) {N : MM} (g : Ag (IcA t) (h_mi h) N) : ∀ i, i ≤ 8 → N (t + i) = h_mi h (t + i) := fun i h1 => g _ (by
  have lt := k.fj.lt
  unfold IcA CqA; omega)
/-- the ice has become S' -/
theorem Cg.ice (k : Cg h t E S) {N : MM} (g : Ag (IcA t) (h_mi h) N) {S' : Nat → Int} (i : IN N 106 126 (h_mi h 147 2) S') : Cg (sM h N) t E S' := by
  have lt := k.fj.lt
  refine ⟨⟨k.rs, k.cs, ?_, by rw [mi_sM, g 138 (by unfold IcA CqA; omega), g 139 (by unfold IcA CqA; omega)]; exact k.z0⟩, k.fj, k.ht, k.vm.cg (fun a h1 h2 => k.ri g a h1 (by omega)), k.fn.cg (k.ti g) (fun a h1 h2 => k.ri g a h1 (by omega)), fun l hl => ?_, ?_⟩
  · have := k.st.sc (A := IcA t) (h1 := sM h N) ⟨rfl, rfl, rfl, rfl, rfl, fun a ha => ⟨g a ha, rfl⟩⟩ (fun a ha => by unfold IcA CqA at ha; omega)
    exact this
  · have c := k.lc l hl
    refine LC.cg (h := h) c rfl (g (h_mr h t (l + 15) + 1) ?_)
    have kd := (k.fj.2.2.2.2 l hl).1
    have n := k.fj.lk kd
    have r := c.1
    unfold IcA CqA; omega
  · rw [mi_sM, k.ri g 147 (by omega) (by omega)]
    exact i
/-- thick of one cell and a count change -/
theorem IN.th {M : MM} {n : Int} {S : Nat → Int} (i : IN M 106 126 n S) {c : Nat} (hc : c < 60) {f s : Nat} (hs : (f = 8 ∧ s = 135) ∨ (f = 9 ∧ s = 136) ∨ (f = 10 ∧ s = 137)) (v u : Int) : IN (up2 (up2 M 126 c v) 106 f u) 106 126 n (va_up (va_up S c v) s u) := by
  obtain ⟨a, b, e1, e2, e3, e4, e5, e6⟩ := i
  have nn : ∀ j, j ≠ 106 → up2 (up2 M 126 c v) 106 f u j = up2 M 126 c v j := fun j hj => u2_ne _ _ _ hj
  have n6 : up2 (up2 M 126 c v) 106 f u 106 = va_up (M 106) f u := by rw [u2_eq, u2_ne _ _ _ (by omega)]
  refine ⟨fun x hx => ?_, fun p hp => ?_, ?_⟩
  · have sx : va_up (va_up S c v) s u x = va_up S c v x := up_ne _ _ (by omega)
    have s6 : va_up (va_up S c v) s u (60 + x) = S (60 + x) := by rw [up_ne _ _ (by omega), up_ne _ _ (by omega)]
    rw [nn _ (by omega), nn _ (by omega), u2_eq, u2_ne _ _ _ (show 126 + 1 ≠ 126 by omega), sx, s6]
    refine ⟨?_, (a x hx).2⟩
    by_cases z : x = c
    · rw [z, up_eq, up_eq]
    · rw [up_ne _ _ z, up_ne _ _ z]; exact (a x hx).1
  · rw [nn _ (by omega), nn _ (by omega), u2_ne _ _ _ (show 126 + 2 ≠ 126 by omega), u2_ne _ _ _ (show 126 + 3 ≠ 126 by omega), up_ne (j := 120 + p) _ _ (by omega), up_ne (j := 120 + p) _ _ (by omega), up_ne (j := 126 + p) _ _ (by omega), up_ne (j := 126 + p) _ _ (by omega)]
    exact b p hp
  · rw [n6]
    rcases hs with ⟨rfl, rfl⟩ | ⟨rfl, rfl⟩ | ⟨rfl, rfl⟩
    · refine ⟨?_, ?_, ?_, ?_, ?_, ?_⟩
      · rw [up_ne _ _ (by omega), up_ne _ _ (by omega), up_ne _ _ (by omega)]; exact e1
      · rw [up_ne _ _ (by omega), up_ne _ _ (by omega), up_ne _ _ (by omega)]; exact e2
      · rw [up_ne _ _ (by omega), up_ne _ _ (by omega), up_ne _ _ (by omega)]; exact e3
      · rw [up_eq, up_eq]
      · rw [up_ne _ _ (by omega), up_ne _ _ (by omega), up_ne _ _ (by omega)]; exact e5
      · rw [up_ne _ _ (by omega), up_ne _ _ (by omega), up_ne _ _ (by omega)]; exact e6
    · refine ⟨?_, ?_, ?_, ?_, ?_, ?_⟩
      · rw [up_ne _ _ (by omega), up_ne _ _ (by omega), up_ne _ _ (by omega)]; exact e1
      · rw [up_ne _ _ (by omega), up_ne _ _ (by omega), up_ne _ _ (by omega)]; exact e2
      · rw [up_ne _ _ (by omega), up_ne _ _ (by omega), up_ne _ _ (by omega)]; exact e3
      · rw [up_ne _ _ (by omega), up_ne _ _ (by omega), up_ne _ _ (by omega)]; exact e4
      · rw [up_eq, up_eq]
      · rw [up_ne _ _ (by omega), up_ne _ _ (by omega), up_ne _ _ (by omega)]; exact e6
    · refine ⟨?_, ?_, ?_, ?_, ?_, ?_⟩
      · rw [up_ne _ _ (by omega), up_ne _ _ (by omega), up_ne _ _ (by omega)]; exact e1
      · rw [up_ne _ _ (by omega), up_ne _ _ (by omega), up_ne _ _ (by omega)]; exact e2
      · rw [up_ne _ _ (by omega), up_ne _ _ (by omega), up_ne _ _ (by omega)]; exact e3
      · rw [up_ne _ _ (by omega), up_ne _ _ (by omega), up_ne _ _ (by omega)]; exact e4
      · rw [up_ne _ _ (by omega), up_ne _ _ (by omega), up_ne _ _ (by omega)]; exact e5
      · rw [up_eq, up_eq]
theorem l_41 (k0 : Cg h t E S) (d : Nat) {hr nt : Int} (rh : i3 hr) (rn : i3 nt) : ∀ (n : Nat) (i : Int) (T : Nat → Int) (v2 : AV) (N : MM), (60 - i).toNat = n → 0 ≤ i → i ≤ 60 → C99 T → T 133 = hr → T 134 = nt → Ag (IcA t) (h_mi h) N → Cg (sM h N) t E T → ∃ N', run (d + 3) md_41 2 [vr 106, vi i, v2] [] (sM h N) = some (vr 0, sM h N') ∧ Ag (IcA t) (h_mi h) N' ∧ Cg (sM h N') t E (itr (mlF (h_mi h) E hr nt) n i T)
  | 0, i, T, v2, N, h1, h2, h3, cT, t3, t4, g, k => by
    refine ⟨N, ?_, g, k⟩
    rw [q_41_2 (w := k.cs) (f := k.fj) (ht := k.ht), dt (by omega)]; rfl
  | n + 1, i, T, v2, N, h1, h2, h3, cT, t3, t4, g, k => by
    have b := cT i.toNat (by omega)
    rw [q_41_2 (w := k.cs) (f := k.fj) (ht := k.ht)]
    simp (disch := omega) only [k.dat (Ag.rf _), dt, df, zb, t3, t4]
    show ∃ N', _ ∧ _ ∧ Cg (sM h N') t E (itr (mlF (h_mi h) E hr nt) n (i + 1) (mlF (h_mi h) E hr nt i T))
    by_cases z : T i.toNat = 0
    · have e : mlF (h_mi h) E hr nt i T = T := if_pos z
      rw [e, dt (by omega), ia (by omega) (by omega)]
      exact l_41 k0 d rh rn n (i + 1) T v2 N (by omega) (by omega) (by omega) cT t3 t4 g k
    · obtain ⟨N1, e1, g1⟩ := c_30 k d i hr nt h2 (by omega)
      have m9 := k0.ri g 149 (by omega) (by omega)
      rw [mi_sM, sM_sM, meV_ag m9] at e1
      have mb := meV_b (h_mi h) E i hr nt
      have k1 := k.q g1
      rw [sM_sM] at k1
      rw [df (by omega), e1]
      simp only [bI_s, cond_false]
      rw [q_41_39 (w := k1.cs)]
      simp (disch := omega) only [k1.dat (Ag.rf _), dt, df, zb, ia, is_]
      have e : mlF (h_mi h) E hr nt i T = va_up (va_up T i.toNat (T i.toNat - min (T i.toNat) (meV (h_mi h) E i hr nt))) 136 (i_add (T 136) (min (T i.toNat) (meV (h_mi h) E i hr nt))) := if_neg z
      have em := mlF_e (M := h_mi h) (E := E) (hr := hr) (nt := nt) h2 (by omega) cT
      have gi := g.tr (g1.up IcA_q)
      have ii := (k1.ic).th (c := i.toNat) (by omega) (f := 9) (s := 136) (by omega) (T i.toNat - min (T i.toNat) (meV (h_mi h) E i hr nt)) (i_add (T 136) (min (T i.toNat) (meV (h_mi h) E i hr nt)))
      rw [← e] at ii
      simp only [sI_h, sM_sM, mi_sM] at ii ⊢
      have g2 : Ag (IcA t) (h_mi h) (up2 (up2 N1 126 i.toNat (T i.toNat - min (T i.toNat) (meV (h_mi h) E i hr nt))) 106 9 (i_add (T 136) (min (T i.toNat) (meV (h_mi h) E i hr nt)))) := (gi.u2 _ _ (by unfold IcA; omega)).u2 _ _ (by unfold IcA; omega)
      have k2 := k0.ice g2 (S' := mlF (h_mi h) E hr nt i T) (by
        have e7 : N1 147 2 = h_mi h 147 2 := by rw [k0.ri gi 147 (by omega) (by omega)]
        rw [← e7]; exact ii)
      exact l_41 k0 d rh rn n (i + 1) _ _ _ (by omega) (by omega) (by omega) em.1 (by rw [em.2 133 (by omega) (by omega)]; exact t3) (by rw [em.2 134 (by omega) (by omega)]; exact t4) g2 k2
theorem c_41 (k : Cg h t E S) (d : Nat) (cS : C99 S) (rh : i3 (S 133) := by first | assumption | (unfold i3; omega) | (unfold i3 at *; omega)) (rn : i3 (S 134) := by first | assumption | (unfold i3; omega) | (unfold i3 at *; omega)) : ∃ N, ev (d + 3) 41 [vr 106] h = some (vr 0, sM h N) ∧ Ag (IcA t) (h_mi h) N ∧ Cg (sM h N) t E (mlS (h_mi h) E (S 133) S) := by
  have := l_41 k d (hr := S 133) (nt := S 134) rh rn _ 0 S vu (h_mi h) rfl (by omega) (by omega) cS rfl rfl (Ag.rf _) (by rw [sM_self]; exact k)
  rw [sM_self] at this
  rw [v_41, q_41_0]
  exact this
theorem c_40 (k : Cg h t E S) (d : Nat) : ∃ N, ev d 40 [vr 106] h = some (vr 0, sM h N) ∧ Ag (IcA t) (h_mi h) N ∧ Cg (sM h N) t E (flS (h_mi h) S) := by
  have p6 := k.vm.p
  rw [v_40, q_40_0 (w := k.cs) (f := k.fj) (ht := k.ht)]
  simp only [sI_h, sRi_sM]
  have g : Ag (IcA t) (h_mi h) (va_up (up2 (h_mi h) 106 5 0) 128 (va_cpy (h_mi h (t + 5)) (h_mi h 128) 0 0 6)) := ((Ag.rf _).u2 _ _ (by unfold IcA; omega)).row _ (by unfold IcA; omega)
  refine ⟨_, rfl, g, k.ice g ?_⟩
  obtain ⟨a, b, e1, e2, e3, e4, e5, e6⟩ := k.ic
  have fl := fun j => flS_at (M := h_mi h) (S := S) p6.1 j
  refine ⟨fun c hc => ?_, fun p hp => ⟨fun q => ?_, ?_⟩, ?_, ?_, ?_, ?_, ?_, ?_⟩
  · rw [up_ne _ _ (by omega), up_ne _ _ (by omega), u2_ne _ _ _ (by omega), u2_ne _ _ _ (by omega), fl, fl, if_neg (by omega), if_neg (by omega), if_neg (by omega), if_neg (by omega)]
    exact a c hc
  · rw [up_eq, fl, if_neg (by omega), if_pos (by omega)]
    unfold va_cpy
    rw [if_pos (by omega)]
    have := (k.dat (Ag.rf _)).2.2.2.2.2.2.2.2.2.1 (p : Int) (by omega) q
    rw [show ((p : Int)).toNat = p by omega] at this
    rw [show 0 + (p - 0) = p by omega, show 120 + p - 120 = p by omega]
    exact this
  · rw [up_ne _ _ (by omega), u2_ne _ _ _ (by omega), fl, if_neg (by omega), if_neg (by omega)]
    exact (b p hp).2
  · rw [up_ne _ _ (by omega), u2_at, fl, if_pos rfl]
  · rw [up_ne _ _ (by omega), u2_no _ _ _ (by omega), fl, if_neg (by omega), if_neg (by omega)]; exact e2
  · rw [up_ne _ _ (by omega), u2_no _ _ _ (by omega), fl, if_neg (by omega), if_neg (by omega)]; exact e3
  · rw [up_ne _ _ (by omega), u2_no _ _ _ (by omega), fl, if_neg (by omega), if_neg (by omega)]; exact e4
  · rw [up_ne _ _ (by omega), u2_no _ _ _ (by omega), fl, if_neg (by omega), if_neg (by omega)]; exact e5
  · rw [up_ne _ _ (by omega), u2_no _ _ _ (by omega), fl, if_neg (by omega), if_neg (by omega)]; exact e6
theorem IN.hr {M : MM} {n : Int} {S : Nat → Int} (i : IN M 106 126 n S) (v : Int) : IN (up2 M 106 6 v) 106 126 n (va_up S 133 v) := by
  obtain ⟨a, b, e1, e2, e3, e4, e5, e6⟩ := i
  refine ⟨fun x hx => ?_, fun p hp => ?_, ?_, ?_, ?_, ?_, ?_, ?_⟩
  · rw [u2_ne _ _ _ (by omega), u2_ne _ _ _ (by omega), up_ne _ _ (by omega), up_ne _ _ (by omega)]; exact a x hx
  · rw [u2_ne _ _ _ (by omega), u2_ne _ _ _ (by omega), up_ne _ _ (by omega), up_ne _ _ (by omega)]; exact b p hp
  · rw [u2_no _ _ _ (by omega), up_ne _ _ (by omega)]; exact e1
  · rw [u2_at, up_eq]
  · rw [u2_no _ _ _ (by omega), up_ne _ _ (by omega)]; exact e3
  · rw [u2_no _ _ _ (by omega), up_ne _ _ (by omega)]; exact e4
  · rw [u2_no _ _ _ (by omega), up_ne _ _ (by omega)]; exact e5
  · rw [u2_no _ _ _ (by omega), up_ne _ _ (by omega)]; exact e6
theorem IN.nt {M : MM} {n : Int} {S : Nat → Int} (i : IN M 106 126 n S) (v : Int) : IN (up2 M 106 7 v) 106 126 n (va_up S 134 v) := by
  obtain ⟨a, b, e1, e2, e3, e4, e5, e6⟩ := i
  refine ⟨fun x hx => ?_, fun p hp => ?_, ?_, ?_, ?_, ?_, ?_, ?_⟩
  · rw [u2_ne _ _ _ (by omega), u2_ne _ _ _ (by omega), up_ne _ _ (by omega), up_ne _ _ (by omega)]; exact a x hx
  · rw [u2_ne _ _ _ (by omega), u2_ne _ _ _ (by omega), up_ne _ _ (by omega), up_ne _ _ (by omega)]; exact b p hp
  · rw [u2_no _ _ _ (by omega), up_ne _ _ (by omega)]; exact e1
  · rw [u2_no _ _ _ (by omega), up_ne _ _ (by omega)]; exact e2
  · rw [u2_at, up_eq]
  · rw [u2_no _ _ _ (by omega), up_ne _ _ (by omega)]; exact e4
  · rw [u2_no _ _ _ (by omega), up_ne _ _ (by omega)]; exact e5
  · rw [u2_no _ _ _ (by omega), up_ne _ _ (by omega)]; exact e6
theorem flS_rr {M N : MM} (h1 : N 147 = M 147) (h2 : N 153 = M 153) (S : Nat → Int) : flS N S = flS M S := by
  unfold flS
  have : flF N = flF M := by funext p T; unfold flF; rw [h2]
  rw [this, h1]
theorem c_39b (k : Cg h t E S) (d : Nat) (h0 : 0 ≤ S 133) (h1 : S 133 ≤ 23) (n0 : 0 ≤ S 134) (n1 : S 134 ≤ 10000000) : ∃ N, run (d + 4) md_39 13 [vr 106] [] h = some (vr 0, sM h N) ∧ Ag (IcA t) (h_mi h) N ∧ Cg (sM h N) t E (if S 133 = 23 then flS (h_mi h) (va_up (va_up S 133 0) 134 (S 134 + 1)) else va_up S 133 (S 133 + 1)) := by
  rw [q_39_13 (w := k.cs)]
  simp (disch := omega) only [k.dat (Ag.rf _), dt, df, zb, ia]
  have g1 : Ag (IcA t) (h_mi h) (up2 (h_mi h) 106 6 (S 133 + 1)) := (Ag.rf _).u2 _ _ (by unfold IcA; omega)
  by_cases z : S 133 = 23
  · rw [df (by omega), if_pos z]
    have g2 : Ag (IcA t) (h_mi h) (up2 (up2 (h_mi h) 106 6 0) 106 7 (S 134 + 1)) := ((Ag.rf _).u2 _ _ (by unfold IcA; omega)).u2 _ _ (by unfold IcA; omega)
    have k2 := k.ice g2 ((k.ic.hr 0).nt (S 134 + 1))
    obtain ⟨N, e, g3, k3⟩ := c_40 k2 (d + 3)
    rw [mi_sM] at g3 k3
    rw [sM_sM] at e k3
    rw [flS_rr (M := h_mi h) (k.ri g2 _ (by omega) (by omega)) (k.ri g2 _ (by omega) (by omega))] at k3
    refine ⟨N, ?_, g2.tr g3, k3⟩
    simp only [sI_h, sM_sM, mi_sM, u2_u2]
    rw [e]
    simp only [bV_s, cond_false]
    rw [q_39_51]
  · rw [dt (by omega), if_neg z]
    refine ⟨_, ?_, g1, k.ice g1 (k.ic.hr _)⟩
    simp only [sI_h, cond_true]
    rw [q_39_51]
theorem c_39 (k : Cg h t E S) (d : Nat) (cS : C99 S) (h0 : 0 ≤ S 133) (h1 : S 133 ≤ 23) (n0 : 0 ≤ S 134) (n1 : S 134 ≤ 10000000) : ∃ N, ev (d + 4) 39 [vr 106] h = some (vr 0, sM h N) ∧ Ag (IcA t) (h_mi h) N ∧ Cg (sM h N) t E (psS (h_mi h) E S) := by
  rw [v_39, q_39_0 (w := k.cs)]
  simp (disch := omega) only [k.dat (Ag.rf _)]
  unfold psS
  by_cases z : S 133 < 12
  · rw [dt z]
    obtain ⟨N, e, g, k1⟩ := c_39b k d h0 h1 n0 n1
    rw [if_neg (by omega)] at k1 ⊢
    rw [if_neg (by omega)]
    exact ⟨N, e, g, k1⟩
  · obtain ⟨N, e, g, k1⟩ := c_41 k d cS
    have mk := (mlS_k (M := h_mi h) (E := E) (hr := S 133) cS).2
    have m3 := mk 133 (by omega) (by omega)
    have m4 := mk 134 (by omega) (by omega)
    obtain ⟨N2, e2, g2, k2⟩ := c_39b k1 d (by omega) (by omega) (by omega) (by omega)
    rw [mi_sM] at g2 k2
    rw [sM_sM] at e2 k2
    rw [flS_rr (M := h_mi h) (k.ri g _ (by omega) (by omega)) (k.ri g _ (by omega) (by omega)), m3, m4] at k2
    rw [df z, e]
    simp only [bV_s, cond_false]
    refine ⟨N2, e2, g.tr g2, ?_⟩
    by_cases y : S 133 = 23
    · rw [if_pos y]
      rw [if_pos y, y] at k2
      exact k2
    · rw [if_neg y, if_pos (by omega)]
      rw [if_neg y] at k2
      exact k2
theorem l_118 (k0 : Cg h t E S) (d : Nat) {many : Int} (m1 : many ≤ 1000) : ∀ (n : Nat) (i : Int) (T : Nat → Int) (N : MM), (many - i).toNat = n → 0 ≤ i → i ≤ many → SB (h_mi h) 0 T → T 134 + n ≤ 1000000 → Ag (IcA t) (h_mi h) N → Cg (sM h N) t E T → ∃ N', run (d + 5) md_118 16 [vr 100, vi many, vi i] [] (sM h N) = some (vi (psN (h_mi h) E n T 133 + 24 * psN (h_mi h) E n T 134), sM h (up2 (up2 N' 130 3 0) 130 4 0)) ∧ Ag (IcA t) (h_mi h) N' ∧ Cg (sM h N') t E (psN (h_mi h) E n T)
  | 0, i, T, N, h1, h2, h3, sb, hn, g, k => by
    refine ⟨N, ?_, g, k⟩
    have s4 := sb.2.2.2.1
    have s5 := sb.2.2.2.2.1
    have ga : Ag (fun a => a = 130) N (up2 (up2 N 130 3 0) 130 4 0) := Ag.u2 (Ag.u2 (Ag.rf (A := fun a => a = 130) N) 3 0 rfl) 4 0 rfl
    have c106 : up2 (up2 N 130 3 0) 130 4 0 106 = N 106 := ga 106 (by omega)
    have kd : CSk (sM h (up2 (up2 N 130 3 0) 130 4 0)) := k.cs
    rw [q_118_16 (w := k.cs), dt (by omega), v_12, q_12_0 (w := k.cs)]
    simp only [cond_true, bV_s, sI_h, sM_sM, mi_sM]
    rw [q_118_41 (w := kd), mi_sM, c106]
    have d6 : N 106 6 = T 133 := (k.ic).2.2.2.1
    have d7 : N 106 7 = T 134 := (k.ic).2.2.2.2.1
    rw [d6, d7, im (by omega) (by omega), ia (by omega) (by omega)]
    rfl
  | n + 1, i, T, N, h1, h2, h3, sb, hn, g, k => by
    have s4 := sb.2.2.2.1
    have s5 := sb.2.2.2.2.1
    obtain ⟨N1, e1, g1, k1⟩ := c_39 k d sb.c99 s4.1 s4.2 s5.1 (by omega)
    rw [mi_sM] at g1 k1
    rw [sM_sM] at e1 k1
    have r9 := fun a (x : 145 ≤ a) (y : a ≤ 181) => k0.ri g a x y
    rw [psS_ag (M := h_mi h) (r9 149 (by omega) (by omega)) (r9 147 (by omega) (by omega)) (r9 153 (by omega) (by omega))] at k1
    have pb := psS_b (E := E) k0.vm.1 sb (by omega)
    obtain ⟨N2, e2, g2, k2⟩ := l_118 k0 d m1 n (i + 1) (psS (h_mi h) E T) N1 (by omega) (by omega) (by omega) pb.1 (by omega) (g.tr g1) k1
    refine ⟨N2, ?_, g2, k2⟩
    rw [q_118_16 (w := k.cs), df (by omega), e1]
    simp only [cond_false, bV_s]
    rw [q_118_28, ia (by omega) (by omega)]
    exact e2
end
