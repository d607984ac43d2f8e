/-! pairs of calls: mark, all of it -/
theorem FjM.smm {h h2 : HP} {t r : Nat} {E : EE} (m : FjM h t r E) (s : SmF h h2 t) (e : h_mi h2 = h_mi h) : FjM h2 t r E := by
  obtain ⟨fo, fb, fn, lc, lr, ln⟩ := m
  exact ⟨fo.sm s, by rw [e]; exact fb, by rw [e]; exact fn, lc.sm fo s (fun _ _ => rfl), by rw [e]; exact lr, by rw [e]; exact ln⟩
theorem SmF.s4 {h : HP} {t r : Nat} {E : EE} (m : FjM h t r E) (j v : Nat) : SmF h (sR h 144 j v) t := by
  have fl := m.1.1.lt
  refine ⟨Nat.le_refl _, fun _ _ => ⟨rfl, rfl⟩, by rw [mrR_ne _ _ _ (by omega)], fun l hl => ?_, fun _ _ => rfl, fun _ _ => rfl⟩
  have c := (m.2.2.2.1 l hl).1
  rw [mrR_ne _ _ _ (by omega)]
section
variable {h : HP} {t : Nat} {E : EE} {B : Int} {L : Nat} {xs : Nat → Int}
theorem p_mark (i : Inv h t E B L xs) (k back : Int) : Pa h 138 251 [vi k, vi back] [vi k, vi back] (Nx h B L xs) := by
  have z := i.2.2.2.2.2.2.2.2.2.2.2
  by_cases c : 0 ≤ k ∧ k ≤ 3
  · have mk := i.2.2.2.2.1.1 k.toNat (by omega)
    by_cases hb : back = 0
    · rcases mk with ⟨m1, m2⟩ | ⟨m1, ic, fm, sb, inn⟩
      · -- a new one
        obtain ⟨h1, e1, ex, s1, s2, ik, t4⟩ := c_36 (h := h) 197 t (by omega)
        have i1 := i.ex ex
        have kb := ik.1
        have m44 : ∀ j, h_mr h1 144 j = h_mr h 144 j := fun j => congrFun (ex.2 144 (by omega)).2.2.2.2 j
        have cuH : Cu (sR h1 144 k.toNat (h_sz h)) t E := by
          have f0 := i1.f0.smm (SmF.s4 i1.f0 k.toNat (h_sz h)) rfl
          exact ⟨⟨i1.1.rs.sr (by omega), i1.1.cs.sr (by omega), i1.1.st.sr (by omega), i1.1.z0⟩, f0.1.1, by rw [mrR_ne _ _ _ (by omega)]; exact i1.1.ht, i1.1.vm, i1.1.fn, f0.2.2.2.1, i1.1.ic⟩
        have f0 := i1.f0.smm (SmF.s4 i1.f0 k.toNat (h_sz h)) rfl
        have ikH : IcK (sR h1 144 k.toNat (h_sz h)) (h_sz h) (h_sz h + 1) := ⟨ik.1, fun j hj => ⟨by rw [mrR_ne _ _ _ (by omega)]; exact (ik.2 j hj).1, (ik.2 j hj).2⟩⟩
        have mo : ∀ j, j < 4 → j ≠ k.toNat → h_mr (sR h1 144 k.toNat (h_sz h)) 144 j = h_mr h 144 j := fun j hj hn => by rw [mrR_eq, up_ne _ _ hn, m44]
        have otH : ∀ j, j < 4 → j ≠ k.toNat → MkO (sR h1 144 k.toNat (h_sz h)) E B j ∧ (h_mr (sR h1 144 k.toNat (h_sz h)) 144 j = 0 ∨ h_mr (sR h1 144 k.toNat (h_sz h)) 144 j ≠ h_sz h) := fun j hj hn => by
          refine ⟨?_, ?_⟩
          · have mj := i1.2.2.2.2.1.1 j hj
            have e4 : h_mr (sR h1 144 k.toNat (h_sz h)) 144 j = h_mr h1 144 j := by rw [mrR_eq, up_ne _ _ hn]
            rcases mj with ⟨a1, a2⟩ | ⟨a1, a2, a3, a4, a5⟩
            · exact Or.inl ⟨a1, by rw [e4]; exact a2⟩
            · have ge := a2.1
              have e5 : h_mr (sR h1 144 k.toNat (h_sz h)) (h_mr h1 144 j) = h_mr h1 (h_mr h1 144 j) := by rw [mrR_ne _ _ _ (by omega)]
              refine Or.inr ⟨a1, ?_, ?_, a4, ?_⟩
              · rw [e4]
                exact ⟨a2.1, a2.2.1, a2.2.2.1, a2.2.2.2.1, fun m hm => by rw [e5]; exact a2.2.2.2.2 m hm⟩
              · rw [e4, e5]
                exact a3.smm (SmF.s4 a3 _ _) rfl
              · rw [e4]; exact a5
          · rw [mo j hj hn]
            rcases i.2.2.2.2.1.1 j hj with ⟨_, a2⟩ | ⟨_, a2, _⟩
            · exact Or.inl a2
            · have := a2.2.1
              exact Or.inr (by omega)
        obtain ⟨h2, h3, e2, e3, ⟨E', iv⟩, q1, q2⟩ := p_markl (H := sR h1 144 k.toNat (h_sz h)) (B := B) (L := L) (xs := xs) cuH f0.1 i1.2.2.1 i1.2.2.2.1 i1.2.2.2.2.2.1 i1.2.2.2.2.2.2 i1.2.2.2.2.1.2.2 (k := k) c.1 c.2 (a := h_sz h) (by rw [mrR_eq, up_eq]) (ikH.io (by omega) (by show _ < h_sz h1; omega)) otH (fun x j hx hj hn h1 h2 => by rw [mo x hx h1, mo j hj h2]; exact i.2.2.2.2.1.2.1 x j hx hj hn) i1.ln
        refine ⟨1, h2, h3, ?_, by rw [hb]; exact e3, ⟨t, E', iv.up (by omega)⟩, by rw [q1]; show h_sz h1 ≤ _; omega, by rw [q2]; show h_sl h1 ≤ _; omega⟩
        rw [v_138, q_138_0 (w := (i.1).cs), df (by omega), dt (by omega), dt c.1, dt hb, m2]
        simp only [zb, decide_true]
        have ea := Ex.alo h 3 0 11
        rw [q_138_52 (w := i.1.cs.ex ea z) (ht := (congrFun (ea.2 106 (by omega)).2.2.2.2 4).trans i.1.ht), isKc (show h_kd (alo h 3 0 11) (h_sz h) = 3 by rw [kd_alo, up_eq]), e1]
        simp only [zb, bV_s]
        rw [q_138_63 (w := i1.1.cs), isKc kb, dt c.1, dt (show k < 4 by omega), e2]
        simp only [zb, bV_s]
        rw [q_138_79]
      · obtain ⟨h2, h3, e2, e3, ⟨E', iv⟩, q1, q2⟩ := p_markl (H := h) (B := B) (L := L) (xs := xs) i.1 i.2.1 i.2.2.1 i.2.2.2.1 i.2.2.2.2.2.1 i.2.2.2.2.2.2 i.2.2.2.2.1.2.2 (k := k) c.1 c.2 (a := h_mr h 144 k.toNat) rfl ic (fun j hj hn => ⟨i.2.2.2.2.1.1 j hj, i.2.2.2.2.1.2.1 j k.toNat hj (by omega) hn⟩) (fun x j hx hj hn h1 h2 => i.2.2.2.2.1.2.1 x j hx hj hn) i.ln
        refine ⟨1, h2, h3, ?_, by rw [hb]; exact e3, ⟨t, E', iv.up (by omega)⟩, by omega, by omega⟩
        have ge := ic.1
        rw [v_138, q_138_0 (w := (i.1).cs), df (by omega), dt (by omega), dt c.1, dt hb, df (show ¬ h_mr h 144 k.toNat = 0 by omega), isKc ic.2.2.1, e2]
        simp only [zb, bV_s]
        rw [q_138_79]
    · rcases mk with ⟨m1, m2⟩ | ⟨m1, ic, fm, ⟨sb, i3s, nb⟩, inn⟩
      · refine Pa.no i (v := 0) ?_ ((r_mark (E := E) 197 k back h i.1.rs i.ln).2.1 c hb m1)
        rw [v_138, q_138_0 (w := (i.1).cs), df (by omega), dt (by omega), dt c.1, df hb, m2]
        rfl
      · exact p_markb i c.1 c.2 hb m1 ic fm sb i3s nb inn
  · refine Pa.no i (v := 0) ?_ ((r_mark (E := E) 197 k back h i.1.rs i.ln).1 c)
    rw [v_138, q_138_0 (w := (i.1).cs)]
    by_cases w : k < 0
    · rw [dt w]; rfl
    · rw [df w, df (by omega)]; rfl
end
