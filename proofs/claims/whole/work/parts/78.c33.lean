/-! the reference: mark; heaps that grow -/
/-- what mark leaves: laid (q0 = 0: lay, else: back) -/
theorem r_mark {E : EE} (d : Nat) (k back : Int) (h : HP) (w : RSk h) (b : ∀ p, p ≤ 5 → (p = 0 ∨ (2 ≤ p ∧ h_mi h 180 (p - 2) ≠ 0)) → LnO (h_mi h) p) : (¬ (0 ≤ k ∧ k ≤ 3) → ∃ N, ev (d + 2) 251 [vr 145, vi k, vi back] h = some (vi 0, sM h N) ∧ QA (h_mi h) N) ∧
    ((0 ≤ k ∧ k ≤ 3) → back ≠ 0 → h_mi h 180 k.toNat = 0 → ∃ N, ev (d + 2) 251 [vr 145, vi k, vi back] h = some (vi 0, sM h N) ∧ QA (h_mi h) N) ∧
    ((0 ≤ k ∧ k ≤ 3) → back ≠ 0 → h_mi h 180 k.toNat ≠ 0 → ∃ N, ev (d + 2) 251 [vr 145, vi k, vi back] h = some (vi 1, sM h (up2 (va_up N 172 (cpR (N 174) (144 * k) 0 144 0 (N 172))) 145 44 0)) ∧ LyD (up2 (up2 (h_mi h) 145 0 0) 180 k.toNat 1) (k.toNat + 2) 0 N) ∧
    ((0 ≤ k ∧ k ≤ 3) → back = 0 → ∃ N, ev (d + 2) 251 [vr 145, vi k, vi back] h = some (vi 1, sM h (va_up N 174 (cpR (N 172) 0 (144 * k) 144 0 (N 174)))) ∧ LyD (up2 (up2 (h_mi h) 145 0 0) 180 k.toNat 1) 0 (k.toNat + 2) N) := by
  rw [v_251, q_251_0 (w := w), m_148, bI_s, sI_h, q_251_11 (w := w.m _)]
  have q0 : QA (h_mi h) (up2 (h_mi h) 145 0 0) := QA.f 0 0 (by omega) (by omega)
  have m0 : ∀ a, a ≠ 145 → a ≠ 180 → up2 (up2 (h_mi h) 145 0 0) 180 k.toNat 1 a = h_mi h a := fun a h1 h2 => by rw [u2_ne _ _ _ h2, u2_ne _ _ _ h1]
  have e180 : h_mi (sM h (up2 (h_mi h) 145 0 0)) 180 k.toNat = h_mi h 180 k.toNat := by rw [mi_sM, u2_ne _ _ _ (by omega)]
  refine ⟨fun c => ?_, fun c hb h0 => ?_, fun c hb h0 => ?_, fun c hb => ?_⟩
  · rw [bb_df c]
    exact ⟨_, rfl, q0⟩
  · rw [bb_dt c, df hb, e180, dt c.1, dt (show k < 4 by omega), df (show ¬ h_mi h 180 k.toNat ≠ 0 by omega)]
    exact ⟨_, rfl, q0⟩
  · have ek : ((k.toNat + 2 : Nat) : Int) = 2 + k := by omega
    obtain ⟨N, e, y⟩ := m_181 d (k.toNat + 2) 0 (sM h (up2 (up2 (h_mi h) 145 0 0) 180 k.toNat 1)) w (by omega) (by omega) (by omega) (fun l hl => by
      have := b (k.toNat + 2) (by omega) (Or.inr ⟨by omega, by rw [show k.toNat + 2 - 2 = k.toNat by omega]; exact h0⟩) l hl
      rw [mi_sM, m0 157 (by omega) (by omega), m0 158 (by omega) (by omega)]
      omega)
    rw [sM_sM, ek] at e
    rw [mi_sM] at y
    refine ⟨N, ?_, y⟩
    rw [bb_dt c, df hb, e180, dt c.1, dt (show k < 4 by omega), dt h0]
    simp only [zb]
    rw [q_251_29 (w := w.m _), dt c.1, dt (show k < 4 by omega), df hb, ia (by omega) (by omega), sI_sM]
    show (bV (ev (d + 1) 181 [vr 145, vi (2 + k), vi ((0 : Nat) : Int)] _) _) = _
    rw [e, bV_s, q_251_48 (w := w.m _), im (by omega) (by omega), m_182 (d + 1) (a0 := 174) (a2 := 172) (144 * k) 0 (sM h N) (k_174 w) (k_172 w) (by omega) (by omega) (by rw [ln_sM, n_174 w]; omega) (by omega) (by rw [ln_sM, n_172 w]; omega) (by rw [ln_sM, n_174 w]; omega) (by rw [ln_sM, n_172 w]; omega), bV_s, sM_sM, q_251_65 (w := w.m _), sI_sM, mi_sM]
  · have ek : ((k.toNat + 2 : Nat) : Int) = 2 + k := by omega
    obtain ⟨N, e, y⟩ := m_181 d 0 (k.toNat + 2) (sM h (up2 (up2 (h_mi h) 145 0 0) 180 k.toNat 1)) w (by omega) (by omega) (by omega) (fun l hl => by
      have := b 0 (by omega) (Or.inl rfl) l hl
      rw [mi_sM, m0 157 (by omega) (by omega), m0 158 (by omega) (by omega)]
      omega)
    rw [sM_sM, ek] at e
    rw [mi_sM] at y
    refine ⟨N, ?_, y⟩
    rw [bb_dt c, dt hb]
    simp (disch := omega) only [dt, df, zb, mi_sM]
    rw [q_251_29 (w := w.m _), dt c.1, dt (show k < 4 by omega), dt hb, ia (by omega) (by omega), sI_sM]
    show (bV (ev (d + 1) 181 [vr 145, vi ((0 : Nat) : Int), vi (2 + k)] _) _) = _
    rw [e, bV_s, q_251_80 (w := w.m _), im (by omega) (by omega), m_182 (d + 1) (a0 := 172) (a2 := 174) 0 (144 * k) (sM h N) (k_172 w) (k_174 w) (by omega) (by omega) (by rw [ln_sM, n_172 w]; omega) (by omega) (by rw [ln_sM, n_174 w]; omega) (by rw [ln_sM, n_172 w]; omega) (by rw [ln_sM, n_174 w]; omega), bV_s, sM_sM, q_251_97]
    rfl
/-- a heap with more cells -/
def Ex (h h1 : HP) : Prop := h_sz h ≤ h_sz h1 ∧ ∀ a, a < h_sz h → h_kd h1 a = h_kd h a ∧ h_ln h1 a = h_ln h a ∧ h_mi h1 a = h_mi h a ∧ h_ml h1 a = h_ml h a ∧ h_mr h1 a = h_mr h a
theorem Ex.rf (h : HP) : Ex h h := ⟨Nat.le_refl _, fun _ _ => ⟨rfl, rfl, rfl, rfl, rfl⟩⟩
theorem Ex.tr {h h1 h2 : HP} (p : Ex h h1) (q : Ex h1 h2) : Ex h h2 := ⟨Nat.le_trans p.1 q.1, fun a ha => by
  obtain ⟨a1, a2, a3, a4, a5⟩ := p.2 a ha
  obtain ⟨b1, b2, b3, b4, b5⟩ := q.2 a (Nat.lt_of_lt_of_le ha p.1)
  exact ⟨b1.trans a1, b2.trans a2, b3.trans a3, b4.trans a4, b5.trans a5⟩⟩
theorem Ex.alo (h : HP) (t n w : Nat) : Ex h (alo h t n w) := by
  refine ⟨Nat.le_succ _, fun a ha => ?_⟩
  have ne : a ≠ h_sz h := by omega
  exact ⟨up_ne _ _ ne, up_ne _ _ ne, up_ne _ _ ne, up_ne _ _ ne, up_ne _ _ ne⟩
theorem Ex.exH (h : HP) : Ex h (exH h) := by
  refine ⟨Nat.le_succ _, fun a ha => ?_⟩
  have ne : a ≠ h_sz h := by omega
  exact ⟨up_ne _ _ ne, rfl, rfl, rfl, rfl⟩
/-- new cells may be written -/
theorem Ex.sR {h h1 : HP} (p : Ex h h1) {b : Nat} (hb : h_sz h ≤ b) (k v : Nat) : Ex h (sR h1 b k v) := ⟨p.1, fun a ha => by
  obtain ⟨a1, a2, a3, a4, a5⟩ := p.2 a ha
  exact ⟨a1, a2, a3, a4, by rw [mrR_ne _ _ _ (by omega)]; exact a5⟩⟩
theorem Ex.sM {h h1 : HP} (p : Ex h h1) {N : MM} (g : ∀ a, a < h_sz h → N a = h_mi h1 a) : Ex h (sM h1 N) := ⟨p.1, fun a ha => by
  obtain ⟨a1, a2, a3, a4, a5⟩ := p.2 a ha
  exact ⟨a1, a2, (g a ha).trans a3, a4, a5⟩⟩
theorem RSk.ex {h h1 : HP} (w : RSk h) (p : Ex h h1) (z : 182 ≤ h_sz h) : RSk h1 := by
  refine ⟨fun q hq => ?_, fun q hq => ?_⟩
  · have all : RSk_t.all (fun q => decide (q.1 < 182)) = true := by decide +kernel
    have b := of_decide_eq_true (List.all_eq_true.mp all q hq)
    obtain ⟨a1, a2, _⟩ := p.2 q.1 (by omega)
    rw [a1, a2]; exact w.1 q hq
  · have all : RSk_r.all (fun q => decide (q.1 < 182)) = true := by decide +kernel
    have b := of_decide_eq_true (List.all_eq_true.mp all q hq)
    obtain ⟨_, _, _, _, a5⟩ := p.2 q.1 (by omega)
    rw [a5]; exact w.2 q hq
theorem CSk.ex {h h1 : HP} (w : CSk h) (p : Ex h h1) (z : 182 ≤ h_sz h) : CSk h1 := by
  refine ⟨fun q hq => ?_, fun q hq => ?_⟩
  · have all : CSk_t.all (fun q => decide (q.1 < 182)) = true := by decide +kernel
    have b := of_decide_eq_true (List.all_eq_true.mp all q hq)
    obtain ⟨a1, a2, _⟩ := p.2 q.1 (by omega)
    rw [a1, a2]; exact w.1 q hq
  · have all : CSk_r.all (fun q => decide (q.1 < 182)) = true := by decide +kernel
    have b := of_decide_eq_true (List.all_eq_true.mp all q hq)
    obtain ⟨_, _, _, _, a5⟩ := p.2 q.1 (by omega)
    rw [a5]; exact w.2 q hq
theorem Stt.ex {h h1 : HP} (w : Stt h) (p : Ex h h1) (z : 182 ≤ h_sz h) : Stt h1 := fun a h1 h2 => by
  obtain ⟨a1, a2, a3, a4, a5⟩ := p.2 a (by omega)
  rw [a1, a2, a3, a4, a5]
  exact w a h1 h2
theorem FjO.ex {h h1 : HP} {t : Nat} (f : FjO h t) (p : Ex h h1) : FjO h1 t := by
  have rt := (p.2 t (by have := f.2.1; omega))
  have sz := p.1
  have e5 := rt.2.2.2.2
  refine ⟨⟨f.1.1, by rw [rt.1]; exact f.1.2.1, fun i hi => ?_, fun j hj => by rw [e5]; exact f.1.2.2.2.1 j hj, fun j hj => ?_⟩, by have := f.2.1; omega, fun l hl => by rw [e5]; have := f.2.2 l hl; omega⟩
  · obtain ⟨a1, a2, _⟩ := p.2 (t + (i + 1)) (by have := f.2.1; omega)
    rw [a1, a2]; exact f.1.2.2.1 i hi
  · have lz := f.2.2 j hj
    obtain ⟨a1, _, _, _, a5⟩ := p.2 (h_mr h t (j + 15)) (by omega)
    obtain ⟨b1, _⟩ := p.2 (h_mr h t (j + 15) + 1) (by omega)
    rw [e5, a1, a5, b1]; exact f.1.2.2.2.2 j hj
theorem LCs.ex {h h1 : HP} {t r : Nat} {E : EE} (l : LCs h t r E) (f : FjO h t) (p : Ex h h1) : LCs h1 t r E := fun j hj => by
  have rt := (p.2 t (by have := f.2.1; omega)).2.2.2.2
  obtain ⟨_, b2, b3, _⟩ := p.2 (h_mr h t (j + 15) + 1) (f.2.2 j hj)
  rw [rt]
  exact LC.cg (l j hj) b2 b3
theorem FjM.ex {h h1 : HP} {t r : Nat} {E : EE} (m : FjM h t r E) (p : Ex h h1) (z : 182 ≤ h_sz h) : FjM h1 t r E := by
  obtain ⟨fo, fb, fn, lc, lr, ln⟩ := m
  have lo := fo.2.1
  have g : ∀ a, a < h_sz h → h_mi h1 a = h_mi h a := fun a ha => (p.2 a ha).2.2.1
  have r9 : ∀ a, 147 ≤ a → a ≤ 159 → h_mi h1 a = h_mi h a := fun a h1 h2 => g a (by omega)
  exact ⟨fo.ex p, fb.e r9, fn.e (fun i hi => g _ (by omega)) r9, lc.ex fo p, fun l hl => ⟨(lr l hl).1.ag (r9 _ (by omega) (by omega)) (r9 _ (by omega) (by omega)) (r9 _ (by omega) (by omega)), (lr l hl).2⟩, ln.e (r9 _ (by omega) (by omega)) (r9 _ (by omega) (by omega))⟩
theorem IcO.ex {h h1 : HP} {a : Nat} (c : IcO h a) (p : Ex h h1) : IcO h1 a := by
  obtain ⟨c1, c2, c3, c4, c5⟩ := c
  have sz := p.1
  refine ⟨c1, by omega, by rw [(p.2 a (by omega)).1]; exact c3, fun i hi => ?_, fun j hj => by rw [(p.2 a (by omega)).2.2.2.2]; exact c5 j hj⟩
  obtain ⟨a1, a2, _⟩ := p.2 (a + (i + 1)) (by omega)
  rw [a1, a2]; exact c4 i hi
theorem MkO.ex {h h1 : HP} {E : EE} {B : Int} {k : Nat} (m : MkO h E B k) (p : Ex h h1) (z : 182 ≤ h_sz h) : MkO h1 E B k := by
  have g : ∀ a, a < h_sz h → h_mi h1 a = h_mi h a := fun a ha => (p.2 a ha).2.2.1
  have e4 : h_mr h1 144 = h_mr h 144 := (p.2 144 (by omega)).2.2.2.2
  rcases m with ⟨m1, m2⟩ | ⟨m1, ic, fm, ⟨sb, i3s, nb⟩, inn⟩
  · exact Or.inl ⟨by rw [g 180 (by omega)]; exact m1, by rw [e4]; exact m2⟩
  · have ge := ic.2.1
    have e5 : h_mr h1 (h_mr h 144 k) = h_mr h (h_mr h 144 k) := (p.2 _ (by omega)).2.2.2.2
    refine Or.inr ⟨by rw [g 180 (by omega)]; exact m1, by rw [e4]; exact ic.ex p, by rw [e4, e5]; exact fm.ex p z, ⟨?_, ?_, ?_⟩, ?_⟩
    · rw [g 174 (by omega)]; exact sb.e (g 148 (by omega))
    · rw [g 174 (by omega)]; exact i3s
    · rw [g 174 (by omega)]; exact nb
    · rw [e4, g 174 (by omega), g 147 (by omega)]
      exact inn.cg (g _ (by omega)) (fun j hj => g _ (by omega))
theorem Cg.ex {h h1 : HP} {t : Nat} {E : EE} {S : Nat → Int} (k : Cg h t E S) (fo : FjO h t) (p : Ex h h1) (z : 182 ≤ h_sz h) : Cg h1 t E S := by
  have g : ∀ a, a < h_sz h → h_mi h1 a = h_mi h a := fun a ha => (p.2 a ha).2.2.1
  have lo := fo.2.1
  refine ⟨⟨k.rs.ex p z, k.cs.ex p z, k.st.ex p z, by rw [g 138 (by omega), g 139 (by omega)]; exact k.z0⟩, (fo.ex p).1, by rw [(p.2 106 (by omega)).2.2.2.2]; exact k.ht, k.vm.cg (fun a h1 h2 => g a (by omega)), k.fn.cg (fun i hi => g _ (by omega)) (fun a h1 h2 => g a (by omega)), k.lc.ex fo p, ?_⟩
  rw [g 147 (by omega)]
  exact k.ic.cg (g _ (by omega)) (fun j hj => g _ (by omega))
theorem MsO.ex {h h1 : HP} {E : EE} {B : Int} (m : MsO h E B) (p : Ex h h1) (z : 182 ≤ h_sz h) : MsO h1 E B := by
  have g : ∀ a, a < h_sz h → h_mi h1 a = h_mi h a := fun a ha => (p.2 a ha).2.2.1
  have e4 : h_mr h1 144 = h_mr h 144 := (p.2 144 (by omega)).2.2.2.2
  exact ⟨fun k hk => (m.1 k hk).ex p z, by rw [e4]; exact m.2.1, m.2.2.e (g _ (by omega)) (g _ (by omega))⟩
theorem Inv.ex {h h1 : HP} {t : Nat} {E : EE} {B : Int} {L : Nat} {xs : Nat → Int} (i : Inv h t E B L xs) (p : Ex h h1) : Inv h1 t E B L xs := by
  obtain ⟨k, fo, tp, dd, ms, ss, lw⟩ := i
  have z := lw.2.2.2.2.2
  have sz := p.1
  have g : ∀ a, a < h_sz h → h_mi h1 a = h_mi h a := fun a ha => (p.2 a ha).2.2.1
  refine ⟨?_, fo.ex p, tp.e (by rw [g 101 (by omega)]) (by rw [g 145 (by omega)]) (g 102 (by omega)) (g 146 (by omega)), ?_, ms.ex p z, ?_, ?_⟩
  · unfold Cu
    rw [g 172 (by omega)]
    exact Cg.ex k fo p z
  · rw [g 145 (by omega), g 175 (by omega), g 172 (by omega)]
    exact dd.e (fun a ha => g a (by omega))
  · rw [g 172 (by omega)]; exact ss
  · obtain ⟨w1, w2, w3, w4, w5, w6⟩ := lw
    obtain ⟨a1, a2, a3, _⟩ := p.2 40 (by omega)
    obtain ⟨b1, b2, _⟩ := p.2 181 (by omega)
    exact ⟨by rw [a1]; exact w1, by rw [a2]; exact w2, by rw [a3]; exact w3, by rw [b1]; exact w4, by rw [b2]; exact w5, by omega⟩
