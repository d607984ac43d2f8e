/-! the reference's small steps at a token; facts that a law may name -/
def fcI (l : Nat) (w : Int) : Int := if w = 168984 then 0 else if w = 7622660 then 1 else if l = 3 then (if w = 4351291 then 6 else if w = 12532058 then 7 else if w = 456399 then 8 else -1) else if w = 51270206 then 2 else if w = 13550 then 3 else if w = 1473512789 then 4 else if l = 2 then (if w = 10792937 then 5 else -1) else -1
theorem fcI_al {l : Nat} (hl : l < 4) {w : Int} (h : 0 ≤ fcI l w) : al l (fcI l w).toNat ∧ fcI l w ≤ 8 := by
  unfold fcI at h ⊢
  unfold al
  split
  · exact ⟨by show _; omega, by omega⟩
  · split
    · exact ⟨by show _; omega, by omega⟩
    · split
      · split
        · exact ⟨by show _; omega, by omega⟩
        · split
          · exact ⟨by show _; omega, by omega⟩
          · split
            · exact ⟨by show _; omega, by omega⟩
            · simp_all
      · split
        · exact ⟨by show _; omega, by omega⟩
        · split
          · exact ⟨by show _; omega, by omega⟩
          · split
            · exact ⟨by show _; omega, by omega⟩
            · split
              · split
                · exact ⟨by show _; omega, by omega⟩
                · simp_all
              · simp_all
theorem fcI_ck : ((List.range 35).all fun a => (List.range 4).all fun l => decide ((en_fact.getD a 0 ≠ -1 ∧ i_and (i_shr (st_facts.getD l 0) (en_fact.getD a 0)) 1 ≠ 0) ↔ 0 ≤ fcI l (sml (a + 1))) && (decide (fcI l (sml (a + 1)) < 0) || decide (en_fact.getD a 0 = fcI l (sml (a + 1))))) = true := by decide +kernel
theorem fcI_c {a l : Nat} (ha : a < 35) (hl : l < 4) : ((en_fact.getD a 0 ≠ -1 ∧ i_and (i_shr (st_facts.getD l 0) (en_fact.getD a 0)) 1 ≠ 0) ↔ 0 ≤ fcI l (sml (a + 1))) ∧ (0 ≤ fcI l (sml (a + 1)) → en_fact.getD a 0 = fcI l (sml (a + 1))) := by
  have x := List.all_eq_true.mp fcI_ck a (List.mem_range.mpr ha)
  have y := List.all_eq_true.mp x l (List.mem_range.mpr hl)
  rw [Bool.and_eq_true] at y
  refine ⟨of_decide_eq_true y.1, fun q => ?_⟩
  rcases Bool.or_eq_true _ _ ▸ y.2 with z | z
  · have := of_decide_eq_true z; omega
  · exact of_decide_eq_true z
theorem fcI_0 {l : Nat} {w : Int} (h : enW w = 0) : fcI l w = -1 := by
  have n := enW_0.mp h
  have g := fun (c : Nat) (hc : c < 35) (x : Int) (hx : sml (c + 1) = x) => show w ≠ x from fun q => n c hc (hx.trans q.symm)
  unfold fcI
  rw [if_neg (g 29 (by omega) 168984 rfl), if_neg (g 30 (by omega) 7622660 rfl), if_neg (g 8 (by omega) 4351291 rfl), if_neg (g 9 (by omega) 12532058 rfl), if_neg (g 34 (by omega) 456399 rfl), if_neg (g 31 (by omega) 51270206 rfl), if_neg (g 32 (by omega) 13550 rfl), if_neg (g 3 (by omega) 1473512789 rfl), if_neg (g 33 (by omega) 10792937 rfl)]
  split
  · rfl
  · split <;> rfl
/-- a token that may begin a part -/
def stP (f : Nat → Int) (n p l : Nat) : Prop := tkK f n p = 2 ∨ (tkK f n p = 3 ∧ f (tB f n p) = 40) ∨ (tkK f n p = 1 ∧ (tkW f n p = 10631 ∨ 0 ≤ fcI l (tkW f n p)))
section
variable {h : HP} {f : Nat → Int} {n p l : Nat}
theorem wd_c (st : Stt h) (t : CTk h f n p) (k1 : tkK f n p = 1) (n0 : enW (tkW f n p) ≠ 0) : ∃ a, a < 35 ∧ h_mr h 101 7 = a + 1 ∧ tkW f n p = sml (a + 1) ∧ isK h (a + 1) 20 = true ∧ ∀ k, h_mi h (a + 1) k = smiS (a + 1) k := by
  have b := enW_b (tkW f n p)
  obtain ⟨a, ha⟩ : ∃ a, enW (tkW f n p) = a + 1 := ⟨enW (tkW f n p) - 1, by omega⟩
  have a1 : a < 35 := by omega
  have s := st (a + 1) (by omega) (by omega)
  refine ⟨a, a1, by rw [(t.2.2.2.2.1 k1).2, ha], (enW_is a1).mp ha, isKc (by rw [s.1]; unfold skd; rw [if_neg (by omega), if_pos (by omega)]), s.2.2.1⟩
theorem smi_f (a : Nat) (ha : a < 35) : smiS (a + 1) 3 = en_fact.getD a 0 ∧ smiS (a + 1) 1 = en_group.getD a 0 ∧ smiS (a + 1) 2 = en_number.getD a 0 := by
  refine ⟨?_, ?_, ?_⟩ <;> (unfold smiS; rw [if_pos (by omega)]; rfl)
theorem c_74 (w : CSk h) (st : Stt h) (t : CTk h f n p) (d : Nat) (hl : l < 4) (hm : h_mi h 103 7 = st_facts.getD l 0) : (stP f n p l → ev (d + 1) 74 [vr 103] h = some (vi 1, h)) ∧ (¬ stP f n p l → ev (d + 1) 74 [vr 103] h = some (vi 0, h)) := by
  rw [v_74, q_74_0 (w := w)]
  by_cases k1 : tkK f n p = 1
  · by_cases n0 : enW (tkW f n p) = 0
    · have e0 : h_mr h 101 7 = 0 := by rw [(t.2.2.2.2.1 k1).2, n0]
      have ns : ¬ stP f n p l := by
        rintro (z | z | ⟨_, z | z⟩)
        · omega
        · omega
        · exact (enW_0.mp n0) 26 (by omega) z.symm
        · rw [fcI_0 n0] at z; omega
      refine ⟨fun q => absurd q ns, fun _ => ?_⟩
      rw [e0, t.2.2.1, k1, dt rfl, df (show ¬ srt 1 = 3 by decide), c_90 w t, bb_f (fun q => by omega)]
      simp only [zb, bI_s]
      rw [q_74_32, dt rfl]; rfl
    · obtain ⟨a, a1, e1, e2, kd, mi⟩ := wd_c st t k1 n0
      have sf := smi_f a a1
      have fc := fcI_c a1 hl
      rw [e1, df (by omega), kd, mi 3, sf.1, hm, dt (show a + 1 ≤ 35 by omega)]
      simp only [zb]
      by_cases z : a = 26
      · refine ⟨fun _ => by rw [dt (show a + 1 = 27 by omega)]; rfl, fun q => absurd (Or.inr (Or.inr ⟨k1, Or.inl (by rw [e2, z]; rfl)⟩)) q⟩
      · have nw : tkW f n p ≠ 10631 := fun q => z (sml_i a1 (by omega) (b := 26) (e2.symm.trans q))
        rw [df (show ¬ a + 1 = 27 by omega)]
        simp only [zb]
        by_cases y : 0 ≤ fcI l (tkW f n p)
        · have y' := y
          rw [e2] at y'
          have g := fc.1.mpr y'
          refine ⟨fun _ => ?_, fun q => absurd (Or.inr (Or.inr ⟨k1, Or.inr y⟩)) q⟩
          rw [df g.1, df g.2]; rfl
        · have ns : ¬ stP f n p l := by
            rintro (z | z | ⟨_, z | z⟩)
            · omega
            · omega
            · exact nw z
            · exact y z
          refine ⟨fun q => absurd q ns, fun _ => ?_⟩
          rw [e2] at y
          by_cases x : en_fact.getD a 0 = -1
          · rw [dt x]; rfl
          · rw [df x]
            by_cases v : i_and (i_shr (st_facts.getD l 0) (en_fact.getD a 0)) 1 = 0
            · rw [dt v]; rfl
            · exact absurd (fc.1.mp ⟨x, v⟩) y
  · rw [t.2.2.2.2.2.1 k1, dt rfl, t.2.2.1, c_90 w t]
    simp only [zb, bI_s]
    by_cases k2 : tkK f n p = 2
    · refine ⟨fun _ => ?_, fun q => absurd (Or.inl k2) q⟩
      rw [k2, dt (show srt 2 = 3 from rfl)]; rfl
    · have s3 : srt (tkK f n p) ≠ 3 := by rcases tk_c f n p with z | z | z | z | z <;> rw [z] at k2 ⊢ <;> first | exact absurd rfl k2 | decide
      rw [df s3]
      simp only [zb]
      rw [q_74_32]
      by_cases z : tkK f n p = 3 ∧ f (tB f n p) = 40
      · refine ⟨fun _ => ?_, fun q => absurd (Or.inr (Or.inl z)) q⟩
        rw [bb_dt z]; rfl
      · refine ⟨fun q => ?_, fun _ => ?_⟩
        · rcases q with q | q | q
          · omega
          · exact absurd q z
          · omega
        · rw [bb_df z]; rfl
/-- the reference's own has changed -/
def RRel (h h1 : HP) : Prop := ∃ g N, h1 = sM (sL h 145 7 g) N ∧ (∀ a, a ≠ 145 → a ≠ 159 → a ≠ 160 → a ≠ 161 → N a = h_mi h a) ∧ (∀ j, j ≠ 4 → j ≠ 5 → j ≠ 6 → j ≠ 8 → j ≠ 9 → j ≠ 24 → N 145 j = h_mi h 145 j) ∧ ∀ j, j < 1000 ∨ 2000 ≤ j → N 159 j = h_mi h 159 j
theorem lc_self (h : HP) : sM (sL h 145 7 (h_ml h 145 7)) (h_mi h) = h := by
  obtain ⟨x1, x2, x3, x4, x5, x6, x7⟩ := h
  show (x1, x2, x3, va_up x4 145 (va_up (x4 145) 7 (x4 145 7)), x5, x6, x7) = _
  rw [up_self, up_self]
theorem RRel.rf (h : HP) : RRel h h := ⟨_, _, (lc_self h).symm, fun _ _ _ _ _ => rfl, fun _ _ _ _ _ _ _ => rfl, fun _ _ => rfl⟩
theorem lc_lc (h : HP) (g g2 : Int) (N N2 : MM) : sM (sL (sM (sL h 145 7 g) N) 145 7 g2) N2 = sM (sL h 145 7 g2) N2 := by rw [sLL, sM_sM]
theorem RRel.tr {h h1 h2 : HP} (p : RRel h h1) (q : RRel h1 h2) : RRel h h2 := by
  obtain ⟨g, N, rfl, a1, a2, a3⟩ := p
  obtain ⟨g2, N2, rfl, b1, b2, b3⟩ := q
  exact ⟨g2, N2, lc_lc _ _ _ _ _, fun a h1 h2 h3 h4 => (b1 a h1 h2 h3 h4).trans (a1 a h1 h2 h3 h4), fun j h1 h2 h3 h4 h5 h6 => (b2 j h1 h2 h3 h4 h5 h6).trans (a2 j h1 h2 h3 h4 h5 h6), fun j h1 => (b3 j h1).trans (a3 j h1)⟩
theorem RRel.rs {h h1 : HP} (p : RRel h h1) (w : RSk h) : RSk h1 := by
  obtain ⟨g, N, rfl, _⟩ := p
  exact (w.l _ _ _).m _
theorem RRel.fl {h h1 : HP} (p : RRel h h1) {j : Nat} (h4 : j ≠ 4) (h5 : j ≠ 5) (h6 : j ≠ 6) (h8 : j ≠ 8) (h9 : j ≠ 9) (h24 : j ≠ 24) : h_mi h1 145 j = h_mi h 145 j := by
  obtain ⟨g, N, rfl, _, a2, _⟩ := p
  exact a2 j h4 h5 h6 h8 h9 h24
theorem RRel.si {h h1 : HP} (p : RRel h h1) {a k : Nat} {v : Int} (ha : (160 ≤ a ∧ a ≤ 161) ∨ (a = 159 ∧ 1000 ≤ k ∧ k < 2000) ∨ (a = 145 ∧ (k = 9 ∨ k = 24))) : RRel h (sI h1 a k v) := by
  obtain ⟨g, N, rfl, a1, a2, a3⟩ := p
  refine ⟨g, up2 N a k v, rfl, fun x h1 h2 h3 h4 => by rw [u2_ne _ _ _ (by omega)]; exact a1 x h1 h2 h3 h4, fun j h1 h2 h3 h4 h5 h6 => ?_, fun j hj => ?_⟩
  · rcases ha with z | z | ⟨z, y⟩
    · rw [u2_ne _ _ _ (by omega)]; exact a2 j h1 h2 h3 h4 h5 h6
    · rw [u2_ne _ _ _ (by omega)]; exact a2 j h1 h2 h3 h4 h5 h6
    · rw [z, u2_no _ _ _ (by omega)]; exact a2 j h1 h2 h3 h4 h5 h6
  · rcases ha with z | ⟨z, z1, z2⟩ | ⟨z, y⟩
    · rw [u2_ne _ _ _ (by omega)]; exact a3 j hj
    · rw [z, u2_no _ _ _ (by omega)]; exact a3 j hj
    · rw [u2_ne _ _ _ (by omega)]; exact a3 j hj
theorem RTk.si {a k : Nat} {v : Int} (t : RTk h f n p) (ha : a ≠ 146) (hb : a ≠ 145 ∨ (k ≠ 3 ∧ k ≠ 4 ∧ k ≠ 5 ∧ k ≠ 6 ∧ k ≠ 8)) : RTk (sI h a k v) f n p := by
  have e : ∀ j, (j = 3 ∨ j = 4 ∨ j = 5 ∨ j = 6 ∨ j = 8) → h_mi (sI h a k v) 145 j = h_mi h 145 j := fun j hj => by
    by_cases z : a = 145
    · subst z; rw [miI_eq, up_ne _ _ (by omega)]
    · rw [miI_ne _ _ _ (fun q => z q.symm)]
  have e2 : h_mi (sI h a k v) 146 = h_mi h 146 := miI_ne _ _ _ (fun z => ha z.symm)
  obtain ⟨t1, t2, t3, t4, t5, t6, t7⟩ := t
  exact ⟨by rw [e 3 (by omega)]; exact t1, by rw [e 4 (by omega)]; exact t2, by rw [e 5 (by omega)]; exact t3, by rw [e 6 (by omega)]; exact t4, t5, fun z => by rw [e 8 (by omega)]; exact t6 z, by rw [e2]; exact t7⟩
theorem r_nx (w : RSk h) (d : Nat) (t : RTk h f n p) (n1 : n ≤ 1000) (p1 : p ≤ n) : ∃ h1, ev (d + 1) 152 [vr 145] h = some (vr 0, h1) ∧ RRel h h1 ∧ RTk h1 f n (tkE f n p) ∧ (∀ a, 159 ≤ a → a ≤ 161 → h_mi h1 a = h_mi h a) ∧ h_mi h1 145 24 = h_mi h 145 24 := by
  obtain ⟨N, g, e, a1, a2, rt⟩ := m_152 w d t.1 t.2.1 t.2.2.2.2.2.2 n1 (tk_n p1).2.1
  exact ⟨_, e, ⟨g, N, rfl, fun a h1 _ _ _ => a1 a h1, fun j h1 h2 h3 h4 _ _ => a2 j h1 h2 h3 h4, fun j _ => by rw [a1 159 (by omega)]⟩, rt, fun a h1 h2 => a1 a (by omega), a2 24 (by omega) (by omega) (by omega) (by omega)⟩
theorem r_153 (w : RSk h) (t : RTk h f n p) (d : Nat) (x : Int) : ev d 153 [vr 145, vl x] h = some (vi (bb (tkK f n p = 1 ∧ tkW f n p = x)), h) := by
  rw [v_153, q_153_0 (w := w), t.2.2.2.1]
  by_cases k1 : tkK f n p = 1
  · rw [df (fun q => q k1), t.2.2.2.2.1 k1]
    by_cases z : tkW f n p = x
    · rw [df (fun q => q ((lcmp_e _ _).mpr z)), bb_t ⟨k1, z⟩]; rfl
    · rw [dt (show l_cmp (tkW f n p) x ≠ 0 from fun q => z ((lcmp_e _ _).mp q)), bb_f (fun q => z q.2)]; rfl
  · rw [dt k1, bb_f (fun q => k1 q.1)]; rfl
theorem r_154 (w : RSk h) (t : RTk h f n p) (n1 : n ≤ 1000) (p1 : p ≤ n) (d : Nat) (x : Int) : ev d 154 [vr 145, vi x] h = some (vi (bb (tkK f n p = 3 ∧ f (tB f n p) = x)), h) := by
  have b := tB_b (f := f) p1
  rw [v_154, q_154_0 (w := w), t.2.2.2.1, t.2.2.1, t.2.2.2.2.2.2, Int.toNat_natCast]
  by_cases k3 : tkK f n p = 3
  · have := ((tk_n (f := f) p1).2.2 (by omega)).2
    rw [df (fun q => q k3), dt (show 0 ≤ ((tB f n p : Nat) : Int) by omega), dt (show ((tB f n p : Nat) : Int) < 1000 by omega)]
    by_cases z : f (tB f n p) = x
    · rw [df (fun q => q z), bb_t ⟨k3, z⟩]; rfl
    · rw [dt z, bb_f (fun q => z q.2)]; rfl
  · rw [dt k3, bb_f (fun q => k3 q.1)]; rfl
theorem r_155 (w : RSk h) (t : RTk h f n p) (n1 : n ≤ 1000) (p1 : p ≤ n) (d : Nat) {k : Int} (k0 : 0 ≤ k) (k1 : k ≤ 10) : ev d 155 [vr 145, vi k] h = some (vi 0, sI h 145 9 (k + 16 * ((tB f n p : Nat) : Int))) := by
  have b := tB_b (f := f) p1
  rw [v_155, q_155_0 (w := w), t.2.2.1, im (by omega) (by omega), ia (by omega) (by omega)]
theorem r_157 (w : RSk h) (d : Nat) {c : Nat} (hc : h_mi h 145 24 = (c : Int)) (c1 : c < 6000) (x : Int) : ev d 157 [vr 145, vi x] h = some (vr 0, sI (sI h 159 c x) 145 24 ((c + 1 : Nat) : Int)) := by
  rw [v_157, q_157_0 (w := w), hc, dt (by omega), dt (by omega), ia (by omega) (by omega), Int.toNat_natCast]
  rfl
theorem r_158 (w : RSk h) (t : RTk h f n p) (d : Nat) (hl : h_mi h 145 26 = (l : Int)) : ev d 158 [vr 145] h = some (vi (if tkK f n p = 1 then fcI l (tkW f n p) + 1 else 0), h) := by
  rw [v_158, q_158_0 (w := w), t.2.2.2.1, hl]
  by_cases k1 : tkK f n p = 1
  · rw [dt k1, if_pos k1, t.2.2.2.2.1 k1]
    have c : ∀ x : Int, decide (l_cmp (tkW f n p) x ≠ 0) = decide (tkW f n p ≠ x) := fun x => by
      by_cases z : tkW f n p = x
      · rw [df (fun q => q ((lcmp_e _ _).mpr z)), df (fun q => q z)]
      · rw [dt (show tkW f n p ≠ x from z), dt (show l_cmp (tkW f n p) x ≠ 0 from fun q => z ((lcmp_e _ _).mp q))]
    simp only [c, zb]
    unfold fcI
    have s : ∀ {x : Int} (A B : RS), (bif decide (tkW f n p ≠ x) then A else B) = if tkW f n p = x then B else A := fun {x} A B => by
      by_cases z : tkW f n p = x
      · rw [df (fun q => q z), if_pos z]; rfl
      · rw [dt (show tkW f n p ≠ x from z), if_neg z]; rfl
    simp only [s]
    by_cases l3 : l = 3
    · rw [df (show ¬ (l : Int) ≠ 3 by omega), if_pos l3]
      simp only [zb]
      split
      · rfl
      · split
        · rfl
        · split
          · rfl
          · split
            · rfl
            · split <;> rfl
    · rw [dt (show (l : Int) ≠ 3 by omega), if_neg l3]
      simp only [zb]
      split
      · rfl
      · split
        · rfl
        · split
          · rfl
          · split
            · rfl
            · split
              · rfl
              · by_cases l2 : l = 2
                · rw [df (show ¬ (l : Int) ≠ 2 by omega), if_pos l2]
                  simp only [zb]
                  split <;> rfl
                · rw [dt (show (l : Int) ≠ 2 by omega), if_neg l2]; rfl
  · rw [df k1, if_neg k1]; rfl
end
