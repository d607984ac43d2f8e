/-! the class: undo, share, stump, hours, feed -/
theorem unS_a (M : MM) (d0 : 1 ≤ M 145 44) {k : Nat} (h : k < 60 ∨ (120 ≤ k ∧ k < 126) ∨ k = 132 ∨ (135 ≤ k ∧ k < 144)) : unS M k = unR (M 175) (M 145 44 - 1).toNat k := by
  have u : unK k = true := by
    unfold unK
    simp only [Bool.or_eq_true, Bool.and_eq_true, decide_eq_true_eq]
    omega
  unfold unS unR
  rw [u]
  show M 175 _ = M 175 _
  congr 1; omega
theorem unS_b (M : MM) {k : Nat} (h : (60 ≤ k ∧ k < 120) ∨ (126 ≤ k ∧ k < 132) ∨ k = 133 ∨ k = 134) : unS M k = M 172 k := by
  have u : unK k = false := by
    cases e : unK k with
    | false => rfl
    | true =>
      exfalso
      unfold unK at e
      simp only [Bool.or_eq_true, Bool.and_eq_true, decide_eq_true_eq] at e
      omega
  unfold unS
  rw [u]; rfl
section
variable {h : HP} {t : Nat} {E : EE} {S : Nat → Int}
theorem l_17 (w : CSk h) {M : MM} (d : Nat) {z r : Nat} (z1 : z < 20) (hz : M 130 3 = (z : Int)) (r6 : r < 6) (hr : M 132 z = (r : Int)) (hb : ∀ j, j < 10 → 0 ≤ M 133 (10 * z + j) ∧ M 133 (10 * z + j) ≤ 99) : ∀ (n : Nat) (i a : Int) (f : Nat → Int) (v4 v5 : AV), (10 - i).toNat = n → 0 ≤ i → i ≤ 10 → C99 f → -(i * 99) ≤ a → a ≤ i * 99 → run (d + 1) md_17 4 [vr 130, vr 106, vi a, vi i, v4, v5] [] (sM h (va_up M 126 f)) = some (vi (itr (fun j a => a + (f (10 * (r : Int) + j).toNat - M 133 (10 * (z : Int) + j).toNat)) n i a), sM h (va_up M 126 (itr (fun j f => va_up f (10 * (r : Int) + j).toNat (M 133 (10 * (z : Int) + j).toNat)) n i f)))
  | 0, i, a, f, v4, v5, h1, h2, h3, cf, a0, a1 => by
    rw [q_17_4 (w := w.m _), dt (by omega)]; rfl
  | n + 1, i, a, f, v4, v5, h1, h2, h3, cf, a0, a1 => by
    have b := hb i.toNat (by omega)
    rw [show 10 * z + i.toNat = (10 * (z : Int) + i).toNat by omega] at b
    have c := cf (10 * (r : Int) + i).toNat (by omega)
    rw [q_17_4 (w := w.m _), mi_sM, up_ne _ _ (show (130 : Nat) ≠ 126 by omega), up_ne _ _ (show (132 : Nat) ≠ 126 by omega), hz, Int.toNat_natCast, hr, df (by omega)]
    simp (disch := omega) only [dt, df, zb]
    rw [c_141 _ _ _ _ (by omega) (by omega) (by omega) (by omega), bI_s, q_17_23 (w := w.m _), mi_sM, up_ne _ _ (show (130 : Nat) ≠ 126 by omega), up_ne _ _ (show (133 : Nat) ≠ 126 by omega), up_eq, hz, im (by omega) (by omega), ia (x := (z : Int) * 10) (by omega) (by omega), show (z : Int) * 10 + i = 10 * (z : Int) + i by omega, sI_sM, up2_row]
    simp (disch := omega) only [dt, df, zb, ia, is_]
    have key := l_17 w (M := M) d z1 hz r6 hr hb n (i + 1) (a + (f (10 * (r : Int) + i).toNat - M 133 (10 * (z : Int) + i).toNat)) (va_up f (10 * (r : Int) + i).toNat (M 133 (10 * (z : Int) + i).toNat)) (vi (10 * (r : Int) + i)) (vi (M 133 (10 * (z : Int) + i).toNat)) (by omega) (by omega) (by omega) (fun x hx => by
      by_cases y : x = (10 * (r : Int) + i).toNat
      · rw [y, up_eq]; omega
      · rw [up_ne _ _ y]; exact cf x hx) (by omega) (by omega)
    have eq : itr (fun j a => a + (va_up f (10 * (r : Int) + i).toNat (M 133 (10 * (z : Int) + i).toNat) (10 * (r : Int) + j).toNat - M 133 (10 * (z : Int) + j).toNat)) n (i + 1) (a + (f (10 * (r : Int) + i).toNat - M 133 (10 * (z : Int) + i).toNat)) = itr (fun j a => a + (f (10 * (r : Int) + j).toNat - M 133 (10 * (z : Int) + j).toNat)) n (i + 1) (a + (f (10 * (r : Int) + i).toNat - M 133 (10 * (z : Int) + i).toNat)) := itr_congr (lo := i + 1) (n := 10) (fun j a j0 j1 => by rw [up_ne _ _ (by omega)]) n (i + 1) _ (by omega) (by omega)
    rw [eq] at key
    exact key
theorem k_undo (k : Cu h t E) (dd : DdG (h_mi h) (h_mi h 145 44) (h_mi h 175) (h_mi h 172)) (d : Nat) : (h_mi h 145 44 ≠ 0 → ∃ N, ev (d + 3) 117 [vr 100] h = some (vi 1, sM h N) ∧ Ag (CA t) (h_mi h) N ∧ (∀ a, 145 ≤ a → a ≤ 180 → N a = h_mi h a) ∧ Cg (sM h N) t E (unS (h_mi h)) ∧ (∀ a, (101 ≤ a ∧ a ≤ 102) ∨ (131 ≤ a ∧ a ≤ 133) → N a = h_mi h a) ∧ N 130 3 = (h_mi h 130 3 + 19) % 20 ∧ N 130 4 = h_mi h 145 44 - 1) ∧ (¬ h_mi h 145 44 ≠ 0 → ev (d + 3) 117 [vr 100] h = some (vi 0, h)) := by
  have lt := k.fj.lt
  obtain ⟨u1, u2, u3, u4⟩ := dd
  rw [v_117, q_117_0 (w := k.cs), v_16, q_16_0 (w := k.cs), u1]
  refine ⟨fun nz => ?_, fun nz => ?_⟩
  · have n1 : 1 ≤ h_mi h 145 44 := by omega
    obtain ⟨⟨sb, s3⟩, ud⟩ := u4 (h_mi h 145 44 - 1).toNat (by omega)
    rw [if_pos (by omega)] at ud
    have es : slot (h_mi h 130 3) (h_mi h 145 44) (h_mi h 145 44 - 1).toNat = ((h_mi h 130 3 + 19) % 20).toNat := by unfold slot; congr 1; omega
    rw [es] at ud
    generalize hz : ((h_mi h 130 3 + 19) % 20).toNat = z at ud
    have z1 : z < 20 := by omega
    have zi : (h_mi h 130 3 + 19) % 20 = (z : Int) := by omega
    obtain ⟨r, r6, w1, w2, w3, w4, w5⟩ := ud
    generalize hS0 : unR (h_mi h 175) (h_mi h 145 44 - 1).toNat = S0 at sb s3 w2 w3 w4 w5
    generalize hM1 : up2 (up2 (h_mi h) 130 4 (h_mi h 145 44 - 1)) 130 3 (z : Int) = M1
    have m1 : ∀ a, a ≠ 130 → M1 a = h_mi h a := fun a ha => by rw [← hM1, u2_ne _ _ _ ha, u2_ne _ _ _ ha]
    have m3 : M1 130 3 = (z : Int) := by rw [← hM1, u2_at]
    have m4 : M1 130 4 = h_mi h 145 44 - 1 := by rw [← hM1, u2_no _ _ _ (by omega), u2_at]
    have kd := k.dat (Ag.rf _)
    have c126 : ∀ c, c < 60 → h_mi h 126 c = h_mi h 172 c := fun c hc => (k.ic.1 c hc).1
    have l17 := l_17 (h := h) k.cs (M := M1) d z1 m3 r6 (by rw [m1 132 (by omega)]; exact w1) (fun j hj => by rw [m1 133 (by omega), w2 j hj]; exact (sb.1 _ (by omega)).1) _ 0 0 (h_mi h 126) vu vu rfl (by omega) (by omega) (fun c hc => by rw [c126 c hc]; exact (k.vm.s hc).1) (by omega) (by omega)
    have ev17 : itr (fun j a => a + (h_mi h 126 (10 * (r : Int) + j).toNat - M1 133 (10 * (z : Int) + j).toNat)) ((10 : Int) - 0).toNat 0 0 = fgV r S0 (h_mi h 172) := by
      show itr _ 10 0 0 = sm _ 10
      unfold sm
      refine itr_congr (lo := 0) (n := 10) (fun j a j0 j1 => ?_) 10 0 0 (by omega) (by omega)
      have := w2 j.toNat (by omega)
      rw [show 10 * z + j.toNat = (10 * (z : Int) + j).toNat by omega, show 10 * r + j.toNat = (10 * (r : Int) + j).toNat by omega] at this
      rw [m1 133 (by omega), this, c126 _ (by omega)]
    generalize hF : itr (fun j f => va_up f (10 * (r : Int) + j).toNat (M1 133 (10 * (z : Int) + j).toNat)) ((10 : Int) - 0).toNat 0 (h_mi h 126) = F at l17
    have Fc : ∀ c, c < 60 → F c = S0 c := fun c hc => by
      have := cpR_at (M1 133) (a := 10 * (z : Int)) (b := 10 * (r : Int)) (by omega) (by omega) 10 0 (h_mi h 126) (by omega) c
      have e : F c = cpR (M1 133) (10 * (z : Int)) (10 * (r : Int)) 10 0 (h_mi h 126) c := by rw [← hF]; rfl
      rw [e, this]
      by_cases y : 10 * (r : Int) + 0 ≤ (c : Int) ∧ (c : Int) < 10 * (r : Int) + 0 + ((10 : Nat) : Int)
      · rw [if_pos y, m1 133 (by omega)]
        have := w2 (c - 10 * r) (by omega)
        rw [show 10 * r + (c - 10 * r) = c by omega] at this
        rw [← this]
        congr 1; omega
      · rw [if_neg y, c126 c hc, w3 c hc (by omega)]
    rw [ev17] at l17
    have e126 : va_up M1 126 (h_mi h 126) = M1 := by
      have := up_self M1 126
      rw [m1 126 (by omega)] at this
      exact this
    rw [e126] at l17
    have st : (bI (ev (d + 1) 17 [vr 130, vr 106] (sI (sI h 130 4 (i_sub (h_mi h 145 44) 1)) 130 3 (i_rem (i_sub (i_add (h_mi h 130 3) 20) 1) 20))) fun r1 h1 => run (d + 2) md_16 40 [vr 130, vr 106, vu] [vi r1] h1) = run (d + 2) md_16 40 [vr 130, vr 106, vu] [vi (fgV r S0 (h_mi h 172))] (sM h (va_up M1 126 F)) := by
      rw [is_ (x := h_mi h 145 44) (by omega) (by omega), ia (by omega) (by omega), is_ (by omega) (by omega), ir (by omega) (by omega) (by omega) (by omega), show h_mi h 130 3 + 20 - 1 = h_mi h 130 3 + 19 by omega, zi]
      simp only [sI_h, sM_sM, mi_sM]
      rw [hM1, v_17, q_17_0, l17, bI_s]
    have kw := k.cs.m (va_up M1 126 F)
    have b1 : va_up M1 126 F 130 3 = (z : Int) := by rw [up_ne _ _ (by omega)]; exact m3
    have b2 : ∀ a, a ≠ 126 → a ≠ 130 → va_up M1 126 F a = h_mi h a := fun a ha hb => by rw [up_ne _ _ ha, m1 a hb]
    have un := fun c (hc : c < 60 ∨ (120 ≤ c ∧ c < 126) ∨ c = 132 ∨ (135 ≤ c ∧ c < 144)) => (unS_a (h_mi h) n1 hc).trans (by rw [hS0])
    have un2 := fun c (hc : (60 ≤ c ∧ c < 120) ∨ (126 ≤ c ∧ c < 132) ∨ c = 133 ∨ c = 134) => unS_b (h_mi h) (k := c) hc
    obtain ⟨ia_, ib_, ic1, ic2, ic3, ic4, ic5, ic6⟩ := k.ic
    simp only [st]
    rw [q_16_40 (w := kw), mi_sM, b1, Int.toNat_natCast, b2 131 (by omega) (by omega)]
    rcases w5 with ⟨p, p1, p2, p3, p4, p5, p6, p7⟩ | ⟨l, l1, l2, l3, l4, l5, l6⟩
    · rw [p3]
      simp (disch := omega) only [dt, df, zb, is_]
      rw [show (8 : Int) + (p : Int) - 8 = (p : Int) by omega, v_48, q_48_0 (w := kw), mi_sM, b2 106 (by omega) (by omega), b2 128 (by omega) (by omega), Int.toNat_natCast]
      have lf := (k.vm.lf (p := p) p2).1
      have e8 : h_mi h 128 p = h_mi h 172 (120 + p) := (ib_ p p2).1 p1
      rw [e8, ia (x := h_mi h 172 (120 + p)) (by omega) (by omega), ic4]
      simp (disch := omega) only [dt, df, zb]
      simp only [sI_sM, bV_s, u2_ne _ _ _ (show (128 : Nat) ≠ 106 by omega), b2 128 (by omega) (by omega), e8]
      rw [q_16_72, q_16_89, bI_s, q_117_11]
      refine ⟨_, rfl, fun a ha => ?_, fun a h1 h2 => ?_, ?_, fun a ha => ?_, ?_, ?_⟩
      · have ha : ¬ CA t a := ha
        unfold CA at ha
        rw [u2_ne _ _ _ (by omega), u2_ne _ _ _ (by omega), b2 a (by omega) (by omega)]
      · rw [u2_ne _ _ _ (by omega), u2_ne _ _ _ (by omega), b2 a (by omega) (by omega)]
      · refine k.own ?_ (fun a h1 h2 => by rw [u2_ne _ _ _ (by omega), u2_ne _ _ _ (by omega), b2 a (by omega) (by omega)]) (by rw [u2_ne _ _ _ (by omega), u2_ne _ _ _ (by omega), b2 138 (by omega) (by omega), u2_ne _ _ _ (by omega), u2_ne _ _ _ (by omega), b2 139 (by omega) (by omega)]; exact k.z0) ⟨fun c hc => ⟨?_, ?_⟩, fun q hq => ⟨fun qn => ?_, ?_⟩, ?_, ?_, ?_, ?_, ?_, ?_⟩
        · intro a ha
          have ha : ¬ CA t a := ha
          unfold CA at ha
          rw [u2_ne _ _ _ (by omega), u2_ne _ _ _ (by omega), b2 a (by omega) (by omega)]
        · rw [u2_ne _ _ _ (by omega), u2_ne _ _ _ (by omega), up_eq, Fc c hc, un c (by omega)]
        · rw [u2_ne _ _ _ (by omega), u2_ne _ _ _ (by omega), b2 _ (by omega) (by omega), un2 _ (by omega)]; exact (ia_ c hc).2
        · rw [show 126 + 2 = 128 from rfl, u2_eq, u2_ne _ _ _ (by omega), b2 128 (by omega) (by omega), un _ (by omega), p4 q hq]
          by_cases y : q = p
          · rw [if_pos y, y, up_eq]
          · rw [if_neg y, up_ne _ _ y]; exact (ib_ q hq).1 qn
        · rw [u2_ne _ _ _ (by omega), u2_ne _ _ _ (by omega), b2 _ (by omega) (by omega), un2 _ (by omega)]; exact (ib_ q hq).2
        · rw [u2_ne _ _ _ (by omega), u2_no _ _ _ (by omega), b2 106 (by omega) (by omega), un _ (by omega), p5]; exact ic1
        · rw [u2_ne _ _ _ (by omega), u2_no _ _ _ (by omega), b2 106 (by omega) (by omega), un2 _ (by omega)]; exact ic2
        · rw [u2_ne _ _ _ (by omega), u2_no _ _ _ (by omega), b2 106 (by omega) (by omega), un2 _ (by omega)]; exact ic3
        · rw [u2_ne _ _ _ (by omega), u2_at, un _ (by omega), p6]
        · rw [u2_ne _ _ _ (by omega), u2_no _ _ _ (by omega), b2 106 (by omega) (by omega), un _ (by omega), w4]; exact ic5
        · rw [u2_ne _ _ _ (by omega), u2_no _ _ _ (by omega), b2 106 (by omega) (by omega), un _ (by omega), p7]; exact ic6
      · rw [u2_ne _ _ _ (by omega), u2_ne _ _ _ (by omega), b2 a (by omega) (by omega)]
      · rw [u2_ne _ _ _ (by omega), u2_ne _ _ _ (by omega), b1, zi]
      · rw [u2_ne _ _ _ (by omega), u2_ne _ _ _ (by omega), up_ne _ _ (by omega), m4]
    · rw [l2]
      simp (disch := omega) only [dt, df, zb]
      rw [v_49, q_49_0 (w := kw), mi_sM, b2 106 (by omega) (by omega), ic6, ic1]
      simp only [sI_sM, bV_s]
      rw [q_16_89, bI_s, q_117_11]
      refine ⟨_, rfl, fun a ha => ?_, fun a h1 h2 => ?_, ?_, fun a ha => ?_, ?_, ?_⟩
      · have ha : ¬ CA t a := ha
        unfold CA at ha
        rw [u2_ne _ _ _ (by omega), u2_ne _ _ _ (by omega), b2 a (by omega) (by omega)]
      · rw [u2_ne _ _ _ (by omega), u2_ne _ _ _ (by omega), b2 a (by omega) (by omega)]
      · refine k.own ?_ (fun a h1 h2 => by rw [u2_ne _ _ _ (by omega), u2_ne _ _ _ (by omega), b2 a (by omega) (by omega)]) (by rw [u2_ne _ _ _ (by omega), u2_ne _ _ _ (by omega), b2 138 (by omega) (by omega), u2_ne _ _ _ (by omega), u2_ne _ _ _ (by omega), b2 139 (by omega) (by omega)]; exact k.z0) ⟨fun c hc => ⟨?_, ?_⟩, fun q hq => ⟨fun qn => ?_, ?_⟩, ?_, ?_, ?_, ?_, ?_, ?_⟩
        · intro a ha
          have ha : ¬ CA t a := ha
          unfold CA at ha
          rw [u2_ne _ _ _ (by omega), u2_ne _ _ _ (by omega), b2 a (by omega) (by omega)]
        · rw [u2_ne _ _ _ (by omega), u2_ne _ _ _ (by omega), up_eq, Fc c hc, un c (by omega)]
        · rw [u2_ne _ _ _ (by omega), u2_ne _ _ _ (by omega), b2 _ (by omega) (by omega), un2 _ (by omega)]; exact (ia_ c hc).2
        · rw [u2_ne _ _ _ (by omega), u2_ne _ _ _ (by omega), b2 _ (by omega) (by omega), un _ (by omega), l3 q hq]; exact (ib_ q hq).1 qn
        · rw [u2_ne _ _ _ (by omega), u2_ne _ _ _ (by omega), b2 _ (by omega) (by omega), un2 _ (by omega)]; exact (ib_ q hq).2
        · rw [u2_at, un _ (by omega), l4]
        · rw [u2_no _ _ _ (by omega), u2_no _ _ _ (by omega), b2 106 (by omega) (by omega), un2 _ (by omega)]; exact ic2
        · rw [u2_no _ _ _ (by omega), u2_no _ _ _ (by omega), b2 106 (by omega) (by omega), un2 _ (by omega)]; exact ic3
        · rw [u2_no _ _ _ (by omega), u2_no _ _ _ (by omega), b2 106 (by omega) (by omega), un _ (by omega), l5]; exact ic4
        · rw [u2_no _ _ _ (by omega), u2_no _ _ _ (by omega), b2 106 (by omega) (by omega), un _ (by omega), w4]; exact ic5
        · rw [u2_no _ _ _ (by omega), u2_at, un _ (by omega), l6]
      · rw [u2_ne _ _ _ (by omega), u2_ne _ _ _ (by omega), b2 a (by omega) (by omega)]
      · rw [u2_ne _ _ _ (by omega), u2_ne _ _ _ (by omega), b1, zi]
      · rw [u2_ne _ _ _ (by omega), u2_ne _ _ _ (by omega), up_ne _ _ (by omega), m4]
  · rw [df nz]
    show bI (some (vi 0, h)) _ = _
    rw [bI_s, q_117_11]; rfl
end
