/-! fjord, on both sides -/
theorem sr_i {h1 h2 : HP} {a k v : Nat} (hh : sR h1 a k v = sR h2 a k v) : h_kd h2 = h_kd h1 ∧ h_ln h2 = h_ln h1 ∧ h_sz h2 = h_sz h1 ∧ h_sl h2 = h_sl h1 ∧ h_mi h2 = h_mi h1 ∧ h_ml h2 = h_ml h1 ∧ ∀ b, b ≠ a → h_mr h2 b = h_mr h1 b := by
  have e1 : h_kd (sR h2 a k v) = h_kd (sR h1 a k v) := by rw [hh]
  have e2 : h_ln (sR h2 a k v) = h_ln (sR h1 a k v) := by rw [hh]
  have e3 : h_sz (sR h2 a k v) = h_sz (sR h1 a k v) := by rw [hh]
  have e4 : h_sl (sR h2 a k v) = h_sl (sR h1 a k v) := by rw [hh]
  have e5 : h_mi (sR h2 a k v) = h_mi (sR h1 a k v) := by rw [hh]
  have e6 : h_ml (sR h2 a k v) = h_ml (sR h1 a k v) := by rw [hh]
  refine ⟨e1, e2, e3, e4, e5, e6, fun b hb => ?_⟩
  rw [← mrR_ne h2 k v hb, ← mrR_ne h1 k v hb, hh]
theorem l_183 {X : HP} {M : MM} (w : RSk X) (d : Nat) : ∀ (k i : Nat) (S : Nat → Int), 144 - i = k → i ≤ 144 → (∀ j, j < i → S j = 0) → ∃ S', run (d + 1) md_183 30 [vr 145, vi (i : Int)] [] (sM X (va_up M 172 S)) = run (d + 1) md_183 30 [vr 145, vi ((144 : Nat) : Int)] [] (sM X (va_up M 172 S')) ∧ ∀ j, j < 144 → S' j = 0
  | 0, i, S, h1, h2, e => by
    have : i = 144 := by omega
    subst this
    exact ⟨S, rfl, e⟩
  | k + 1, i, S, h1, h2, e => by
    obtain ⟨S', e1, e2⟩ := l_183 (M := M) w d k (i + 1) (va_up S i 0) (by omega) (by omega) (fun j hj => by
      by_cases z : j = i
      · rw [z, up_eq]
      · rw [up_ne _ _ z]; exact e j (by omega))
    refine ⟨S', ?_, e2⟩
    rw [q_183_30 (w := w.m _), df (show ¬ 144 ≤ (i : Int) by omega), dt (show 0 ≤ (i : Int) by omega), dt (show (i : Int) < 144 by omega), Int.toNat_natCast, ia (by omega) (by omega), sI_sM, up2_row]
    exact e1
/-- the law's own cells are as they were -/
def Lw1 (h h1 : HP) : Prop := h_kd h1 40 = h_kd h 40 ∧ h_ln h1 40 = h_ln h 40 ∧ h_mi h1 40 = h_mi h 40 ∧ h_kd h1 145 = h_kd h 145
def Pb (h : HP) (kc kr : Nat) (ac ar : List AV) (P : HP → Prop) : Prop := ∃ v h1 h2, ev 199 kc (vr 100 :: ac) h = some (vi v, h1) ∧ Lw1 h h1 ∧ ev 199 kr (vr 145 :: ar) h1 = some (vi v, h2) ∧ P h2
section
variable {h : HP} {t : Nat} {E : EE} {B : Int} {L : Nat} {xs : Nat → Int}
theorem p_fjord (i : Inv h t E B L xs) : Pb h 111 183 [] [] (Nx h B L xs) := by
  have i' := i
  obtain ⟨k, fo0, ⟨tp1, ⟨tp2, tp3⟩, tp4⟩, dd, ms, ss, lw⟩ := i'
  have z := lw.2.2.2.2.2
  obtain ⟨n, hn⟩ : ∃ n : Nat, h_mi h 145 1 = (n : Int) := ⟨(h_mi h 145 1).toNat, by omega⟩
  rw [hn] at tp1 tp3 tp4
  have x : ∀ l, l < 4 → TX (h_mi h 146) n l := fun l hl => ⟨fun j hj => by have := (tp4 j (by omega)).2; omega, by omega, hl⟩
  have cb : CB h (h_mi h 146) n := ⟨k.cs, k.st, z, tp1, fun j hj => (tp4 j (by omega)).1⟩
  have rb0 : RB h (h_mi h 146) n := ⟨k.rs, hn, rfl⟩
  have lt := k.fj.lt
  have fz := fo0.2.1
  -- the reference's own stands behind the class's call
  have rbz : ∀ hz : HP, (∀ a, a < h_sz h → 145 ≤ a → h_kd hz a = h_kd h a ∧ h_ln hz a = h_ln h a ∧ h_mr hz a = h_mr h a ∧ h_mi hz a = h_mi h a) → RB (sI hz 145 0 0) (h_mi h 146) n := fun hz g => by
    refine ⟨?_, by rw [miI_eq, up_ne _ _ (by omega), (g 145 (by omega) (by omega)).2.2.2]; exact hn, by rw [miI_ne _ _ _ (by omega), (g 146 (by omega) (by omega)).2.2.2]⟩
    show RSk hz
    refine ⟨fun q hq => ?_, fun q hq => ?_⟩
    · have all : RSk_t.all (fun q => decide (145 ≤ q.1 ∧ q.1 < 182)) = true := by decide +kernel
      have b := of_decide_eq_true (List.all_eq_true.mp all q hq)
      obtain ⟨a1, a2, _⟩ := g q.1 (by omega) (by omega)
      rw [a1, a2]; exact k.rs.1 q hq
    · have all : RSk_r.all (fun q => decide (145 ≤ q.1 ∧ q.1 < 182)) = true := by decide +kernel
      have b := of_decide_eq_true (List.all_eq_true.mp all q hq)
      rw [(g q.1 (by omega) (by omega)).2.2.1]; exact k.rs.2 q hq
  rcases rd_all cb rb0 x (D := 196) (by omega) 193 with ⟨q, h1, k0, q0, ec, wb, w1, st1, ⟨z1, z2⟩, _⟩ | ⟨h1, k0, p', e', ec, wb, ⟨z1, z2⟩, _, _, _, X⟩
  · -- a fault
    have ec' : ev 198 63 [vr 103] h = some (vi q, sR h1 103 3 (h_sz h)) := ec
    have wr : CSk (sR h1 103 3 (h_sz h)) := w1.sr (by omega)
    generalize hF : sI (sR h1 103 3 (h_sz h)) 101 1 0 = F
    have eF : ev 199 111 [vr 100] h = some (vi q, F) := by
      show ev (198 + 1) 111 [vr 100] h = _
      rw [v_111, q_111_0 (w := k.cs), ec', bI_s, q_111_7 (w := wr), v_87, q_87_0 (w := wr), bV_s, hF]
      have wF : CSk F := by rw [← hF]; exact wr
      rw [q_111_23 (w := wF), dt q0]
      exact q_111_46 ..
    have Fmi : ∀ a, a ≠ 101 → h_mi F a = h_mi h1 a := fun a ha => by rw [← hF, miI_ne _ _ _ ha]; rfl
    have Fmr : ∀ a, a ≠ 103 → h_mr F a = h_mr h1 a := fun a ha => by rw [← hF]; exact mrR_ne _ _ _ ha
    have Fk : h_kd F = h_kd h1 ∧ h_ln F = h_ln h1 ∧ h_sz F = h_sz h1 ∧ h_sl F = h_sl h1 := by rw [← hF]; exact ⟨rfl, rfl, rfl, rfl⟩
    have F1 : h_mi F 101 1 = 0 := by rw [← hF, miI_eq, up_eq]
    have rb1 := rbz F (fun a a1 a2 => by
      obtain ⟨⟨b1, b2⟩, b3, b4, b5⟩ := wb.2 a a1
      exact ⟨by rw [Fk.1]; exact b1, by rw [Fk.2.1]; exact b2, by rw [Fmr a (by omega)]; exact b3 (by omega), by rw [Fmi a (by omega)]; exact b5 (by omega) (by omega) (by omega)⟩)
    rcases rd_all cb rb1 x (D := 196) (by omega) 193 with ⟨q', h1', k2, q0', ec2, _, _, _, _, er, rd, m9⟩ | ⟨h1', k2, p', e', ec2, _⟩
    · rw [ec] at ec2
      have qq : q = q' := by injection ec2 with a; injection a with a; injection a
      subst qq
      have er' : ev 198 179 [vr 145] (sI F 145 0 0) = some (vi 0, k2) := er
      have wF : RSk F := rb1.1
      have w2 : RSk k2 := rd.rs (rb1.1)
      obtain ⟨⟨a1, a2, a3, a4, a5⟩, a6, a7, a8, a9⟩ := rd
      have K : ∀ a, a < 145 ∨ a = 146 ∨ 161 < a → a ≠ 101 → h_mi k2 a = h_mi h1 a := fun a ha hb => by rw [a7 a ha, miI_ne _ _ _ (by omega), miI_ne _ _ _ (by omega)]; exact Fmi a hb
      have k1e : h_kd k2 = h_kd h1 := a1.trans Fk.1
      have l1e : h_ln k2 = h_ln h1 := a2.trans Fk.2.1
      have s1e : h_sz k2 = h_sz h1 := a3.trans Fk.2.2.1
      have mre : ∀ a, a ≠ 103 → h_mr k2 a = h_mr h1 a := fun a ha => by rw [a5]; exact Fmr a ha
      refine ⟨q, F, k2, eF, ⟨by rw [Fk.1]; exact (wb.2 40 (by omega)).1.1, by rw [Fk.2.1]; exact (wb.2 40 (by omega)).1.2, by rw [Fmi 40 (by omega)]; exact (wb.2 40 (by omega)).2.2.2 (by omega) (by omega) (by omega), by rw [Fk.1]; exact (wb.2 145 (by omega)).1.1⟩, ?_, ⟨t, E, Inv.up (B := B) ?_ (by omega)⟩, by rw [s1e]; omega, by rw [show h_sl k2 = h_sl h1 from a4.trans Fk.2.2.2]; omega⟩
      · show ev (198 + 1) 183 [vr 145] F = _
        rw [v_183, q_183_0 (w := wF), er', bI_s, q_183_9 (w := w2), m9]
        rfl
      · refine i.gz w2 ?_ ?_ ?_ (fun a ha => ?_) ?_ (fun p hp => ?_) ?_ ?_ ?_
        · have cF : CSk F := by rw [← hF]; exact wr
          refine ⟨fun q hq => by rw [a1, a2]; exact cF.1 q hq, fun q hq => by rw [a5]; exact cF.2 q hq⟩
        · intro b b1 b2
          obtain ⟨s1, s2, s3, s4, s5⟩ := st1 b b1 b2
          exact ⟨by rw [k1e]; exact s1, by rw [l1e]; exact s2, fun j => by rw [K b (by omega) (by omega)]; exact s3 j, by rw [a6 b (by omega) (by omega), ← hF]; exact s4, fun j => by rw [mre b (by omega)]; exact s5 j⟩
        · refine ⟨by have := wb.1; omega, fun a ha => ?_⟩
          obtain ⟨⟨b1, b2⟩, b3, b4, b5⟩ := wb.2 a ha
          exact ⟨by rw [k1e]; exact b1, by rw [l1e]; exact b2, fun x1 x2 x3 => by rw [mre a x2]; exact b3 x1, fun u => by rw [K a (by omega) (by omega)]; exact b5 (by omega) (by omega) (by omega)⟩
        · obtain ⟨⟨b1, b2⟩, b3, b4, b5⟩ := wb.2 a (by omega)
          rw [K a (by omega) (by omega)]; exact b5 (by omega) (by omega) (by omega)
        · rw [mre 106 (by omega), (wb.2 106 (by omega)).2.1 (by omega)]
        · have e1 : AP p (h_mi h) (h_mi (sI (sI F 145 0 0) 145 1 0)) := AP.e (fun a y1 y2 => by rw [miI_ne _ _ _ (by omega), miI_ne _ _ _ (by omega), Fmi a (by omega)]; exact (wb.2 a (by omega)).2.2.2 (by omega) (by omega) (by omega))
          exact e1.tr (Rd.ap ⟨⟨a1, a2, a3, a4, a5⟩, a6, a7, a8, a9⟩ hp)
        · rw [a7 101 (by omega), miI_ne _ _ _ (by omega), miI_ne _ _ _ (by omega)]; exact F1
        · rw [a8 1 (by omega), miI_eq, up_eq]
        · rw [a8 44 (by omega), miI_eq, up_ne _ _ (by omega), miI_eq, up_ne _ _ (by omega), Fmi 145 (by omega)]
          rw [(wb.2 145 (by omega)).2.2.2 (by omega) (by omega) (by omega)]
    · rw [ec] at ec2
      have qq : q = 0 := by injection ec2 with a; injection a with a; injection a
      exact absurd qq q0
  · -- a fjord
    have ec' : ev 198 63 [vr 103] h = some (vi 0, sR h1 103 3 (h_sz h)) := ec
    have w1 : CSk h1 := X.1.1
    have foX := X.2.2.choose_spec.choose_spec.choose_spec.1.1.1
    have wr : CSk (sR h1 103 3 (h_sz h)) := w1.sr (by omega)
    have j1 : Fj (h_sz h) (sR h1 103 3 (h_sz h)) := by
      obtain ⟨b1, b2, b3, b4, b5⟩ := foX.1
      have k6 : h_kd h1 103 = 5 := (w1.1 _ (List.mem_of_getElem? (i := 3) rfl)).1
      refine ⟨b1, b2, b3, fun j hj => by rw [mrR_ne _ _ _ (by omega)]; exact b4 j hj, fun j hj => ?_⟩
      obtain ⟨u1, u2, u3⟩ := b5 j hj
      have nn : h_mr h1 (h_sz h) (j + 15) ≠ 103 := fun y => by rw [y, k6] at u1; omega
      rw [mrR_ne _ _ _ (show h_sz h ≠ 103 by omega), mrR_ne _ _ _ nn]
      exact ⟨u1, u2, u3⟩
    generalize hF : sI (sR h1 103 3 (h_sz h)) 101 1 0 = F
    have wF : CSk F := by rw [← hF]; exact wr
    have jF : Fj (h_sz h) F := by rw [← hF]; exact j1
    obtain ⟨N, eN, n0, n6, n7, n8⟩ := c_37 wF jF z 197
    have m3 : h_mr (sR h1 103 3 (h_sz h)) 103 3 = h_sz h := by rw [mrR_eq, up_eq]
    generalize hZ : sI (sI (sM (sR F 106 4 (h_sz h)) N) 130 3 0) 130 4 0 = Z
    have wZ0 : CSk (sM (sR F 106 4 (h_sz h)) N) := (wF.sr (x := 106) (j := 4) (v := h_sz h) (by omega)).m _
    have wZ : CSk Z := by rw [← hZ]; exact wZ0
    have eZ : ev 199 111 [vr 100] h = some (vi 0, Z) := by
      show ev (198 + 1) 111 [vr 100] h = _
      rw [v_111, q_111_0 (w := k.cs), ec', bI_s, q_111_7 (w := wr), v_87, q_87_0 (w := wr), bV_s, hF, m3, q_111_23 (w := wF), df (show ¬ (0 : Int) ≠ 0 from fun u => u rfl), df (show ¬ h_sz h = 0 by omega), eN]
      show run (198 + 1) md_111 39 [vr 100, vi 0, vr (h_sz h)] [] (sM (sR F 106 4 (h_sz h)) N) = _
      rw [q_111_39 (w := wZ0), v_12, q_12_0 (w := wZ0), bV_s, hZ]
      exact q_111_46 ..
    have Fmi : ∀ a, a ≠ 101 → h_mi F a = h_mi h1 a := fun a ha => by rw [← hF, miI_ne _ _ _ ha]; rfl
    have Fmr : ∀ a, a ≠ 103 → h_mr F a = h_mr h1 a := fun a ha => by rw [← hF]; exact mrR_ne _ _ _ ha
    have Zmi : ∀ a, a ≠ 130 → h_mi Z a = N a := fun a ha => by rw [← hZ, miI_ne _ _ _ ha, miI_ne _ _ _ ha]; rfl
    have Zmr : ∀ a, a ≠ 103 → a ≠ 106 → h_mr Z a = h_mr h1 a := fun a ha hb => by
      rw [← hZ]
      show h_mr (sR F 106 4 (h_sz h)) a = _
      rw [mrR_ne _ _ _ hb]; exact Fmr a ha
    have Zk : h_kd Z = h_kd h1 ∧ h_ln Z = h_ln h1 ∧ h_sz Z = h_sz h1 ∧ h_sl Z = h_sl h1 ∧ h_ml Z = h_ml h1 := by rw [← hZ, ← hF]; exact ⟨rfl, rfl, rfl, rfl, rfl⟩
    have rb1 := rbz Z (fun a a1 a2 => by
      obtain ⟨⟨b1, b2⟩, b3, b4, b5⟩ := wb.2 a a1
      exact ⟨by rw [Zk.1]; exact b1, by rw [Zk.2.1]; exact b2, by rw [Zmr a (by omega) (by omega)]; exact b3 (by omega), by rw [Zmi a (by omega), n0 a (by omega) (by omega) (by omega) (by omega) (by omega), Fmi a (by omega)]; exact b5 (by omega) (by omega) (by omega)⟩)
    rcases rd_all cb rb1 x (D := 196) (by omega) 193 with ⟨q', h1', k2, q0', ec2, _⟩ | ⟨h1', k5, p5, e5, ec2, wb5, _, er, rd, pn, X5⟩
    · rw [ec] at ec2
      have qq : 0 = q' := by injection ec2 with a; injection a with a; injection a
      exact absurd qq.symm q0'
    · rw [ec] at ec2
      have hh : sR h1 103 3 (h_sz h) = sR h1' 103 3 (h_sz h) := by injection ec2 with a; injection a
      have er' : ev 198 179 [vr 145] (sI Z 145 0 0) = some (vi 1, k5) := er
      have w5 : RSk k5 := X5.2.1.1
      have lkX := X5.2.2.choose_spec.choose_spec.choose_spec
      obtain ⟨c5, m5, nm5, yy5, ⟨_, _, c53⟩, _⟩ := X5.2.2
      obtain ⟨_, _, fb5, lk5, _⟩ := yy5
      obtain ⟨N1, e1, y1⟩ := m_181 197 1 0 k5 w5 (by omega) (by omega) (by omega) (fun l hl => by
        obtain ⟨_, _, _, l4, l5, l6⟩ := lk5 l hl
        rw [show 4 * 1 + l = 4 + l by omega]
        omega)
      have hn1000 := (x 0 (by omega)).2.1
      have sl30 : sI (sM k5 N1) 145 44 0 = sM k5 (va_up (up2 N1 145 44 0) 172 (up2 N1 145 44 0 172)) := by rw [sI_sM, up_self]
      obtain ⟨S0, e2, s0⟩ := l_183 (X := k5) (M := up2 N1 145 44 0) w5 198 144 0 (up2 N1 145 44 0 172) rfl (by omega) (fun j hj => by omega)
      generalize hM2 : va_up (up2 N1 145 44 0) 172 S0 = M2 at e2
      have M2n : ∀ a, a ≠ 172 → a ≠ 145 → M2 a = N1 a := fun a b1 b2 => by rw [← hM2, up_ne _ _ b1, u2_ne _ _ _ b2]
      have fbN : FB N1 0 := y1.fb fb5
      have M7 : M2 147 = N1 147 := M2n 147 (by omega) (by omega)
      have e3 := m_184 198 (sM k5 M2) (w5.m _) (by rw [mi_sM, M7]; exact fbN.2.2.1.1) (by rw [mi_sM, M7]; exact fbN.2.2.1.2)
      rw [mi_sM, sM_sM] at e3
      have M72 : M2 172 = S0 := by rw [← hM2, up_eq]
      rw [M72] at e3
      generalize hQ : va_up M2 172 (flS M2 S0) = Q at e3
      have Qn : ∀ a, a ≠ 172 → Q a = M2 a := fun a ha => by rw [← hQ, up_ne _ _ ha]
      have ref : ev 199 183 [vr 145] Z = some (vi 0, sM k5 Q) := by
        show ev (198 + 1) 183 [vr 145] Z = _
        have e1' : ev 198 181 [vr 145, vi 1, vi 0] k5 = some (vr 0, sM k5 N1) := e1
        have e2' : run (198 + 1) md_183 30 [vr 145, vi 0] [] (sM k5 (va_up (up2 N1 145 44 0) 172 (up2 N1 145 44 0 172))) = run (198 + 1) md_183 30 [vr 145, vi ((144 : Nat) : Int)] [] (sM k5 M2) := e2
        rw [v_183, q_183_0 (h := Z) (w := rb1.1), er', bI_s, q_183_9 (w := w5), e1', dt (show (1 : Int) ≠ 0 by decide)]
        show run (198 + 1) md_183 23 [vr 145, vu] [] (sM k5 N1) = _
        rw [q_183_23 (w := w5.m _), sl30, e2', q_183_30 (w := w5.m _), dt (show 144 ≤ ((144 : Nat) : Int) by omega), e3]
        exact q_183_54 ..
      obtain ⟨⟨a1, a2, a3, a4, a5⟩, a6, a7, a8, a9⟩ := rd
      have g1 : h_kd h1' = h_kd h1 ∧ h_ln h1' = h_ln h1 ∧ h_sz h1' = h_sz h1 ∧ h_sl h1' = h_sl h1 ∧ h_mi h1' = h_mi h1 ∧ h_ml h1' = h_ml h1 ∧ ∀ a, a ≠ 103 → h_mr h1' a = h_mr h1 a := by
        exact sr_i hh
      have ly := y1.1
      -- numbers of the end
      have Qc : ∀ a, a < 145 ∨ 180 < a → h_mi (sM k5 Q) a = h_mi Z a := fun a ha => by
        rw [mi_sM, Qn a (by omega), M2n a (by omega) (by omega), ly a (by omega), a7 a (by omega), miI_ne _ _ _ (by omega), miI_ne _ _ _ (by omega)]
      refine ⟨0, Z, sM k5 Q, eZ, ⟨by rw [Zk.1]; exact (wb.2 40 (by omega)).1.1, by rw [Zk.2.1]; exact (wb.2 40 (by omega)).1.2, by rw [Zmi 40 (by omega), n0 40 (by omega) (by omega) (by omega) (by omega) (by omega), Fmi 40 (by omega)]; exact (wb.2 40 (by omega)).2.2.2 (by omega) (by omega) (by omega), by rw [Zk.1]; exact (wb.2 145 (by omega)).1.1⟩, ref, ⟨h_sz h, _, Inv.up (B := B) (i.ok (g := h1') (k5 := k5) (hf := sM k5 Q) (N := N1) (S0 := S0) wb5 X5 (by omega) (w5.m _) ?_ ?_ ?_ ?_ ?_ (fun a b1 b2 => ?_) ?_ (fun a b1 b2 b3 b4 b5 b6 => ?_) (fun a ha => ?_) (fun p hp => ?_) y1 (fun a b1 b2 => ?_) (fun j b1 b2 => ?_) (fun c hc => ⟨?_, ?_⟩) (fun p hp => ⟨?_, ?_⟩) ⟨?_, ?_⟩ ?_ ?_ ?_ ?_ s0) (by omega)⟩, ?_, ?_⟩
      · refine ⟨fun q hq => ?_, fun q hq => ?_⟩
        · show h_kd k5 q.1 = _ ∧ h_ln k5 q.1 = _
          rw [a1, a2]; exact wZ.1 q hq
        · show h_mr k5 q.1 q.2.1 = _
          rw [a5]; exact wZ.2 q hq
      · intro b b1 b2
        obtain ⟨s1, s2, s3, s4, s5⟩ := X.1.2.1 b b1 b2
        refine ⟨by show h_kd k5 b = _; rw [a1]; show h_kd Z b = _; rw [Zk.1]; exact s1, by show h_ln k5 b = _; rw [a2]; show h_ln Z b = _; rw [Zk.2.1]; exact s2, fun j => ?_, ?_, fun j => ?_⟩
        · rw [Qc b (by omega), Zmi b (by omega), n0 b (by omega) (by omega) (by omega) (by omega) (by omega), Fmi b (by omega)]; exact s3 j
        · show h_ml k5 b 0 = _
          rw [a6 b (by omega) (by omega)]
          show h_ml Z b 0 = _
          rw [Zk.2.2.2.2]; exact s4
        · show h_mr k5 b j = _
          rw [a5]
          show h_mr Z b j = _
          rw [Zmr b (by omega) (by omega)]; exact s5 j
      · rw [g1.1, ← Zk.1]; exact a1
      · rw [g1.2.1, ← Zk.2.1]; exact a2
      · rw [g1.2.2.1, ← Zk.2.2.1]; exact a3
      · show h_mr k5 a = _
        rw [a5]
        show h_mr Z a = _
        rw [Zmr a b1 b2, g1.2.2.2.2.2.2 a b1]
      · show h_mr k5 106 4 = _
        rw [a5, ← hZ]
        show h_mr (sR F 106 4 (h_sz h)) 106 4 = _
        rw [mrR_eq, up_eq]
      · rw [Qc a b1, Zmi a b5, n0 a b4 (by omega) (by omega) (by omega) (by omega), Fmi a b2, g1.2.2.2.2.1]
      · rw [mi_sM, Qn a (by omega), M2n a (by omega) (by omega), ly a (by omega), a7 a (by omega), miI_ne _ _ _ (by omega), miI_ne _ _ _ (by omega), Zmi a (by omega), n0 a (by omega) (by omega) (by omega) (by omega) (by omega), Fmi a (by omega)]
        exact (wb.2 a (by omega)).2.2.2 (by omega) (by omega) (by omega)
      · have e1 : AP p (h_mi h) (h_mi (sI (sI Z 145 0 0) 145 1 0)) := AP.e (fun a b1 b2 => by
          rw [miI_ne _ _ _ (by omega), miI_ne _ _ _ (by omega), Zmi a (by omega), n0 a (by omega) (by omega) (by omega) (by omega) (by omega), Fmi a (by omega)]
          exact (wb.2 a (by omega)).2.2.2 (by omega) (by omega) (by omega))
        exact e1.tr (Rd.ap ⟨⟨a1, a2, a3, a4, a5⟩, a6, a7, a8, a9⟩ (by omega))
      · rw [mi_sM, Qn a (by omega), M2n a (by omega) (by omega)]
      · rw [Qc 106 (by omega), Zmi 106 (by omega)]; exact n6 j b1 b2
      · rw [Qc 126 (by omega), Zmi 126 (by omega)]; exact (n7 c hc).1
      · rw [Qc 127 (by omega), Zmi 127 (by omega)]; exact (n7 c hc).2
      · rw [Qc 128 (by omega), Zmi 128 (by omega), (n8 p hp).1, Fmi _ (by omega), g1.2.2.2.2.1]
      · rw [Qc 129 (by omega), Zmi 129 (by omega)]; exact (n8 p hp).2
      · rw [Qc 130 (by omega), ← hZ, miI_eq, up_ne _ _ (by omega), miI_eq, up_eq]
      · rw [Qc 130 (by omega), ← hZ, miI_eq, up_eq]
      · rw [Qc 101 (by omega), Zmi 101 (by omega), n0 101 (by omega) (by omega) (by omega) (by omega) (by omega), ← hF, miI_eq, up_eq]
      · rw [mi_sM, Qn 145 (by omega), ← hM2, up_ne _ _ (by omega), u2_no _ _ _ (by omega), ly 145 (by omega), a8 1 (by omega), miI_eq, up_eq]
      · rw [mi_sM, Qn 145 (by omega), ← hM2, up_ne _ _ (by omega), u2_at]
      · rw [mi_sM, ← hQ, up_eq]
        funext j
        rw [flS_at (by rw [M7]; exact fbN.2.2.1.1), flS_at fbN.2.2.1.1, M7, M2n 153 (by omega) (by omega)]
      · show h_sz k5 ≤ _
        rw [a3]
        show h_sz Z ≤ _
        rw [Zk.2.2.1]; omega
      · show h_sl k5 ≤ _
        rw [a4]
        show h_sl Z ≤ _
        rw [Zk.2.2.2.1]; omega
end
