/-! a fjord is told: what holds then -/
section
variable {h g k5 hf : HP} {t n p' : Nat} {f : Nat → Int} {E : EE} {B : Int} {L : Nat} {xs : Nat → Int} {N : MM} {e' : Nat → (Nat → Int) → Int} {S0 : Nat → Int}
theorem Inv.ok (i : Inv h t E B L xs) (wb : Wb (h_sz h) h g) (X : XX g k5 f n p' (h_sz h) e') (pn : p' ≤ 1000) (w : RSk hf) (cs : CSk hf) (st : Stt hf) (s1 : h_kd hf = h_kd g) (s2 : h_ln hf = h_ln g) (s3 : h_sz hf = h_sz g) (s4 : ∀ a, a ≠ 103 → a ≠ 106 → h_mr hf a = h_mr g a) (s5 : h_mr hf 106 4 = h_sz h) (m1 : ∀ a, a < 145 ∨ 180 < a → a ≠ 101 → a ≠ 103 → a ≠ 106 → a ≠ 130 → a < 126 ∨ 129 < a → h_mi hf a = h_mi g a) (m2 : ∀ a, a = 174 ∨ a = 180 → h_mi hf a = h_mi h a) (ap : ∀ p, 2 ≤ p → AP p (h_mi h) (h_mi k5)) (y : LyD (h_mi k5) 1 0 N) (mN : ∀ a, 147 ≤ a → a ≤ 159 → h_mi hf a = N a) (c6 : ∀ j, 5 ≤ j → j ≤ 10 → h_mi hf 106 j = 0) (c7 : ∀ c, c < 60 → h_mi hf 126 c = 0 ∧ h_mi hf 127 c = -1) (c8 : ∀ p, p < 6 → h_mi hf 128 p = h_mi g (h_sz h + 5) p ∧ h_mi hf 129 p = 0) (d3 : h_mi hf 130 3 = 0 ∧ h_mi hf 130 4 = 0) (t1 : h_mi hf 101 1 = 0) (t2 : h_mi hf 145 1 = 0) (t3 : h_mi hf 145 44 = 0) (eS : h_mi hf 172 = flS N S0) (z0 : ∀ j, j < 144 → S0 j = 0) : Inv hf (h_sz h) (fun r l => if r = 0 then e' l else E r l) B L xs := by
  obtain ⟨cl, rl, c, m, nm, ⟨⟨fo, t2'⟩, fx, fb, lk, _⟩, ⟨_, _, _⟩, _⟩ := X
  obtain ⟨k, fo0, tp, dd, ms, ss, lw⟩ := i
  have z := lw.2.2.2.2.2
  have fz := fo.2.1
  have wz := wb.1
  -- place 1 on the class's fjord
  generalize hG : (fun a => if a < 147 ∨ 159 < a then h_mi hf a else h_mi k5 a : MM) = G
  have G1 : ∀ a, 147 ≤ a → a ≤ 159 → G a = h_mi k5 a := fun a a1 a2 => by rw [← hG]; exact if_neg (by omega)
  have G2 : ∀ a, a < 147 ∨ 159 < a → G a = h_mi hf a := fun a a1 => by rw [← hG]; exact if_pos a1
  have mt : ∀ i, i ≤ 8 → h_mi hf (h_sz h + i) = h_mi g (h_sz h + i) := fun i hi => m1 _ (by omega) (by omega) (by omega) (by omega) (by omega) (by omega)
  have fnG : FN G (h_sz h) 1 := by
    have fx' := (fx.ca (A' := G) (fun i hi => by rw [G2 _ (by omega)]; exact mt i hi)).r (B' := G) (fun a a1 a2 => G1 a a1 (by omega))
    exact fx'
  have fbG : FB G 1 := fb.r (fun a a1 a2 => G1 a a1 (by omega))
  have lnG : LnO G 1 := fun l hl => by
    obtain ⟨_, _, _, l4, l5, l6⟩ := lk l hl
    have x := (lk 0 (by omega)).1
    rw [G1 157 (by omega) (by omega), G1 158 (by omega) (by omega), show 4 * 1 + l = 4 + l by omega]
    omega
  have yG : LyD G 1 0 (h_mi hf) := by
    obtain ⟨y0, y1, y2, y3, y4, y5, y6, y7, y8, y9, y10, y11, y12⟩ := y
    refine ⟨fun a ha => ?_, by rw [mN 147 (by omega) (by omega), y1, G1 147 (by omega) (by omega)], by rw [mN 148 (by omega) (by omega), y2, G1 148 (by omega) (by omega)], by rw [mN 149 (by omega) (by omega), y3, G1 149 (by omega) (by omega)], by rw [mN 151 (by omega) (by omega), y4, G1 151 (by omega) (by omega)], by rw [mN 152 (by omega) (by omega), y5, G1 152 (by omega) (by omega)], by rw [mN 153 (by omega) (by omega), y6, G1 153 (by omega) (by omega)], by rw [mN 154 (by omega) (by omega), y7, G1 154 (by omega) (by omega)], by rw [mN 155 (by omega) (by omega), y8, G1 155 (by omega) (by omega)], by rw [mN 156 (by omega) (by omega), y9, G1 156 (by omega) (by omega)], by rw [mN 159 (by omega) (by omega), y10, G1 159 (by omega) (by omega)], fun j => by rw [mN 157 (by omega) (by omega), y11, G1 157 (by omega) (by omega)], fun j => by rw [mN 158 (by omega) (by omega), y12, G1 158 (by omega) (by omega)]⟩
    by_cases z5 : a = 150
    · subst z5
      rw [G1 150 (by omega) (by omega), mN 150 (by omega) (by omega), y0 150 (by omega)]
    · rw [G2 a (by omega)]
  have fb0 : FB (h_mi hf) 0 := yG.fb fbG
  have fn0 : FN (h_mi hf) (h_sz h) 0 := yG.fn fbG (fun i hi => by rw [G2 _ (by omega)]) fnG
  have ln0 : LnO (h_mi hf) 0 := yG.ln lnG
  have n7 : N 147 = h_mi hf 147 := (mN 147 (by omega) (by omega)).symm
  have n53 : N 153 = h_mi hf 153 := (mN 153 (by omega) (by omega)).symm
  have np : 0 ≤ h_mi hf 147 2 ∧ h_mi hf 147 2 ≤ 6 := fb0.2.2.1
  have eS' : ∀ j, j < 144 → h_mi hf 172 j = if j = 132 then 0 else if 120 ≤ j ∧ (j : Int) < 120 + h_mi hf 147 2 then h_mi hf 153 (j - 120) else 0 := fun j hj => by
    rw [eS, flS_at (by rw [n7]; exact np.1), n7, n53, z0 j hj]
  have pl : ∀ q : Nat, (q : Int) < h_mi hf 147 2 → 0 ≤ h_mi hf 153 q ∧ h_mi hf 153 q ≤ 99 := fun q hq => by
    have := (fb0.2.2.2.2.2.2.1 q hq).2.2
    rw [show 6 * 0 + q = q by omega] at this
    exact this
  have sb : SB (h_mi hf) 0 (h_mi hf 172) := by
    refine ⟨fun c hc => ?_, fun q hq => ?_, ?_, ?_, ?_, fun j j1 j2 => ?_⟩
    · rw [eS' c (by omega), eS' (60 + c) (by omega), if_neg (by omega), if_neg (by omega), if_neg (by omega), if_neg (by omega)]
      exact ⟨by omega, by omega, fun _ => ⟨rfl, rfl⟩⟩
    · rw [eS' (120 + q) (by omega), eS' (126 + q) (by omega), if_neg (by omega), if_neg (show ¬ (126 + q = 132) by omega), if_neg (show ¬ (120 ≤ 126 + q ∧ ((126 + q : Nat) : Int) < 120 + h_mi hf 147 2) by omega)]
      refine ⟨?_, by omega⟩
      by_cases u : 120 ≤ 120 + q ∧ ((120 + q : Nat) : Int) < 120 + h_mi hf 147 2
      · rw [if_pos u, show 120 + q - 120 = q by omega]; exact pl q (by omega)
      · rw [if_neg u]; omega
    · rw [eS' 132 (by omega), if_pos rfl]; omega
    · rw [eS' 133 (by omega), if_neg (by omega), if_neg (by omega)]; omega
    · rw [eS' 134 (by omega), if_neg (by omega), if_neg (by omega)]; omega
    · rw [eS' j (by omega), if_neg (by omega), if_neg (by omega)]
  have mtr : h_mr hf (h_sz h) = h_mr g (h_sz h) := s4 _ (by omega) (by omega)
  have foF : FjO hf (h_sz h) := by
    refine ⟨⟨fo.1.1, by rw [s1]; exact fo.1.2.1, fun i hi => by rw [s1, s2]; exact fo.1.2.2.1 i hi, fun j hj => by rw [mtr]; exact fo.1.2.2.2.1 j hj, fun j hj => ?_⟩, by omega, fun l hl => by rw [mtr, s3]; exact fo.2.2 l hl⟩
    have l0 := (lk j hj).1.1
    rw [mtr, s1, s4 _ (by omega) (by omega)]
    exact fo.1.2.2.2.2 j hj
  have gt : Gt h hf := by
    refine ⟨by omega, fun a ha => ?_⟩
    obtain ⟨⟨b1, b2⟩, b3, b4, b5⟩ := wb.2 a ha
    refine ⟨by rw [s1]; exact b1, by rw [s2]; exact b2, fun x1 x2 x3 => by rw [s4 a x2 x3]; exact b3 x1, fun x => ?_⟩
    by_cases u : a = 174 ∨ a = 180
    · exact m2 a u
    · rw [m1 a (by omega) (by omega) (by omega) (by omega) (by omega) (by omega)]; exact b5 (by omega) (by omega) (by omega)
  refine ⟨?_, foF, ⟨by rw [t1, t2], by rw [t2]; omega, fun j hj => by rw [t2] at hj; omega⟩, ?_, ?_, ?_, ?_⟩
  · have kz := k.z0
    obtain ⟨_, _, _, v8⟩ := wb.2 138 (by omega)
    obtain ⟨_, _, _, v9⟩ := wb.2 139 (by omega)
    refine ⟨⟨w, cs, st, ?_⟩, foF.1, s5, ⟨fb0, sb, fun l hl => ?_⟩, fn0, fun l hl => ?_, ?_⟩
    · rw [m1 138 (by omega) (by omega) (by omega) (by omega) (by omega) (by omega), m1 139 (by omega) (by omega) (by omega) (by omega) (by omega) (by omega), v8 (by omega) (by omega) (by omega), v9 (by omega) (by omega) (by omega)]; exact kz
    · obtain ⟨_, l2, l3, _⟩ := lk l hl
      have l2' : LR G (e' l) 1 l := l2.ag (G1 _ (by omega) (by omega)) (G1 _ (by omega) (by omega)) (G1 _ (by omega) (by omega))
      exact ⟨yG.lr (by omega) hl lnG l2', l3⟩
    · obtain ⟨l1, _⟩ := lk l hl
      have l0 := l1.1
      have lz := fo.2.2 l hl
      rw [mtr]
      show LC hf (h_mr g (h_sz h) (l + 15)) l (e' l)
      exact LC.cg l1 (by rw [s2]) (m1 _ (by omega) (by omega) (by omega) (by omega) (by omega) (by omega))
    · refine ⟨fun c hc => ?_, fun q hq => ⟨fun u => ?_, ?_⟩, ?_, ?_, ?_, ?_, ?_, ?_⟩
      · rw [(c7 c hc).1, (c7 c hc).2, eS' c (by omega), eS' (60 + c) (by omega), if_neg (by omega), if_neg (by omega), if_neg (by omega), if_neg (by omega)]; exact ⟨rfl, rfl⟩
      · rw [(c8 q hq).1, eS' (120 + q) (by omega), if_neg (by omega), if_pos (by omega), show 120 + q - 120 = q by omega, ← mt 5 (by omega)]
        have := (fn0.2.2.1 q u).2.2
        rw [show 6 * 0 + q = q by omega] at this
        exact this
      · rw [(c8 q hq).2, eS' (126 + q) (by omega), if_neg (by omega), if_neg (by omega)]
      · rw [c6 5 (by omega) (by omega), eS' 132 (by omega), if_pos rfl]
      · rw [c6 6 (by omega) (by omega), eS' 133 (by omega), if_neg (by omega), if_neg (by omega)]
      · rw [c6 7 (by omega) (by omega), eS' 134 (by omega), if_neg (by omega), if_neg (by omega)]
      · rw [c6 8 (by omega) (by omega), eS' 135 (by omega), if_neg (by omega), if_neg (by omega)]
      · rw [c6 9 (by omega) (by omega), eS' 136 (by omega), if_neg (by omega), if_neg (by omega)]
      · rw [c6 10 (by omega) (by omega), eS' 137 (by omega), if_neg (by omega), if_neg (by omega)]
  · rw [t3]
    exact ⟨d3.2, by omega, by rw [d3.1]; omega, fun i hi => by omega⟩
  · have yk : ∀ p, 2 ≤ p → AP p (h_mi h) (h_mi hf) := fun p hp => ((ap p hp).tr (y.ap (by omega))).tr (AP.e (fun a a1 a2 => mN a a1 a2))
    exact ms.gt z gt (fun j _ => yk (j + 2) (by omega)) ln0 (fun k j _ _ => if_neg (by omega))
  · refine ⟨⟨?_, ?_, ?_⟩, ?_⟩
    · rw [eS' 135 (by omega), if_neg (by omega), if_neg (by omega)]; unfold i3; omega
    · rw [eS' 136 (by omega), if_neg (by omega), if_neg (by omega)]; unfold i3; omega
    · rw [eS' 137 (by omega), if_neg (by omega), if_neg (by omega)]; unfold i3; omega
    · rw [eS' 134 (by omega), if_neg (by omega), if_neg (by omega)]
      have := k.vm.nt; have := ss.2; omega
  · obtain ⟨w1, w2, w3, w4, w5, w6⟩ := lw
    obtain ⟨⟨b1, b2⟩, b3, b4, b5⟩ := wb.2 40 (by omega)
    obtain ⟨a1, a2, _⟩ := gt.2 40 (by omega)
    obtain ⟨a3, a4, _⟩ := gt.2 181 (by omega)
    exact ⟨by rw [a1]; exact w1, by rw [a2]; exact w2, by rw [m1 40 (by omega) (by omega) (by omega) (by omega) (by omega) (by omega), b5 (by omega) (by omega) (by omega)]; exact w3, by rw [a3]; exact w4, by rw [a4]; exact w5, by omega⟩
end
