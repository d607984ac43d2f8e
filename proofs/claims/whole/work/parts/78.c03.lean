/-! the class: sounds, ranks; ice's questions -/
theorem i_rem_t (x : Int) : i_rem x 10 = (x.bmod 4294967296) - (x.bmod 4294967296).tdiv 10 * 10 ∧ -2147483648 ≤ x.bmod 4294967296 ∧ x.bmod 4294967296 < 2147483648 := by
  have b1 : -2147483648 ≤ x.bmod 4294967296 := by rw [Int.bmod_def]; split <;> omega
  have b2 : x.bmod 4294967296 < 2147483648 := by rw [Int.bmod_def]; split <;> omega
  refine ⟨?_, b1, b2⟩
  unfold i_rem
  rw [Int32.toInt_sub, Int32.toInt_mul, Int32.toInt_div, toI, toI]
  generalize x.bmod 4294967296 = v at b1 b2 ⊢
  have e10 : (10 : Int).bmod 4294967296 = 10 := rfl
  rw [e10]
  show (v - ((v.tdiv 10).bmod 4294967296 * 10).bmod 4294967296).bmod 4294967296 = _
  have key : (0 ≤ v ∧ v.tdiv 10 = v / 10) ∨ (v < 0 ∧ v.tdiv 10 = -((-v) / 10)) := by
    by_cases h : 0 ≤ v
    · exact Or.inl ⟨h, Int.tdiv_eq_ediv_of_nonneg h⟩
    · refine Or.inr ⟨by omega, ?_⟩
      have e := Int.neg_tdiv (a := -v) (b := 10)
      rw [Int.neg_neg, Int.tdiv_eq_ediv_of_nonneg (show 0 ≤ -v by omega)] at e
      exact e
  generalize v.tdiv 10 = q at key ⊢
  rw [bm (x := q) (by omega) (by omega), bm (x := q * 10) (by omega) (by omega), bm (by omega) (by omega)]
theorem i_rem_s (x : Int) : (0 ≤ x.bmod 4294967296 ∧ 0 ≤ i_rem x 10 ∧ i_rem x 10 ≤ 9) ∨ (x.bmod 4294967296 < 0 ∧ -9 ≤ i_rem x 10 ∧ i_rem x 10 ≤ 0) := by
  obtain ⟨e, b1, b2⟩ := i_rem_t x
  rw [e]
  generalize x.bmod 4294967296 = v at b1 b2 ⊢
  by_cases h : 0 ≤ v
  · left
    have := Int.tdiv_eq_ediv_of_nonneg (a := v) (b := 10) h
    rw [this]; omega
  · right
    have e := Int.neg_tdiv (a := -v) (b := 10)
    rw [Int.neg_neg, Int.tdiv_eq_ediv_of_nonneg (show 0 ≤ -v by omega)] at e
    rw [e]; omega
theorem xor_10 (x : Int) : 0 ≤ i_xor x 10 ↔ 0 ≤ x.bmod 4294967296 := by
  have e : x.bmod 4294967296 = (Int32.ofInt x).toInt := (toI x).symm
  rw [e]
  unfold i_xor
  generalize Int32.ofInt x = y
  have e10 : Int32.ofInt 10 = 10 := rfl
  rw [e10]
  have m1 := BitVec.msb_eq_toInt (x := (y ^^^ 10).toBitVec)
  have m2 := BitVec.msb_eq_toInt (x := y.toBitVec)
  rw [Int32.toBitVec_xor, BitVec.msb_xor] at m1
  have m3 : (10 : Int32).toBitVec.msb = false := rfl
  rw [m3, Bool.xor_false, m2] at m1
  have h1 : (y.toBitVec).toInt = y.toInt := rfl
  have h2 : (y.toBitVec ^^^ (10 : Int32).toBitVec).toInt = (y ^^^ 10).toInt := rfl
  rw [h1, h2] at m1
  by_cases z : y.toInt < 0
  · rw [dt z] at m1
    have := of_decide_eq_true m1.symm
    constructor <;> intro <;> omega
  · rw [df z] at m1
    have := of_decide_eq_false m1.symm
    constructor <;> intro <;> omega
theorem c_254 (d : Nat) (x : Int) (h : HP) : ev d 254 [vi x, vi 10] h = some (vi (sm10 x), h) := by
  rw [v_254, q_254_0]
  have s := i_rem_s x
  have r : sm10 x = (i_rem x 10 + 10) % 10 := by
    unfold sm10
    rw [ia (by omega) (by omega), ir (by omega) (by omega) (by omega) (by omega)]
  rw [r, dt (show (10 : Int) ≠ 0 by omega)]
  by_cases z : 0 ≤ x.bmod 4294967296
  · rw [dt ((xor_10 x).mpr z)]
    simp only [zb]; congr 3; omega
  · rw [df (fun y => z ((xor_10 x).mp y))]
    by_cases y : i_rem x 10 = 0
    · rw [dt y, y]; rfl
    · rw [df y, ia (by omega) (by omega)]
      simp only [zb]; congr 3; omega
section
variable {h : HP} {t : Nat} {E : EE}
theorem c_32 (k : Cu h t E) (d : Nat) (c : Int) (c0 : 0 ≤ c) (c1 : c < 60) : ∃ N, ev (d + 2) 32 [vr t, vi c, vi (h_mi h 172 133), vi (h_mi h 172 134), vi (h_mi h 172 c.toNat)] h = some (vi (soV (h_mi h) E c), sM h N) ∧ Ag (CqA t) (h_mi h) N := by
  obtain ⟨N1, e1, g1, f1⟩ := c_34 k (d + 1) c (h_mi h 172 133) (h_mi h 172 134) c0 c1
  have g1' := g1.up CqA_9
  have g3 : Ag (CqA t) (h_mi h) (up2 N1 (t + 9) 5 (h_mi h 172 c.toNat)) := g1'.u2 _ _ (CqA_9 _ rfl)
  obtain ⟨N2, e2, g2⟩ := c_60 k g3 d (l := 2) (by omega) (fun j hj => by
    have hj : j ≤ 5 := by unfold al at hj; omega
    have tb := (k.vm.s (c := c.toNat) (by omega)).1
    have hb := k.vm.hr
    have nb := k.vm.nt
    by_cases j5 : j = 5
    · rw [j5, u2_at]; unfold i3; omega
    · rw [u2_no _ _ _ j5, f1 j (by omega)]; exact fcl_i3 k.vm c0 c1 (by unfold i3; omega) (by unfold i3; omega) j)
  have ev2 : E 0 2 (up2 N1 (t + 9) 5 (h_mi h 172 c.toNat) (t + 9)) = E 0 2 (fso (h_mi h) c (h_mi h 172 133) (h_mi h 172 134) (h_mi h 172 c.toNat)) := (k.vm.2.2 2 (by omega)).2 _ _ (fun j hj => by
    have hj : j ≤ 5 := by unfold al at hj; omega
    unfold fso
    by_cases j5 : j = 5
    · rw [if_pos j5, j5, u2_at]
    · rw [if_neg j5, u2_no _ _ _ j5]; exact f1 j (by omega))
  refine ⟨N2, ?_, g3.tr (g2.up CqA_10)⟩
  rw [v_32, q_32_0 (f := k.fj), e1, bV_s, q_32_7 (f := (k.q g1').fj), isKc (a := h_mr (sM h N1) t 17) (h := sM h N1) (k.fj.2.2.2.2 2 (by omega)).1]
  show bI (ev (d + 1) 60 [vr (h_mr h t (2 + 15)), vr (t + 9), vr (t + 10)] (sM h (up2 N1 (t + 9) 5 (h_mi h 172 c.toNat)))) _ = _
  rw [e2, bI_s, q_32_30, c_254, bI_s, q_32_35, ev2]
  rfl
theorem c_33 (k : Cu h t E) (d : Nat) (l : Int) (l0 : 0 ≤ l) (l1 : l < h_mi h 147 3) : ∃ N, ev (d + 2) 33 [vr t, vi l, vi (h_mi h 172 133), vi (h_mi h 172 134)] h = some (vi (rkV (h_mi h) E l), sM h N) ∧ Ag (CqA t) (h_mi h) N := by
  have l7 := k.vm.l
  rw [v_33, q_33_0 (f := k.fj)]
  simp (disch := omega) only [k.dat (Ag.rf _), dt, df, zb]
  simp only [sI_h, sM_sM, mi_sM]
  generalize hN : up2 (up2 (up2 (up2 (h_mi h) (t + 9) 0 (h_mi h 172 133)) (t + 9) 1 (h_mi h 172 134)) (t + 9) 6 (ndV (h_mi h) l)) (t + 9) 7 (h_mi h 156 l.toNat) = N
  have g1 : Ag (CqA t) (h_mi h) N := by
    rw [← hN]
    exact ((((Ag.rf _).u2 _ _ (CqA_9 _ rfl)).u2 _ _ (CqA_9 _ rfl)).u2 _ _ (CqA_9 _ rfl)).u2 _ _ (CqA_9 _ rfl)
  have c26 := c_26 (k.q g1) (d + 1) (x := l) l0 (by rw [mi_sM, k.rr g1 147 (by omega) (by omega)]; exact l1)
  have ew : weV (h_mi (sM h N)) l = weV (h_mi h) l := by unfold weV; rw [mi_sM, k.rr g1 154 (by omega) (by omega)]
  rw [ew] at c26
  rw [c26, bI_s, q_33_51 (f := (k.q g1).fj), dt (show (0 : Int) ≤ 8 by omega), dt (show (8 : Int) < 9 by omega), isKc (a := h_mr (sM h N) t 18) (h := sM h N) (k.fj.2.2.2.2 3 (by omega)).1]
  have g3 : Ag (CqA t) (h_mi h) (up2 N (t + 9) 8 (weV (h_mi h) l)) := g1.u2 _ _ (CqA_9 _ rfl)
  obtain ⟨N2, e2, g2⟩ := c_60 k g3 d (l := 3) (by omega) (fun j hj => by
    have hj : j = 0 ∨ j = 1 ∨ j = 6 ∨ j = 7 ∨ j = 8 := by unfold al at hj; omega
    have hb := k.vm.hr
    have nb := k.vm.nt
    have lb := k.vm.ld (l := l.toNat) (by omega)
    have n2 := ndV_b k.vm l0 l1
    have wb := weV_b (h_mi h) l
    rw [← hN]
    unfold i3
    rcases hj with rfl | rfl | rfl | rfl | rfl
    · rw [u2_no _ _ _ (by omega), u2_no _ _ _ (by omega), u2_no _ _ _ (by omega), u2_no _ _ _ (by omega), u2_at]; omega
    · rw [u2_no _ _ _ (by omega), u2_no _ _ _ (by omega), u2_no _ _ _ (by omega), u2_at]; omega
    · rw [u2_no _ _ _ (by omega), u2_no _ _ _ (by omega), u2_at]; omega
    · rw [u2_no _ _ _ (by omega), u2_at]; omega
    · rw [u2_at]; omega)
  have ev2 : E 0 3 (up2 N (t + 9) 8 (weV (h_mi h) l) (t + 9)) = rkV (h_mi h) E l := (k.vm.2.2 3 (by omega)).2 _ _ (fun j hj => by
    have hj : j = 0 ∨ j = 1 ∨ j = 6 ∨ j = 7 ∨ j = 8 := by unfold al at hj; omega
    rw [← hN]
    unfold fld
    rcases hj with rfl | rfl | rfl | rfl | rfl
    · rw [u2_no _ _ _ (by omega), u2_no _ _ _ (by omega), u2_no _ _ _ (by omega), u2_no _ _ _ (by omega), u2_at]; rfl
    · rw [u2_no _ _ _ (by omega), u2_no _ _ _ (by omega), u2_no _ _ _ (by omega), u2_at]; rfl
    · rw [u2_no _ _ _ (by omega), u2_no _ _ _ (by omega), u2_at]; rfl
    · rw [u2_no _ _ _ (by omega), u2_at]; rfl
    · rw [u2_at]; rfl)
  refine ⟨N2, ?_, g3.tr (g2.up CqA_10)⟩
  show bI (ev (d + 1) 60 [vr (h_mr h t (3 + 15)), vr (t + 9), vr (t + 10)] (sM h (up2 N (t + 9) 8 (weV (h_mi h) l)))) _ = _
  rw [e2, bI_s, q_33_67, ev2]
theorem c_42 (k : Cu h t E) (d : Nat) {x : Int} (x0 : 0 ≤ x) (x1 : x < 7) : ev d 42 [vr 106, vi x] h = some (vi (bit (h_mi h 172 132) x), h) := by
  have b := k.vm.ov
  rw [v_42, q_42_0 (w := k.cs)]
  simp only [k.dat (Ag.rf _)]
  rw [bitI (by omega) (by omega) x0 x1]
  rcases bit01 (h_mi h 172 132) x with z | z <;> rw [z] <;> rfl
theorem l_50 (k : Cu h t E) (d : Nat) {row : Int} (r0 : 0 ≤ row) (r1 : row < 6) : ∀ (n : Nat) (i a : Int) (v4 : AV), (h_mi h 147 0 - i).toNat = n → 0 ≤ i → i ≤ h_mi h 147 0 → a ≤ 99 → run (d + 1) md_50 5 [vr 106, vi row, vi a, vi i, v4] [] h = some (vi (itr (mnF (fun k => seeG (h_mi h) row k)) n i a), h)
  | 0, i, a, v4, h1, h2, h3, a1 => by
    rw [q_50_5 (w := k.cs) (f := k.fj) (ht := k.ht)]
    simp (disch := omega) only [k.dat (Ag.rf _), dt, df, zb]
    rfl
  | n + 1, i, a, v4, h1, h2, h3, a1 => by
    have cc := k.vm.c
    rw [q_50_5 (w := k.cs) (f := k.fj) (ht := k.ht)]
    simp (disch := omega) only [k.dat (Ag.rf _), dt, df, zb]
    rw [c_141 d i row h (by omega) (by omega) (by omega) (by omega), bI_s, q_50_21 (w := k.cs) (f := k.fj) (ht := k.ht)]
    simp (disch := omega) only [k.dat (Ag.rf _), dt, df, zb, ia]
    show _ = some (vi (itr (mnF (fun k => seeG (h_mi h) row k)) n (i + 1) (mnF (fun k => seeG (h_mi h) row k) i a)), h)
    have e : mnF (fun k => seeG (h_mi h) row k) i a = if h_mi h 148 (10 * row + i).toNat = 1 then a else min a (h_mi h 172 (10 * row + i).toNat) := by
      unfold mnF seeG
      have : ((i.toNat : Nat) : Int) = i := by omega
      simp only [this]
      by_cases z : h_mi h 148 (10 * row + i).toNat = 1
      · rw [if_pos z, if_pos z]; omega
      · rw [if_neg z, if_neg z]
    rw [e]
    by_cases z : h_mi h 148 (10 * row + i).toNat = 1
    · rw [dt z, if_pos z]
      exact l_50 k d r0 r1 n (i + 1) _ _ (by omega) (by omega) (by omega) (by omega)
    · rw [df z, if_neg z]
      exact l_50 k d r0 r1 n (i + 1) _ _ (by omega) (by omega) (by omega) (by omega)
theorem c_50 (k : Cu h t E) (d : Nat) {row : Int} (r0 : 0 ≤ row) (r1 : row < 6) : ev (d + 1) 50 [vr 106, vi row] h = some (vi (tnV (h_mi h) row), h) := by
  have cc := k.vm.c
  rw [v_50, q_50_0, l_50 k d r0 r1 _ 0 99 _ rfl (by omega) (by omega) (by omega), Int.sub_zero]
  rfl
theorem l_51 (k : Cu h t E) (d : Nat) : ∀ (n : Nat) (i a : Int), (60 - i).toNat = n → 0 ≤ i → i ≤ 60 → 0 ≤ a → a ≤ i * 99 → run d md_51 4 [vr 106, vi a, vi i] [] h = some (vi (itr (fun c a => a + h_mi h 172 c.toNat) n i a), h)
  | 0, i, a, h1, h2, h3, a0, a1 => by
    rw [q_51_4 (w := k.cs)]
    simp (disch := omega) only [dt, df, zb]
    rfl
  | n + 1, i, a, h1, h2, h3, a0, a1 => by
    have b := (k.vm.s (c := i.toNat) (by omega)).1
    rw [q_51_4 (w := k.cs)]
    simp (disch := omega) only [k.dat (Ag.rf _), dt, df, zb, ia]
    exact l_51 k d n (i + 1) _ (by omega) (by omega) (by omega) (by omega) (by omega)
theorem c_51 (k : Cu h t E) (d : Nat) : ev d 51 [vr 106] h = some (vi (sm (fun c => h_mi h 172 c.toNat) 60), h) := by
  rw [v_51, q_51_0, l_51 k d _ 0 0 rfl (by omega) (by omega) (by omega) (by omega), Int.sub_zero]
  rfl
theorem c_53 (k : Cu h t E) (d : Nat) (c : Int) (c0 : 0 ≤ c) (c1 : c < 60) : ∃ N, ev (d + 3) 53 [vr 106, vi c] h = some (vi (if h_mi h 148 c.toNat = 1 then -1 else soV (h_mi h) E c), sM h N) ∧ Ag (CqA t) (h_mi h) N := by
  rw [v_53, q_53_0 (w := k.cs) (f := k.fj) (ht := k.ht)]
  simp (disch := omega) only [k.dat (Ag.rf _), dt, df, zb]
  by_cases z : h_mi h 148 c.toNat = 1
  · rw [df (by omega), if_pos z]
    refine ⟨h_mi h, ?_, Ag.rf _⟩
    simp only [zb]
    rw [q_53_39]; rfl
  · obtain ⟨N, e, g⟩ := c_32 k d c c0 c1
    rw [dt z, if_neg z, e]
    refine ⟨N, ?_, g⟩
    simp only [zb, bI_s]
    rw [q_53_39]
theorem l_54 (k : Cu h t E) (d : Nat) {set : Int} (s0 : 0 ≤ set) (s1 : set < 128) : ∀ (n : Nat) (i a : Int), (h_mi h 147 2 - i).toNat = n → 0 ≤ i → i ≤ h_mi h 147 2 → 0 ≤ a → a ≤ i * 99 → run d md_54 4 [vr 106, vi set, vi a, vi i] [] h = some (vi (itr (fun p a => a + if bit set p = 1 then h_mi h 172 (120 + p).toNat else 0) n i a), h)
  | 0, i, a, h1, h2, h3, a0, a1 => by
    rw [q_54_4 (w := k.cs) (f := k.fj) (ht := k.ht)]
    simp (disch := omega) only [k.dat (Ag.rf _), dt, df, zb]
    rfl
  | n + 1, i, a, h1, h2, h3, a0, a1 => by
    have p6 := k.vm.p
    have b := (k.vm.lf (p := i.toNat) (by omega)).1
    rw [show 120 + i.toNat = (120 + i).toNat by omega] at b
    rw [q_54_4 (w := k.cs) (f := k.fj) (ht := k.ht)]
    simp (disch := omega) only [k.dat (Ag.rf _), dt, df, zb, bitI]
    have e : i_mul (bit set i) (h_mi h 172 (120 + i).toNat) = if bit set i = 1 then h_mi h 172 (120 + i).toNat else 0 := by
      rcases bit01 set i with z | z
      · rw [z, if_neg (by omega), im (by omega) (by omega), Int.zero_mul]
      · rw [z, if_pos rfl, im (by omega) (by omega), Int.one_mul]
    rw [e]
    have b2 : 0 ≤ (if bit set i = 1 then h_mi h 172 (120 + i).toNat else 0) ∧ (if bit set i = 1 then h_mi h 172 (120 + i).toNat else 0) ≤ 99 := by split <;> omega
    rw [ia (by omega) (by omega), ia (by omega) (by omega)]
    exact l_54 k d s0 s1 n (i + 1) _ (by omega) (by omega) (by omega) (by omega) (by omega)
theorem c_54 (k : Cu h t E) (d : Nat) {set : Int} (s0 : 0 ≤ set) (s1 : set < 128) : ev d 54 [vr 106, vi set] h = some (vi (mnV (h_mi h) set), h) := by
  have p6 := k.vm.p
  rw [v_54, q_54_0, l_54 k d s0 s1 _ 0 0 rfl (by omega) (by omega) (by omega) (by omega), Int.sub_zero]
  rfl
theorem l_55 (k : Cu h t E) (d : Nat) {set : Int} (s0 : 0 ≤ set) (s1 : set < 128) : ∀ (n : Nat) (i a : Int), (h_mi h 147 2 - i).toNat = n → 0 ≤ i → i ≤ h_mi h 147 2 → 0 ≤ a → a ≤ i * 999 → run d md_55 4 [vr 106, vi set, vi a, vi i] [] h = some (vi (itr (fun p a => a + if bit set p = 1 then h_mi h 172 (126 + p).toNat else 0) n i a), h)
  | 0, i, a, h1, h2, h3, a0, a1 => by
    rw [q_55_4 (w := k.cs) (f := k.fj) (ht := k.ht)]
    simp (disch := omega) only [k.dat (Ag.rf _), dt, df, zb]
    rfl
  | n + 1, i, a, h1, h2, h3, a0, a1 => by
    have p6 := k.vm.p
    have b := (k.vm.lf (p := i.toNat) (by omega)).2
    rw [show 126 + i.toNat = (126 + i).toNat by omega] at b
    rw [q_55_4 (w := k.cs) (f := k.fj) (ht := k.ht)]
    simp (disch := omega) only [k.dat (Ag.rf _), dt, df, zb, bitI]
    have e : i_mul (bit set i) (h_mi h 172 (126 + i).toNat) = if bit set i = 1 then h_mi h 172 (126 + i).toNat else 0 := by
      rcases bit01 set i with z | z
      · rw [z, if_neg (by omega), im (by omega) (by omega), Int.zero_mul]
      · rw [z, if_pos rfl, im (by omega) (by omega), Int.one_mul]
    rw [e]
    have b2 : 0 ≤ (if bit set i = 1 then h_mi h 172 (126 + i).toNat else 0) ∧ (if bit set i = 1 then h_mi h 172 (126 + i).toNat else 0) ≤ 999 := by split <;> omega
    rw [ia (by omega) (by omega), ia (by omega) (by omega)]
    exact l_55 k d s0 s1 n (i + 1) _ (by omega) (by omega) (by omega) (by omega) (by omega)
end
