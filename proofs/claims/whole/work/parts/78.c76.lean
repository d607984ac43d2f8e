/-! a new fjord, on both sides -/
theorem dfl_al (l : Nat) (hl : l < 4) : AlE l (dfl l) := by
  intro f g h
  unfold dfl
  have : l = 0 ∨ l = 1 ∨ l = 2 ∨ l = 3 := by omega
  rcases this with z | z | z | z <;> subst z
  · rfl
  · rfl
  · exact h 5 (by unfold al; omega)
  · exact h 7 (by unfold al; omega)
theorem dfl_w (l : Nat) (hl : l < 4) : ∃ v : Int, v = ([2, 1, -6, -8] : List Int).getD l 0 ∧ WgL l (fun j => [v].getD j 0) 1 (dfl l) := by
  have : l = 0 ∨ l = 1 ∨ l = 2 ∨ l = 3 := by omega
  rcases this with z | z | z | z <;> subst z
  · exact ⟨2, rfl, WgL.of (cs := [2]) ((CSem.num (l := 0) (v := 2) (by omega) (by omega)).up (m := 1) (by omega) (fun _ _ => rfl)) (by omega) (by show 1 ≤ 1000; omega)⟩
  · exact ⟨1, rfl, WgL.of (cs := [1]) ((CSem.num (l := 1) (v := 1) (by omega) (by omega)).up (m := 1) (by omega) (fun _ _ => rfl)) (by omega) (by show 1 ≤ 1000; omega)⟩
  · exact ⟨-6, rfl, WgL.of (cs := [-6]) ((CSem.fact (l := 2) (k := 5) (by unfold al; omega)).up (m := 1) (by omega) (fun _ _ => rfl)) (by omega) (by show 1 ≤ 1000; omega)⟩
  · exact ⟨-8, rfl, WgL.of (cs := [-8]) ((CSem.fact (l := 3) (k := 7) (by unfold al; omega)).up (m := 1) (by omega) (fun _ _ => rfl)) (by omega) (by show 1 ≤ 1000; omega)⟩
theorem c_18 {h : HP} (d : Nat) (W H : Int) (z : h_sz h = 107 ∨ 182 ≤ h_sz h) : ∃ h1, ev (d + 1) 18 [vr (h_sz h), vi W, vi H] (alo h 2 0 19) = some (vr 0, h1) ∧ Ex h h1 ∧ h_sz h1 = h_sz h + 19 ∧ h_sl h1 = h_sl h + 227 ∧ FjO h1 (h_sz h) ∧ (h_mi h1 (h_sz h) 0 = W ∧ h_mi h1 (h_sz h) 1 = H ∧ ∀ j, 2 ≤ j → h_mi h1 (h_sz h) j = 0) ∧ (∀ i, 1 ≤ i → i ≤ 10 → ∀ j, h_mi h1 (h_sz h + i) j = 0) ∧ ∀ l, l < 4 → LC h1 (h_mr h1 (h_sz h) (l + 15)) l (dfl l) := by
  obtain ⟨h1, g, M, R, e, ⟨⟨n1, n2, n3⟩, f2, f3, f4, f5⟩, a1, a2, ⟨a3, a4, a5⟩, a6, a7, a8, a9, a10⟩ := c_18r (h := h) d W H (by omega)
  have k0 : h_kd h1 (h_sz h) = 2 := (n3 0 (by omega)).1
  have m0 : h_mi h1 (h_sz h) = M 0 := f3 0 (by omega)
  have lg : ∀ l, l < 4 → h_mr h1 (h_sz h) (l + 15) = h_sz h + (11 + 2 * l) := fun l hl => by rw [f2]; exact (a2 l hl).1
  refine ⟨h1, e, n1, n2, f5, ⟨⟨z, k0, fun i hi => ?_, fun j hj => by rw [f2]; exact a1 j hj, fun l hl => ?_⟩, by omega, fun l hl => by rw [lg l hl]; omega⟩, ⟨by rw [m0]; exact a3, by rw [m0]; exact a4, fun j hj => by rw [m0]; exact a5 j hj⟩, fun i i1 i2 j => by rw [f3 i (by omega)]; exact a6 i i1 i2 j, fun l hl => ?_⟩
  · have := n3 (i + 1) (by omega)
    rw [this.1, this.2]
    have : i = 0 ∨ i = 1 ∨ i = 2 ∨ i = 3 ∨ i = 4 ∨ i = 5 ∨ i = 6 ∨ i = 7 ∨ i = 8 ∨ i = 9 := by omega
    rcases this with q | q | q | q | q | q | q | q | q | q <;> subst q <;> exact ⟨rfl, rfl⟩
  · have b1 := (n3 (11 + 2 * l) (by omega)).1
    have b2 := (n3 (12 + 2 * l) (by omega)).1
    have b3 := f4 (11 + 2 * l) (by omega) (by omega)
    rw [lg l hl, b1, b3, (a2 l hl).2, show h_sz h + (11 + 2 * l) + 1 = h_sz h + (12 + 2 * l) by omega, b2]
    have : l = 0 ∨ l = 1 ∨ l = 2 ∨ l = 3 := by omega
    rcases this with q | q | q | q <;> subst q <;> exact ⟨rfl, rfl, rfl⟩
  · obtain ⟨v, ev, wg⟩ := dfl_w l hl
    have b2 := (n3 (12 + 2 * l) (by omega)).2
    have b4 := f3 (12 + 2 * l) (by omega)
    rw [lg l hl]
    have ea : h_sz h + (11 + 2 * l) + 1 = h_sz h + (12 + 2 * l) := by omega
    refine ⟨by omega, fun j => [v].getD j 0, ?_, fun j hj => ?_⟩
    · rw [ea, b2]
      have : (fjT.getD (12 + 2 * l) (0, 0)).2 = 1 := by
        have : l = 0 ∨ l = 1 ∨ l = 2 ∨ l = 3 := by omega
        rcases this with q | q | q | q <;> subst q <;> rfl
      rw [this]; exact wg
    · rw [ea, b2] at hj
      rw [ea, b4]
      have : l = 0 ∨ l = 1 ∨ l = 2 ∨ l = 3 := by omega
      rcases this with q | q | q | q <;> subst q <;> (have j0 : j = 0 := by (have : j < 1 := hj); omega) <;> subst j0 <;> subst ev
      · exact a7
      · exact a8
      · exact a9
      · exact a10
/-- a plain place, reference -/
def PlD (M : MM) (r : Nat) (N : MM) : Prop := (∀ a, a ≠ 147 → a ≠ 148 → a ≠ 149 → a ≠ 157 → a ≠ 158 → N a = M a) ∧ (∀ j, N 147 j = if j = 5 * r then 2 else if j = 5 * r + 1 then 1 else if 5 * r ≤ j ∧ j < 5 * r + 5 then 0 else M 147 j) ∧ (∀ j, N 148 j = if 60 * r ≤ j ∧ j < 60 * r + 60 then 0 else M 148 j) ∧ (∀ j, N 149 j = if 60 * r ≤ j ∧ j < 60 * r + 60 then 0 else M 149 j) ∧ (∀ j, N 157 j = if 4 * r ≤ j ∧ j < 4 * r + 4 then 1000 * (r : Int) else M 157 j) ∧ ∀ j, N 158 j = if 4 * r ≤ j ∧ j < 4 * r + 4 then 1000 * (r : Int) else M 158 j
theorem l_156a {h : HP} {M : MM} (w : RSk h) {r : Nat} (hr : r ≤ 5) (d : Nat) : ∀ (k i : Nat) (N : MM), 60 - i = k → i ≤ 60 → (∀ a, a ≠ 148 → a ≠ 149 → N a = M a) → (∀ j, N 148 j = if 60 * r ≤ j ∧ j < 60 * r + i then 0 else M 148 j) → (∀ j, N 149 j = if 60 * r ≤ j ∧ j < 60 * r + i then 0 else M 149 j) → ∃ N', run d md_156 57 [vr 145, vi (r : Int), vi (i : Int)] [] (sM h N) = run d md_156 95 [vr 145, vi (r : Int), vi 0] [] (sM h N') ∧ (∀ a, a ≠ 148 → a ≠ 149 → N' a = M a) ∧ (∀ j, N' 148 j = if 60 * r ≤ j ∧ j < 60 * r + 60 then 0 else M 148 j) ∧ ∀ j, N' 149 j = if 60 * r ≤ j ∧ j < 60 * r + 60 then 0 else M 149 j
  | 0, i, N, h1, h2, e0, e1, e2 => by
    have : i = 60 := by omega
    subst this
    refine ⟨N, ?_, e0, e1, e2⟩
    rw [q_156_57 (w := w.m _), dt (by omega)]; rfl
  | k + 1, i, N, h1, h2, e0, e1, e2 => by
    have ix : i_add (i_mul 60 (r : Int)) (i : Int) = ((60 * r + i : Nat) : Int) := by rw [im (by omega) (by omega), ia (by omega) (by omega)]; omega
    have ix1 : i_add (i : Int) 1 = ((i + 1 : Nat) : Int) := by rw [ia (by omega) (by omega)]; omega
    have nx : ∀ (M' N' : Nat → Int), (∀ j, N' j = if 60 * r ≤ j ∧ j < 60 * r + i then 0 else M' j) → ∀ j, va_up N' (60 * r + i) 0 j = if 60 * r ≤ j ∧ j < 60 * r + (i + 1) then 0 else M' j := fun M' N' he j => by
      by_cases z : j = 60 * r + i
      · rw [z, up_eq, if_pos (by omega)]
      · rw [up_ne _ _ z, he]
        by_cases y : 60 * r ≤ j ∧ j < 60 * r + i
        · rw [if_pos y, if_pos (by omega)]
        · rw [if_neg y, if_neg (by omega)]
    obtain ⟨N', e, rest⟩ := l_156a (M := M) w hr d k (i + 1) (up2 (up2 N 148 (60 * r + i) 0) 149 (60 * r + i) 0) (by omega) (by omega) (fun a a1 a2 => by rw [u2_ne _ _ _ a2, u2_ne _ _ _ a1, e0 a a1 a2]) (fun j => by rw [u2_ne _ _ _ (by omega), u2_eq]; exact nx _ _ e1 j) (fun j => by rw [u2_eq, u2_ne _ _ _ (by omega)]; exact nx _ _ e2 j)
    refine ⟨N', ?_, rest⟩
    rw [q_156_57 (w := w.m _), df (show ¬ 60 ≤ (i : Int) by omega), ix, dt (show 0 ≤ ((60 * r + i : Nat) : Int) by omega), dt (show ((60 * r + i : Nat) : Int) < 360 by omega), Int.toNat_natCast, ix1, sI_sM, sI_sM]
    exact e
theorem l_156b {h : HP} {M : MM} (w : RSk h) {r : Nat} (hr : r ≤ 5) (d : Nat) : ∀ (k i : Nat) (N : MM), 4 - i = k → i ≤ 4 → (∀ a, a ≠ 157 → a ≠ 158 → N a = M a) → (∀ j, N 157 j = if 4 * r ≤ j ∧ j < 4 * r + i then 1000 * (r : Int) else M 157 j) → (∀ j, N 158 j = if 4 * r ≤ j ∧ j < 4 * r + i then 1000 * (r : Int) else M 158 j) → ∃ N', run d md_156 95 [vr 145, vi (r : Int), vi (i : Int)] [] (sM h N) = some (vr 0, sM h N') ∧ (∀ a, a ≠ 157 → a ≠ 158 → N' a = M a) ∧ (∀ j, N' 157 j = if 4 * r ≤ j ∧ j < 4 * r + 4 then 1000 * (r : Int) else M 157 j) ∧ ∀ j, N' 158 j = if 4 * r ≤ j ∧ j < 4 * r + 4 then 1000 * (r : Int) else M 158 j
  | 0, i, N, h1, h2, e0, e1, e2 => by
    have : i = 4 := by omega
    subst this
    refine ⟨N, ?_, e0, e1, e2⟩
    rw [q_156_95 (w := w.m _), dt (by omega)]; rfl
  | k + 1, i, N, h1, h2, e0, e1, e2 => by
    have ix : i_add (i_mul 4 (r : Int)) (i : Int) = ((4 * r + i : Nat) : Int) := by rw [im (by omega) (by omega), ia (by omega) (by omega)]; omega
    have ix1 : i_add (i : Int) 1 = ((i + 1 : Nat) : Int) := by rw [ia (by omega) (by omega)]; omega
    have i1k : i_mul 1000 (r : Int) = 1000 * (r : Int) := im (by omega) (by omega)
    have nx : ∀ (M' N' : Nat → Int), (∀ j, N' j = if 4 * r ≤ j ∧ j < 4 * r + i then 1000 * (r : Int) else M' j) → ∀ j, va_up N' (4 * r + i) (1000 * (r : Int)) j = if 4 * r ≤ j ∧ j < 4 * r + (i + 1) then 1000 * (r : Int) else M' j := fun M' N' he j => by
      by_cases z : j = 4 * r + i
      · rw [z, up_eq, if_pos (by omega)]
      · rw [up_ne _ _ z, he]
        by_cases y : 4 * r ≤ j ∧ j < 4 * r + i
        · rw [if_pos y, if_pos (by omega)]
        · rw [if_neg y, if_neg (by omega)]
    obtain ⟨N', e, rest⟩ := l_156b (M := M) w hr d k (i + 1) (up2 (up2 N 157 (4 * r + i) (1000 * (r : Int))) 158 (4 * r + i) (1000 * (r : Int))) (by omega) (by omega) (fun a a1 a2 => by rw [u2_ne _ _ _ a2, u2_ne _ _ _ a1, e0 a a1 a2]) (fun j => by rw [u2_ne _ _ _ (by omega), u2_eq]; exact nx _ _ e1 j) (fun j => by rw [u2_eq, u2_ne _ _ _ (by omega)]; exact nx _ _ e2 j)
    refine ⟨N', ?_, rest⟩
    rw [q_156_95 (w := w.m _), df (show ¬ 4 ≤ (i : Int) by omega), ix, dt (show 0 ≤ ((4 * r + i : Nat) : Int) by omega), dt (show ((4 * r + i : Nat) : Int) < 24 by omega), Int.toNat_natCast, ix1, i1k, sI_sM, sI_sM]
    exact e
theorem m_156 {h : HP} (w : RSk h) {r : Nat} (hr : r ≤ 5) (d : Nat) : ∃ N, ev d 156 [vr 145, vi (r : Int)] h = some (vr 0, sM h N) ∧ PlD (h_mi h) r N := by
  have ix : ∀ j : Nat, j < 5 → i_add (i_mul 5 (r : Int)) (j : Int) = ((5 * r + j : Nat) : Int) := fun j hj => by rw [im (by omega) (by omega), ia (by omega) (by omega)]; omega
  have x0 := ix 0 (by omega); have x1 := ix 1 (by omega); have x2 := ix 2 (by omega); have x3 := ix 3 (by omega); have x4 := ix 4 (by omega)
  have c0 : ((0 : Nat) : Int) = 0 := rfl
  have c1 : ((1 : Nat) : Int) = 1 := rfl
  have c2 : ((2 : Nat) : Int) = 2 := rfl
  have c3 : ((3 : Nat) : Int) = 3 := rfl
  have c4 : ((4 : Nat) : Int) = 4 := rfl
  rw [c0] at x0; rw [c1] at x1; rw [c2] at x2; rw [c3] at x3; rw [c4] at x4
  rw [v_156, q_156_0 (w := w), x0, x1, x2, x3, x4]
  have b : ∀ j : Nat, j < 5 → (decide (0 ≤ ((5 * r + j : Nat) : Int)) && decide (((5 * r + j : Nat) : Int) < 30)) = true := fun j hj => by rw [dt (show 0 ≤ ((5 * r + j : Nat) : Int) by omega), dt (show ((5 * r + j : Nat) : Int) < 30 by omega)]; rfl
  rw [b 0 (by omega), b 1 (by omega), b 2 (by omega), b 3 (by omega), b 4 (by omega), Int.toNat_natCast, Int.toNat_natCast, Int.toNat_natCast, Int.toNat_natCast, Int.toNat_natCast, sI_h h 147 (5 * r + 0) 2, sI_sM, sI_sM, sI_sM, sI_sM]
  simp only [zb]
  generalize hQ : up2 (up2 (up2 (up2 (up2 (h_mi h) 147 (5 * r + 0) 2) 147 (5 * r + 1) 1) 147 (5 * r + 2) 0) 147 (5 * r + 3) 0) 147 (5 * r + 4) 0 = Q
  have qn : ∀ a, a ≠ 147 → Q a = h_mi h a := fun a ha => by rw [← hQ]; simp (disch := omega) only [u2_ne]
  have q7 : ∀ j, Q 147 j = if j = 5 * r then 2 else if j = 5 * r + 1 then 1 else if 5 * r ≤ j ∧ j < 5 * r + 5 then 0 else h_mi h 147 j := fun j => by
    rw [← hQ]
    simp only [u2_eq]
    by_cases z4 : j = 5 * r + 4
    · rw [z4, up_eq, if_neg (by omega), if_neg (by omega), if_pos (by omega)]
    · rw [up_ne _ _ z4]
      by_cases z3 : j = 5 * r + 3
      · rw [z3, up_eq, if_neg (by omega), if_neg (by omega), if_pos (by omega)]
      · rw [up_ne _ _ z3]
        by_cases z2 : j = 5 * r + 2
        · rw [z2, up_eq, if_neg (by omega), if_neg (by omega), if_pos (by omega)]
        · rw [up_ne _ _ z2]
          by_cases z1 : j = 5 * r + 1
          · rw [z1, up_eq, if_neg (by omega), if_pos rfl]
          · rw [up_ne _ _ z1]
            by_cases z0 : j = 5 * r + 0
            · rw [z0, up_eq, if_pos (by omega)]
            · rw [up_ne _ _ z0, if_neg (by omega), if_neg (by omega), if_neg (by omega)]
  obtain ⟨N1, e1, a0, a1, a2⟩ := l_156a (M := Q) w hr d 60 0 Q rfl (by omega) (fun _ _ _ => rfl) (fun j => by rw [if_neg (by omega)]) (fun j => by rw [if_neg (by omega)])
  obtain ⟨N2, e2, b0, b1, b2⟩ := l_156b (M := N1) w hr d 4 0 N1 rfl (by omega) (fun _ _ _ => rfl) (fun j => by rw [if_neg (by omega)]) (fun j => by rw [if_neg (by omega)])
  refine ⟨N2, ?_, fun a h1 h2 h3 h4 h5 => ?_, fun j => ?_, fun j => ?_, fun j => ?_, fun j => ?_, fun j => ?_⟩
  · exact e1.trans e2
  · rw [b0 a h4 h5, a0 a h2 h3, qn a h1]
  · rw [b0 147 (by omega) (by omega), a0 147 (by omega) (by omega), q7]
  · rw [b0 148 (by omega) (by omega), a1, qn 148 (by omega)]
  · rw [b0 149 (by omega) (by omega), a2, qn 149 (by omega)]
  · rw [b1, a0 157 (by omega) (by omega), qn 157 (by omega)]
  · rw [b2, a0 158 (by omega) (by omega), qn 158 (by omega)]
