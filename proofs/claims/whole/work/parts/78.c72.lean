/-! lines are read: laws -/
section
variable {hc hr hA hB : HP} {f : Nat → Int} {n l p t b c : Nat} {e : Nat → (Nat → Int) → Int}
theorem LR.k2 {M N : MM} {x : (Nat → Int) → Int} {l : Nat} (f : LR M x 1 l) (h7 : N 157 (4 + l) = M 157 (4 + l)) (h8 : N 158 (4 + l) = M 158 (4 + l)) (b : 1000 ≤ M 157 (4 + l)) (hc : M 158 (4 + l) ≤ (c : Int)) (g : ∀ j, j < c → N 159 j = M 159 j) : LR N x 1 l := by
  unfold LR at f ⊢
  rw [show 4 * 1 + l = 4 + l by omega] at f ⊢
  rw [h7, h8]
  rcases f with f | ⟨f1, f2, f3, y, f4, f5⟩
  · exact Or.inl f
  · refine Or.inr ⟨f1, f2, f3, y, f4, fun j j0 j1 => ?_⟩
    rw [g _ (by omega)]
    exact f5 j j0 j1
theorem YY.law (y : YY hc hr t c e) (hl : l < 4) {e' : (Nat → Int) → Int} {c' : Nat} (fo : FjO hA t) (a1 : ∀ i, i ≤ 8 → h_mi hA (t + i) = h_mi hc (t + i)) (a2 : LC hA (h_mr hA t (l + 15)) l e') (a3 : ∀ j, j < 4 → j ≠ l → h_mr hA t (j + 15) = h_mr hc t (j + 15) ∧ h_ln hA (h_mr hc t (j + 15) + 1) = h_ln hc (h_mr hc t (j + 15) + 1) ∧ h_mi hA (h_mr hc t (j + 15) + 1) = h_mi hc (h_mr hc t (j + 15) + 1)) (a4 : h_mi hA 103 6 = i_or (h_mi hc 103 6) (i_shl 1 (l : Int))) (b1 : ∀ a, 147 ≤ a → a ≤ 156 → h_mi hB a = h_mi hr a) (b2 : ∀ j, j ≠ 4 + l → h_mi hB 157 j = h_mi hr 157 j ∧ h_mi hB 158 j = h_mi hr 158 j) (b3 : h_mi hB 157 (4 + l) = (c : Int)) (b4 : h_mi hB 158 (4 + l) = (c' : Int)) (b5 : c < c') (b6 : 1000 ≤ c) (b7 : ∀ j, j < c → h_mi hB 159 j = h_mi hr 159 j) (b8 : LR (h_mi hB) e' 1 l) (b9 : AlE l e') (b0 : h_mi hB 145 25 = h_mi hr 145 25) : YY hA hB t c' (fun j => if j = l then e' else e j) := by
  obtain ⟨fo0, fx, fb, lk, ⟨o1, o2, o3⟩⟩ := y
  have bt := bt_a o1.1 o1.2 (i := l) (by omega)
  refine ⟨⟨fo, fo0.2⟩, (fx.ca a1).r b1, fb.r b1, fun j hj => ?_, ?_⟩
  · by_cases z : j = l
    · subst z
      rw [show (fun i => if i = j then e' else e i) j = e' from if_pos rfl]
      exact ⟨a2, b8, b9, by omega, by omega, by omega⟩
    · rw [show (fun i => if i = l then e' else e i) j = e j from if_neg z]
      obtain ⟨l1, l2, l3, l4, l5, l6⟩ := lk j hj
      obtain ⟨u1, u2, u3⟩ := a3 j hj z
      obtain ⟨v1, v2⟩ := b2 (4 + j) (by omega)
      exact ⟨by rw [u1]; exact LC.cg l1 u2 u3, l2.k2 v1 v2 l4 l6 b7, l3, by rw [v1]; exact l4, by rw [v1, v2]; exact l5, by rw [v2]; omega⟩
  · unfold On
    rw [a4]
    refine ⟨bt.1, fun j hj => ?_, ?_⟩
    · rw [bt.2 j (by omega)]
      by_cases z : j = l
      · subst z
        rw [b3, b4]
        exact ⟨fun q => absurd rfl q.1, fun q => absurd q (by omega)⟩
      · obtain ⟨v1, v2⟩ := b2 (4 + j) (by omega)
        rw [v1, v2, ← o2 j hj]
        exact ⟨fun q => q.2, fun q => ⟨z, q⟩⟩
    · have := bt.2 4 (by omega)
      rw [s16] at this
      rw [this, b0, ← o3]
      exact ⟨fun q => q.2, fun q => ⟨by omega, q⟩⟩
/-- a law is made of the code -/
theorem c_mk {h : HP} {k : Nat} (w : CSk h) (k1 : k < 1000) (sz : 182 ≤ h_sz h) (m4 : h_mi h 103 4 = (k : Int)) (m8 : h_mi h 103 8 = 0) (fo : FjO h t) (t2 : 182 ≤ t) (hl : l < 4) (d : Nat) : ∃ hA, run (d + 1) md_70 47 [vr 103, vr t, vi (l : Int)] [] h = some (vr 0, hA) ∧ (h_sz hA = h_sz h + 2 ∧ h_sl hA = h_sl h + 1 + k) ∧ (∀ a, a < h_sz h → h_kd hA a = h_kd h a ∧ h_ln hA a = h_ln h a ∧ h_mi hA a = h_mi h a ∧ h_ml hA a = h_ml h a ∧ (a ≠ t → h_mr hA a = h_mr h a)) ∧ (∀ j, j ≠ l + 15 → h_mr hA t j = h_mr h t j) ∧ h_mr hA t (l + 15) = h_sz h ∧ h_kd hA (h_sz h) = 4 ∧ h_mr hA (h_sz h) 0 = h_sz h + 1 ∧ h_kd hA (h_sz h + 1) = 11 ∧ h_ln hA (h_sz h + 1) = k ∧ ∀ j, j < k → h_mi hA (h_sz h + 1) j = h_mi h 104 j := by
  have tz := fo.2.1
  have p1 : Ex h (alo h 4 0 1) := Ex.alo _ _ _ _
  have p2 : Ex h (alo (alo h 4 0 1) 11 k k) := p1.tr (Ex.alo _ _ _ _)
  generalize hF : va_cpy (h_mi (alo (alo h 4 0 1) 11 k k) 104) (h_mi (alo (alo h 4 0 1) 11 k k) (h_sz h + 1)) 0 0 k = F
  have p3 : Ex h (sRi (alo (alo h 4 0 1) 11 k k) (h_sz h + 1) F) := by
    rw [sRi_h]; exact p2.sM (fun a ha => up_ne _ _ (by omega))
  have p4 : Ex h (sR (sRi (alo (alo h 4 0 1) 11 k k) (h_sz h + 1) F) (h_sz h) 0 (h_sz h + 1)) := p3.sR (Nat.le_refl _) _ _
  have w1 : CSk (alo h 4 0 1) := w.ex p1 sz
  have kA : h_kd (alo (alo h 4 0 1) 11 k k) (h_sz h) = 4 := by rw [kd_alo, kd_alo, sz_alo, up_ne _ _ (by omega), up_eq]
  have kB : h_kd (alo (alo h 4 0 1) 11 k k) (h_sz h + 1) = 11 := by rw [kd_alo, sz_alo, up_eq]
  have lB : h_ln (alo (alo h 4 0 1) 11 k k) (h_sz h + 1) = k := by rw [ln_alo, sz_alo, up_eq]
  have w2 : CSk (alo (alo h 4 0 1) 11 k k) := w.ex p2 sz
  have j4 : Fj t (sR (sRi (alo (alo h 4 0 1) 11 k k) (h_sz h + 1) F) (h_sz h) 0 (h_sz h + 1)) := (fo.ex p4).1
  have m4' : h_mi (alo h 4 0 1) 103 4 = (k : Int) := by rw [(p1.2 103 (by omega)).2.2.1]; exact m4
  have e265 : ev d 265 [vr 104, vi (k : Int)] (alo h 4 0 1) = some (vr (h_sz h + 1), sRi (alo (alo h 4 0 1) 11 k k) (h_sz h + 1) F) := by
    rw [v_265, q_265_0, k_104 w1, n_104 w1, dt (show (k : Int) ≠ ((1000 : Nat) : Int) by omega), dt (show 0 ≤ (k : Int) by omega), dt (show (k : Int) ≤ 100000 by omega), Int.toNat_natCast, sz_alo]
    simp only [zb, Bool.true_or, Bool.and_self]
    rw [q_265_17, k_104 w2, n_104 w2, isKc kB, lB, show (min ((1000 : Nat) : Int) (k : Int)) = (k : Int) by omega, dt (show 0 ≤ (k : Int) by omega), dt (show 0 + (k : Int) ≤ ((1000 : Nat) : Int) by omega), dt (show 0 + (k : Int) ≤ (k : Int) by omega), Int.toNat_natCast, hF]
    rfl
  have kA3 : isK (sRi (alo (alo h 4 0 1) 11 k k) (h_sz h + 1) F) (h_sz h) 4 = true := isKc kA
  refine ⟨sR (sR (sRi (alo (alo h 4 0 1) 11 k k) (h_sz h + 1) F) (h_sz h) 0 (h_sz h + 1)) t (l + 15) (h_sz h), ?_, ⟨rfl, rfl⟩, fun a ha => ?_, fun j hj => ?_, ?_, kA, ?_, kB, lB, fun j hj => ?_⟩
  · rw [q_70_47 (t := t) (w := w), m8]
    show run (d + 1) md_70 59 [vr 103, vr t, vi (l : Int)] [vr (h_sz h), vi (l : Int), vr t] (alo h 4 0 1) = _
    rw [q_70_59 (t := t) (w := w1), m4', e265, bR_s, q_70_71, kA3, v_59, q_59_0, dt (show h_sz h ≠ 0 by omega), kA3]
    show run (d + 1) md_70 74 [vr 103, vr t, vi (l : Int)] [vr (h_sz h), vi (l : Int), vr t] (sR (sRi (alo (alo h 4 0 1) 11 k k) (h_sz h + 1) F) (h_sz h) 0 (h_sz h + 1)) = _
    rw [q_70_74 (t := t) (f := j4), v_21, q_21_0 (t := t) (f := j4)]
    have : l = 0 ∨ l = 1 ∨ l = 2 ∨ l = 3 := by omega
    rcases this with z | z | z | z <;> subst z <;> exact q_70_77 ..
  · obtain ⟨x1, x2, x3, x4, x5⟩ := p4.2 a ha
    exact ⟨x1, x2, x3, x4, fun z => by rw [mrR_ne _ _ _ z]; exact x5⟩
  · rw [mrR_eq, up_ne _ _ hj, (p4.2 t (by omega)).2.2.2.2]
  · rw [mrR_eq, up_eq]
  · rw [mrR_ne _ _ _ (by omega), mrR_eq, up_eq]
  · have eF : h_mi (sRi (alo (alo h 4 0 1) 11 k k) (h_sz h + 1) F) (h_sz h + 1) = F := up_eq _ _ _
    show h_mi (sRi (alo (alo h 4 0 1) 11 k k) (h_sz h + 1) F) (h_sz h + 1) j = _
    rw [eF, ← hF]
    unfold va_cpy
    rw [if_pos (by omega), show 0 + (j - 0) = j by omega, (p2.2 104 (by omega)).2.2.1]
end
