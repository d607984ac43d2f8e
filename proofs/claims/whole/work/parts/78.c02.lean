/-! the class: a fjord's members -/
theorem c_141 (d : Nat) (x y : Int) (h : HP) (x0 : -1000 ≤ x) (x1 : x ≤ 1000) (y0 : -1000 ≤ y) (y1 : y ≤ 1000) : ev d 141 [vi x, vi y] h = some (vi (10 * y + x), h) := by
  rw [v_141, q_141_0, im (by omega) (by omega), ia (by omega) (by omega), Int.mul_comm]
theorem c_22 (d : Nat) (x : Int) {h : HP} {t : Nat} (f : Fj t h) {n : Int} (hn : h_mi h t 1 = n) : ev d 22 [vr t, vi x] h = some (vi (bb (0 ≤ x ∧ x < n)), h) := by
  rw [v_22, q_22_0 (f := f), hn]
  by_cases h1 : x < 0
  · rw [dt h1, bb_f (by omega)]; rfl
  · rw [df h1]
    by_cases h2 : n ≤ x
    · rw [dt h2, bb_f (by omega)]; rfl
    · rw [df h2, bb_t (by omega)]; rfl
theorem c_23 (d : Nat) (x y : Int) {h : HP} {t : Nat} (f : Fj t h) {m n : Int} (hm : h_mi h t 0 = m) (hn : h_mi h t 1 = n) : ev (d + 1) 23 [vr t, vi x, vi y] h = some (vi (bb (0 ≤ x ∧ x < m ∧ 0 ≤ y ∧ y < n)), h) := by
  rw [v_23, q_23_0 (f := f), hm]
  by_cases h1 : x < 0
  · rw [dt h1, bb_f (by omega)]; rfl
  · rw [df h1]
    by_cases h2 : m ≤ x
    · rw [dt h2, bb_f (by omega)]; rfl
    · rw [df h2, c_22 d y f hn]
      simp only [zb, bI_s]
      rw [q_23_17]
      by_cases h3 : 0 ≤ y ∧ y < n
      · rw [bb_dt h3, bb_t (by omega)]; rfl
      · rw [bb_df h3, bb_f (by omega)]; rfl
theorem c_24 (d : Nat) (x : Int) {h : HP} {t : Nat} (f : Fj t h) {n : Int} (hn : h_mi h t 12 = n) : ev d 24 [vr t, vi x] h = some (vi (bb (0 ≤ x ∧ x < n)), h) := by
  rw [v_24, q_24_0 (f := f), hn]
  by_cases h1 : x < 0
  · rw [dt h1, bb_f (by omega)]; rfl
  · rw [df h1]
    by_cases h2 : n ≤ x
    · rw [dt h2, bb_f (by omega)]; rfl
    · rw [df h2, bb_t (by omega)]; rfl
theorem c_25 (d : Nat) (x : Int) {h : HP} {t : Nat} (f : Fj t h) {n : Int} (hn : h_mi h t 13 = n) : ev d 25 [vr t, vi x] h = some (vi (bb (0 ≤ x ∧ x < n)), h) := by
  rw [v_25, q_25_0 (f := f), hn]
  by_cases h1 : x < 0
  · rw [dt h1, bb_f (by omega)]; rfl
  · rw [df h1]
    by_cases h2 : n ≤ x
    · rw [dt h2, bb_f (by omega)]; rfl
    · rw [df h2, bb_t (by omega)]; rfl
section
variable {h : HP} {t : Nat} {E : EE} {S : Nat → Int}
theorem c_26 (k : Cg h t E S) (d : Nat) {x : Int} (x0 : 0 ≤ x) (x1 : x < h_mi h 147 3) : ev d 26 [vr t, vi x] h = some (vi (weV (h_mi h) x), h) := by
  have b := (k.vm.ld (l := x.toNat) (by omega)).1
  have l7 := k.vm.l
  rw [v_26, q_26_0 (f := k.fj) (st := k.st)]
  simp (disch := omega) only [k.dat (Ag.rf _), dt, df, zb]
  have w := fun j => ((k.st 37 (by omega) (by omega)).2.2.1 j)
  unfold weV wearK
  generalize h_mi h 154 x.toNat = z at b ⊢
  rw [w]
  have : z = 0 ∨ z = 1 ∨ z = 2 ∨ z = 3 ∨ z = 4 := by omega
  rcases this with rfl | rfl | rfl | rfl | rfl <;> rfl
theorem l_27 (k : Cg h t E S) (d : Nat) : ∀ (n : Nat) (i a : Int), (h_mi h 147 2 - i).toNat = n → 0 ≤ i → i ≤ h_mi h 147 2 → 0 ≤ a → a ≤ i * 99 → run d md_27 4 [vr t, vi a, vi i] [] h = some (vi (itr (fun p a => a + h_mi h 153 p.toNat) n i a), h)
  | 0, i, a, h1, h2, h3, a0, a1 => by
    rw [q_27_4 (f := k.fj)]
    simp (disch := omega) only [k.dat (Ag.rf _), dt, df, zb]
    rfl
  | n + 1, i, a, h1, h2, h3, a0, a1 => by
    have p6 := k.vm.p
    have b := (k.vm.pr (p := i.toNat) (by omega)).2.2
    rw [q_27_4 (f := k.fj)]
    simp (disch := omega) only [k.dat (Ag.rf _), dt, df, zb, ia]
    exact l_27 k d n (i + 1) _ (by omega) (by omega) (by omega) (by omega) (by omega)
theorem c_27 (k : Cg h t E S) (d : Nat) : ev d 27 [vr t] h = some (vi (paS (h_mi h)), h) := by
  have p6 := k.vm.p
  rw [v_27, q_27_0, l_27 k d _ 0 0 rfl (by omega) (by omega) (by omega) (by omega), Int.sub_zero]
  rfl
/-- weighing law l -/
theorem c_60 (k : Cg h t E S) {N : MM} (g : Ag (CqA t) (h_mi h) N) (d : Nat) {l : Nat} (hl : l < 4) (fr : ∀ j, al l j → i3 (N (t + 9) j)) : ∃ N', ev (d + 1) 60 [vr (h_mr h t (l + 15)), vr (t + 9), vr (t + 10)] (sM h N) = some (vi (E 0 l (N (t + 9))), sM h N') ∧ Ag (fun x => x = t + 10) N N' := by
  have k2 := k.q g
  obtain ⟨r, c, w, hc⟩ := k2.lc l hl
  obtain ⟨f1, f2, f3⟩ := k.fj.2.2.2.2 l hl
  have n := k.fj.lk f1
  obtain ⟨N', e, g'⟩ := w (sM h N) d (h_mr h t (l + 15)) (t + 9) (t + 10) (isKc f1) f2 (isKc f3) rfl hc (fk_9 k.fj) (fn_9 k.fj) (fk_10 k.fj) (fn_10 k.fj) (by omega) n.2 fr
  exact ⟨N', e, g'⟩
theorem c_34 (k : Cg h t E S) (d : Nat) (c hr nt : Int) (c0 : 0 ≤ c) (c1 : c < 60) : ∃ N, ev d 34 [vr t, vi c, vi hr, vi nt] h = some (vr 0, sM h N) ∧ Ag (fun x => x = t + 9) (h_mi h) N ∧ ∀ j, j ≤ 4 → N (t + 9) j = fcl (h_mi h) c hr nt j := by
  rw [v_34, q_34_0 (f := k.fj)]
  simp (disch := omega) only [k.dat (Ag.rf _), dt, df, zb, ir, id_]
  simp only [sI_h, sM_sM, mi_sM]
  refine ⟨_, rfl, fun b hb => ?_, fun j hj => ?_⟩
  · have hb : b ≠ t + 9 := hb
    rw [u2_ne _ _ _ hb, u2_ne _ _ _ hb, u2_ne _ _ _ hb, u2_ne _ _ _ hb, u2_ne _ _ _ hb]
  · unfold fcl
    have : j = 0 ∨ j = 1 ∨ j = 2 ∨ j = 3 ∨ j = 4 := by omega
    rcases this with rfl | rfl | rfl | rfl | rfl
    · rw [u2_no _ _ _ (by omega), u2_no _ _ _ (by omega), u2_no _ _ _ (by omega), u2_no _ _ _ (by omega), u2_at]; rfl
    · rw [u2_no _ _ _ (by omega), u2_no _ _ _ (by omega), u2_no _ _ _ (by omega), u2_at]; rfl
    · rw [u2_no _ _ _ (by omega), u2_no _ _ _ (by omega), u2_at]; rfl
    · rw [u2_no _ _ _ (by omega), u2_at]; rfl
    · rw [u2_at]; rfl
def FsA (t : Nat) : Nat → Prop := fun a => a = t + 9 ∨ a = t + 10
theorem FsA_q {t : Nat} : ∀ a, FsA t a → CqA t a := fun a ha => Or.inr ha
theorem FsA_9 {t : Nat} : ∀ a, a = t + 9 → FsA t a := fun a ha => Or.inl ha
theorem FsA_10 {t : Nat} : ∀ a, a = t + 10 → FsA t a := fun a ha => Or.inr ha
theorem CqA_9 {t : Nat} : ∀ a, a = t + 9 → CqA t a := fun a ha => Or.inr (Or.inl ha)
theorem CqA_10 {t : Nat} : ∀ a, a = t + 10 → CqA t a := fun a ha => Or.inr (Or.inr ha)
theorem c_35 (d : Nat) (x : Int) (h : HP) : ev d 35 [vi x] h = some (vi (c9 x), h) := by rw [v_35, q_35_0]; rfl
theorem fcl_i3 {M : MM} {E : EE} (v : VM M E) {c hr nt : Int} (c0 : 0 ≤ c) (c1 : c < 60) (rh : i3 hr) (rn : i3 nt) (j : Nat) : i3 (fcl M c hr nt j) := by
  have b := (v.g (c := c.toNat) (by omega)).2
  unfold fcl
  split
  · exact rh
  · split
    · exact rn
    · split
      · unfold i3; omega
      · split
        · unfold i3; omega
        · split
          · unfold i3; omega
          · unfold i3; omega
theorem c_28f (k : Cg h t E S) (d : Nat) (c hr nt : Int) (c0 : 0 ≤ c) (c1 : c < 60) (rh : i3 hr := by first | assumption | (unfold i3; omega) | (unfold i3 at *; omega)) (rn : i3 nt := by first | assumption | (unfold i3; omega) | (unfold i3 at *; omega)) : ∃ N, ev (d + 2) 28 [vr t, vi c, vi hr, vi nt] h = some (vi (frV (h_mi h) E c hr nt), sM h N) ∧ Ag (FsA t) (h_mi h) N := by
  obtain ⟨N1, e1, g1, f1⟩ := c_34 k (d + 1) c hr nt c0 c1
  have g1' := g1.up CqA_9
  obtain ⟨N2, e2, g2⟩ := c_60 k g1' d (l := 0) (by omega) (fun j hj => by rw [f1 j (by unfold al at hj; omega)]; exact fcl_i3 k.vm c0 c1 rh rn j)
  have ev2 : E 0 0 (N1 (t + 9)) = E 0 0 (fcl (h_mi h) c hr nt) := (k.vm.2.2 0 (by omega)).2 _ _ (fun j hj => f1 j (by unfold al at hj; omega))
  refine ⟨N2, ?_, (g1.up FsA_9).tr (g2.up FsA_10)⟩
  rw [v_28, q_28_0 (f := k.fj), e1, bV_s, q_28_7 (f := (k.q g1').fj), isKc (a := h_mr (sM h N1) t 15) (h := sM h N1) (k.fj.2.2.2.2 0 (by omega)).1]
  show bI (ev (d + 1) 60 [vr (h_mr h t (0 + 15)), vr (t + 9), vr (t + 10)] (sM h N1)) _ = _
  rw [e2, bI_s, q_28_22, c_35, bI_s, q_28_25, ev2]
  rfl
theorem c_29f (k : Cg h t E S) (d : Nat) (c hr nt : Int) (c0 : 0 ≤ c) (c1 : c < 60) (rh : i3 hr := by first | assumption | (unfold i3; omega) | (unfold i3 at *; omega)) (rn : i3 nt := by first | assumption | (unfold i3; omega) | (unfold i3 at *; omega)) : ∃ N, ev (d + 3) 29 [vr t, vi c, vi hr, vi nt] h = some (vi (grV (h_mi h) E c hr nt), sM h N) ∧ Ag (FsA t) (h_mi h) N := by
  obtain ⟨N1, e1, g1⟩ := c_28f k d c hr nt c0 c1
  refine ⟨N1, ?_, g1⟩
  have b := frV_b (h_mi h) E c hr nt
  rw [v_29, q_29_0 (f := k.fj), e1, bI_s, q_29_7 (f := (k.q (g1.up FsA_q)).fj)]
  simp (disch := omega) only [mi_sM, k.dat (g1.up FsA_q), dt, df, zb, id_]
  unfold grV
  by_cases z : h_mi h 148 c.toNat = 2
  · rw [df (by omega), if_pos z]; rfl
  · rw [dt z, if_neg z]; rfl
theorem c_30f (k : Cg h t E S) (d : Nat) (c hr nt : Int) (c0 : 0 ≤ c) (c1 : c < 60) (rh : i3 hr := by first | assumption | (unfold i3; omega) | (unfold i3 at *; omega)) (rn : i3 nt := by first | assumption | (unfold i3; omega) | (unfold i3 at *; omega)) : ∃ N, ev (d + 2) 30 [vr t, vi c, vi hr, vi nt] h = some (vi (meV (h_mi h) E c hr nt), sM h N) ∧ Ag (FsA t) (h_mi h) N := by
  obtain ⟨N1, e1, g1, f1⟩ := c_34 k (d + 1) c hr nt c0 c1
  have g1' := g1.up CqA_9
  obtain ⟨N2, e2, g2⟩ := c_60 k g1' d (l := 1) (by omega) (fun j hj => by rw [f1 j (by unfold al at hj; omega)]; exact fcl_i3 k.vm c0 c1 rh rn j)
  have ev2 : E 0 1 (N1 (t + 9)) = E 0 1 (fcl (h_mi h) c hr nt) := (k.vm.2.2 1 (by omega)).2 _ _ (fun j hj => f1 j (by unfold al at hj; omega))
  refine ⟨N2, ?_, (g1.up FsA_9).tr (g2.up FsA_10)⟩
  rw [v_30, q_30_0 (f := k.fj), e1, bV_s, q_30_7 (f := (k.q g1').fj), isKc (a := h_mr (sM h N1) t 16) (h := sM h N1) (k.fj.2.2.2.2 1 (by omega)).1]
  show bI (ev (d + 1) 60 [vr (h_mr h t (1 + 15)), vr (t + 9), vr (t + 10)] (sM h N1)) _ = _
  rw [e2, bI_s, q_30_22, c_35, bI_s, q_30_25, ev2]
  rfl
theorem l_31 (k : Cg h t E S) (d : Nat) {c seen nt : Int} (c0 : 0 ≤ c) (c1 : c < 60) (s1 : seen ≤ 23) (rn : i3 nt) : ∀ (n : Nat) (i a : Int) (N : MM), (seen + 1 - i).toNat = n → 12 ≤ i → 0 ≤ a → a ≤ (i - 12) * 9 → Ag (FsA t) (h_mi h) N → ∃ N', run (d + 3) md_31 7 [vr t, vi c, vi seen, vi nt, vi a, vi i] [] (sM h N) = some (vi (itr (fun i a => a + meV (h_mi h) E c i nt) n i a), sM h N') ∧ Ag (FsA t) (h_mi h) N'
  | 0, i, a, N, h1, h2, a0, a1, g => by
    refine ⟨N, ?_, g⟩
    rw [q_31_7 (f := (k.q (g.up FsA_q)).fj), dt (by omega)]; rfl
  | n + 1, i, a, N, h1, h2, a0, a1, g => by
    obtain ⟨N1, e1, g1⟩ := c_30f (k.q (g.up FsA_q)) d c i nt c0 c1
    rw [mi_sM, sM_sM, meV_ag (k.rr (g.up FsA_q) 149 (by omega) (by omega))] at e1
    have b := meV_b (h_mi h) E c i nt
    obtain ⟨N2, e2, g2⟩ := l_31 k d (nt := nt) c0 c1 s1 rn n (i + 1) (a + meV (h_mi h) E c i nt) N1 (by omega) (by omega) (by omega) (by omega) (g.tr g1)
    refine ⟨N2, ?_, g2⟩
    rw [q_31_7 (f := (k.q (g.up FsA_q)).fj), df (by omega), df (by omega)]
    simp only [zb]
    rw [e1, bI_s, q_31_30, ia (by omega) (by omega), ia (by omega) (by omega)]
    exact e2
theorem c_31f (k : Cg h t E S) (d : Nat) (c seen nt : Int) (c0 : 0 ≤ c) (c1 : c < 60) (s1 : seen ≤ 23) (rn : i3 nt := by first | assumption | (unfold i3; omega) | (unfold i3 at *; omega)) : ∃ N, ev (d + 3) 31 [vr t, vi c, vi seen, vi nt] h = some (vi (meS (h_mi h) E c seen nt), sM h N) ∧ Ag (FsA t) (h_mi h) N := by
  obtain ⟨N, e, g⟩ := l_31 k d (nt := nt) c0 c1 s1 rn _ 12 0 (h_mi h) rfl (by omega) (by omega) (by omega) (Ag.rf _)
  refine ⟨N, ?_, g⟩
  rw [v_31, q_31_0]
  rw [sM_self] at e
  rw [e, show seen + 1 - 12 = seen - 11 by omega]
  rfl
theorem c_28 (k : Cg h t E S) (d : Nat) (c hr nt : Int) (c0 : 0 ≤ c) (c1 : c < 60) (rh : i3 hr := by first | assumption | (unfold i3; omega) | (unfold i3 at *; omega)) (rn : i3 nt := by first | assumption | (unfold i3; omega) | (unfold i3 at *; omega)) : ∃ N, ev (d + 2) 28 [vr t, vi c, vi hr, vi nt] h = some (vi (frV (h_mi h) E c hr nt), sM h N) ∧ Ag (CqA t) (h_mi h) N := by
  obtain ⟨N, e, g⟩ := c_28f k d c hr nt c0 c1
  exact ⟨N, e, g.up FsA_q⟩
theorem c_29 (k : Cg h t E S) (d : Nat) (c hr nt : Int) (c0 : 0 ≤ c) (c1 : c < 60) (rh : i3 hr := by first | assumption | (unfold i3; omega) | (unfold i3 at *; omega)) (rn : i3 nt := by first | assumption | (unfold i3; omega) | (unfold i3 at *; omega)) : ∃ N, ev (d + 3) 29 [vr t, vi c, vi hr, vi nt] h = some (vi (grV (h_mi h) E c hr nt), sM h N) ∧ Ag (CqA t) (h_mi h) N := by
  obtain ⟨N, e, g⟩ := c_29f k d c hr nt c0 c1
  exact ⟨N, e, g.up FsA_q⟩
theorem c_30 (k : Cg h t E S) (d : Nat) (c hr nt : Int) (c0 : 0 ≤ c) (c1 : c < 60) (rh : i3 hr := by first | assumption | (unfold i3; omega) | (unfold i3 at *; omega)) (rn : i3 nt := by first | assumption | (unfold i3; omega) | (unfold i3 at *; omega)) : ∃ N, ev (d + 2) 30 [vr t, vi c, vi hr, vi nt] h = some (vi (meV (h_mi h) E c hr nt), sM h N) ∧ Ag (CqA t) (h_mi h) N := by
  obtain ⟨N, e, g⟩ := c_30f k d c hr nt c0 c1
  exact ⟨N, e, g.up FsA_q⟩
theorem c_31 (k : Cg h t E S) (d : Nat) (c seen nt : Int) (c0 : 0 ≤ c) (c1 : c < 60) (s1 : seen ≤ 23) (rn : i3 nt := by first | assumption | (unfold i3; omega) | (unfold i3 at *; omega)) : ∃ N, ev (d + 3) 31 [vr t, vi c, vi seen, vi nt] h = some (vi (meS (h_mi h) E c seen nt), sM h N) ∧ Ag (CqA t) (h_mi h) N := by
  obtain ⟨N, e, g⟩ := c_31f k d c seen nt c0 c1 s1
  exact ⟨N, e, g.up FsA_q⟩
end
