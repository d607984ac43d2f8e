/-! the class: the way to the most worth; carried -/
section
variable {h : HP} {t : Nat} {E : EE} {S : Nat → Int}
def opS (M : MM) (W m u : Int) : Prop := wt M u = W ∧ pc u = m
/-- set u leads -/
def ldS (M : MM) (th W m : Int) (N : MM) (u : Int) : Prop := N 140 u.toNat = 1 ∧ (opS M W m u ∨ ∃ l, 0 ≤ l ∧ l < M 147 3 ∧ my M th u l ∧ N 141 (u + 2 ^ l.toNat).toNat = 1)
theorem l_7b (k : Cu h t E) (d : Nat) {th P : Int} (t0 : -1000 ≤ th) (t1 : th ≤ 1000) (hP : P = 2 ^ (h_mi h 147 3).toNat) (p1 : P ≤ 128) {N : MM} (g : Ag (CrA t) (h_mi h) N) (I : I5 (h_mi h) th P P 0 N) {u : Int} (u0 : 0 ≤ u) (u1 : u < P) (hu : N 140 u.toNat = 1) (hb1 : ∀ v : Int, u < v → v < P → N 141 v.toNat = 0 ∨ N 141 v.toNat = 1) : ∀ (n : Nat) (i : Int), (h_mi h 147 3 - i).toNat = n → 0 ≤ i → i ≤ h_mi h 147 3 → ∃ b i', run (d + 2) md_7 56 [vr 137, vr 106, vi th, vi (h_mi h 147 3), vi u, vi 0, vi i] [] (sM h N) = run (d + 2) md_7 118 [vr 137, vr 106, vi th, vi (h_mi h 147 3), vi u, vi b, vi i'] [] (sM h N) ∧ ((b = 1 ∧ ∃ l, 0 ≤ l ∧ l < h_mi h 147 3 ∧ my (h_mi h) th u l ∧ N 141 (u + 2 ^ l.toNat).toNat = 1) ∨ (b = 0 ∧ ∀ l, i ≤ l → l < h_mi h 147 3 → ¬ (my (h_mi h) th u l ∧ N 141 (u + 2 ^ l.toNat).toNat = 1)))
  | 0, i, h1, h2, h3 => by
    have k1 := k.c g I.1
    refine ⟨0, i, ?_, Or.inr ⟨rfl, fun l l0 l1 => by omega⟩⟩
    rw [q_7_56 (w := k1.cs), dt (by omega)]; rfl
  | n + 1, i, h1, h2, h3 => by
    have l7 := k.vm.l
    have k1 := k.c g I.1
    obtain ⟨w8, _⟩ := I.2.2.2.2.2 u u0 u1 hu
    obtain ⟨my1, my0⟩ := c_4 k g I.1 d (th := th) (s := u) (l := i) t0 t1 u0 (by omega) h2 (by omega) w8
    have st : run (d + 2) md_7 56 [vr 137, vr 106, vi th, vi (h_mi h 147 3), vi u, vi 0, vi i] [] (sM h N) = bI (ev (d + 1) 4 [vr 137, vr 106, vi th, vi u, vi i] (sM h N)) fun r1 h1 => run (d + 2) md_7 87 [vr 137, vr 106, vi th, vi (h_mi h 147 3), vi u, vi 0, vi i] [vi r1] h1 := by
      rw [q_7_56 (w := k1.cs), mi_sM, hu]
      simp (disch := omega) only [dt, df, zb]
    have no : ¬ (my (h_mi h) th u i ∧ N 141 (u + 2 ^ i.toNat).toNat = 1) → run (d + 2) md_7 56 [vr 137, vr 106, vi th, vi (h_mi h 147 3), vi u, vi 0, vi i] [] (sM h N) = run (d + 2) md_7 56 [vr 137, vr 106, vi th, vi (h_mi h 147 3), vi u, vi 0, vi (i + 1)] [] (sM h N) → ∃ b i', run (d + 2) md_7 56 [vr 137, vr 106, vi th, vi (h_mi h 147 3), vi u, vi 0, vi i] [] (sM h N) = run (d + 2) md_7 118 [vr 137, vr 106, vi th, vi (h_mi h 147 3), vi u, vi b, vi i'] [] (sM h N) ∧ ((b = 1 ∧ ∃ l, 0 ≤ l ∧ l < h_mi h 147 3 ∧ my (h_mi h) th u l ∧ N 141 (u + 2 ^ l.toNat).toNat = 1) ∨ (b = 0 ∧ ∀ l, i ≤ l → l < h_mi h 147 3 → ¬ (my (h_mi h) th u l ∧ N 141 (u + 2 ^ l.toNat).toNat = 1))) := fun hn he => by
      obtain ⟨b, i', e, q⟩ := l_7b k d t0 t1 hP p1 g I u0 u1 hu hb1 n (i + 1) (by omega) (by omega) (by omega)
      refine ⟨b, i', he.trans e, ?_⟩
      rcases q with q | ⟨q1, q2⟩
      · exact Or.inl q
      · refine Or.inr ⟨q1, fun l l0 l1 => ?_⟩
        by_cases z : l = i
        · rw [z]; exact hn
        · exact q2 l (by omega) l1
    by_cases hm : my (h_mi h) th u i
    · have hb : bit u i ≠ 1 := by have := hm.1; omega
      obtain ⟨_, _, p3, _⟩ := pcI u0 (by omega) h2 (by omega) hb
      have ltP := lt_p l7.1 l7.2 u0 (by rw [← hP]; exact u1) h2 (by omega) hb
      rw [← hP] at ltP
      have pp := p2p i.toNat
      have fin : run (d + 2) md_7 87 [vr 137, vr 106, vi th, vi (h_mi h 147 3), vi u, vi 0, vi i] [vi 1] (sM h N) = bif decide (N 141 (u + 2 ^ i.toNat).toNat = 0) then run (d + 2) md_7 56 [vr 137, vr 106, vi th, vi (h_mi h 147 3), vi u, vi 0, vi (i + 1)] [] (sM h N) else run (d + 2) md_7 56 [vr 137, vr 106, vi th, vi (h_mi h 147 3), vi u, vi 1, vi (i + 1)] [] (sM h N) := by
        rw [q_7_87 (w := k1.cs), p3, mi_sM]
        simp (disch := omega) only [dt, df, zb, ia]
      rcases hb1 _ (show u < u + 2 ^ i.toNat by omega) ltP with z | z
      · refine no (fun q => by omega) ?_
        rw [st, my1 hm, bI_s, fin, dt z]; rfl
      · refine ⟨1, i + 1, ?_, Or.inl ⟨rfl, i, h2, by omega, hm, z⟩⟩
        rw [st, my1 hm, bI_s, fin, df (by omega)]
        simp only [cond_false]
        rw [q_7_56 (w := k1.cs), mi_sM, hu]
        by_cases y : h_mi h 147 3 ≤ i + 1
        · rw [dt y]; rfl
        · rw [df y]
          simp (disch := omega) only [dt, df, zb]
    · refine no (fun q => hm q.1) ?_
      rw [st, my0 hm, bI_s, q_7_87 (w := k1.cs), dt (by omega), ia (by omega) (by omega)]; rfl
theorem l_7 (k : Cu h t E) (d : Nat) {th P W m : Int} (t0 : -1000 ≤ th) (t1 : th ≤ 1000) (hP : P = 2 ^ (h_mi h 147 3).toNat) (p1 : P ≤ 128) {N0 : MM} (g0 : Ag (CrA t) (h_mi h) N0) (I : I5 (h_mi h) th P P 0 N0) (w7 : N0 137 7 = W) (w6 : N0 137 6 = m) : ∀ (n : Nat) (v5 v6 : AV) (N : MM), (n : Int) ≤ P → Ag (fun a => a = 141) N0 N → (∀ v : Int, (n : Int) ≤ v → v < P → (N 141 v.toNat = 0 ∨ N 141 v.toNat = 1) ∧ (N 141 v.toNat = 1 ↔ ldS (h_mi h) th W m N v)) → ∃ N', run (d + 2) md_7 15 [vr 137, vr 106, vi th, vi (h_mi h 147 3), vi ((n : Int) - 1), v5, v6] [] (sM h N) = some (vr 0, sM h N') ∧ Ag (fun a => a = 141) N0 N' ∧ ∀ v : Int, 0 ≤ v → v < P → (N' 141 v.toNat = 0 ∨ N' 141 v.toNat = 1) ∧ (N' 141 v.toNat = 1 ↔ ldS (h_mi h) th W m N' v)
  | 0, v5, v6, N, h1, g, hv => by
    have ga : Ag (CrA t) (h_mi h) N := g0.tr (g.up (fun a ha => by unfold CrA; omega))
    have n8 : N 138 = N0 138 := g _ (by omega)
    have n9 : N 139 = N0 139 := g _ (by omega)
    have k1 := k.c ga (by rw [n8, n9]; exact I.1)
    refine ⟨N, ?_, g, fun v v0 v1 => hv v (by omega) v1⟩
    rw [q_7_15 (w := k1.cs), dt (by omega)]; rfl
  | n + 1, v5, v6, N, h1, g, hv => by
    have ga : Ag (CrA t) (h_mi h) N := g0.tr (g.up (fun a ha => by unfold CrA; omega))
    have n7 : N 137 = N0 137 := g _ (by omega)
    have n8 : N 138 = N0 138 := g _ (by omega)
    have n9 : N 139 = N0 139 := g _ (by omega)
    have n10 : N 140 = N0 140 := g _ (by omega)
    have IN' : I5 (h_mi h) th P P 0 N := by unfold I5 at I ⊢; rw [n8, n9, n10]; exact I
    have k1 := k.c ga IN'.1
    have ei : (((n + 1 : Nat) : Int) - 1) = (n : Int) := by omega
    rw [ei]
    have en : ((n : Int)).toNat = n := by omega
    -- storing b for set n, then going on
    have store : ∀ b, (b = 0 ∨ b = 1) → (b = 1 ↔ ldS (h_mi h) th W m N n) → ∀ v5 v6, ∃ N', run (d + 2) md_7 15 [vr 137, vr 106, vi th, vi (h_mi h 147 3), vi ((n : Int) - 1), v5, v6] [] (sM h (up2 N 141 ((n : Int)).toNat b)) = some (vr 0, sM h N') ∧ Ag (fun a => a = 141) N0 N' ∧ ∀ v : Int, 0 ≤ v → v < P → (N' 141 v.toNat = 0 ∨ N' 141 v.toNat = 1) ∧ (N' 141 v.toNat = 1 ↔ ldS (h_mi h) th W m N' v) := fun b hb hl v5 v6 => by
      have same : ∀ v : Int, (n : Int) ≤ v → (ldS (h_mi h) th W m (up2 N 141 ((n : Int)).toNat b) v ↔ ldS (h_mi h) th W m N v) := fun v v0 => by
        unfold ldS
        rw [u2_ne _ _ _ (show 140 ≠ 141 by omega)]
        have e : ∀ l : Int, 0 ≤ l → up2 N 141 ((n : Int)).toNat b 141 (v + 2 ^ l.toNat).toNat = N 141 (v + 2 ^ l.toNat).toNat := fun l l0 => by
          have := p2p l.toNat
          exact u2_no _ _ _ (by omega)
        constructor
        · rintro ⟨q1, q2⟩
          refine ⟨q1, q2.elim Or.inl (fun ⟨l, l0, l1, l2, l3⟩ => Or.inr ⟨l, l0, l1, l2, ?_⟩)⟩
          rw [e l l0] at l3; exact l3
        · rintro ⟨q1, q2⟩
          refine ⟨q1, q2.elim Or.inl (fun ⟨l, l0, l1, l2, l3⟩ => Or.inr ⟨l, l0, l1, l2, ?_⟩)⟩
          rw [e l l0]; exact l3
      refine l_7 k d t0 t1 hP p1 g0 I w7 w6 n v5 v6 _ (by omega) (g.u2 _ _ rfl) (fun v v0 v1 => ?_)
      rw [same v v0]
      by_cases z : v = n
      · rw [z, u2_at]; exact ⟨hb, hl⟩
      · rw [u2_no _ _ _ (by omega)]; exact hv v (by omega) v1
    have end1 : ∀ b i', (b = 0 ∨ b = 1) → ((N 140 ((n : Int)).toNat = 1 ∧ b = 1) ↔ ldS (h_mi h) th W m N n) → ∃ N', run (d + 2) md_7 118 [vr 137, vr 106, vi th, vi (h_mi h 147 3), vi (n : Int), vi b, vi i'] [] (sM h N) = some (vr 0, sM h N') ∧ Ag (fun a => a = 141) N0 N' ∧ ∀ v : Int, 0 ≤ v → v < P → (N' 141 v.toNat = 0 ∨ N' 141 v.toNat = 1) ∧ (N' 141 v.toNat = 1 ↔ ldS (h_mi h) th W m N' v) := fun b i' hb hl => by
      rw [q_7_118 (w := k1.cs), mi_sM]
      simp (disch := omega) only [dt, df, zb, ia, sI_sM]
      rw [show (n : Int) + -1 = (n : Int) - 1 by omega]
      rcases IN'.2.2.1 n (by omega) (by omega) with w | w
      · rw [dt w]
        exact store 0 (Or.inl rfl) ⟨fun z => absurd z (by omega), fun z => by have := (hl.mpr z).1; omega⟩ _ _
      · rw [df (by omega)]
        rcases hb with z | z
        · rw [dt z]
          exact store 0 (Or.inl rfl) ⟨fun q => absurd q (by omega), fun q => by have := (hl.mpr q).2; omega⟩ _ _
        · rw [df (by omega)]
          exact store 1 (Or.inr rfl) ⟨fun _ => hl.mp ⟨w, z⟩, fun _ => rfl⟩ _ _
    -- the inner loop from leads = b
    have end0 : ∀ b, (b = 0 ∨ b = 1) → (N 140 ((n : Int)).toNat = 1 → (b = 1 ↔ opS (h_mi h) W m n)) → ∃ N', run (d + 2) md_7 56 [vr 137, vr 106, vi th, vi (h_mi h 147 3), vi (n : Int), vi b, vi 0] [] (sM h N) = some (vr 0, sM h N') ∧ Ag (fun a => a = 141) N0 N' ∧ ∀ v : Int, 0 ≤ v → v < P → (N' 141 v.toNat = 0 ∨ N' 141 v.toNat = 1) ∧ (N' 141 v.toNat = 1 ↔ ldS (h_mi h) th W m N' v) := fun b hb hl => by
      have l7 := k.vm.l
      have direct : (N 140 ((n : Int)).toNat = 0 ∨ b = 1) → run (d + 2) md_7 56 [vr 137, vr 106, vi th, vi (h_mi h 147 3), vi (n : Int), vi b, vi 0] [] (sM h N) = run (d + 2) md_7 118 [vr 137, vr 106, vi th, vi (h_mi h 147 3), vi (n : Int), vi b, vi 0] [] (sM h N) := fun q => by
        rw [q_7_56 (w := k1.cs), mi_sM]
        by_cases y : h_mi h 147 3 ≤ 0
        · rw [dt y]; rfl
        · rw [df y]
          simp (disch := omega) only [dt, df, zb]
          by_cases y2 : N 140 ((n : Int)).toNat = 0
          · rw [dt y2]; rfl
          · rw [df y2, dt (show b ≠ 0 by omega)]; rfl
      rcases IN'.2.2.1 n (by omega) (by omega) with w | w
      · rw [direct (Or.inl w)]
        exact end1 b 0 hb ⟨fun q => by omega, fun q => by have := q.1; omega⟩
      · rcases hb with z | z
        · rw [z]
          obtain ⟨b', i', e, q⟩ := l_7b k d t0 t1 hP p1 ga IN' (u := (n : Int)) (by omega) (by omega) w (fun v v0 v1 => (hv v (by omega) v1).1) _ 0 rfl (by omega) l7.1
          rw [e]
          have no : ¬ opS (h_mi h) W m n := fun y => by have := (hl w).mpr y; omega
          rcases q with ⟨q1, q2⟩ | ⟨q1, q2⟩
          · exact end1 b' i' (Or.inr q1) ⟨fun _ => ⟨w, Or.inr q2⟩, fun _ => ⟨w, q1⟩⟩
          · refine end1 b' i' (Or.inl q1) ⟨fun y => by omega, fun y => ?_⟩
            rcases y.2 with y2 | ⟨l, l0, l1, l2, l3⟩
            · exact absurd y2 no
            · exact absurd ⟨l2, l3⟩ (q2 l l0 l1)
        · rw [direct (Or.inr z)]
          exact end1 b 0 (Or.inr z) ⟨fun _ => ⟨w, Or.inl ((hl w).mp z)⟩, fun _ => ⟨w, z⟩⟩
    rw [q_7_15 (w := k1.cs), mi_sM, n7, w7, df (by omega)]
    simp (disch := omega) only [dt, df, zb]
    have e9 : N 140 ((n : Int)).toNat = 1 → N 139 ((n : Int)).toNat = wt (h_mi h) n := fun w => (IN'.2.2.2.2.2 n (by omega) (by omega) w).2
    by_cases c1 : N 139 ((n : Int)).toNat = W
    · rw [df (by omega), c_253 _ _ (by omega) (by omega)]
      simp only [cond_false, bI_s]
      rw [q_7_39 (w := k1.cs), mi_sM, n7, w6]
      by_cases c2 : pc n = m
      · rw [df (by omega)]
        exact end0 1 (Or.inr rfl) (fun w => ⟨fun _ => ⟨by rw [← e9 w]; exact c1, c2⟩, fun _ => rfl⟩)
      · rw [dt c2]
        exact end0 0 (Or.inl rfl) (fun w => ⟨fun z => absurd z (by omega), fun z => absurd z.2 c2⟩)
    · rw [dt c1]
      exact end0 0 (Or.inl rfl) (fun w => ⟨fun z => absurd z (by omega), fun z => absurd (by rw [e9 w]; exact z.1) c1⟩)
end
