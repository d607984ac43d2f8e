/-! the class: lining up, the queue's answers -/
section
variable {h : HP} {t : Nat} {E : EE} {S : Nat → Int}
theorem l_9a (k : Cu h t E) (d : Nat) (th : Int) : ∀ (n : Nat) (i len : Int) (N : MM), (h_mi h 147 3 - i).toNat = n → 0 ≤ i → i ≤ h_mi h 147 3 → Ag (SqA t) (h_mi h) N → (N 138 0 = 0 ∧ N 139 0 = 0) → N 137 6 = len → QL (h_mi h) E i len (N 142) → (∀ j : Nat, (j : Int) < len → N 143 j = rkV (h_mi h) E (N 142 j)) → ∃ N' len', run (d + 3) md_9 13 [vr 137, vr 106, vi th, vr t, vi i, vu, vu] [] (sM h N) = run (d + 3) md_9 73 [vr 137, vr 106, vi th, vr t, vi th, vi 0, vu] [] (sM h (up2 (up2 N' 137 7 0) 137 8 0)) ∧ Ag (SqA t) (h_mi h) N' ∧ (N' 138 0 = 0 ∧ N' 139 0 = 0) ∧ N' 137 6 = len' ∧ QL (h_mi h) E (h_mi h 147 3) len' (N' 142)
  | 0, i, len, N, h1, h2, h3, g, z, h6, q, hr => by
    have k1 := k.s g z
    have ei : i = h_mi h 147 3 := by omega
    refine ⟨N, len, ?_, g, z, h6, ei ▸ q⟩
    rw [q_9_13 (w := k1.cs) (f := k1.fj), Cg.dl k1, mi_sM, k.r3 g 147 (by omega) (by omega), dt (by omega)]; rfl
  | n + 1, i, len, N, h1, h2, h3, g, z, h6, q, hr => by
    have l7 := k.vm.l
    have lt := k.fj.lt
    have k1 := k.s g z
    have r := fun a (h1 : 145 ≤ a) (h2 : a ≤ 180) => k.r3 g a h1 (by omega)
    have c42 := c_42 k1 (d + 2) (x := i) h2 (by omega)
    rw [mi_sM, r 172 (by omega) (by omega)] at c42
    rw [q_9_13 (w := k1.cs) (f := k1.fj), Cg.dl k1, mi_sM, r 147 (by omega) (by omega), df (by omega), c42]
    simp only [cond_false, bI_s]
    rw [q_9_28 (w := k1.cs) (f := k1.fj)]
    rcases bit01 (h_mi h 172 132) i with b | b
    · have d6 : h_mi (sM h N) 106 6 = h_mi (sM h N) 172 133 := (Cg.dat k1 (Ag.rf _)).2.2.2.2.2.2.2.2.2.2.2.2.2.2.2.2.2.2.1
      have d7 : h_mi (sM h N) 106 7 = h_mi (sM h N) 172 134 := (Cg.dat k1 (Ag.rf _)).2.2.2.2.2.2.2.2.2.2.2.2.2.2.2.2.2.2.2.1
      obtain ⟨N1, e1, g1⟩ := c_33 k1 d i h2 (by rw [mi_sM, r 147 (by omega) (by omega)]; omega)
      rw [sM_sM, rkV_ag (M := h_mi h) (N := h_mi (sM h N)) (fun a ha => r a (by omega) (by omega))] at e1
      rw [mi_sM] at g1
      have n7 : N1 137 = N 137 := g1 _ (by unfold CqA; omega)
      have n8 : N1 138 = N 138 := g1 _ (by unfold CqA; omega)
      have n9 : N1 139 = N 139 := g1 _ (by unfold CqA; omega)
      have n2 : N1 142 = N 142 := g1 _ (by unfold CqA; omega)
      have n3 : N1 143 = N 143 := g1 _ (by unfold CqA; omega)
      have ga : Ag (SqA t) (h_mi h) N1 := g.tr (g1.up SqA_q)
      have za : N1 138 0 = 0 ∧ N1 139 0 = 0 := by rw [n8, n9]; exact z
      have ka := k.s ga za
      have q1 := q.1
      have et : (len.toNat : Int) = len := by omega
      obtain ⟨N2, p, e2, g2, p1, p2, p3, p4, p5, p6⟩ := l_10 (h := h) k.cs (d + 2) (x := i) (r := rkV (h_mi h) E i) (len := len) (by omega) (O := N 142) (Q := fun j => rkV (h_mi h) E (N 142 j)) len.toNat N1 (by omega) (by rw [n7]; exact h6) (fun j hj => by rw [n2, n3]; exact ⟨rfl, hr j (by omega)⟩) (fun j j0 j1 => by omega)
      rw [et] at e2
      have gb : Ag (SqA t) (h_mi h) N2 := ga.tr (g2.up (fun a ha => by unfold SqA; omega))
      have zb_ : N2 138 0 = 0 ∧ N2 139 0 = 0 := by rw [g2 138 (by omega), g2 139 (by omega)]; exact za
      have q2 : QL (h_mi h) E (i + 1) (len + 1) (N2 142) := q.ins (by omega) (p := p) (by omega) p2 (fun j hj => (p4 j hj).1) p5.1 (fun j j0 j1 => ⟨(p6 j j0 j1).1, (p6 j j0 j1).2.2⟩)
      have hr2 : ∀ j : Nat, (j : Int) < len + 1 → N2 143 j = rkV (h_mi h) E (N2 142 j) := fun j hj => by
        by_cases y : j < p
        · rw [(p4 j y).1, (p4 j y).2]
        · by_cases y2 : j = p
          · rw [y2, p5.1, p5.2]
          · have := p6 (j - 1) (by omega) (by omega)
            rw [show j - 1 + 1 = j by omega] at this
            rw [this.1, this.2.1]
      obtain ⟨N3, len', e3, g3, z3, h63, q3⟩ := l_9a k d th n (i + 1) (len + 1) N2 (by omega) (by omega) (by omega) gb zb_ (by rw [p3, up_eq]) q2 hr2
      refine ⟨N3, len', ?_, g3, z3, h63, q3⟩
      rw [df (by omega), d6, d7, e1]
      simp only [cond_false, bI_s]
      rw [q_9_48 (w := ka.cs), v_10, q_10_0 (w := ka.cs), mi_sM, n7, h6, dt (by omega)]
      simp only [cond_true]
      rw [e2, bV_s, q_9_51, ia (by omega) (by omega)]
      exact e3
    · obtain ⟨N3, len', e3, g3, z3, h63, q3⟩ := l_9a k d th n (i + 1) len N (by omega) (by omega) (by omega) g z h6 ⟨⟨q.1.1, by have := q.1.2; omega⟩, fun j hj => ⟨⟨(q.2.1 j hj).1.1, by have := (q.2.1 j hj).1.2; omega⟩, (q.2.1 j hj).2⟩, q.2.2.1, fun l l0 l1 lb => by
        have : l ≠ i := fun y => lb (by rw [y]; exact b)
        exact q.2.2.2 l l0 (by omega) lb⟩ hr
      refine ⟨N3, len', ?_, g3, z3, h63, q3⟩
      rw [dt (by omega)]
      simp only [cond_true]
      rw [q_9_51, ia (by omega) (by omega)]
      exact e3
theorem l_9b (k : Cu h t E) (d : Nat) {th len : Int} (t0 : 0 ≤ th) (t1 : th ≤ 99) {O : Nat → Int} (q : QL (h_mi h) E (h_mi h 147 3) len O) {N0 : MM} (g0 : Ag (SqA t) (h_mi h) N0) (z0 : N0 138 0 = 0 ∧ N0 139 0 = 0) (hO : N0 142 = O) (h6 : N0 137 6 = len) : ∀ (n : Nat) (i : Int) (s : Int × Int × Int) (v6 : AV) (N : MM), (len - i).toNat = n → 0 ≤ i → i ≤ len → Ag (fun a => a = 137) N0 N → N 137 6 = len → N 137 7 = s.1 → N 137 8 = s.2.1 → (0 ≤ s.1 ∧ s.1 ≤ i * 99) → (0 ≤ s.2.2 ∧ s.2.2 ≤ i * 3) → ∃ N', run (d + 1) md_9 73 [vr 137, vr 106, vi th, vr t, vi (th - s.2.2), vi i, v6] [] (sM h N) = some (vr 0, sM h N') ∧ Ag (fun a => a = 137) N0 N' ∧ N' 137 6 = len ∧ N' 137 7 = (itr (quF (h_mi h) O th) n i s).1 ∧ N' 137 8 = (itr (quF (h_mi h) O th) n i s).2.1
  | 0, i, s, v6, N, h1, h2, h3, g, a6, a7, a8, s1, s2 => by
    have ga : Ag (SqA t) (h_mi h) N := g0.tr (g.up (fun a ha => by unfold SqA; omega))
    have za : N 138 0 = 0 ∧ N 139 0 = 0 := by rw [g 138 (by omega), g 139 (by omega)]; exact z0
    have k1 := k.s ga za
    refine ⟨N, ?_, g, a6, a7, a8⟩
    rw [q_9_73 (w := k1.cs) (f := k1.fj), mi_sM, a6, dt (by omega)]; rfl
  | n + 1, i, s, v6, N, h1, h2, h3, g, a6, a7, a8, s1, s2 => by
    have l7 := k.vm.l
    have lt := k.fj.lt
    have q1 := q.1
    obtain ⟨⟨o0, o1⟩, _⟩ := q.2.1 i.toNat (by omega)
    have ga : Ag (SqA t) (h_mi h) N := g0.tr (g.up (fun a ha => by unfold SqA; omega))
    have za : N 138 0 = 0 ∧ N 139 0 = 0 := by rw [g 138 (by omega), g 139 (by omega)]; exact z0
    have k1 := k.s ga za
    have n2 : N 142 = O := (g 142 (by omega)).trans hO
    have t7 : N (t + 7) = h_mi h (t + 7) := ga _ (by unfold SqA; omega)
    have t8 : N (t + 8) = h_mi h (t + 8) := ga _ (by unfold SqA; omega)
    have d7 : N (t + 7) (O i.toNat).toNat = ndV (h_mi h) (O i.toNat) := by rw [t7]; exact (k.dat (Ag.rf _)).2.2.2.2.2.2.2.2.2.2.2.1 _ o0 o1
    have d8 : N (t + 8) (O i.toNat).toNat = h_mi h 156 (O i.toNat).toNat := by rw [t8]; exact (k.dat (Ag.rf _)).2.2.2.2.2.2.2.2.2.2.2.2.1 _ o0 o1
    have wb := (k.vm.ld (l := (O i.toNat).toNat) (by omega)).2.2
    have wl := weV_b (h_mi h) (O i.toNat)
    rw [q_9_73 (w := k1.cs) (f := k1.fj), mi_sM, a6, n2, d7, df (by omega)]
    simp (disch := omega) only [dt, df, zb, ia]
    show ∃ N' : MM, _ ∧ _ ∧ _ ∧ N' 137 7 = (itr (quF (h_mi h) O th) n (i + 1) (quF (h_mi h) O th i s)).1 ∧ N' 137 8 = (itr (quF (h_mi h) O th) n (i + 1) (quF (h_mi h) O th i s)).2.1
    by_cases c : th - s.2.2 < ndV (h_mi h) (O i.toNat)
    · have e : quF (h_mi h) O th i s = s := if_pos c
      rw [dt c, e]
      exact l_9b k d t0 t1 q g0 z0 hO h6 n (i + 1) s _ N (by omega) (by omega) (by omega) g a6 a7 a8 (by omega) (by omega)
    · have e : quF (h_mi h) O th i s = (s.1 + h_mi h 156 (O i.toNat).toNat, i_or s.2.1 (i_shl 1 (O i.toNat)), s.2.2 + weV (h_mi h) (O i.toNat)) := if_neg c
      have c26 := c_26 k1 d (x := O i.toNat) o0 (by rw [mi_sM, k.r3 ga 147 (by omega) (by omega)]; exact o1)
      have ew : weV (h_mi (sM h N)) (O i.toNat) = weV (h_mi h) (O i.toNat) := by unfold weV; rw [mi_sM, k.r3 ga 154 (by omega) (by omega)]
      rw [ew] at c26
      rw [df c, e, c26]
      simp only [cond_false, bI_s]
      rw [q_9_111 (w := k1.cs) (f := k1.fj), mi_sM, d8, a7, a8]
      simp (disch := omega) only [dt, df, zb, ia, is_, sI_sM]
      rw [show th - s.2.2 - weV (h_mi h) (O i.toNat) = th - (s.2.2 + weV (h_mi h) (O i.toNat)) by omega]
      exact l_9b k d t0 t1 q g0 z0 hO h6 n (i + 1) (s.1 + h_mi h 156 (O i.toNat).toNat, i_or s.2.1 (i_shl 1 (O i.toNat)), s.2.2 + weV (h_mi h) (O i.toNat)) _ _ (by omega) (by omega) (by omega) ((g.u2 _ _ rfl).u2 _ _ rfl) (by rw [u2_no _ _ _ (by omega), u2_no _ _ _ (by omega)]; exact a6) (by rw [u2_no _ _ _ (by omega), u2_at]) (by rw [u2_at]) (by show 0 ≤ s.1 + _ ∧ s.1 + _ ≤ (i + 1) * 99; omega) (by show 0 ≤ s.2.2 + _ ∧ s.2.2 + _ ≤ (i + 1) * 3; omega)
theorem k_queue (k : Cu h t E) (d : Nat) (row what : Int) (wr : what < 2147483648) : ∃ h1, ev (d + 5) 127 [vr 100, vi row, vi what] h = some (vi (queueV (h_mi h) E row what), h1) ∧ Sq t h h1 := by
  have rr := k.vm.r
  have l7 := k.vm.l
  have lt := k.fj.lt
  rw [v_127, q_127_0 (w := k.cs) (f := k.fj) (ht := k.ht), c_22 _ _ k.fj k.dr, bI_s, q_127_11 (w := k.cs)]
  unfold queueV
  by_cases c1 : 0 ≤ row ∧ row < h_mi h 147 1
  · have tb := tnV_b k.vm c1.1 (show row < 6 by omega)
    -- lining up
    have g0 : Ag (SqA t) (h_mi h) (up2 (h_mi h) 137 6 0) := (Ag.rf _).u2 _ _ (by unfold SqA; omega)
    obtain ⟨N1, len, e1, g1, z1, h61, q1⟩ := l_9a k (d + 1) (tnV (h_mi h) row) _ 0 0 (up2 (h_mi h) 137 6 0) rfl (by omega) l7.1 g0 (by rw [u2_ne _ _ _ (by omega), u2_ne _ _ _ (by omega)]; exact k.z0) (by rw [u2_at]) ⟨⟨by omega, by omega⟩, fun j hj => by omega, fun a b _ hb => by omega, fun l l0 l1 => by omega⟩ (fun j hj => by omega)
    have ga : Ag (fun a => a = 137) N1 (up2 (up2 N1 137 7 0) 137 8 0) := Ag.u2 (Ag.u2 (Ag.rf (A := fun a => a = 137) N1) 7 0 rfl) 8 0 rfl
    obtain ⟨N2, e2, g2, a6, a7, a8⟩ := l_9b k (d + 3) tb.1 tb.2 q1 g1 z1 rfl h61 _ 0 (0, 0, 0) vu (up2 (up2 N1 137 7 0) 137 8 0) rfl (by omega) q1.1.1 ga (by rw [u2_no _ _ _ (by omega), u2_no _ _ _ (by omega)]; exact h61) (by rw [u2_no _ _ _ (by omega), u2_at]) (by rw [u2_at]) ⟨by show (0 : Int) ≤ 0; omega, by show (0 : Int) ≤ 0; omega⟩ ⟨by show (0 : Int) ≤ 0; omega, by show (0 : Int) ≤ 0; omega⟩
    rw [Int.sub_zero] at a7 a8
    have e2' : run (d + 4) md_9 73 [vr 137, vr 106, vi (tnV (h_mi h) row), vr t, vi (tnV (h_mi h) row), vi 0, vu] [] (sM h (up2 (up2 N1 137 7 0) 137 8 0)) = some (vr 0, sM h N2) := by
      have this : tnV (h_mi h) row - ((0, 0, 0) : Int × Int × Int).2.2 = tnV (h_mi h) row := by show tnV (h_mi h) row - 0 = _; omega
      rw [this] at e2
      exact e2
    have gb : Ag (SqA t) (h_mi h) N2 := g1.tr (g2.up (fun a ha => by unfold SqA; omega))
    have z2 : N2 138 0 = 0 ∧ N2 139 0 = 0 := by rw [g2 138 (by omega), g2 139 (by omega)]; exact z1
    have n2 : N2 142 = N1 142 := g2 142 (by omega)
    have k2 := k.s gb z2
    have sq : Sq t h (sM h N2) := ⟨N2, h_mr h 134 2, by rw [sR_self], gb, fun _ => by rw [z2.1, z2.2, k.z0.1, k.z0.2]; exact ⟨rfl, rfl⟩⟩
    have c9 : ev (d + 4) 9 [vr 137, vr 106, vi (tnV (h_mi h) row)] h = some (vr 0, sM h N2) := by
      rw [v_9, q_9_0 (w := k.cs) (ht := k.ht), sI_h, e1, e2']
    have ov := k.vm.ov
    have b00 : ∀ l : Int, bit 0 l = 0 := fun l => by unfold bit; rw [Int.zero_ediv]; rfl
    have qi := qu_is k.vm (t := tnV (h_mi h) row) (what := what) q1 _ 0 8 (h_mi h 172 132) (0, 0, 0) rfl (by have := q1.1; omega) (by omega) ⟨ov.1, by omega⟩ (fun l l0 l1 => ⟨fun y => Or.inl y, fun y => y.elim id (fun ⟨a, a1, _⟩ => by omega)⟩)
    have qi' : quN (h_mi h) E (tnV (h_mi h) row) what 8 (h_mi h 172 132) 0 0 0 0 = if what = 0 then N2 137 7 else if what = 1 then N2 137 8 else if 2 ≤ what ∧ what < 2 + len then N2 142 (what - 2).toNat else -1 := by
      rw [a7, a8, n2]
      have : (len - ((0 : Nat) : Int)).toNat = len.toNat := by omega
      rw [this] at qi
      exact qi
    refine ⟨sM h N2, ?_, sq⟩
    have q11 := q1.1
    rw [bb_nt c1, c_50 k _ c1.1 (by omega)]
    simp only [cond_true, bI_s]
    rw [q_127_32 (w := k.cs), c9, bV_s, q_127_35 (w := k2.cs), v_1, q_1_0 (w := k2.cs), mi_sM, qi']
    by_cases w0 : what = 0
    · rw [df (by omega), if_pos ⟨c1, by omega, by omega⟩, if_pos w0]
      simp only [cond_false, bI_s]
      rw [q_127_43]
    · rw [dt w0]
      by_cases w1 : what = 1
      · rw [df (by omega), if_pos ⟨c1, by omega, by omega⟩, if_neg w0, if_pos w1]
        simp only [cond_true, cond_false, bI_s]
        rw [q_127_43]
      · rw [dt w1, if_neg w0, if_neg w1]
        by_cases w2 : what < 2
        · rw [dt w2, if_neg (by omega)]
          simp only [cond_true, bI_s]
          rw [q_127_43]
        · rw [df w2, is_ (by omega) (by omega), a6]
          by_cases w3 : what - 2 < len
          · rw [df (by omega), if_pos ⟨c1, by omega, by omega⟩, if_pos (by omega)]
            simp (disch := omega) only [dt, df, zb, bI_s]
            rw [q_127_43]
          · rw [dt (by omega)]
            simp only [cond_true, cond_false, bI_s]
            rw [q_127_43]
            by_cases w9 : what ≤ 8
            · rw [if_pos ⟨c1, by omega, w9⟩, if_neg (by omega)]
            · rw [if_neg (fun q => w9 q.2.2)]
  · rw [bb_nf c1, if_neg (fun q => c1 q.1)]
    exact ⟨h, rfl, Sq.rf t h⟩
end
