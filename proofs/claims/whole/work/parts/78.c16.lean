/-! the class: the queue -/
def Bf (r : Int → Int) (a b : Int) : Prop := r b < r a ∨ (r a = r b ∧ a < b)
theorem nx_inv (M : MM) (E : EE) (used : Int) (hn : 0 ≤ M 147 3) : (nxV M E used = -1 ∧ ∀ l, 0 ≤ l → l < M 147 3 → bit used l = 1) ∨ (0 ≤ nxV M E used ∧ nxV M E used < M 147 3 ∧ bit used (nxV M E used) ≠ 1 ∧ ∀ l, 0 ≤ l → l < M 147 3 → bit used l ≠ 1 → l ≠ nxV M E used → Bf (rkV M E) (nxV M E used) l) := by
  unfold nxV
  have := itr_inv (f := nxF M E used) (n := M 147 3) (fun i s => 0 ≤ i ∧ ((s.1 = -1 ∧ ∀ l, 0 ≤ l → l < i → bit used l = 1) ∨ (0 ≤ s.1 ∧ s.1 < i ∧ bit used s.1 ≠ 1 ∧ s.2 = rkV M E s.1 ∧ ∀ l, 0 ≤ l → l < i → bit used l ≠ 1 → l ≠ s.1 → Bf (rkV M E) s.1 l))) (fun i s hi ⟨i0, hs⟩ => by
    refine ⟨by omega, ?_⟩
    unfold nxF
    by_cases c1 : bit used i = 1
    · rw [if_pos (Or.inl c1)]
      rcases hs with ⟨a, b⟩ | ⟨a, b, c, d, e⟩
      · refine Or.inl ⟨a, fun l l0 l1 => ?_⟩
        by_cases z : l = i
        · rw [z]; exact c1
        · exact b l l0 (by omega)
      · refine Or.inr ⟨a, by omega, c, d, fun l l0 l1 lb ln => ?_⟩
        by_cases z : l = i
        · rw [z] at lb; exact absurd c1 lb
        · exact e l l0 (by omega) lb ln
    · by_cases c2 : 0 ≤ s.1 ∧ rkV M E i ≤ s.2
      · rw [if_pos (Or.inr c2)]
        rcases hs with ⟨a, _⟩ | ⟨a, b, c, d, e⟩
        · omega
        · refine Or.inr ⟨a, by omega, c, d, fun l l0 l1 lb ln => ?_⟩
          by_cases z : l = i
          · rw [z]; unfold Bf; omega
          · exact e l l0 (by omega) lb ln
      · rw [if_neg (fun q => q.elim c1 c2)]
        refine Or.inr ⟨i0, by show i < i + 1; omega, c1, rfl, fun l l0 l1 lb ln => ?_⟩
        have ln : l ≠ i := ln
        show Bf (rkV M E) i l
        rcases hs with ⟨a, b⟩ | ⟨a, b, c, d, e⟩
        · exact absurd (b l l0 (by omega)) lb
        · by_cases y : l = s.1
          · rw [y]; unfold Bf; omega
          · have := e l l0 (by omega) lb y
            unfold Bf at this ⊢; omega) (M 147 3).toNat 0 (-1, 0) hn (by omega) ⟨by omega, Or.inl ⟨rfl, fun l l0 l1 => by omega⟩⟩
  rcases this.2 with ⟨a, b⟩ | ⟨a, b, c, _, e⟩
  · exact Or.inl ⟨a, b⟩
  · exact Or.inr ⟨a, b, c, e⟩
theorem nx_is {M : MM} {E : EE} {used l0 : Int} (hn : 0 ≤ M 147 3) (a0 : 0 ≤ l0) (a1 : l0 < M 147 3) (a2 : bit used l0 ≠ 1) (a3 : ∀ l, 0 ≤ l → l < M 147 3 → bit used l ≠ 1 → l ≠ l0 → Bf (rkV M E) l0 l) : nxV M E used = l0 := by
  rcases nx_inv M E used hn with ⟨_, b⟩ | ⟨b1, b2, b3, b4⟩
  · exact absurd (b l0 a0 a1) a2
  · by_cases z : nxV M E used = l0
    · exact z
    · have x := b4 l0 a0 a1 a2 (fun q => z q.symm)
      have y := a3 _ b1 b2 b3 z
      unfold Bf at x y; omega
/-- a row of loads that wait, in their order -/
def QL (M : MM) (E : EE) (i len : Int) (O : Nat → Int) : Prop := (0 ≤ len ∧ len ≤ i) ∧ (∀ j : Nat, (j : Int) < len → (0 ≤ O j ∧ O j < i) ∧ bit (M 172 132) (O j) ≠ 1) ∧ (∀ a b : Nat, a < b → (b : Int) < len → Bf (rkV M E) (O a) (O b)) ∧ ∀ l, 0 ≤ l → l < i → bit (M 172 132) l ≠ 1 → ∃ j : Nat, (j : Int) < len ∧ O j = l
def quF (M : MM) (O : Nat → Int) (t : Int) (j : Int) (s : Int × Int × Int) : Int × Int × Int := if t - s.2.2 < ndV M (O j.toNat) then s else (s.1 + M 156 (O j.toNat).toNat, i_or s.2.1 (i_shl 1 (O j.toNat)), s.2.2 + weV M (O j.toNat))
theorem qu_is {M : MM} {E : EE} (v : VM M E) {len t what : Int} {O : Nat → Int} (q : QL M E (M 147 3) len O) : ∀ (n j k : Nat) (used : Int) (s : Int × Int × Int), (len - j).toNat = n → (j : Int) ≤ len → 8 ≤ j + k → (0 ≤ used ∧ used < 128) → (∀ l, 0 ≤ l → l < 7 → (bit used l = 1 ↔ bit (M 172 132) l = 1 ∨ ∃ a : Nat, a < j ∧ O a = l)) → quN M E t what k used j s.1 s.2.1 s.2.2 = if what = 0 then (itr (quF M O t) n j s).1 else if what = 1 then (itr (quF M O t) n j s).2.1 else if 2 + (j : Int) ≤ what ∧ what < 2 + len then O (what - 2).toNat else -1
  | 0, j, k, used, s, h1, h2, h3, h4, h5 => by
    have l7 := v.l
    obtain ⟨q1, q2, q3, q4⟩ := q
    match k, h3 with
    | 0, h3 => omega
    | k + 1, h3 =>
      have nv : nxV M E used = -1 := by
        rcases nx_inv M E used l7.1 with ⟨a, _⟩ | ⟨b1, b2, b3, b4⟩
        · exact a
        · exfalso
          apply b3
          rw [h5 _ b1 (by omega)]
          by_cases z : bit (M 172 132) (nxV M E used) = 1
          · exact Or.inl z
          · obtain ⟨a, a1, a2⟩ := q4 _ b1 b2 z
            exact Or.inr ⟨a, by omega, a2⟩
      show (if nxV M E used < 0 then (if what = 0 then s.1 else if what = 1 then s.2.1 else -1) else _) = _
      rw [nv, if_pos (by omega)]
      show _ = if what = 0 then s.1 else if what = 1 then s.2.1 else if 2 + (j : Int) ≤ what ∧ what < 2 + len then O (what - 2).toNat else -1
      rw [if_neg (show ¬ (2 + (j : Int) ≤ what ∧ what < 2 + len) by omega)]
  | n + 1, j, k, used, s, h1, h2, h3, h4, h5 => by
    have l7 := v.l
    have q' := q
    obtain ⟨q1, q2, q3, q4⟩ := q
    match k, h3 with
    | 0, h3 => omega
    | k + 1, h3 =>
      obtain ⟨⟨o0, o1⟩, o2⟩ := q2 j (by omega)
      have ou : bit used (O j) ≠ 1 := fun z => by
        rcases (h5 _ o0 (by omega)).mp z with y | ⟨a, a1, a2⟩
        · exact o2 y
        · have := q3 a j a1 (by omega)
          rw [a2] at this
          unfold Bf at this; omega
      have nv : nxV M E used = O j := nx_is l7.1 o0 o1 ou (fun l l0 l1 lu ln => by
        have lo : bit (M 172 132) l ≠ 1 := fun z => lu ((h5 l l0 (by omega)).mpr (Or.inl z))
        obtain ⟨a, a1, a2⟩ := q4 l l0 l1 lo
        have ha : ¬ a < j := fun z => lu ((h5 l l0 (by omega)).mpr (Or.inr ⟨a, z, a2⟩))
        have hj : a ≠ j := fun z => ln (by rw [← a2, z])
        have := q3 j a (by omega) a1
        rw [a2] at this; exact this)
      obtain ⟨_, p2, _, p4⟩ := pcI h4.1 h4.2 o0 (by omega) ou
      have pp := p2p (O j).toNat
      have jt : ((j : Int)).toNat = j := by omega
      have h5' : ∀ l, 0 ≤ l → l < 7 → (bit (used + 2 ^ (O j).toNat) l = 1 ↔ bit (M 172 132) l = 1 ∨ ∃ a : Nat, a < j + 1 ∧ O a = l) := fun l l0 l1 => by
        rw [p4 l l0 l1]
        by_cases z : l = O j
        · rw [if_pos z]
          exact ⟨fun _ => Or.inr ⟨j, by omega, z.symm⟩, fun _ => rfl⟩
        · rw [if_neg z, h5 l l0 l1]
          constructor
          · rintro (y | ⟨a, a1, a2⟩)
            · exact Or.inl y
            · exact Or.inr ⟨a, by omega, a2⟩
          · rintro (y | ⟨a, a1, a2⟩)
            · exact Or.inl y
            · have : a ≠ j := fun w => z (by rw [← a2, w])
              exact Or.inr ⟨a, by omega, a2⟩
      have ih := fun s' => qu_is v (t := t) (what := what) q' n (j + 1) k (used + 2 ^ (O j).toNat) s' (by omega) (by omega) (by omega) ⟨by omega, p2⟩ h5'
      have ej : ((j + 1 : Nat) : Int) = (j : Int) + 1 := by omega
      show (if nxV M E used < 0 then (if what = 0 then s.1 else if what = 1 then s.2.1 else -1) else if what = 2 + (j : Int) then nxV M E used else if t - s.2.2 < ndV M (nxV M E used) then quN M E t what k (used + 2 ^ (nxV M E used).toNat) ((j : Int) + 1) s.1 s.2.1 s.2.2 else quN M E t what k (used + 2 ^ (nxV M E used).toNat) ((j : Int) + 1) (s.1 + M 156 (nxV M E used).toNat) (i_or s.2.1 (i_shl 1 (nxV M E used))) (s.2.2 + weV M (nxV M E used))) = _
      rw [nv, if_neg (by omega)]
      have es : itr (quF M O t) (n + 1) j s = itr (quF M O t) n ((j : Int) + 1) (quF M O t j s) := rfl
      rw [es]
      by_cases w : what = 2 + (j : Int)
      · rw [if_pos w, if_neg (by omega), if_neg (by omega), if_pos (by omega), show (what - 2).toNat = j by omega]
      · rw [if_neg w]
        have tail : ∀ s', quF M O t j s = s' → quN M E t what k (used + 2 ^ (O j).toNat) ((j : Int) + 1) s'.1 s'.2.1 s'.2.2 = if what = 0 then (itr (quF M O t) n ((j : Int) + 1) (quF M O t j s)).1 else if what = 1 then (itr (quF M O t) n ((j : Int) + 1) (quF M O t j s)).2.1 else if 2 + (j : Int) ≤ what ∧ what < 2 + len then O (what - 2).toNat else -1 := fun s' e => by
          have := ih s'
          rw [ej] at this
          rw [this, e]
          congr 2
          by_cases y : 2 + ((j : Int) + 1) ≤ what ∧ what < 2 + len
          · rw [if_pos y, if_pos (by omega)]
          · rw [if_neg y, if_neg (by omega)]
        by_cases c : t - s.2.2 < ndV M (O j)
        · rw [if_pos c]
          exact tail s (by unfold quF; rw [jt, if_pos c])
        · rw [if_neg c]
          exact tail (s.1 + M 156 (O j).toNat, i_or s.2.1 (i_shl 1 (O j)), s.2.2 + weV M (O j)) (by unfold quF; rw [jt, if_neg c])
section
variable {h : HP} {t : Nat} {E : EE} {S : Nat → Int}
theorem Cg.r3 (k : Cg h t E S) {N : MM} (g : Ag (SqA t) (h_mi h) N) : ∀ a, 145 ≤ a → a ≤ 181 → N a = h_mi h a := fun a h1 h2 => g a (by
  have lt := k.fj.lt
  unfold SqA; omega)
theorem Cg.s (k : Cg h t E S) {N : MM} (g : Ag (SqA t) (h_mi h) N) (z : N 138 0 = 0 ∧ N 139 0 = 0) : Cg (sM h N) t E S := by
  have lt := k.fj.lt
  refine ⟨⟨k.rs, k.cs, ?_, z⟩, k.fj, k.ht, k.vm.cg (fun a h1 h2 => k.r3 g a h1 (by omega)), k.fn.cg (fun i hi => g _ (by unfold SqA; omega)) (fun a h1 h2 => k.r3 g a h1 (by omega)), fun l hl => ?_, ?_⟩
  · have := k.st.sc (A := SqA t) (h1 := sM h N) ⟨rfl, rfl, rfl, rfl, rfl, fun a ha => ⟨g a ha, rfl⟩⟩ (fun a ha => by unfold SqA at ha; omega)
    exact this
  · have c := k.lc l hl
    refine LC.cg (h := h) c rfl (g (h_mr h t (l + 15) + 1) ?_)
    have kd := (k.fj.2.2.2.2 l hl).1
    have n := k.fj.lk kd
    have r := c.1
    unfold SqA; omega
  · have := k.ic.cg (N := N) (g _ (by unfold SqA; omega)) (fun j hj => g _ (by unfold SqA; omega))
    rw [mi_sM, k.r3 g 147 (by omega) (by omega)]
    exact this
theorem Cu.s (k : Cu h t E) {N : MM} (g : Ag (SqA t) (h_mi h) N) (z : N 138 0 = 0 ∧ N 139 0 = 0) : Cu (sM h N) t E := by
  have := Cg.s k g z
  unfold Cu
  rw [mi_sM, Cg.r3 k g 172 (by omega) (by omega)]
  exact this
/-- a load put in where it belongs -/
theorem l_10 (w : CSk h) (d : Nat) {x r len : Int} (l7 : len < 7) {O Q : Nat → Int} : ∀ (n : Nat) (N : MM), (n : Int) ≤ len → N 137 6 = len → (∀ j : Nat, j < n → N 142 j = O j ∧ N 143 j = Q j) → (∀ j : Nat, n ≤ j → (j : Int) < len → N 142 (j + 1) = O j ∧ N 143 (j + 1) = Q j ∧ Q j < r) → ∃ N' p, run d md_10 15 [vr 137, vi x, vi r, vi (n : Int)] [] (sM h N) = some (vr 0, sM h N') ∧ Ag (fun a => a = 137 ∨ a = 142 ∨ a = 143) N N' ∧ p ≤ n ∧ (p = 0 ∨ r ≤ Q (p - 1)) ∧ N' 137 = va_up (N 137) 6 (len + 1) ∧ (∀ j : Nat, j < p → N' 142 j = O j ∧ N' 143 j = Q j) ∧ (N' 142 p = x ∧ N' 143 p = r) ∧ ∀ j : Nat, p ≤ j → (j : Int) < len → N' 142 (j + 1) = O j ∧ N' 143 (j + 1) = Q j ∧ Q j < r
  | n, N, h1, h6, ha, hb => by
    have fin : (n = 0 ∨ r ≤ Q (n - 1)) → ∃ N' p, run d md_10 65 [vr 137, vi x, vi r, vi (n : Int)] [] (sM h N) = some (vr 0, sM h N') ∧ Ag (fun a => a = 137 ∨ a = 142 ∨ a = 143) N N' ∧ p ≤ n ∧ (p = 0 ∨ r ≤ Q (p - 1)) ∧ N' 137 = va_up (N 137) 6 (len + 1) ∧ (∀ j : Nat, j < p → N' 142 j = O j ∧ N' 143 j = Q j) ∧ (N' 142 p = x ∧ N' 143 p = r) ∧ ∀ j : Nat, p ≤ j → (j : Int) < len → N' 142 (j + 1) = O j ∧ N' 143 (j + 1) = Q j ∧ Q j < r := fun hp => by
      rw [q_10_65 (w := w.m N), mi_sM, h6]
      simp (disch := omega) only [dt, df, zb, sI_sM, ia]
      rw [show ((n : Int)).toNat = n by omega]
      generalize hN : up2 (up2 (up2 N 142 n x) 143 n r) 137 6 (len + 1) = N'
      have m7 : N' 137 = va_up (N 137) 6 (len + 1) := by rw [← hN, u2_eq, u2_ne _ _ _ (by omega), u2_ne _ _ _ (by omega)]
      have m2 : N' 142 = va_up (N 142) n x := by rw [← hN, u2_ne _ _ _ (by omega), u2_ne _ _ _ (by omega), u2_eq]
      have m3 : N' 143 = va_up (N 143) n r := by rw [← hN, u2_ne _ _ _ (by omega), u2_eq, u2_ne _ _ _ (by omega)]
      refine ⟨N', n, rfl, ?_, Nat.le_refl _, hp, m7, fun j hj => ?_, ?_, fun j j0 j1 => ?_⟩
      · rw [← hN]
        exact Ag.u2 (Ag.u2 (Ag.u2 (Ag.rf (A := fun a => a = 137 ∨ a = 142 ∨ a = 143) N) _ _ (Or.inr (Or.inl rfl))) _ _ (Or.inr (Or.inr rfl))) _ _ (Or.inl rfl)
      · rw [m2, m3, up_ne _ _ (by omega), up_ne _ _ (by omega)]; exact ha j hj
      · rw [m2, m3, up_eq, up_eq]; exact ⟨rfl, rfl⟩
      · rw [m2, m3, up_ne _ _ (by omega), up_ne _ _ (by omega)]; exact hb j j0 j1
    match n, h1, ha, hb, fin with
    | 0, h1, ha, hb, fin =>
      rw [q_10_15 (w := w.m N), dt (by omega)]
      exact fin (Or.inl rfl)
    | n + 1, h1, ha, hb, fin =>
      have e1 : i_sub ((n + 1 : Nat) : Int) 1 = (n : Int) := by rw [is_ (by omega) (by omega)]; omega
      have tn : ((n : Int)).toNat = n := by omega
      have tn1 : (((n + 1 : Nat) : Int)).toNat = n + 1 := by omega
      rw [q_10_15 (w := w.m N), e1, mi_sM, tn, tn1, (ha n (by omega)).1, (ha n (by omega)).2]
      simp (disch := omega) only [dt, df, zb, sI_sM]
      by_cases c : r ≤ Q n
      · rw [dt c]
        exact fin (Or.inr c)
      · rw [df c]
        simp only [cond_false]
        have ea : i_add ((n + 1 : Nat) : Int) (-1) = (n : Int) := by rw [ia (by omega) (by omega)]; omega
        rw [ea]
        generalize hN : up2 (up2 N 142 (n + 1) (O n)) 143 (n + 1) (Q n) = N1
        have m7 : N1 137 = N 137 := by rw [← hN, u2_ne _ _ _ (by omega), u2_ne _ _ _ (by omega)]
        have m2 : N1 142 = va_up (N 142) (n + 1) (O n) := by rw [← hN, u2_ne _ _ _ (by omega), u2_eq]
        have m3 : N1 143 = va_up (N 143) (n + 1) (Q n) := by rw [← hN, u2_eq, u2_ne _ _ _ (by omega)]
        have g1 : Ag (fun a => a = 137 ∨ a = 142 ∨ a = 143) N N1 := by
          rw [← hN]
          exact Ag.u2 (Ag.u2 (Ag.rf (A := fun a => a = 137 ∨ a = 142 ∨ a = 143) N) _ _ (Or.inr (Or.inl rfl))) _ _ (Or.inr (Or.inr rfl))
        obtain ⟨N', p, e, g, p1, p2, p3, p4, p5, p6⟩ := l_10 w d l7 (x := x) (r := r) (O := O) (Q := Q) n N1 (by omega) (by rw [m7]; exact h6) (fun j hj => by rw [m2, m3, up_ne _ _ (by omega), up_ne _ _ (by omega)]; exact ha j (by omega)) (fun j j0 j1 => by
          by_cases z : j = n
          · rw [z, m2, m3, up_eq, up_eq]; exact ⟨rfl, rfl, by omega⟩
          · rw [m2, m3, up_ne _ _ (by omega), up_ne _ _ (by omega)]; exact hb j (by omega) j1)
        exact ⟨N', p, e, g1.tr g, by omega, p2, by rw [p3, m7], p4, p5, p6⟩
theorem QL.ins {M : MM} {i len : Int} {O O' : Nat → Int} (q : QL M E i len O) (hb : bit (M 172 132) i ≠ 1) {p : Nat} (hp : (p : Int) ≤ len) (p2 : p = 0 ∨ rkV M E i ≤ rkV M E (O (p - 1))) (p4 : ∀ j : Nat, j < p → O' j = O j) (p5 : O' p = i) (p6 : ∀ j : Nat, p ≤ j → (j : Int) < len → O' (j + 1) = O j ∧ rkV M E (O j) < rkV M E i) : QL M E (i + 1) (len + 1) O' := by
  obtain ⟨q1, q2, q3, q4⟩ := q
  -- before p ranks are no less
  have ge : ∀ j : Nat, j < p → rkV M E i ≤ rkV M E (O j) := fun j hj => by
    rcases p2 with z | z
    · omega
    · by_cases y : j = p - 1
      · rw [y]; exact z
      · have := q3 j (p - 1) (by omega) (by omega)
        unfold Bf at this; omega
  have at_ : ∀ j : Nat, (j : Int) < len + 1 → (j < p ∧ O' j = O j) ∨ (j = p ∧ O' j = i) ∨ (p < j ∧ O' j = O (j - 1) ∧ rkV M E (O (j - 1)) < rkV M E i) := fun j hj => by
    by_cases z : j < p
    · exact Or.inl ⟨z, p4 j z⟩
    · by_cases y : j = p
      · exact Or.inr (Or.inl ⟨y, by rw [y]; exact p5⟩)
      · have := p6 (j - 1) (by omega) (by omega)
        rw [show j - 1 + 1 = j by omega] at this
        exact Or.inr (Or.inr ⟨by omega, this.1, this.2⟩)
  refine ⟨by omega, fun j hj => ?_, fun a b hab hbl => ?_, fun l l0 l1 lb => ?_⟩
  · rcases at_ j hj with ⟨z, e⟩ | ⟨z, e⟩ | ⟨z, e, _⟩
    · rw [e]; have := q2 j (by omega); exact ⟨⟨this.1.1, by omega⟩, this.2⟩
    · rw [e]; exact ⟨⟨by omega, by omega⟩, hb⟩
    · rw [e]; have := q2 (j - 1) (by omega); exact ⟨⟨this.1.1, by omega⟩, this.2⟩
  · rcases at_ a (by omega) with ⟨za, ea⟩ | ⟨za, ea⟩ | ⟨za, ea, ra⟩
    · rw [ea]
      rcases at_ b hbl with ⟨zb, eb⟩ | ⟨zb, eb⟩ | ⟨zb, eb, rb⟩
      · rw [eb]; exact q3 a b hab (by omega)
      · rw [eb]
        have := ge a za
        have o := (q2 a (by omega)).1.2
        unfold Bf; omega
      · rw [eb]; exact q3 a (b - 1) (by omega) (by omega)
    · rw [ea]
      rcases at_ b hbl with ⟨zb, eb⟩ | ⟨zb, eb⟩ | ⟨zb, eb, rb⟩
      · omega
      · omega
      · rw [eb]; exact Or.inl rb
    · rw [ea]
      rcases at_ b hbl with ⟨zb, eb⟩ | ⟨zb, eb⟩ | ⟨zb, eb, rb⟩
      · omega
      · omega
      · rw [eb]; exact q3 (a - 1) (b - 1) (by omega) (by omega)
  · by_cases z : l = i
    · exact ⟨p, by omega, by rw [z]; exact p5⟩
    · obtain ⟨j, j1, j2⟩ := q4 l l0 (by omega) lb
      by_cases y : j < p
      · exact ⟨j, by omega, by rw [p4 j y]; exact j2⟩
      · exact ⟨j + 1, by omega, by rw [(p6 j (by omega) j1).1]; exact j2⟩
end
