/-! the class: until, share, stump -/
theorem mlS_i {M : MM} {E : EE} {hr nt : Int} : ∀ (k : Nat) (i : Int) (S : Nat → Int), 0 ≤ i → i + k ≤ 60 → ∀ j : Int, 0 ≤ j → j < 60 → itr (mlF M E hr nt) k i S j.toNat = if i ≤ j ∧ j < i + k then S j.toNat - min (S j.toNat) (meV M E j hr nt) else S j.toNat
  | 0, i, S, h0, h1, j, j0, j1 => by rw [if_neg (by omega)]; rfl
  | k + 1, i, S, h0, h1, j, j0, j1 => by
    show itr (mlF M E hr nt) k (i + 1) (mlF M E hr nt i S) j.toNat = _
    rw [mlS_i k (i + 1) _ (by omega) (by omega) j j0 j1]
    have mb := meV_b M E j hr nt
    by_cases z : j = i
    · subst z
      rw [if_neg (by omega), if_pos (by omega)]
      unfold mlF
      by_cases y : S j.toNat = 0
      · rw [if_pos y, y]; omega
      · rw [if_neg y, up_ne _ _ (by omega), up_eq]
    · have e : mlF M E hr nt i S j.toNat = S j.toNat := by
        unfold mlF
        split
        · rfl
        · rw [up_ne _ _ (by omega), up_ne _ _ (by omega)]
      rw [e]
      by_cases y : i + 1 ≤ j ∧ j < i + 1 + k
      · rw [if_pos y, if_pos (by omega)]
      · rw [if_neg y, if_neg (by omega)]
theorem mlS_c {M : MM} {E : EE} {hr : Int} {S : Nat → Int} {j : Int} (j0 : 0 ≤ j) (j1 : j < 60) : mlS M E hr S j.toNat = S j.toNat - min (S j.toNat) (meV M E j hr (S 134)) := by
  unfold mlS
  rw [mlS_i 60 0 S (by omega) (by omega) j j0 j1, if_pos (by omega)]
theorem psS_c {M : MM} {E : EE} {S : Nat → Int} (p0 : 0 ≤ M 147 2) {j : Int} (j0 : 0 ≤ j) (j1 : j < 60) : psS M E S j.toNat = if 11 < S 133 then S j.toNat - min (S j.toNat) (meV M E j (S 133) (S 134)) else S j.toNat := by
  unfold psS
  by_cases c : S 133 = 23
  · rw [if_pos c, if_pos (by omega), flS_at p0, if_neg (by omega), if_neg (by omega), up_ne _ _ (by omega), up_ne _ _ (by omega), mlS_c j0 j1, c]
  · rw [if_neg c, up_ne _ _ (by omega)]
    split
    · rw [mlS_c j0 j1]
    · rfl
/-- for how many hours a cell stays so thick: x now, hour hr of night nt -/
def haN (M : MM) (E : EE) (c nd : Int) : Nat → Int → Int → Int → Int
  | 0, _, _, _ => 0
  | k + 1, x, hr, nt => if nd ≤ x then 1 + haN M E c nd k (if 12 ≤ hr then x - meV M E c hr nt else x) (if hr = 23 then 0 else hr + 1) (if hr = 23 then nt + 1 else nt) else 0
theorem haN_b (M : MM) (E : EE) (c nd : Int) : ∀ (k : Nat) (x hr nt : Int), 0 ≤ haN M E c nd k x hr nt ∧ haN M E c nd k x hr nt ≤ k
  | 0, _, _, _ => ⟨Int.le_refl _, Int.le_refl _⟩
  | k + 1, x, hr, nt => by
    unfold haN
    split
    · have := haN_b M E c nd k (if 12 ≤ hr then x - meV M E c hr nt else x) (if hr = 23 then 0 else hr + 1) (if hr = 23 then nt + 1 else nt)
      omega
    · omega
/-- below nd it does not matter by how much -/
theorem haN_0 (M : MM) (E : EE) {c nd : Int} : ∀ (k : Nat) (x y hr nt : Int), (nd ≤ x → x = y) → (x < nd → y < nd) → haN M E c nd k x hr nt = haN M E c nd k y hr nt
  | 0, _, _, _, _, _, _ => rfl
  | k + 1, x, y, hr, nt, h1, h2 => by
    by_cases z : nd ≤ x
    · rw [h1 z]
    · unfold haN
      rw [if_neg z, if_neg (by have := h2 (by omega); omega)]
/-- the least over the cells of a row -/
def hmN (M : MM) (E : EE) (nd row : Int) (k : Nat) (S : Nat → Int) (j : Int) : Int := if M 148 (10 * row + j).toNat = 1 then k else haN M E (10 * row + j) nd k (S (10 * row + j).toNat) (S 133) (S 134)
def mnI (F : Int → Int) (i a : Int) : Int := min a (F i)
theorem mnI_le (F : Int → Int) (x : Int) : ∀ (k : Nat) (i a : Int), x ≤ itr (mnI F) k i a ↔ x ≤ a ∧ ∀ j : Int, i ≤ j → j < i + k → x ≤ F j
  | 0, i, a => ⟨fun h => ⟨h, fun j h1 h2 => by omega⟩, fun h => h.1⟩
  | k + 1, i, a => by
    show x ≤ itr (mnI F) k (i + 1) (mnI F i a) ↔ _
    rw [mnI_le F x k (i + 1) (mnI F i a)]
    unfold mnI
    constructor
    · rintro ⟨h1, h2⟩
      refine ⟨by omega, fun j h3 h4 => ?_⟩
      by_cases hj : j = i
      · subst hj; omega
      · exact h2 j (by omega) (by omega)
    · rintro ⟨h1, h2⟩
      have := h2 i (by omega) (by omega)
      exact ⟨by omega, fun j h3 h4 => h2 j (by omega) (by omega)⟩
theorem utN_ge {M : MM} {E : EE} (fb : FB M 0) {nd row : Int} (n1 : 1 ≤ nd) (n9 : nd ≤ 99) (r0 : 0 ≤ row) (r1 : row < 6) (x : Int) : ∀ (k : Nat) (S : Nat → Int), SB M 0 S → S 134 + k ≤ 1000000 → (x ≤ utN M E nd row k S ↔ x ≤ k ∧ ∀ j : Int, 0 ≤ j → j < M 147 0 → x ≤ hmN M E nd row k S j)
  | 0, S, sb, hn => by
    have cc : 2 ≤ M 147 0 ∧ M 147 0 ≤ 10 := fb.1
    refine ⟨fun h => ⟨h, fun j j0 j1 => ?_⟩, fun h => h.1⟩
    unfold hmN haN
    have h : x ≤ 0 := h
    split
    · exact h
    · exact h
  | k + 1, S, sb, hn => by
    have cc : 2 ≤ M 147 0 ∧ M 147 0 ≤ 10 := fb.1
    have pp : 0 ≤ M 147 2 ∧ M 147 2 ≤ 6 := fb.2.2.1
    have pb := psS_b (E := E) fb sb (by omega)
    obtain ⟨_, _, _, _, _, _, a7, a8⟩ := psS_at (E := E) pp.1 pp.2 sb.c99
    have s4 := sb.2.2.2.1
    have key : nd ≤ tnS M S row ↔ ∀ j : Int, 0 ≤ j → j < M 147 0 → M 148 (10 * row + j).toNat ≠ 1 → nd ≤ S (10 * row + j).toNat := by
      unfold tnS
      rw [lo_ge_iff]
      constructor
      · rintro ⟨_, h2⟩ j j0 j1 hj
        have := h2 j j0 j1
        have e : ((j.toNat : Nat) : Int) = j := by omega
        simp only [e] at this
        rw [if_neg hj] at this
        exact this
      · intro h2
        refine ⟨n9, fun j j0 j1 => ?_⟩
        have e : ((j.toNat : Nat) : Int) = j := by omega
        simp only [e]
        split
        · omega
        · rename_i z; exact h2 j j0 j1 z
    -- a cell's next hour
    have nx : ∀ j : Int, 0 ≤ j → j < M 147 0 → nd ≤ tnS M S row → hmN M E nd row (k + 1) S j = 1 + hmN M E nd row k (psS M E S) j := fun j j0 j1 ht => by
      unfold hmN
      by_cases z : M 148 (10 * row + j).toNat = 1
      · rw [if_pos z, if_pos z]; omega
      · rw [if_neg z, if_neg z]
        have hx := key.mp ht j j0 j1 z
        have c9 := sb.c99 (10 * row + j).toNat (by omega)
        have mb := meV_b M E (10 * row + j) (S 133) (S 134)
        rw [psS_c pp.1 (show 0 ≤ 10 * row + j by omega) (by omega)]
        have e1 : (if S 133 = 23 then 0 else S 133 + 1) = psS M E S 133 := by
          by_cases y : S 133 = 23
          · rw [if_pos y, (a7 y).1]
          · rw [if_neg y, (a8 y).1]
        have e2 : (if S 133 = 23 then S 134 + 1 else S 134) = psS M E S 134 := by
          by_cases y : S 133 = 23
          · rw [if_pos y, (a7 y).2.1]
          · rw [if_neg y, (a8 y).2.1]
        show (if nd ≤ S (10 * row + j).toNat then 1 + haN M E (10 * row + j) nd k (if 12 ≤ S 133 then S (10 * row + j).toNat - meV M E (10 * row + j) (S 133) (S 134) else S (10 * row + j).toNat) (if S 133 = 23 then 0 else S 133 + 1) (if S 133 = 23 then S 134 + 1 else S 134) else 0) = _
        rw [if_pos hx, e1, e2]
        congr 1
        refine haN_0 M E k _ _ _ _ ?_ ?_
        · by_cases y : 12 ≤ S 133
          · rw [if_pos y, if_pos (by omega)]; omega
          · rw [if_neg y, if_neg (by omega)]; omega
        · by_cases y : 12 ≤ S 133
          · rw [if_pos y, if_pos (by omega)]; omega
          · rw [if_neg y, if_neg (by omega)]; omega
    show x ≤ (if nd ≤ tnS M S row then 1 + utN M E nd row k (psS M E S) else 0) ↔ _
    by_cases ht : nd ≤ tnS M S row
    · rw [if_pos ht]
      have ih := utN_ge (E := E) fb n1 n9 r0 r1 (x - 1) k (psS M E S) pb.1 (by omega)
      constructor
      · intro hx
        have := ih.mp (by omega)
        refine ⟨by omega, fun j j0 j1 => ?_⟩
        rw [nx j j0 j1 ht]
        have := this.2 j j0 j1
        omega
      · rintro ⟨h1, h2⟩
        have := ih.mpr ⟨by omega, fun j j0 j1 => by have := h2 j j0 j1; rw [nx j j0 j1 ht] at this; omega⟩
        omega
    · rw [if_neg ht]
      constructor
      · intro hx
        refine ⟨by omega, fun j j0 j1 => ?_⟩
        unfold hmN
        split
        · omega
        · have := (haN_b M E (10 * row + j) nd (k + 1) (S (10 * row + j).toNat) (S 133) (S 134)).1
          omega
      · rintro ⟨h1, h2⟩
        have hn : ¬ ∀ j : Int, 0 ≤ j → j < M 147 0 → M 148 (10 * row + j).toNat ≠ 1 → nd ≤ S (10 * row + j).toNat := fun q => ht (key.mpr q)
        obtain ⟨j, hj⟩ := Classical.not_forall.mp hn
        obtain ⟨j0, hj⟩ := Classical.not_forall.mp hj
        obtain ⟨j1, hj⟩ := Classical.not_forall.mp hj
        obtain ⟨j2, hj⟩ := Classical.not_forall.mp hj
        have := h2 j j0 j1
        unfold hmN at this
        rw [if_neg j2] at this
        unfold haN at this
        rw [if_neg hj] at this
        exact this
theorem ut_is {M : MM} {E : EE} (v : VM M E) {nd row : Int} (n1 : 1 ≤ nd) (n9 : nd ≤ 99) (r0 : 0 ≤ row) (r1 : row < 6) (hn : M 172 134 + 1000 ≤ 1000000) : utN M E nd row 24 (M 172) = itr (mnI (hmN M E nd row 24 (M 172))) (M 147 0).toNat 0 24 := by
  have cc := v.c
  have h : ∀ x, x ≤ utN M E nd row 24 (M 172) ↔ x ≤ itr (mnI (hmN M E nd row 24 (M 172))) (M 147 0).toNat 0 24 := fun x => by
    rw [utN_ge v.1 n1 n9 r0 r1 x 24 (M 172) v.2.1 (by omega), mnI_le]
    constructor
    · rintro ⟨h1, h2⟩; exact ⟨h1, fun j j0 j1 => h2 j j0 (by omega)⟩
    · rintro ⟨h1, h2⟩; exact ⟨h1, fun j j0 j1 => h2 j j0 (by omega)⟩
  have a := (h _).mp (Int.le_refl _)
  have b := (h _).mpr (Int.le_refl _)
  omega
section
variable {h : HP} {t : Nat} {E : EE} {S : Nat → Int}
theorem l_52 (k : Cu h t E) (d : Nat) {c nd : Int} (c0 : 0 ≤ c) (c1 : c < 60) : ∀ (n : Nat) (i x hr nt : Int) (v5 : AV) (N : MM), (24 - i).toNat = n → 0 ≤ i → i ≤ 24 → -1000 - 9 * i ≤ -1000 - 9 * i → -9 * i ≤ x → x ≤ 99 → hr = (h_mi h 172 133 + i) % 24 → nt = h_mi h 172 134 + (h_mi h 172 133 + i) / 24 → Ag (CqA t) (h_mi h) N → ∃ N', run (d + 3) md_52 26 [vr 106, vi c, vi nd, vi x, vi i, v5] [] (sM h N) = some (vi (i + haN (h_mi h) E c nd n x hr nt), sM h N') ∧ Ag (CqA t) (h_mi h) N'
  | 0, i, x, hr, nt, v5, N, h1, h2, h3, _, x0, x1, eh, en, g => by
    refine ⟨N, ?_, g⟩
    have k1 := k.q g
    have : i = 24 := by omega
    subst this
    rw [q_52_26 (w := k1.cs) (f := k1.fj) (ht := k1.ht), dt (by omega)]; rfl
  | n + 1, i, x, hr, nt, v5, N, h1, h2, h3, _, x0, x1, eh, en, g => by
    have hb := k.vm.hr
    have nb := k.vm.nt
    have k1 := k.q g
    have d6 : h_mi (sM h N) 106 6 = h_mi h 172 133 := by rw [mi_sM]; exact (k.dat g).2.2.2.2.2.2.2.2.2.2.2.2.2.2.2.2.2.2.1
    have d7 : h_mi (sM h N) 106 7 = h_mi h 172 134 := by rw [mi_sM]; exact (k.dat g).2.2.2.2.2.2.2.2.2.2.2.2.2.2.2.2.2.2.2.1
    rw [q_52_26 (w := k1.cs) (f := k1.fj) (ht := k1.ht), d6, d7, df (by omega), ia (by omega) (by omega), ir (by omega) (by omega) (by omega) (by omega), id_ (by omega) (by omega) (by omega) (by omega), ia (x := h_mi h 172 134) (by omega) (by omega), ← eh, ← en]
    have s1 : (if hr = 23 then 0 else hr + 1) = (h_mi h 172 133 + (i + 1)) % 24 := by split <;> omega
    have s2 : (if hr = 23 then nt + 1 else nt) = h_mi h 172 134 + (h_mi h 172 133 + (i + 1)) / 24 := by split <;> omega
    by_cases z : nd ≤ x
    · have eH : haN (h_mi h) E c nd (n + 1) x hr nt = 1 + haN (h_mi h) E c nd n (if 12 ≤ hr then x - meV (h_mi h) E c hr nt else x) (if hr = 23 then 0 else hr + 1) (if hr = 23 then nt + 1 else nt) := if_pos z
      rw [eH, dt z]
      by_cases y : hr < 12
      · rw [dt y, if_neg (show ¬ 12 ≤ hr by omega)]
        obtain ⟨N2, e2, g2⟩ := l_52 k d (nd := nd) c0 c1 n (i + 1) x _ _ (vi (h_mi h 172 133 + i)) N (by omega) (by omega) (by omega) (by omega) (by omega) x1 s1 s2 g
        refine ⟨N2, ?_, g2⟩
        rw [ia (x := i) (by omega) (by omega)]
        simp only [cond_true, cond_false]
        rw [e2]; congr 3; omega
      · have mb := meV_b (h_mi h) E c hr nt
        obtain ⟨N1, e1, g1⟩ := c_30 k1 d c hr nt c0 c1
        rw [mi_sM, sM_sM, meV_ag (k.rr g 149 (by omega) (by omega))] at e1
        obtain ⟨N2, e2, g2⟩ := l_52 k d (nd := nd) c0 c1 n (i + 1) (x - meV (h_mi h) E c hr nt) _ _ (vi (h_mi h 172 133 + i)) N1 (by omega) (by omega) (by omega) (by omega) (by omega) (by omega) s1 s2 (g.tr g1)
        rw [df y, if_pos (show 12 ≤ hr by omega)]
        refine ⟨N2, ?_, g2⟩
        rw [e1]
        simp only [cond_true, cond_false, bI_s]
        rw [q_52_84, is_ (by omega) (by omega), ia (x := i) (by omega) (by omega), e2]
        congr 3; omega
    · have eH : haN (h_mi h) E c nd (n + 1) x hr nt = 0 := if_neg z
      refine ⟨N, ?_, g⟩
      rw [eH, df z, Int.add_zero]; rfl
theorem c_52 (k : Cu h t E) (d : Nat) {row j nd : Int} (r0 : 0 ≤ row) (r1 : row < 6) (j0 : 0 ≤ j) (j1 : j < 10) : ∃ N, ev (d + 3) 52 [vr 106, vi (10 * row + j), vi nd] h = some (vi (hmN (h_mi h) E nd row 24 (h_mi h 172) j), sM h N) ∧ Ag (CqA t) (h_mi h) N := by
  have hb := k.vm.hr
  have tb := (k.vm.s (c := (10 * row + j).toNat) (by omega)).1
  rw [v_52, q_52_0 (w := k.cs) (f := k.fj) (ht := k.ht)]
  simp (disch := omega) only [k.dat (Ag.rf _), dt, df, zb]
  unfold hmN
  by_cases z : h_mi h 148 (10 * row + j).toNat = 1
  · refine ⟨h_mi h, ?_, Ag.rf _⟩
    rw [df (by omega), if_pos z]; rfl
  · obtain ⟨N, e, g⟩ := l_52 k d (c := 10 * row + j) (nd := nd) (by omega) (by omega) 24 0 (h_mi h 172 (10 * row + j).toNat) (h_mi h 172 133) (h_mi h 172 134) vu (h_mi h) rfl (by omega) (by omega) (by omega) (by omega) (by omega) (by omega) (by omega) (Ag.rf _)
    rw [sM_self, Int.zero_add] at e
    rw [dt z, if_neg z]
    exact ⟨N, e, g⟩
theorem hmN_rr {M N : MM} (g : ∀ a, 145 ≤ a → a ≤ 180 → N a = M a) (E : EE) (nd row : Int) (S : Nat → Int) (j : Int) : hmN N E nd row 24 S j = hmN M E nd row 24 S j := by
  have key : ∀ (k : Nat) (c x hr nt : Int), haN N E c nd k x hr nt = haN M E c nd k x hr nt := by
    intro k
    induction k with
    | zero => intros; rfl
    | succ k ih =>
      intro c x hr nt
      unfold haN
      rw [meV_ag (g 149 (by omega) (by omega)), ih]
  unfold hmN
  rw [g 148 (by omega) (by omega), key]
theorem l_120 (k : Cu h t E) (d : Nat) {l row : Int} (l0 : 0 ≤ l) (l1 : l < h_mi h 147 3) (r0 : 0 ≤ row) (r1 : row < 6) : ∀ (n : Nat) (i a : Int) (N : MM), (h_mi h 147 0 - i).toNat = n → 0 ≤ i → i ≤ h_mi h 147 0 → Ag (CqA t) (h_mi h) N → ∃ N', run (d + 4) md_120 33 [vr 100, vi l, vi row, vr t, vi a, vi i] [] (sM h N) = some (vi (itr (mnI (hmN (h_mi h) E (ndV (h_mi h) l) row 24 (h_mi h 172))) n i a), sM h N') ∧ Ag (CqA t) (h_mi h) N'
  | 0, i, a, N, h1, h2, h3, g => by
    refine ⟨N, ?_, g⟩
    have k1 := k.q g
    rw [q_120_33 (w := k1.cs) (f := k1.fj), k1.dc, mi_sM, k.rr g 147 (by omega) (by omega), dt (by omega)]; rfl
  | n + 1, i, a, N, h1, h2, h3, g => by
    have cc := k.vm.c
    have l7 := k.vm.l
    have k1 := k.qu g
    have n7 : h_mi (sM h N) (t + 7) l.toNat = ndV (h_mi h) l := by rw [mi_sM]; exact (k.dat g).2.2.2.2.2.2.2.2.2.2.2.1 l l0 l1
    obtain ⟨N1, e1, g1⟩ := c_52 k1 d (row := row) (j := i) (nd := ndV (h_mi h) l) r0 r1 h2 (by omega)
    rw [mi_sM, sM_sM, hmN_rr (fun a x y => k.rr g a x (by omega)), k.rr g 172 (by omega) (by omega)] at e1
    obtain ⟨N2, e2, g2⟩ := l_120 k d l0 l1 r0 r1 n (i + 1) (min a (hmN (h_mi h) E (ndV (h_mi h) l) row 24 (h_mi h 172) i)) N1 (by omega) (by omega) (by omega) (g.tr g1)
    refine ⟨N2, ?_, g2⟩
    rw [q_120_33 (w := k1.cs) (f := k1.fj), Cg.dc k1, mi_sM, k.rr g 147 (by omega) (by omega), df (by omega), c_141 _ _ _ _ (by omega) (by omega) (by omega) (by omega)]
    simp only [cond_false, bI_s]
    rw [q_120_54 (w := k1.cs) (f := k1.fj), n7, dt (show 0 ≤ l by omega), dt (show l < 7 by omega), e1]
    simp only [zb, bI_s]
    rw [q_120_63, ia (by omega) (by omega)]
    exact e2
theorem k_until (k : Cu h t E) (d : Nat) (l row : Int) (hn : h_mi h 172 134 + 1000 ≤ 1000000) : ∃ h1, ev (d + 4) 120 [vr 100, vi l, vi row] h = some (vi (untilV (h_mi h) E l row), h1) ∧ Sq t h h1 := by
  have rr := k.vm.r
  have cc := k.vm.c
  rw [v_120, q_120_0 (w := k.cs) (f := k.fj) (ht := k.ht), c_25 _ _ k.fj k.dl, bI_s, q_120_13 (f := k.fj)]
  unfold untilV
  by_cases c1 : 0 ≤ l ∧ l < h_mi h 147 3
  · rw [bb_dt c1, c_22 _ _ k.fj k.dr]
    simp only [cond_false, bI_s]
    rw [q_120_21]
    by_cases c2 : 0 ≤ row ∧ row < h_mi h 147 1
    · have nb := ndV_b k.vm c1.1 c1.2
      obtain ⟨N, e, g⟩ := l_120 k d c1.1 c1.2 c2.1 (by omega) _ 0 24 (h_mi h) rfl (by omega) (by omega) (Ag.rf _)
      rw [sM_self, Int.sub_zero, ← ut_is k.vm (by omega) (by omega) c2.1 (by omega) hn] at e
      rw [bb_nt c2, if_pos ⟨c1, c2⟩]
      exact ⟨sM h N, e, Sq.of g⟩
    · rw [bb_nf c2, if_neg (fun z => c2 z.2)]
      exact ⟨h, rfl, Sq.rf t h⟩
  · rw [bb_df c1, if_neg (fun z => c1 z.1)]
    exact ⟨h, rfl, Sq.rf t h⟩
end
