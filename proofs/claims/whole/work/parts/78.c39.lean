/-! laws: how the reference works out a line -/
def opM (N : MM) (d : Nat) : MM := up2 (up2 (up2 (up2 (up2 N 163 d 0) 165 d 0) 166 d 0) 167 d 20) 169 d 0
def PS (N : MM) (d : Nat) : Int := if N 167 d = 21 then i_sub (N 166 d) (N 168 d) else i_add (N 166 d) (N 168 d)
def PT (N : MM) (d : Nat) : Int := if N 165 d = 24 then (if N 164 d < PS N d then 1 else 0) else if N 165 d = 25 then (if N 164 d = PS N d then 1 else 0) else PS N d
def PK (N : MM) (d : Nat) : Int := if N 163 d = 26 then (if N 162 d ≠ 0 ∧ PT N d ≠ 0 then 1 else 0) else if N 163 d = 27 then (if N 162 d ≠ 0 ∨ PT N d ≠ 0 then 1 else 0) else PT N d
def suM (N : MM) (d : Nat) : MM := up2 (up2 N 166 d (PS N d)) 169 d 0
def teM (N : MM) (d : Nat) : MM := up2 (up2 (up2 (up2 (suM N d) 162 d (PK N d)) 165 d 0) 166 d 0) 167 d 20
theorem m_160 {h : HP} (w : RSk h) (dd : Nat) (N : MM) (d : Nat) (hd : d < 7) : ev dd 160 [vr 145, vi (d : Int)] (sM h N) = some (vr 0, sM h (opM N d)) := by
  rw [v_160, q_160_0 (w := w.m _)]
  simp (disch := omega) only [dt, df, zb, Int.toNat_natCast, sI_sM]
  rfl
theorem m_161 {h : HP} (w : RSk h) (dd : Nat) (N : MM) (d : Nat) (hd : d < 7) : ev dd 161 [vr 145, vi (d : Int)] (sM h N) = some (vr 0, sM h (suM N d)) := by
  rw [v_161, q_161_0 (w := w.m _), Int.toNat_natCast, mi_sM, dt (show 0 ≤ (d : Int) by omega), dt (show (d : Int) < 7 by omega)]
  unfold suM PS
  by_cases z : N 167 d = 21
  · rw [df (show ¬ N 167 d ≠ 21 by omega), if_pos z]; rfl
  · rw [dt z, if_neg z]; rfl
theorem m_162 {h : HP} (w : RSk h) (dd : Nat) (N : MM) (d : Nat) (hd : d < 7) : ev (dd + 1) 162 [vr 145, vi (d : Int)] (sM h N) = some (vr 0, sM h (teM N d)) := by
  have s5 : suM N d 165 d = N 165 d := by unfold suM; rw [u2_ne _ _ _ (by omega), u2_ne _ _ _ (by omega)]
  have s4 : suM N d 164 d = N 164 d := by unfold suM; rw [u2_ne _ _ _ (by omega), u2_ne _ _ _ (by omega)]
  have s3 : suM N d 163 d = N 163 d := by unfold suM; rw [u2_ne _ _ _ (by omega), u2_ne _ _ _ (by omega)]
  have s2 : suM N d 162 d = N 162 d := by unfold suM; rw [u2_ne _ _ _ (by omega), u2_ne _ _ _ (by omega)]
  have s6 : suM N d 166 d = PS N d := by unfold suM; rw [u2_ne _ _ _ (by omega), u2_at]
  rw [v_162, q_162_0 (w := w.m _), m_161 w dd N d hd, bV_s]
  have a1 : run (dd + 1) md_162 5 [vr 145, vi (d : Int), vu] [] (sM h (suM N d)) = run (dd + 1) md_162 76 [vr 145, vi (d : Int), vi (PT N d)] [] (sM h (suM N d)) := by
    rw [q_162_5 (w := w.m _)]
    simp (disch := omega) only [dt, df, zb, Int.toNat_natCast]
    simp only [mi_sM, s5, s4, s6]
    unfold PT
    by_cases c1 : N 165 d = 24
    · rw [df (show ¬ N 165 d ≠ 24 by omega), if_pos c1]
      have r44 : ∀ x : Int, run (dd + 1) md_162 44 [vr 145, vi (d : Int), vi x] [] (sM h (suM N d)) = run (dd + 1) md_162 76 [vr 145, vi (d : Int), vi x] [] (sM h (suM N d)) := fun x => by
        rw [q_162_44 (w := w.m _), Int.toNat_natCast, mi_sM, s5, dt (show 0 ≤ (d : Int) by omega), dt (show (d : Int) < 7 by omega), dt (show N 165 d ≠ 25 by omega)]; rfl
      simp only [r44]
      by_cases c2 : N 164 d < PS N d
      · rw [df (show ¬ PS N d ≤ N 164 d by omega), if_pos c2]; rfl
      · rw [dt (show PS N d ≤ N 164 d by omega), if_neg c2]; rfl
    · rw [dt c1, if_neg c1]
      simp only [zb]
      rw [q_162_44 (w := w.m _), Int.toNat_natCast, mi_sM, s5, s4, s6, dt (show 0 ≤ (d : Int) by omega), dt (show (d : Int) < 7 by omega)]
      by_cases c2 : N 165 d = 25
      · rw [df (show ¬ N 165 d ≠ 25 by omega), if_pos c2]
        by_cases c3 : N 164 d = PS N d
        · rw [df (show ¬ N 164 d ≠ PS N d by omega), if_pos c3]; rfl
        · rw [dt c3, if_neg c3]; rfl
      · rw [dt c2, if_neg c2]; rfl
  have r106 : ∀ x : Int, N 163 d ≠ 27 → run (dd + 1) md_162 106 [vr 145, vi (d : Int), vi x] [] (sM h (suM N d)) = run (dd + 1) md_162 136 [vr 145, vi (d : Int), vi x] [] (sM h (suM N d)) := fun x hx => by
    rw [q_162_106 (w := w.m _), Int.toNat_natCast, mi_sM, s3, dt (show 0 ≤ (d : Int) by omega), dt (show (d : Int) < 7 by omega), dt hx]; rfl
  have a2 : run (dd + 1) md_162 76 [vr 145, vi (d : Int), vi (PT N d)] [] (sM h (suM N d)) = run (dd + 1) md_162 136 [vr 145, vi (d : Int), vi (PK N d)] [] (sM h (suM N d)) := by
    rw [q_162_76 (w := w.m _), Int.toNat_natCast, mi_sM, s3, s2, dt (show 0 ≤ (d : Int) by omega), dt (show (d : Int) < 7 by omega)]
    unfold PK
    by_cases c1 : N 163 d = 26
    · have n27 : N 163 d ≠ 27 := by omega
      rw [df (show ¬ N 163 d ≠ 26 by omega), if_pos c1]
      simp only [r106 _ n27]
      by_cases c2 : N 162 d = 0
      · rw [dt c2, if_neg (fun q => q.1 c2)]; rfl
      · rw [df c2]
        by_cases c3 : PT N d = 0
        · rw [dt c3, if_neg (fun q => q.2 c3)]; rfl
        · rw [df c3, if_pos ⟨c2, c3⟩]; rfl
    · rw [dt c1, if_neg c1]
      simp only [zb]
      rw [q_162_106 (w := w.m _), Int.toNat_natCast, mi_sM, s3, s2, dt (show 0 ≤ (d : Int) by omega), dt (show (d : Int) < 7 by omega)]
      by_cases c2 : N 163 d = 27
      · rw [df (show ¬ N 163 d ≠ 27 by omega), if_pos c2]
        by_cases c3 : N 162 d = 0
        · rw [df (show ¬ N 162 d ≠ 0 by omega)]
          by_cases c4 : PT N d = 0
          · rw [dt c4, if_neg (by omega)]; rfl
          · rw [df c4, if_pos (Or.inr c4)]; rfl
        · rw [dt c3, if_pos (Or.inl c3)]; rfl
      · rw [dt c2, if_neg c2]; rfl
  rw [a1, a2, q_162_136 (w := w.m _)]
  simp (disch := omega) only [dt, df, zb, Int.toNat_natCast, sI_sM]
  rfl
/-- the codes rs stand from k on -/
def Cd (N : MM) (k : Int) (rs : List Int) : Prop := 0 ≤ k ∧ ∀ j : Nat, j < rs.length → N 159 (k + j).toNat = rs.getD j 0
theorem Cd.l {N : MM} {k : Int} {rs rs' : List Int} (c : Cd N k (rs ++ rs')) : Cd N k rs := ⟨c.1, fun j hj => by
  rw [c.2 j (by rw [List.length_append]; omega), List.getD_eq_getElem?_getD, List.getD_eq_getElem?_getD, List.getElem?_append_left hj]⟩
theorem Cd.r {N : MM} {k : Int} {rs rs' : List Int} (c : Cd N k (rs ++ rs')) : Cd N (k + rs.length) rs' := ⟨by have := c.1; omega, fun j hj => by
  have := c.2 (rs.length + j) (by rw [List.length_append]; omega)
  rw [show k + ((rs.length + j : Nat) : Int) = k + rs.length + j by omega] at this
  rw [this, List.getD_eq_getElem?_getD, List.getD_eq_getElem?_getD, List.getElem?_append_right (by omega), show rs.length + j - rs.length = j by omega]⟩
theorem Cd.h {N : MM} {k c : Int} {rs : List Int} (x : Cd N k (c :: rs)) : N 159 k.toNat = c := by
  have := x.2 0 (by show 0 < rs.length + 1; omega)
  rw [show k + ((0 : Nat) : Int) = k from Int.add_zero k] at this
  exact this
theorem Cd.t {N : MM} {k c : Int} {rs : List Int} (x : Cd N k (c :: rs)) : Cd N (k + 1) rs := ⟨by have := x.1; omega, fun j hj => by
  have := x.2 (j + 1) (by show j + 1 < rs.length + 1; omega)
  rw [show k + ((j + 1 : Nat) : Int) = k + 1 + j by omega] at this
  exact this⟩
def Rg (d : Nat) (N N' : MM) : Prop := (∀ a, a < 162 ∨ 170 < a → N' a = N a) ∧ ∀ a j, j < d → N' a j = N a j
theorem Rg.rf (d : Nat) (N : MM) : Rg d N N := ⟨fun _ _ => rfl, fun _ _ _ => rfl⟩
theorem Rg.tr {d : Nat} {N P Q : MM} (a : Rg d N P) (b : Rg d P Q) : Rg d N Q := ⟨fun x hx => (b.1 x hx).trans (a.1 x hx), fun x j hj => (b.2 x j hj).trans (a.2 x j hj)⟩
theorem Rg.dn {d e : Nat} {N P : MM} (a : Rg d N P) (h : e ≤ d) : Rg e N P := ⟨a.1, fun x j hj => a.2 x j (by omega)⟩
theorem Rg.u {d e : Nat} {N P : MM} (p : Rg d N P) (a : Nat) (v : Int) (ha : 162 ≤ a ∧ a ≤ 170) (he : d ≤ e) : Rg d N (up2 P a e v) := ⟨fun x hx => (u2_ne _ _ _ (by omega)).trans (p.1 x hx), fun x j hj => by
  by_cases z : x = a
  · rw [z, u2_no _ _ _ (by omega)]; exact p.2 a j hj
  · rw [u2_ne _ _ _ z]; exact p.2 x j hj⟩
theorem Cd.g {N P : MM} {k : Int} {rs : List Int} {d : Nat} (c : Cd N k rs) (g : Rg d N P) : Cd P k rs := ⟨c.1, fun j hj => by rw [g.1 159 (by omega)]; exact c.2 j hj⟩
theorem Rg.su {d e : Nat} {N P : MM} (p : Rg d N P) (he : d ≤ e) : Rg d N (suM P e) := (p.u 166 _ (by omega) he).u 169 _ (by omega) he
theorem Rg.te {d e : Nat} {N P : MM} (p : Rg d N P) (he : d ≤ e) : Rg d N (teM P e) := ((((p.su he).u 162 _ (by omega) he).u 165 _ (by omega) he).u 166 _ (by omega) he).u 167 _ (by omega) he
theorem Rg.op {d e : Nat} {N P : MM} (p : Rg d N P) (he : d ≤ e) : Rg d N (opM P e) := ((((p.u 163 _ (by omega) he).u 165 _ (by omega) he).u 166 _ (by omega) he).u 167 _ (by omega) he).u 169 _ (by omega) he
section
variable {h : HP} {N : MM} {i k : Int} {d : Nat}
/-- where a step of the line may be -/
def At (h : HP) (N : MM) (i k : Int) (d : Nat) : Prop := RSk h ∧ (0 ≤ i ∧ i < 24) ∧ (0 ≤ k ∧ k < N 158 i.toNat ∧ N 158 i.toNat ≤ 6000) ∧ d < 7
theorem st_op (a : At h N i k d) (dd : Nat) (hd : d < 6) {c : Int} (hc : N 159 k.toNat = c) (c2 : c = 28 ∨ c = 30) (v4 v5 : AV) : run (dd + 2) md_163 14 [vr 145, vi i, vi (d : Int), vi k, v4, v5] [] (sM h N) = run (dd + 2) md_163 14 [vr 145, vi i, vi ((d + 1 : Nat) : Int), vi (k + 1), vi c, v5] [] (sM h (opM (up2 N 170 (d + 1) (if c = 30 then 1 else 0)) (d + 1))) := by
  obtain ⟨w, i0, k0, d7⟩ := a
  have e1 : (d : Int) + 1 = ((d + 1 : Nat) : Int) := by omega
  have r46 : run (dd + 2) md_163 14 [vr 145, vi i, vi (d : Int), vi k, v4, v5] [] (sM h N) = run (dd + 2) md_163 46 [vr 145, vi i, vi (d : Int), vi k, vi c, v5] [] (sM h N) := by
    rw [q_163_14 (w := w.m _), mi_sM, hc, dt i0.1, dt i0.2, df (show ¬ N 158 i.toNat ≤ k by omega), dt k0.1, dt (show k < 6000 by omega)]
    rcases c2 with z | z
    · rw [dt z]; rfl
    · rw [df (show ¬ c = 28 by omega), df (show ¬ c ≠ 30 by omega)]; rfl
  rw [r46, q_163_46 (w := w.m _), ia (x := (d : Int)) (by omega) (by omega), e1]
  rcases c2 with z | z
  · rw [dt (show c ≠ 30 by omega), if_neg (show ¬ c = 30 by omega)]
    simp (disch := omega) only [dt, df, zb, Int.toNat_natCast, sI_sM]
    rw [m_160 w _ _ _ (by omega), bV_s, q_163_72, ia (by omega) (by omega)]
  · rw [df (show ¬ c ≠ 30 by omega), if_pos z]
    simp (disch := omega) only [dt, df, zb, Int.toNat_natCast, sI_sM]
    rw [m_160 w _ _ _ (by omega), bV_s, q_163_72, ia (by omega) (by omega)]
theorem st_su (a : At h N i k d) (dd : Nat) {c : Int} (hc : N 159 k.toNat = c) (c2 : c = 20 ∨ c = 21) (v4 v5 : AV) : run (dd + 2) md_163 14 [vr 145, vi i, vi (d : Int), vi k, v4, v5] [] (sM h N) = run (dd + 2) md_163 14 [vr 145, vi i, vi (d : Int), vi (k + 1), vi c, v5] [] (sM h (up2 (suM N d) 167 d c)) := by
  obtain ⟨w, i0, k0, d7⟩ := a
  have r : run (dd + 2) md_163 14 [vr 145, vi i, vi (d : Int), vi k, v4, v5] [] (sM h N) = run (dd + 2) md_163 94 [vr 145, vi i, vi (d : Int), vi k, vi c, v5] [] (sM h (suM N d)) := by
    rw [q_163_14 (w := w.m _), mi_sM, hc, dt i0.1, dt i0.2, df (show ¬ N 158 i.toNat ≤ k by omega), dt k0.1, dt (show k < 6000 by omega), m_161 w (dd + 1) N d d7]
    rcases c2 with z | z
    · rw [z]; rfl
    · rw [z]; rfl
  rw [r, q_163_94 (w := w.m _)]
  simp (disch := omega) only [dt, df, zb, Int.toNat_natCast, sI_sM, ia]
theorem st_22 (a : At h N i k d) (dd : Nat) (hc : N 159 k.toNat = 22) (v4 v5 : AV) : run (dd + 2) md_163 14 [vr 145, vi i, vi (d : Int), vi k, v4, v5] [] (sM h N) = run (dd + 2) md_163 14 [vr 145, vi i, vi (d : Int), vi (k + 1), vi 22, v5] [] (sM h (up2 N 169 d 22)) := by
  obtain ⟨w, i0, k0, d7⟩ := a
  rw [q_163_14 (w := w.m _), mi_sM, hc, dt i0.1, dt i0.2, df (show ¬ N 158 i.toNat ≤ k by omega), dt k0.1, dt (show k < 6000 by omega), dt (show 0 ≤ (d : Int) by omega), dt (show (d : Int) < 7 by omega), ia (by omega) (by omega), sI_sM, Int.toNat_natCast]
  rfl
theorem st_cm (a : At h N i k d) (dd : Nat) {c : Int} (hc : N 159 k.toNat = c) (c2 : c = 24 ∨ c = 25) (v4 v5 : AV) : run (dd + 2) md_163 14 [vr 145, vi i, vi (d : Int), vi k, v4, v5] [] (sM h N) = run (dd + 2) md_163 14 [vr 145, vi i, vi (d : Int), vi (k + 1), vi c, v5] [] (sM h (up2 (up2 (up2 (up2 (suM N d) 164 d (PS N d)) 165 d c) 166 d 0) 167 d 20)) := by
  obtain ⟨w, i0, k0, d7⟩ := a
  have r : run (dd + 2) md_163 14 [vr 145, vi i, vi (d : Int), vi k, v4, v5] [] (sM h N) = run (dd + 2) md_163 142 [vr 145, vi i, vi (d : Int), vi k, vi c, v5] [] (sM h (suM N d)) := by
    rw [q_163_14 (w := w.m _), mi_sM, hc, dt i0.1, dt i0.2, df (show ¬ N 158 i.toNat ≤ k by omega), dt k0.1, dt (show k < 6000 by omega), m_161 w (dd + 1) N d d7]
    rcases c2 with z | z
    · rw [z]; rfl
    · rw [z]; rfl
  have s6 : suM N d 166 d = PS N d := by unfold suM; rw [u2_ne _ _ _ (by omega), u2_at]
  rw [r, q_163_142 (w := w.m _)]
  simp (disch := omega) only [dt, df, zb, Int.toNat_natCast, sI_sM, ia]
  rw [mi_sM, s6]
theorem st_bo (a : At h N i k d) (dd : Nat) {c : Int} (hc : N 159 k.toNat = c) (c2 : c = 26 ∨ c = 27) (v4 v5 : AV) : run (dd + 2) md_163 14 [vr 145, vi i, vi (d : Int), vi k, v4, v5] [] (sM h N) = run (dd + 2) md_163 14 [vr 145, vi i, vi (d : Int), vi (k + 1), vi c, v5] [] (sM h (up2 (teM N d) 163 d c)) := by
  obtain ⟨w, i0, k0, d7⟩ := a
  have r : run (dd + 2) md_163 14 [vr 145, vi i, vi (d : Int), vi k, v4, v5] [] (sM h N) = run (dd + 2) md_163 199 [vr 145, vi i, vi (d : Int), vi k, vi c, v5] [] (sM h (teM N d)) := by
    rw [q_163_14 (w := w.m _), mi_sM, hc, dt i0.1, dt i0.2, df (show ¬ N 158 i.toNat ≤ k by omega), dt k0.1, dt (show k < 6000 by omega), m_162 w dd N d d7]
    rcases c2 with z | z
    · rw [z]; rfl
    · rw [z]; rfl
  rw [r, q_163_199 (w := w.m _)]
  simp (disch := omega) only [dt, df, zb, Int.toNat_natCast, sI_sM, ia]
theorem st_cl (a : At h N i k (d + 1)) (dd : Nat) (hc : N 159 k.toNat = 29) (v4 v5 : AV) : run (dd + 2) md_163 14 [vr 145, vi i, vi ((d + 1 : Nat) : Int), vi k, v4, v5] [] (sM h N) = run (dd + 2) md_163 268 [vr 145, vi i, vi (d : Int), vi k, vi 29, vi (PK N (d + 1))] [] (sM h (teM N (d + 1))) := by
  obtain ⟨w, i0, k0, d7⟩ := a
  have s2 : teM N (d + 1) 162 (d + 1) = PK N (d + 1) := by unfold teM; rw [u2_ne _ _ _ (by omega), u2_ne _ _ _ (by omega), u2_ne _ _ _ (by omega), u2_at]
  have r : run (dd + 2) md_163 14 [vr 145, vi i, vi ((d + 1 : Nat) : Int), vi k, v4, v5] [] (sM h N) = run (dd + 2) md_163 257 [vr 145, vi i, vi ((d + 1 : Nat) : Int), vi k, vi 29, vi 0] [] (sM h (teM N (d + 1))) := by
    rw [q_163_14 (w := w.m _), mi_sM, hc, dt i0.1, dt i0.2, df (show ¬ N 158 i.toNat ≤ k by omega), dt k0.1, dt (show k < 6000 by omega), m_162 w dd N (d + 1) d7]
    rfl
  rw [r, q_163_257 (w := w.m _), Int.toNat_natCast, mi_sM, s2, dt (show 0 ≤ ((d + 1 : Nat) : Int) by omega), dt (show ((d + 1 : Nat) : Int) < 7 by omega), ia (by omega) (by omega), show ((d + 1 : Nat) : Int) + -1 = (d : Int) by omega]
  rfl
theorem st_nu (a : At h N i k d) (dd : Nat) {v : Int} (hc : N 159 k.toNat = 100 + v) (v0 : 0 ≤ v) (v1 : v ≤ 9999) (v4 v5 : AV) : run (dd + 2) md_163 14 [vr 145, vi i, vi (d : Int), vi k, v4, v5] [] (sM h N) = run (dd + 2) md_163 268 [vr 145, vi i, vi (d : Int), vi k, vi (100 + v), vi v] [] (sM h N) := by
  obtain ⟨w, i0, k0, d7⟩ := a
  rw [q_163_14 (w := w.m _), mi_sM, hc, dt i0.1, dt i0.2, df (show ¬ N 158 i.toNat ≤ k by omega), dt k0.1, dt (show k < 6000 by omega), df (show ¬ 100 + v = 28 by omega), dt (show 100 + v ≠ 30 by omega), df (show ¬ 100 + v = 20 by omega), dt (show 100 + v ≠ 21 by omega), dt (show 100 + v ≠ 22 by omega), df (show ¬ 100 + v = 24 by omega), dt (show 100 + v ≠ 25 by omega), df (show ¬ 100 + v = 26 by omega), dt (show 100 + v ≠ 27 by omega), df (show ¬ 100 + v < 100 by omega), dt (show 100 + v ≠ 29 by omega), is_ (by omega) (by omega), show 100 + v - 100 = v by omega]
  rfl
theorem st_fa (a : At h N i k d) (dd : Nat) {f : Nat} (hc : N 159 k.toNat = (f : Int)) (f0 : 1 ≤ f) (f1 : f ≤ 9) (v4 v5 : AV) : run (dd + 2) md_163 14 [vr 145, vi i, vi (d : Int), vi k, v4, v5] [] (sM h N) = run (dd + 2) md_163 268 [vr 145, vi i, vi (d : Int), vi k, vi (f : Int), vi (N 171 f)] [] (sM h N) := by
  obtain ⟨w, i0, k0, d7⟩ := a
  rw [q_163_14 (w := w.m _), mi_sM, hc, dt i0.1, dt i0.2, df (show ¬ N 158 i.toNat ≤ k by omega), dt k0.1, dt (show k < 6000 by omega), df (show ¬ (f : Int) = 28 by omega), dt (show (f : Int) ≠ 30 by omega), df (show ¬ (f : Int) = 20 by omega), dt (show (f : Int) ≠ 21 by omega), dt (show (f : Int) ≠ 22 by omega), df (show ¬ (f : Int) = 24 by omega), dt (show (f : Int) ≠ 25 by omega), df (show ¬ (f : Int) = 26 by omega), dt (show (f : Int) ≠ 27 by omega), dt (show (f : Int) < 100 by omega), df (show ¬ 20 ≤ (f : Int) by omega), dt (show (f : Int) ≠ 29 by omega), dt (show 0 ≤ (f : Int) by omega), dt (show (f : Int) < 20 by omega), Int.toNat_natCast]
  rfl
theorem st_po (w : RSk h) (dd : Nat) (hd : d < 6) (hn : N 170 (d + 1) = 1) (x v : Int) : run (dd + 2) md_163 268 [vr 145, vi i, vi ((d + 1 : Nat) : Int), vi k, vi x, vi v] [] (sM h N) = run (dd + 2) md_163 268 [vr 145, vi i, vi (d : Int), vi k, vi x, vi (if v = 0 then 1 else 0)] [] (sM h N) := by
  rw [q_163_268 (w := w.m _), Int.toNat_natCast, mi_sM, df (show ¬ ((d + 1 : Nat) : Int) ≤ 0 by omega), dt (show 0 ≤ ((d + 1 : Nat) : Int) by omega), dt (show ((d + 1 : Nat) : Int) < 7 by omega), df (show ¬ N 170 (d + 1) ≠ 1 by omega), ia (by omega) (by omega), show ((d + 1 : Nat) : Int) + -1 = (d : Int) by omega]
  by_cases z : v = 0
  · rw [df (show ¬ v ≠ 0 by omega), if_pos z]; rfl
  · rw [dt z, if_neg z]; rfl
theorem st_fe (w : RSk h) (dd : Nat) (hd : d < 7) (k1 : -1000000 ≤ k) (k2 : k ≤ 1000000) (hn : d = 0 ∨ N 170 d ≠ 1) (x v : Int) : run (dd + 2) md_163 268 [vr 145, vi i, vi (d : Int), vi k, vi x, vi v] [] (sM h N) = run (dd + 2) md_163 14 [vr 145, vi i, vi (d : Int), vi (k + 1), vi x, vi v] [] (sM h (up2 N 168 d (if N 169 d = 0 then v else i_mul (N 168 d) v))) := by
  have r : run (dd + 2) md_163 268 [vr 145, vi i, vi (d : Int), vi k, vi x, vi v] [] (sM h N) = run (dd + 2) md_163 300 [vr 145, vi i, vi (d : Int), vi k, vi x, vi v] [] (sM h N) := by
    rw [q_163_268 (w := w.m _), Int.toNat_natCast, mi_sM]
    by_cases z : d = 0
    · rw [dt (show (d : Int) ≤ 0 by omega)]; rfl
    · rw [df (show ¬ (d : Int) ≤ 0 by omega), dt (show 0 ≤ (d : Int) by omega), dt (show (d : Int) < 7 by omega), dt (show N 170 d ≠ 1 by omega)]; rfl
  rw [r, q_163_300 (w := w.m _), Int.toNat_natCast, mi_sM, dt (show 0 ≤ (d : Int) by omega), dt (show (d : Int) < 7 by omega), ia (by omega) (by omega), sI_sM, sI_sM]
  by_cases z : N 169 d = 0
  · rw [df (show ¬ N 169 d ≠ 0 by omega), if_pos z]; rfl
  · rw [dt z, if_neg z]; rfl
end
