/-! what stands of places that are not touched -/
def AP (p : Nat) (M N : MM) : Prop := (∀ j, j < 5 → N 147 (5 * p + j) = M 147 (5 * p + j)) ∧ (∀ j, j < 60 → N 148 (60 * p + j) = M 148 (60 * p + j) ∧ N 149 (60 * p + j) = M 149 (60 * p + j)) ∧ (∀ j, j < 6 → N 151 (6 * p + j) = M 151 (6 * p + j) ∧ N 152 (6 * p + j) = M 152 (6 * p + j) ∧ N 153 (6 * p + j) = M 153 (6 * p + j)) ∧ (∀ j, j < 7 → N 154 (7 * p + j) = M 154 (7 * p + j) ∧ N 155 (7 * p + j) = M 155 (7 * p + j) ∧ N 156 (7 * p + j) = M 156 (7 * p + j)) ∧ (∀ j, j < 4 → N 157 (4 * p + j) = M 157 (4 * p + j) ∧ N 158 (4 * p + j) = M 158 (4 * p + j)) ∧ ∀ j, 1000 * p ≤ j → j < 1000 * p + 1000 → N 159 j = M 159 j
section
variable {M N K : MM} {p : Nat}
theorem AP.rf (p : Nat) (M : MM) : AP p M M := ⟨fun _ _ => rfl, fun _ _ => ⟨rfl, rfl⟩, fun _ _ => ⟨rfl, rfl, rfl⟩, fun _ _ => ⟨rfl, rfl, rfl⟩, fun _ _ => ⟨rfl, rfl⟩, fun _ _ _ => rfl⟩
theorem AP.tr (a : AP p M N) (b : AP p N K) : AP p M K := by
  obtain ⟨a1, a2, a3, a4, a5, a6⟩ := a
  obtain ⟨b1, b2, b3, b4, b5, b6⟩ := b
  exact ⟨fun j h => (b1 j h).trans (a1 j h), fun j h => ⟨(b2 j h).1.trans (a2 j h).1, (b2 j h).2.trans (a2 j h).2⟩, fun j h => ⟨(b3 j h).1.trans (a3 j h).1, (b3 j h).2.1.trans (a3 j h).2.1, (b3 j h).2.2.trans (a3 j h).2.2⟩, fun j h => ⟨(b4 j h).1.trans (a4 j h).1, (b4 j h).2.1.trans (a4 j h).2.1, (b4 j h).2.2.trans (a4 j h).2.2⟩, fun j h => ⟨(b5 j h).1.trans (a5 j h).1, (b5 j h).2.trans (a5 j h).2⟩, fun j h h' => (b6 j h h').trans (a6 j h h')⟩
theorem AP.e (g : ∀ a, 147 ≤ a → a ≤ 159 → N a = M a) : AP p M N := by
  refine ⟨fun j _ => ?_, fun j _ => ⟨?_, ?_⟩, fun j _ => ⟨?_, ?_, ?_⟩, fun j _ => ⟨?_, ?_, ?_⟩, fun j _ => ⟨?_, ?_⟩, fun j _ _ => ?_⟩ <;> rw [g _ (by omega) (by omega)]
theorem Rd.ap {h h1 : HP} (r : Rd h h1) (hp : p ≠ 1) : AP p (h_mi h) (h_mi h1) := by
  obtain ⟨_, _, _, _, r9⟩ := r
  have q7 : pw 147 = 5 := rfl
  have q8 : pw 148 = 60 := rfl
  have q9 : pw 149 = 60 := rfl
  have q1 : pw 151 = 6 := rfl
  have q2 : pw 152 = 6 := rfl
  have q3 : pw 153 = 6 := rfl
  have q4 : pw 154 = 7 := rfl
  have q5 : pw 155 = 7 := rfl
  have q6 : pw 156 = 7 := rfl
  have q10 : pw 157 = 4 := rfl
  have q11 : pw 158 = 4 := rfl
  have q12 : pw 159 = 1000 := rfl
  refine ⟨fun j _ => ?_, fun j _ => ⟨?_, ?_⟩, fun j _ => ⟨?_, ?_, ?_⟩, fun j _ => ⟨?_, ?_, ?_⟩, fun j _ => ⟨?_, ?_⟩, fun j _ _ => ?_⟩ <;> exact r9 _ _ (by omega) (by omega) (by omega)
theorem LyD.ap {r : Nat} (y : LyD M r 0 N) (hp : 1 ≤ p) : AP p M N := by
  obtain ⟨_, y1, y2, y3, y4, y5, y6, y7, y8, y9, y10, y11, y12⟩ := y
  refine ⟨fun j _ => ?_, fun j _ => ⟨?_, ?_⟩, fun j _ => ⟨?_, ?_, ?_⟩, fun j _ => ⟨?_, ?_, ?_⟩, fun j _ => ⟨?_, ?_⟩, fun j _ _ => ?_⟩
  · rw [y1]; exact mvR_out (by omega)
  · rw [y2]; exact mvR_out (by omega)
  · rw [y3]; exact mvR_out (by omega)
  · rw [y4]; exact mvR_out (by omega)
  · rw [y5]; exact mvR_out (by omega)
  · rw [y6]; exact mvR_out (by omega)
  · rw [y7]; exact mvR_out (by omega)
  · rw [y8]; exact mvR_out (by omega)
  · rw [y9]; exact mvR_out (by omega)
  · rw [y11, if_neg (by omega)]
  · rw [y12, if_neg (by omega)]
  · rw [y10]; exact mvR_out (by omega)
theorem FB.ap (a : AP p M N) (f : FB M p) : FB N p := by
  obtain ⟨a1, a2, a3, a4, _, _⟩ := a
  obtain ⟨f1, f2, f3, f4, f5, f6, f7, f8⟩ := f
  unfold FB
  have b0 : N 147 (5 * p) = M 147 (5 * p) := a1 0 (by omega)
  rw [b0, a1 1 (by omega), a1 2 (by omega), a1 3 (by omega), a1 4 (by omega)]
  refine ⟨f1, f2, f3, f4, f5, fun c hc => ?_, fun q hq => ?_, fun l hl => ?_⟩
  · rw [(a2 c hc).1, (a2 c hc).2]; exact f6 c hc
  · obtain ⟨u1, u2, u3⟩ := a3 q (by omega)
    rw [u1, u2, u3]; exact f7 q hq
  · obtain ⟨u1, u2, u3⟩ := a4 l (by omega)
    rw [u1, u2, u3]; exact f8 l hl
theorem SB.ap {S : Nat → Int} (a : AP p M N) (f : SB M p S) : SB N p S := ⟨fun c hc => by rw [(a.2.1 c hc).1]; exact f.1 c hc, f.2⟩
theorem LnO.ap (a : AP p M N) (f : LnO M p) : LnO N p := fun l hl => by
  obtain ⟨u1, u2⟩ := a.2.2.2.2.1 l hl
  rw [u1, u2]; exact f l hl
theorem LR.ap {x : (Nat → Int) → Int} {l : Nat} (a : AP p M N) (hl : l < 4) (ln : LnO M p) (f : LR M x p l) : LR N x p l := by
  obtain ⟨u1, u2⟩ := a.2.2.2.2.1 l hl
  have b := ln l hl
  unfold LR at f ⊢
  rw [u1, u2]
  rcases f with f | ⟨f1, f2, f3, c, f4, f5⟩
  · exact Or.inl f
  · refine Or.inr ⟨f1, f2, f3, c, f4, fun j j0 j1 => ?_⟩
    rw [a.2.2.2.2.2 _ (by omega) (by omega)]
    exact f5 j j0 j1
theorem FN.ap {t : Nat} (a : AP p M N) (fb : FB M p) (ht : ∀ i, i ≤ 8 → N (t + i) = M (t + i)) (f : FN M t p) : FN N t p := by
  obtain ⟨a1, a2, a3, a4, _, _⟩ := a
  obtain ⟨f1, f2, f3, f4⟩ := f
  have p6 := fb.2.2.1.2
  have l7 := fb.2.2.2.1.2
  have b0 : N 147 (5 * p) = M 147 (5 * p) := a1 0 (by omega)
  have e0 : N t = M t := ht 0 (by omega)
  unfold FN
  rw [e0, ht 1 (by omega), ht 2 (by omega), ht 3 (by omega), ht 4 (by omega), ht 5 (by omega), ht 6 (by omega), ht 7 (by omega), ht 8 (by omega), b0, a1 1 (by omega), a1 2 (by omega), a1 3 (by omega), a1 4 (by omega)]
  refine ⟨f1, fun c hc => ?_, fun q hq => ?_, fun l hl => ?_⟩
  · rw [(a2 c hc).1, (a2 c hc).2]; exact f2 c hc
  · obtain ⟨u1, u2, u3⟩ := a3 q (by omega)
    rw [u1, u2, u3]; exact f3 q hq
  · obtain ⟨u1, u2, u3⟩ := a4 l (by omega)
    rw [u1, u2, u3]; exact f4 l hl
end
/-- cells of fjords and marks are kept -/
def Gt (h h1 : HP) : Prop := h_sz h ≤ h_sz h1 ∧ ∀ a, a < h_sz h → h_kd h1 a = h_kd h a ∧ h_ln h1 a = h_ln h a ∧ (a ≠ 101 → a ≠ 103 → a ≠ 106 → h_mr h1 a = h_mr h a) ∧ ((107 ≤ a ∧ a ≤ 125) ∨ a = 174 ∨ a = 180 ∨ 182 ≤ a → h_mi h1 a = h_mi h a)
section
variable {h h1 : HP} {E E' : EE} {t p : Nat} {B : Int}
theorem FjO.gt (f : FjO h t) (lc : ∀ l, l < 4 → (118 ≤ h_mr h t (l + 15) ∧ h_mr h t (l + 15) ≤ 124) ∨ 182 ≤ h_mr h t (l + 15)) (g : Gt h h1) : FjO h1 t := by
  obtain ⟨j, z1, z2⟩ := f
  have lt := j.lt
  have g0 := g.1
  have gt := (g.2 t (by omega)).2.2.1 (by omega) (by omega) (by omega)
  refine ⟨⟨j.1, by rw [(g.2 t (by omega)).1]; exact j.2.1, fun i hi => ?_, fun i hi => by rw [gt]; exact j.2.2.2.1 i hi, fun i hi => ?_⟩, by omega, fun l hl => by rw [gt]; have := z2 l hl; omega⟩
  · obtain ⟨a1, a2, _⟩ := g.2 (t + (i + 1)) (by omega)
    rw [a1, a2]; exact j.2.2.1 i hi
  · have lz := z2 i hi
    have l1 := lc i hi
    obtain ⟨a1, _, a3, _⟩ := g.2 (h_mr h t (i + 15)) (by omega)
    obtain ⟨b1, _⟩ := g.2 (h_mr h t (i + 15) + 1) lz
    rw [gt, a1, a3 (by omega) (by omega) (by omega), b1]
    exact j.2.2.2.2 i hi
theorem LCs.gt (l : LCs h t p E) (f : FjO h t) (g : Gt h h1) (e : ∀ j, j < 4 → E' p j = E p j) : LCs h1 t p E' := fun j hj => by
  have lt := f.1.lt
  have gt := (g.2 t (by have := f.2.1; omega)).2.2.1 (by omega) (by omega) (by omega)
  have c := l j hj
  have l1 := c.1
  obtain ⟨_, b2, _, b4⟩ := g.2 (h_mr h t (j + 15) + 1) (f.2.2 j hj)
  rw [gt, e j hj]
  exact LC.cg c b2 (b4 (by omega))
theorem FjM.gt (m : FjM h t p E) (g : Gt h h1) (a : AP p (h_mi h) (h_mi h1)) (e : ∀ j, j < 4 → E' p j = E p j) : FjM h1 t p E' := by
  obtain ⟨fo, fb, fn, lc, lr, ln⟩ := m
  have lt := fo.1.lt
  have z1 := fo.2.1
  refine ⟨fo.gt (fun l hl => (lc l hl).1) g, FB.ap a fb, FN.ap a fb (fun i hi => (g.2 (t + i) (by omega)).2.2.2 (by omega)) fn, lc.gt fo g e, fun l hl => ?_, LnO.ap a ln⟩
  rw [e l hl]
  exact ⟨LR.ap a hl ln (lr l hl).1, (lr l hl).2⟩
theorem MsO.gt (m : MsO h E B) (z : 182 ≤ h_sz h) (g : Gt h h1) (a : ∀ k, k < 4 → AP (k + 2) (h_mi h) (h_mi h1)) (ln : LnO (h_mi h1) 0) (e : ∀ k j, k < 4 → j < 4 → E' (k + 2) j = E (k + 2) j) : MsO h1 E' B := by
  have e4 : h_mr h1 144 = h_mr h 144 := (g.2 144 (by omega)).2.2.1 (by omega) (by omega) (by omega)
  have e0 : h_mi h1 180 = h_mi h 180 := (g.2 180 (by omega)).2.2.2 (by omega)
  have e74 : h_mi h1 174 = h_mi h 174 := (g.2 174 (by omega)).2.2.2 (by omega)
  refine ⟨fun k hk => ?_, by rw [e4]; exact m.2.1, ln⟩
  rcases m.1 k hk with ⟨m1, m2⟩ | ⟨m1, ic, fm, ⟨sb, i3s, nb⟩, inn⟩
  · exact Or.inl ⟨by rw [e0]; exact m1, by rw [e4]; exact m2⟩
  · obtain ⟨c1, c2, c3, c4, c5⟩ := ic
    have e5 : h_mr h1 (h_mr h 144 k) = h_mr h (h_mr h 144 k) := (g.2 _ (by omega)).2.2.1 (by omega) (by omega) (by omega)
    have g0 := g.1
    refine Or.inr ⟨by rw [e0]; exact m1, ?_, by rw [e4, e5]; exact fm.gt g (a k hk) (fun j hj => e k j hk hj), ⟨by rw [e74]; exact SB.ap (a k hk) sb, by rw [e74]; exact i3s, by rw [e74]; exact nb⟩, ?_⟩
    · rw [e4]
      refine ⟨c1, by omega, by rw [(g.2 _ (by omega)).1]; exact c3, fun i hi => ?_, fun j hj => by rw [e5]; exact c5 j hj⟩
      obtain ⟨a1, a2, _⟩ := g.2 (h_mr h 144 k + (i + 1)) (by omega)
      rw [a1, a2]; exact c4 i hi
    · rw [e4, e74, (a k hk).1 2 (by omega)]
      exact inn.cg ((g.2 _ (by omega)).2.2.2 (by omega)) (fun j hj => (g.2 _ (by omega)).2.2.2 (by omega))
end
