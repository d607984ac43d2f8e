/-! lines are read: what each side keeps -/
/-- the class's reader alone has changed -/
def Kp (h h1 : HP) : Prop := (h_kd h1 = h_kd h ∧ h_ln h1 = h_ln h ∧ h_sz h1 = h_sz h ∧ h_sl h1 = h_sl h) ∧ (∀ a, a ≠ 101 → h_mr h1 a = h_mr h a) ∧ (∀ a, a ≠ 101 → a ≠ 105 → h_ml h1 a = h_ml h a) ∧ (∀ a, a ≠ 101 → a ≠ 103 → a ≠ 104 → h_mi h1 a = h_mi h a) ∧ h_mi h1 103 6 = h_mi h 103 6
/-- cells below b are kept, the reader's own aside -/
def Wb (b : Nat) (h h1 : HP) : Prop := h_sz h ≤ h_sz h1 ∧ ∀ a, a < b → (h_kd h1 a = h_kd h a ∧ h_ln h1 a = h_ln h a) ∧ (a ≠ 101 → h_mr h1 a = h_mr h a) ∧ (a ≠ 101 → a ≠ 105 → h_ml h1 a = h_ml h a) ∧ (a ≠ 101 → a ≠ 103 → a ≠ 104 → h_mi h1 a = h_mi h a)
/-- the reference's reader alone has changed, and code from c on -/
def Kr (c : Nat) (h h1 : HP) : Prop := (h_kd h1 = h_kd h ∧ h_ln h1 = h_ln h ∧ h_sz h1 = h_sz h ∧ h_sl h1 = h_sl h ∧ h_mr h1 = h_mr h) ∧ (∀ a, a ≠ 145 → a ≠ 159 → a ≠ 160 → a ≠ 161 → h_mi h1 a = h_mi h a) ∧ (∀ j, j < c → h_mi h1 159 j = h_mi h 159 j) ∧ h_mi h1 145 25 = h_mi h 145 25
def pw (a : Nat) : Nat := if a = 147 then 5 else if a ≤ 149 then 60 else if a ≤ 150 then 0 else if a ≤ 153 then 6 else if a ≤ 156 then 7 else if a ≤ 158 then 4 else 1000
/-- the reference: place 1 and the reader's own alone have changed -/
def Rd (h h1 : HP) : Prop := (h_kd h1 = h_kd h ∧ h_ln h1 = h_ln h ∧ h_sz h1 = h_sz h ∧ h_sl h1 = h_sl h ∧ h_mr h1 = h_mr h) ∧ (∀ a, a ≠ 145 → a ≠ 150 → h_ml h1 a = h_ml h a) ∧ (∀ a, a < 145 ∨ a = 146 ∨ 161 < a → h_mi h1 a = h_mi h a) ∧ (∀ j, j = 1 ∨ j = 44 → h_mi h1 145 j = h_mi h 145 j) ∧ ∀ a j, 147 ≤ a → a ≤ 159 → j < pw a ∨ 2 * pw a ≤ j → h_mi h1 a j = h_mi h a j
section
variable {h h1 h2 : HP} {b c : Nat}
theorem Kp.rf (h : HP) : Kp h h := ⟨⟨rfl, rfl, rfl, rfl⟩, fun _ _ => rfl, fun _ _ _ => rfl, fun _ _ _ _ => rfl, rfl⟩
theorem Kp.tr (p : Kp h h1) (q : Kp h1 h2) : Kp h h2 := by
  obtain ⟨⟨a1, a2, a3, a4⟩, a5, a6, a7, a8⟩ := p
  obtain ⟨⟨b1, b2, b3, b4⟩, b5, b6, b7, b8⟩ := q
  exact ⟨⟨b1.trans a1, b2.trans a2, b3.trans a3, b4.trans a4⟩, fun a x => (b5 a x).trans (a5 a x), fun a x y => (b6 a x y).trans (a6 a x y), fun a x y z => (b7 a x y z).trans (a7 a x y z), b8.trans a8⟩
theorem Qt.kp (g : Qt h h1) : Kp h h1 := by
  obtain ⟨s1, s2, s3, s4, s5, s6⟩ := g.sh
  exact ⟨⟨s1, s2, s3, s4⟩, s5, fun a x _ => s6 a x, fun a x y _ => g.mi x y, g.f (by omega)⟩
theorem Kp.s103 (h : HP) {j : Nat} (hj : j ≠ 6) (v : Int) : Kp h (sI h 103 j v) := ⟨⟨rfl, rfl, rfl, rfl⟩, fun _ _ => rfl, fun _ _ _ => rfl, fun a _ y _ => miI_ne _ _ _ y, by rw [miI_eq, up_ne _ _ (fun z => hj z.symm)]⟩
theorem Kp.l105 (h : HP) (j : Nat) (v : Int) : Kp h (sL h 105 j v) := ⟨⟨rfl, rfl, rfl, rfl⟩, fun _ _ => rfl, fun a _ y => mlL_ne _ _ _ y, fun _ _ _ _ => rfl, rfl⟩
theorem Qn.kp (g : Qn h h1) : Kp h h1 := by
  obtain ⟨h0, g0, e | ⟨m, v, u, e⟩⟩ := g
  · subst e; exact g0.kp
  · exact ((g0.kp.tr (Kp.l105 h0 m v)).tr (Kp.s103 _ (by omega) u)).tr e.kp
theorem CRel.kp (g : CRel h h1) : Kp h h1 := by
  have f6 := g.f (j := 6) (by omega) (by omega)
  obtain ⟨r, x, N, rfl, a1, a2⟩ := g
  exact ⟨⟨rfl, rfl, rfl, rfl⟩, fun a ha => up_ne _ _ ha, fun a ha _ => up_ne _ _ ha, fun a x y z => a1 a x y z, f6⟩
theorem Wb.rf (b : Nat) (h : HP) : Wb b h h := ⟨Nat.le_refl _, fun _ _ => ⟨⟨rfl, rfl⟩, fun _ => rfl, fun _ _ => rfl, fun _ _ _ => rfl⟩⟩
theorem Wb.tr (p : Wb b h h1) (q : Wb b h1 h2) : Wb b h h2 := ⟨Nat.le_trans p.1 q.1, fun a ha => by
  obtain ⟨⟨a1, a2⟩, a3, a4, a5⟩ := p.2 a ha
  obtain ⟨⟨b1, b2⟩, b3, b4, b5⟩ := q.2 a ha
  exact ⟨⟨b1.trans a1, b2.trans a2⟩, fun x => (b3 x).trans (a3 x), fun x y => (b4 x y).trans (a4 x y), fun x y z => (b5 x y z).trans (a5 x y z)⟩⟩
theorem Kp.wb (g : Kp h h1) (b : Nat) : Wb b h h1 := by
  obtain ⟨⟨a1, a2, a3, _⟩, a5, a6, a7, _⟩ := g
  exact ⟨by omega, fun a _ => ⟨⟨by rw [a1], by rw [a2]⟩, a5 a, a6 a, a7 a⟩⟩
theorem Wb.si (p : Wb b h h1) {a : Nat} (ha : b ≤ a) (k : Nat) (v : Int) : Wb b h (sI h1 a k v) := ⟨p.1, fun x hx => by
  obtain ⟨a1, a2, a3, a4⟩ := p.2 x hx
  exact ⟨a1, a2, a3, fun y z u => by rw [miI_ne _ _ _ (by omega)]; exact a4 y z u⟩⟩
theorem Wb.sm (p : Wb b h h1) {N : MM} (g : ∀ a, a < b → N a = h_mi h1 a) : Wb b h (sM h1 N) := ⟨p.1, fun x hx => by
  obtain ⟨a1, a2, a3, a4⟩ := p.2 x hx
  exact ⟨a1, a2, a3, fun y z u => (g x hx).trans (a4 y z u)⟩⟩
theorem Wb.s3 (p : Wb b h h1) (k : Nat) (v : Int) : Wb b h (sI h1 103 k v) := ⟨p.1, fun x hx => by
  obtain ⟨a1, a2, a3, a4⟩ := p.2 x hx
  exact ⟨a1, a2, a3, fun y z u => by rw [miI_ne _ _ _ z]; exact a4 y z u⟩⟩
theorem Wb.sr (p : Wb b h h1) {a : Nat} (ha : b ≤ a) (k v : Nat) : Wb b h (sR h1 a k v) := ⟨p.1, fun x hx => by
  obtain ⟨a1, a2, a3, a4⟩ := p.2 x hx
  exact ⟨a1, fun y => by rw [mrR_ne _ _ _ (by omega)]; exact a2 y, a3, a4⟩⟩
theorem Ex.wb (p : Ex h h1) (hb : b ≤ h_sz h) : Wb b h h1 := ⟨p.1, fun a ha => by
  obtain ⟨a1, a2, a3, a4, a5⟩ := p.2 a (by omega)
  exact ⟨⟨a1, a2⟩, fun _ => a5, fun _ _ => a4, fun _ _ _ => a3⟩⟩
theorem Wb.p4 (p : Wb b h h1) {t : Nat} (ht : b ≤ t) (m : Nat) (x y z : Int) : Wb b h (pr4 h1 t m x y z) := (((p.si (by omega) m x).si (by omega) m y).si (by omega) m z).si ht 12 _
theorem Kr.rf (c : Nat) (h : HP) : Kr c h h := ⟨⟨rfl, rfl, rfl, rfl, rfl⟩, fun _ _ _ _ _ => rfl, fun _ _ => rfl, rfl⟩
theorem Kr.tr (p : Kr c h h1) (q : Kr c h1 h2) : Kr c h h2 := by
  obtain ⟨⟨a1, a2, a3, a4, a5⟩, a6, a7, a8⟩ := p
  obtain ⟨⟨b1, b2, b3, b4, b5⟩, b6, b7, b8⟩ := q
  exact ⟨⟨b1.trans a1, b2.trans a2, b3.trans a3, b4.trans a4, b5.trans a5⟩, fun a x y z w => (b6 a x y z w).trans (a6 a x y z w), fun j hj => (b7 j hj).trans (a7 j hj), b8.trans a8⟩
theorem RQ.kr (g : RQ h h1) (c : Nat) : Kr c h h1 := by
  obtain ⟨s1, s2, s3, s4, s5, _, s7⟩ := g.sh
  exact ⟨⟨s1, s2, s3, s4, s5⟩, fun a x _ _ _ => s7 a x, fun j _ => by rw [s7 159 (by omega)], g.f (by omega) (by omega) (by omega) (by omega) (by omega) (by omega)⟩
theorem RRel.kr (g : RRel h h1) (w : ∀ j, j < c → h_mi h1 159 j = h_mi h 159 j) : Kr c h h1 := by
  have f5 := g.fl (j := 25) (by omega) (by omega) (by omega) (by omega) (by omega) (by omega)
  obtain ⟨x, N, rfl, a1, a2, a3⟩ := g
  exact ⟨⟨rfl, rfl, rfl, rfl, rfl⟩, a1, w, f5⟩
theorem Kr.s145 (c : Nat) (h : HP) {j : Nat} (hj : j ≠ 25) (v : Int) : Kr c h (sI h 145 j v) := ⟨⟨rfl, rfl, rfl, rfl, rfl⟩, fun a x _ _ _ => miI_ne _ _ _ x, fun j _ => by rw [miI_ne _ _ _ (by omega)], by rw [miI_eq, up_ne _ _ (fun z => hj z.symm)]⟩
theorem Kr.s161 (c : Nat) (h : HP) (j : Nat) (v : Int) : Kr c h (sI h 161 j v) := ⟨⟨rfl, rfl, rfl, rfl, rfl⟩, fun a _ _ _ y => miI_ne _ _ _ y, fun j _ => by rw [miI_ne _ _ _ (by omega)], by rw [miI_ne _ _ _ (by omega)]⟩
theorem Kr.l150 (c : Nat) (h : HP) (j : Nat) (v : Int) : Kr c h (sL h 150 j v) := ⟨⟨rfl, rfl, rfl, rfl, rfl⟩, fun a _ _ _ _ => rfl, fun j _ => rfl, rfl⟩
theorem Rd.rf (h : HP) : Rd h h := ⟨⟨rfl, rfl, rfl, rfl, rfl⟩, fun _ _ _ => rfl, fun _ _ => rfl, fun _ _ => rfl, fun _ _ _ _ _ => rfl⟩
theorem Rd.tr (p : Rd h h1) (q : Rd h1 h2) : Rd h h2 := by
  obtain ⟨⟨a1, a2, a3, a4, a5⟩, a6, a7, a8, a9⟩ := p
  obtain ⟨⟨b1, b2, b3, b4, b5⟩, b6, b7, b8, b9⟩ := q
  exact ⟨⟨b1.trans a1, b2.trans a2, b3.trans a3, b4.trans a4, b5.trans a5⟩, fun a x y => (b6 a x y).trans (a6 a x y), fun a x => (b7 a x).trans (a7 a x), fun j hj => (b8 j hj).trans (a8 j hj), fun a j x y z => (b9 a j x y z).trans (a9 a j x y z)⟩
theorem RQ.rd (g : RQ h h1) : Rd h h1 := by
  obtain ⟨s1, s2, s3, s4, s5, s6, s7⟩ := g.sh
  exact ⟨⟨s1, s2, s3, s4, s5⟩, fun a x _ => s6 a x, fun a x => s7 a (by omega), fun j hj => g.f (by omega) (by omega) (by omega) (by omega) (by omega) (by omega), fun a j x y _ => by rw [s7 a (by omega)]⟩
theorem RRel.rd (g : RRel h h1) : Rd h h1 := by
  have fl := fun j (hj : j = 1 ∨ j = 44) => g.fl (j := j) (by omega) (by omega) (by omega) (by omega) (by omega) (by omega)
  obtain ⟨x, N, rfl, a1, a2, a3⟩ := g
  refine ⟨⟨rfl, rfl, rfl, rfl, rfl⟩, fun a ha _ => up_ne _ _ ha, fun a x => a1 a (by omega) (by omega) (by omega) (by omega), fl, fun a j x y z => ?_⟩
  by_cases u : a = 159
  · subst u
    exact a3 j (by have : pw 159 = 1000 := rfl; omega)
  · show N a j = _
    rw [a1 a (by omega) u (by omega) (by omega)]
theorem Rd.si (p : Rd h h1) {a k : Nat} (a1 : 147 ≤ a) (a2 : a ≤ 159) (k1 : pw a ≤ k) (k2 : k < 2 * pw a) (v : Int) : Rd h (sI h1 a k v) := by
  obtain ⟨b1, b6, b7, b8, b9⟩ := p
  refine ⟨b1, b6, fun x hx => by rw [miI_ne _ _ _ (by omega)]; exact b7 x hx, fun j hj => by rw [miI_ne _ _ _ (by omega)]; exact b8 j hj, fun x j x1 x2 x3 => ?_⟩
  by_cases z : x = a
  · subst z
    rw [miI_eq, up_ne _ _ (by omega)]; exact b9 x j x1 x2 x3
  · rw [miI_ne _ _ _ z]; exact b9 x j x1 x2 x3
theorem Rd.s145 (p : Rd h h1) {k : Nat} (k1 : k ≠ 1) (k2 : k ≠ 44) (v : Int) : Rd h (sI h1 145 k v) := by
  obtain ⟨b1, b6, b7, b8, b9⟩ := p
  exact ⟨b1, b6, fun x hx => by rw [miI_ne _ _ _ (by omega)]; exact b7 x hx, fun j hj => by rw [miI_eq, up_ne _ _ (by omega)]; exact b8 j hj, fun x j x1 x2 x3 => by rw [miI_ne _ _ _ (by omega)]; exact b9 x j x1 x2 x3⟩
theorem Rd.s161 (p : Rd h h1) (k : Nat) (v : Int) : Rd h (sI h1 161 k v) := by
  obtain ⟨b1, b6, b7, b8, b9⟩ := p
  exact ⟨b1, b6, fun x hx => by rw [miI_ne _ _ _ (by omega)]; exact b7 x hx, fun j hj => by rw [miI_ne _ _ _ (by omega)]; exact b8 j hj, fun x j x1 x2 x3 => by rw [miI_ne _ _ _ (by omega)]; exact b9 x j x1 x2 x3⟩
theorem Rd.l150 (p : Rd h h1) (k : Nat) (v : Int) : Rd h (sL h1 150 k v) := by
  obtain ⟨b1, b6, b7, b8, b9⟩ := p
  exact ⟨b1, fun a x y => by rw [mlL_ne _ _ _ y]; exact b6 a x y, b7, b8, b9⟩
theorem Rd.rs (p : Rd h h1) (w : RSk h) : RSk h1 := by
  obtain ⟨⟨a1, a2, _, _, a5⟩, _⟩ := p
  exact ⟨fun q hq => by rw [a1, a2]; exact w.1 q hq, fun q hq => by rw [a5]; exact w.2 q hq⟩
theorem Kr.rs (p : Kr c h h1) (w : RSk h) : RSk h1 := by
  obtain ⟨⟨a1, a2, _, _, a5⟩, _⟩ := p
  exact ⟨fun q hq => by rw [a1, a2]; exact w.1 q hq, fun q hq => by rw [a5]; exact w.2 q hq⟩
end
/-! the place that is read, on both sides -/
def FX (A B : MM) (t : Nat) : Prop := (A t 0 = B 147 5 ∧ A t 1 = B 147 6 ∧ A t 12 = B 147 7 ∧ A t 13 = B 147 8 ∧ A t 14 = B 147 9) ∧
  (∀ c, c < 60 → A (t + 1) c = B 148 (60 + c) ∧ A (t + 2) c = B 149 (60 + c)) ∧
  (∀ p : Nat, (p : Int) < B 147 7 → A (t + 3) p = B 151 (6 + p) ∧ A (t + 4) p = B 152 (6 + p) ∧ A (t + 5) p = B 153 (6 + p)) ∧
  ∀ l : Nat, (l : Int) < B 147 8 → A (t + 6) l = B 154 (7 + l) ∧ A (t + 7) l = needK (B 154 (7 + l)) (B 155 (7 + l)) ∧ A (t + 8) l = B 156 (7 + l)
def LK (hc hr : HP) (t c : Nat) (e : Nat → (Nat → Int) → Int) : Prop := ∀ l, l < 4 → LC hc (h_mr hc t (l + 15)) l (e l) ∧ LR (h_mi hr) (e l) 1 l ∧ AlE l (e l) ∧ 1000 ≤ h_mi hr 157 (4 + l) ∧ h_mi hr 157 (4 + l) ≤ h_mi hr 158 (4 + l) ∧ h_mi hr 158 (4 + l) ≤ (c : Int)
def On (hc hr : HP) : Prop := (0 ≤ h_mi hc 103 6 ∧ h_mi hc 103 6 < 32) ∧ (∀ l : Nat, l < 4 → (i_and (h_mi hc 103 6) (i_shl 1 (l : Int)) = 0 ↔ h_mi hr 158 (4 + l) ≤ h_mi hr 157 (4 + l))) ∧ (i_and (h_mi hc 103 6) 16 = 0 ↔ h_mi hr 145 25 = 0)
def YY (hc hr : HP) (t c : Nat) (e : Nat → (Nat → Int) → Int) : Prop := (FjO hc t ∧ 182 ≤ t) ∧ FX (h_mi hc) (h_mi hr) t ∧ FB (h_mi hr) 1 ∧ LK hc hr t c e ∧ On hc hr
section
variable {hc hr h1 : HP} {t c : Nat} {e : Nat → (Nat → Int) → Int}
theorem Fj.kp (j : Fj t hc) (w : CSk hc) (g : Kp hc h1) : Fj t h1 := by
  obtain ⟨j1, j2, j3, j4, j5⟩ := j
  obtain ⟨⟨s1, s2, _, _⟩, s5, _⟩ := g
  have mt : h_mr h1 t = h_mr hc t := s5 t (by omega)
  have k6 : h_kd hc 101 = 6 := (w.1 _ (List.mem_of_getElem? (i := 1) rfl)).1
  refine ⟨j1, by rw [s1]; exact j2, fun i hi => by rw [s1, s2]; exact j3 i hi, fun i hi => by rw [mt]; exact j4 i hi, fun i hi => ?_⟩
  obtain ⟨u1, u2, u3⟩ := j5 i hi
  have nn : h_mr hc t (i + 15) ≠ 101 := fun z => by rw [z, k6] at u1; omega
  rw [mt, s1, s5 _ nn]
  exact ⟨u1, u2, u3⟩
theorem FX.ca {A A' B : MM} (f : FX A B t) (g : ∀ i, i ≤ 8 → A' (t + i) = A (t + i)) : FX A' B t := by
  have e0 : A' t = A t := g 0 (by omega)
  unfold FX at f ⊢
  rw [e0, g 1 (by omega), g 2 (by omega), g 3 (by omega), g 4 (by omega), g 5 (by omega), g 6 (by omega), g 7 (by omega), g 8 (by omega)]
  exact f
theorem FX.r {A B B' : MM} (f : FX A B t) (g : ∀ a, 147 ≤ a → a ≤ 156 → B' a = B a) : FX A B' t := by
  unfold FX at f ⊢
  rw [g 147 (by omega) (by omega), g 148 (by omega) (by omega), g 149 (by omega) (by omega), g 151 (by omega) (by omega), g 152 (by omega) (by omega), g 153 (by omega) (by omega), g 154 (by omega) (by omega), g 155 (by omega) (by omega), g 156 (by omega) (by omega)]
  exact f
theorem FB.r {B B' : MM} {r : Nat} (f : FB B r) (g : ∀ a, 147 ≤ a → a ≤ 156 → B' a = B a) : FB B' r := by
  unfold FB at f ⊢
  rw [g 147 (by omega) (by omega), g 148 (by omega) (by omega), g 149 (by omega) (by omega), g 151 (by omega) (by omega), g 152 (by omega) (by omega), g 153 (by omega) (by omega), g 154 (by omega) (by omega), g 155 (by omega) (by omega), g 156 (by omega) (by omega)]
  exact f
/-- code of a line is kept where it ends below c -/
theorem LR.kc {M N : MM} {x : (Nat → Int) → Int} {l : Nat} (f : LR M x 1 l) (h7 : N 157 = M 157) (h8 : N 158 = M 158) (b : 1000 ≤ M 157 (4 + l)) (hc : M 158 (4 + l) ≤ (c : Int)) (g : ∀ j, j < c → N 159 j = M 159 j) : LR N x 1 l := by
  unfold LR at f ⊢
  rw [h7, h8]
  rcases f with f | ⟨f1, f2, f3, y, f4, f5⟩
  · exact Or.inl f
  · refine Or.inr ⟨f1, f2, f3, y, f4, fun j j0 j1 => ?_⟩
    rw [g _ (by have : 4 * 1 + l = 4 + l := by omega
                rw [this] at j1 ⊢; omega)]
    exact f5 j j0 j1
theorem YY.kc (y : YY hc hr t c e) (w : CSk hc) (g : Kp hc h1) : YY h1 hr t c e := by
  obtain ⟨⟨⟨j, z1, z2⟩, t2⟩, fx, fb, lk, ⟨o1, o2, o3⟩⟩ := y
  have g' := g
  obtain ⟨⟨s1, s2, s3, s4⟩, s5, s6, s7, s8⟩ := g'
  have mt : h_mr h1 t = h_mr hc t := s5 t (by omega)
  refine ⟨⟨⟨j.kp w g, by omega, fun l hl => by rw [mt, s3]; exact z2 l hl⟩, t2⟩, fx.ca (fun i _ => s7 _ (by omega) (by omega) (by omega)), fb, fun l hl => ?_, ⟨by rw [s8]; exact o1, fun l hl => by rw [s8]; exact o2 l hl, by rw [s8]; exact o3⟩⟩
  obtain ⟨l1, l2⟩ := lk l hl
  have l0 := l1.1
  exact ⟨by rw [mt]; exact LC.cg l1 (by rw [s2]) (s7 _ (by omega) (by omega) (by omega)), l2⟩
theorem YY.kr (y : YY hc hr t c e) (g : Kr c hr h1) : YY hc h1 t c e := by
  obtain ⟨fo, fx, fb, lk, ⟨o1, o2, o3⟩⟩ := y
  obtain ⟨_, s7, s8, s9⟩ := g
  have r6 : ∀ a, 147 ≤ a → a ≤ 156 → h_mi h1 a = h_mi hr a := fun a x y => s7 a (by omega) (by omega) (by omega) (by omega)
  have e7 := s7 157 (by omega) (by omega) (by omega) (by omega)
  have e8 := s7 158 (by omega) (by omega) (by omega) (by omega)
  refine ⟨fo, fx.r r6, fb.r r6, fun l hl => ?_, ⟨o1, fun l hl => by rw [e7, e8]; exact o2 l hl, by rw [s9]; exact o3⟩⟩
  obtain ⟨l1, l2, l3, l4, l5, l6⟩ := lk l hl
  exact ⟨l1, l2.kc e7 e8 l4 l6 s8, l3, by rw [e7]; exact l4, by rw [e7, e8]; exact l5, by rw [e8]; exact l6⟩
theorem YY.up (y : YY hc hr t c e) {c' : Nat} (h : c ≤ c') : YY hc hr t c' e := by
  obtain ⟨fo, fx, fb, lk, o⟩ := y
  refine ⟨fo, fx, fb, fun l hl => ?_, o⟩
  obtain ⟨l1, l2, l3, l4, l5, l6⟩ := lk l hl
  exact ⟨l1, l2, l3, l4, l5, by omega⟩
end
