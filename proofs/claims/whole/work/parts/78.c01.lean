/-! the class: what ties its cells to the reference's -/
def CqA (t : Nat) : Nat → Prop := fun a => (134 ≤ a ∧ a ≤ 136) ∨ a = t + 9 ∨ a = t + 10
def CrA (_ : Nat) : Nat → Prop := fun a => 137 ≤ a ∧ a ≤ 143
def SqA (t : Nat) : Nat → Prop := fun a => (134 ≤ a ∧ a ≤ 143) ∨ a = t + 9 ∨ a = t + 10
theorem SqA_q {t : Nat} : ∀ a, CqA t a → SqA t a := fun a ha => by unfold CqA at ha; unfold SqA; omega
theorem SqA_c {t : Nat} : ∀ a, CrA t a → SqA t a := fun a ha => by unfold CrA at ha; unfold SqA; omega
/-- a number of 32 bits -/
def i3 (x : Int) : Prop := -2147483648 ≤ x ∧ x < 2147483648
/-- the steps c, n of them, weigh to e of the facts -/
def WgL (l : Nat) (c : Nat → Int) (n : Nat) (e : (Nat → Int) → Int) : Prop := ∀ (h : HP) (d a f s : Nat), isK h a 4 = true → h_mr h a 0 = a + 1 → isK h (a + 1) 11 = true → h_ln h (a + 1) = n → (∀ j, j < n → h_mi h (a + 1) j = c j) → isK h f 11 = true → h_ln h f = 9 → isK h s 11 = true → h_ln h s = 32 → f ≠ s → a + 1 ≠ s → (∀ k, al l k → i3 (h_mi h f k)) →
  ∃ N, ev (d + 1) 60 [vr a, vr f, vr s] h = some (vi (e (h_mi h f)), sM h N) ∧ Ag (fun x => x = s) (h_mi h) N
def LC (h : HP) (a l : Nat) (e : (Nat → Int) → Int) : Prop := ((118 ≤ a ∧ a ≤ 124) ∨ 182 ≤ a) ∧ ∃ c, WgL l c (h_ln h (a + 1)) e ∧ ∀ j, j < h_ln h (a + 1) → h_mi h (a + 1) j = c j
/-- the fjord at t is the one of place r -/
def FN (M : MM) (t r : Nat) : Prop := (M t 0 = M 147 (5 * r) ∧ M t 1 = M 147 (5 * r + 1) ∧ M t 12 = M 147 (5 * r + 2) ∧ M t 13 = M 147 (5 * r + 3) ∧ M t 14 = M 147 (5 * r + 4)) ∧
  (∀ c, c < 60 → M (t + 1) c = M 148 (60 * r + c) ∧ M (t + 2) c = M 149 (60 * r + c)) ∧
  (∀ p : Nat, (p : Int) < M 147 (5 * r + 2) → M (t + 3) p = M 151 (6 * r + p) ∧ M (t + 4) p = M 152 (6 * r + p) ∧ M (t + 5) p = M 153 (6 * r + p)) ∧
  ∀ l : Nat, (l : Int) < M 147 (5 * r + 3) → M (t + 6) l = M 154 (7 * r + l) ∧ M (t + 7) l = needK (M 154 (7 * r + l)) (M 155 (7 * r + l)) ∧ M (t + 8) l = M 156 (7 * r + l)
/-- the ice of cell i, its rows from a on, is the row S -/
def IN (M : MM) (i a : Nat) (n : Int) (S : Nat → Int) : Prop := (∀ c, c < 60 → M a c = S c ∧ M (a + 1) c = S (60 + c) - 1) ∧ (∀ p : Nat, p < 6 → ((p : Int) < n → M (a + 2) p = S (120 + p)) ∧ M (a + 3) p = S (126 + p)) ∧ M i 5 = S 132 ∧ M i 6 = S 133 ∧ M i 7 = S 134 ∧ M i 8 = S 135 ∧ M i 9 = S 136 ∧ M i 10 = S 137
def LCs (h : HP) (t r : Nat) (E : EE) : Prop := ∀ l, l < 4 → LC h (h_mr h t (l + 15)) l (E r l)
def Cg (h : HP) (t : Nat) (E : EE) (S : Nat → Int) : Prop := (RSk h ∧ CSk h ∧ Stt h ∧ h_mi h 138 0 = 0 ∧ h_mi h 139 0 = 0) ∧ Fj t h ∧ h_mr h 106 4 = t ∧ VM (h_mi h) E ∧ FN (h_mi h) t 0 ∧ LCs h t 0 E ∧ IN (h_mi h) 106 126 (h_mi h 147 2) S
abbrev Cu (h : HP) (t : Nat) (E : EE) : Prop := Cg h t E (h_mi h 172)
section
variable {h : HP} {t : Nat} {E : EE} {S : Nat → Int}
theorem Cg.rs (k : Cg h t E S) : RSk h := k.1.1
theorem Cg.cs (k : Cg h t E S) : CSk h := k.1.2.1
theorem Cg.st (k : Cg h t E S) : Stt h := k.1.2.2.1
theorem Cg.z0 (k : Cg h t E S) : h_mi h 138 0 = 0 ∧ h_mi h 139 0 = 0 := k.1.2.2.2
theorem Cg.fj (k : Cg h t E S) : Fj t h := k.2.1
theorem Cg.ht (k : Cg h t E S) : h_mr h 106 4 = t := k.2.2.1
theorem Cg.vm (k : Cg h t E S) : VM (h_mi h) E := k.2.2.2.1
theorem Cg.fn (k : Cg h t E S) : FN (h_mi h) t 0 := k.2.2.2.2.1
theorem Cg.lc (k : Cg h t E S) : LCs h t 0 E := k.2.2.2.2.2.1
theorem Cg.ic (k : Cg h t E S) : IN (h_mi h) 106 126 (h_mi h 147 2) S := k.2.2.2.2.2.2
end
theorem VM.cg {M N : MM} {E : EE} (v : VM M E) (g : ∀ a, 145 ≤ a → a ≤ 180 → N a = M a) : VM N E := by
  refine ⟨?_, ?_, fun l hl => ⟨(v.2.2 l hl).1.ag (g _ (by omega) (by omega)) (g _ (by omega) (by omega)) (g _ (by omega) (by omega)), (v.2.2 l hl).2⟩⟩
  · have h := v.1
    unfold FB at h ⊢
    rw [g 147 (by omega) (by omega), g 148 (by omega) (by omega), g 149 (by omega) (by omega), g 151 (by omega) (by omega), g 152 (by omega) (by omega), g 153 (by omega) (by omega), g 154 (by omega) (by omega), g 155 (by omega) (by omega), g 156 (by omega) (by omega)]
    exact h
  · have h2 := v.2.1
    unfold SB at h2 ⊢
    rw [g 148 (by omega) (by omega), g 172 (by omega) (by omega)]
    exact h2
theorem FN.cg {M N : MM} {t r : Nat} (f : FN M t r) (h1 : ∀ i, i ≤ 8 → N (t + i) = M (t + i)) (h2 : ∀ a, 145 ≤ a → a ≤ 180 → N a = M a) : FN N t r := by
  have e0 : N t = M t := h1 0 (by omega)
  unfold FN at f ⊢
  rw [e0, h1 1 (by omega), h1 2 (by omega), h1 3 (by omega), h1 4 (by omega), h1 5 (by omega), h1 6 (by omega), h1 7 (by omega), h1 8 (by omega), h2 147 (by omega) (by omega), h2 148 (by omega) (by omega), h2 149 (by omega) (by omega), h2 151 (by omega) (by omega), h2 152 (by omega) (by omega), h2 153 (by omega) (by omega), h2 154 (by omega) (by omega), h2 155 (by omega) (by omega), h2 156 (by omega) (by omega)]
  exact f
theorem IN.cg {M N : MM} {i a : Nat} {n : Int} {S : Nat → Int} (f : IN M i a n S) (h0 : N i = M i) (h1 : ∀ j, j ≤ 3 → N (a + j) = M (a + j)) : IN N i a n S := by
  have e0 : N a = M a := h1 0 (by omega)
  unfold IN at f ⊢
  rw [h0, e0, h1 1 (by omega), h1 2 (by omega), h1 3 (by omega)]
  exact f
theorem LC.cg {h h1 : HP} {a l : Nat} {e : (Nat → Int) → Int} (lc : LC h a l e) (h2 : h_ln h1 (a + 1) = h_ln h (a + 1)) (h3 : h_mi h1 (a + 1) = h_mi h (a + 1)) : LC h1 a l e := by
  unfold LC at lc ⊢
  rw [h2, h3]
  exact lc
section
variable {h : HP} {t : Nat} {E : EE} {S : Nat → Int}
theorem Cg.rr (k : Cg h t E S) {N : MM} (g : Ag (CqA t) (h_mi h) N) : ∀ a, 145 ≤ a → a ≤ 181 → N a = h_mi h a := fun a h1 h2 => g a (by
  have lt := k.fj.lt
  unfold CqA; omega)
theorem Cg.tt (k : Cg h t E S) {N : MM} (g : Ag (CqA t) (h_mi h) N) : ∀ i, i ≤ 8 → N (t + i) = h_mi h (t + i) := fun i h1 => g _ (by
  have lt := k.fj.lt
  unfold CqA; omega)
theorem Cg.cc (k : Cg h t E S) {N : MM} (g : Ag (CqA t) (h_mi h) N) : ∀ a, (a < 107 ∨ (126 ≤ a ∧ a ≤ 133) ∨ (137 ≤ a ∧ a ≤ 144)) → N a = h_mi h a := fun i h1 => g _ (by
  have lt := k.fj.lt
  unfold CqA; omega)
theorem Fj.lk {t : Nat} {h : HP} (f : Fj t h) {a : Nat} (ha : h_kd h a = 4) : a + 1 ≠ t + 9 ∧ a + 1 ≠ t + 10 := by
  have k8 := (f.2.2.1 7 (by omega)).1
  have k9 := (f.2.2.1 8 (by omega)).1
  refine ⟨fun z => ?_, fun z => ?_⟩
  · have : a = t + (7 + 1) := by omega
    rw [this, k8] at ha; omega
  · have : a = t + (8 + 1) := by omega
    rw [this, k9] at ha; omega
theorem Cg.q (k : Cg h t E S) {N : MM} (g : Ag (CqA t) (h_mi h) N) : Cg (sM h N) t E S := by
  have lt := k.fj.lt
  refine ⟨⟨k.rs, k.cs, ?_, by rw [mi_sM, k.cc g 138 (by omega), k.cc g 139 (by omega)]; exact k.z0⟩, k.fj, k.ht, k.vm.cg (fun a h1 h2 => k.rr g a h1 (by omega)), k.fn.cg (k.tt g) (fun a h1 h2 => k.rr g a h1 (by omega)), fun l hl => ?_, ?_⟩
  · have := k.st.sc (A := CqA t) (h1 := sM h N) ⟨rfl, rfl, rfl, rfl, rfl, fun a ha => ⟨g a ha, rfl⟩⟩ (fun a ha => by unfold CqA at ha; omega)
    exact this
  · have c := k.lc l hl
    refine LC.cg (h := h) c rfl (g (h_mr h t (l + 15) + 1) ?_)
    have kd := (k.fj.2.2.2.2 l hl).1
    have n := k.fj.lk kd
    have r := c.1
    unfold CqA; omega
  · have := k.ic.cg (N := N) (k.cc g _ (by omega)) (fun j hj => k.cc g _ (by omega))
    rw [mi_sM, k.rr g 147 (by omega) (by omega)]
    exact this
/-- the class's numbers are the reference's -/
theorem Cg.dat (k : Cg h t E S) {N : MM} (g : Ag (CqA t) (h_mi h) N) : N t 0 = h_mi h 147 0 ∧ N t 1 = h_mi h 147 1 ∧ N t 12 = h_mi h 147 2 ∧ N t 13 = h_mi h 147 3 ∧ N t 14 = h_mi h 147 4 ∧
    (∀ x : Int, 0 ≤ x → x < 60 → N (t + 1) x.toNat = h_mi h 148 x.toNat) ∧ (∀ x : Int, 0 ≤ x → x < 60 → N (t + 2) x.toNat = h_mi h 149 x.toNat) ∧
    (∀ x : Int, 0 ≤ x → x < h_mi h 147 2 → N (t + 3) x.toNat = h_mi h 151 x.toNat) ∧ (∀ x : Int, 0 ≤ x → x < h_mi h 147 2 → N (t + 4) x.toNat = h_mi h 152 x.toNat) ∧ (∀ x : Int, 0 ≤ x → x < h_mi h 147 2 → N (t + 5) x.toNat = h_mi h 153 x.toNat) ∧
    (∀ x : Int, 0 ≤ x → x < h_mi h 147 3 → N (t + 6) x.toNat = h_mi h 154 x.toNat) ∧ (∀ x : Int, 0 ≤ x → x < h_mi h 147 3 → N (t + 7) x.toNat = ndV (h_mi h) x) ∧ (∀ x : Int, 0 ≤ x → x < h_mi h 147 3 → N (t + 8) x.toNat = h_mi h 156 x.toNat) ∧
    (∀ x : Int, 0 ≤ x → x < 60 → N 126 x.toNat = S x.toNat) ∧ (∀ x : Int, 0 ≤ x → x < 60 → N 127 x.toNat = S (60 + x).toNat - 1) ∧
    (∀ x : Int, 0 ≤ x → x < h_mi h 147 2 → N 128 x.toNat = S (120 + x).toNat) ∧ (∀ x : Int, 0 ≤ x → x < 6 → N 129 x.toNat = S (126 + x).toNat) ∧
    N 106 5 = S 132 ∧ N 106 6 = S 133 ∧ N 106 7 = S 134 ∧ N 106 8 = S 135 ∧ N 106 9 = S 136 ∧ N 106 10 = S 137 := by
  have e0 : N t = h_mi h t := k.tt g 0 (by omega)
  obtain ⟨⟨a1, a2, a3, a4, a5⟩, b1, b2, b4⟩ := k.fn
  obtain ⟨c1, c2, c3⟩ := k.ic
  simp only [Nat.mul_zero, Nat.zero_add] at a1 a2 a3 a4 a5 b1 b2 b4
  refine ⟨by rw [e0]; exact a1, by rw [e0]; exact a2, by rw [e0]; exact a3, by rw [e0]; exact a4, by rw [e0]; exact a5, fun x h0 h1 => ?_, fun x h0 h1 => ?_, fun x h0 h1 => ?_, fun x h0 h1 => ?_, fun x h0 h1 => ?_, fun x h0 h1 => ?_, fun x h0 h1 => ?_, fun x h0 h1 => ?_, fun x h0 h1 => ?_, fun x h0 h1 => ?_, fun x h0 h1 => ?_, fun x h0 h1 => ?_, ?_⟩
  · rw [k.tt g 1 (by omega)]; exact (b1 _ (by omega)).1
  · rw [k.tt g 2 (by omega)]; exact (b1 _ (by omega)).2
  · rw [k.tt g 3 (by omega)]; exact (b2 _ (by omega)).1
  · rw [k.tt g 4 (by omega)]; exact (b2 _ (by omega)).2.1
  · rw [k.tt g 5 (by omega)]; exact (b2 _ (by omega)).2.2
  · rw [k.tt g 6 (by omega)]; exact (b4 _ (by omega)).1
  · rw [k.tt g 7 (by omega)]; exact (b4 _ (by omega)).2.1
  · rw [k.tt g 8 (by omega)]; exact (b4 _ (by omega)).2.2
  · rw [k.cc g 126 (by omega)]; exact (c1 _ (by omega)).1
  · rw [k.cc g 127 (by omega), show (60 + x).toNat = 60 + x.toNat by omega]; exact (c1 _ (by omega)).2
  · have p6 := k.vm.p
    rw [k.cc g 128 (by omega), show (120 + x).toNat = 120 + x.toNat by omega]; exact (c2 _ (by omega)).1 (by omega)
  · rw [k.cc g 129 (by omega), show (126 + x).toNat = 126 + x.toNat by omega]; exact (c2 _ (by omega)).2
  · rw [k.cc g 106 (by omega)]; exact c3
end
/-- the reference's rows alone -/
def rp (M : MM) : MM := fun a => if 145 ≤ a ∧ a ≤ 180 then M a else fun _ => 0
theorem rp_eq {M N : MM} (g : ∀ a, 145 ≤ a → a ≤ 180 → N a = M a) : rp N = rp M := by
  funext a
  unfold rp
  by_cases ha : 145 ≤ a ∧ a ≤ 180
  · rw [if_pos ha, if_pos ha, g a ha.1 ha.2]
  · rw [if_neg ha, if_neg ha]
theorem Cg.rpq {h : HP} {t : Nat} {E : EE} {S : Nat → Int} (k : Cg h t E S) {N : MM} (g : Ag (CqA t) (h_mi h) N) : rp N = rp (h_mi h) := rp_eq (fun a h1 h2 => k.rr g a h1 (by omega))
theorem sR_self (h : HP) (a k : Nat) : sR h a k (h_mr h a k) = h := by
  obtain ⟨x1, x2, x3, x4, x5, x6, x7⟩ := h
  show (x1, x2, x3, x4, va_up x5 a (va_up (x5 a) k (x5 a k)), x6, x7) = _
  rw [up_self, up_self]
/-- what a question may change -/
def Sq (t : Nat) (h h1 : HP) : Prop := ∃ N y, h1 = sM (sR h 134 2 y) N ∧ Ag (SqA t) (h_mi h) N ∧ ((t = 107 ∨ 182 ≤ t) → N 138 0 = h_mi h 138 0 ∧ N 139 0 = h_mi h 139 0)
theorem Sq.ofy {t : Nat} {h : HP} {N : MM} (g : Ag (CqA t) (h_mi h) N) (y : Nat) : Sq t h (sM (sR h 134 2 y) N) := ⟨N, y, rfl, g.up SqA_q, fun lt => by rw [g 138 (by unfold CqA; omega), g 139 (by unfold CqA; omega)]; exact ⟨rfl, rfl⟩⟩
theorem Sq.of {t : Nat} {h : HP} {N : MM} (g : Ag (CqA t) (h_mi h) N) : Sq t h (sM h N) := by
  have := Sq.ofy g (h_mr h 134 2)
  rw [sR_self] at this
  exact this
theorem Sq.rf (t : Nat) (h : HP) : Sq t h h := Sq.of (N := h_mi h) (Ag.rf _)
theorem Cu.qu {h : HP} {t : Nat} {E : EE} (k : Cu h t E) {N : MM} (g : Ag (CqA t) (h_mi h) N) : Cu (sM h N) t E := by
  have := Cg.q k g
  unfold Cu
  rw [mi_sM, Cg.rr k g 172 (by omega) (by omega)]
  exact this
theorem Cg.y {h : HP} {t : Nat} {E : EE} {S : Nat → Int} (k : Cg h t E S) (y : Nat) : Cg (sR h 134 2 y) t E S := by
  have lt := k.fj.lt
  have ne : ∀ a j, (a ≠ 134 ∨ j ≠ 2) → h_mr (sR h 134 2 y) a j = h_mr h a j := fun a j hj => by
    by_cases ha : a = 134
    · subst ha
      rw [mrR_eq, up_ne _ _ (by omega)]
    · rw [mrR_ne _ _ _ ha]
  have rw_ : RSk (sR h 134 2 y) := ⟨k.rs.1, fun q hq => by
    have := k.rs.2 q hq
    rw [ne _ _ (Or.inl ?_)]
    · exact this
    · have all : RSk_r.all (fun q => decide (q.1 ≠ 134)) = true := by decide +kernel
      exact of_decide_eq_true (List.all_eq_true.mp all q hq)⟩
  have cw_ : CSk (sR h 134 2 y) := ⟨k.cs.1, fun q hq => by
    have := k.cs.2 q hq
    rw [ne _ _ ?_]
    · exact this
    · have all : CSk_r.all (fun q => decide (q.1 ≠ 134 ∨ q.2.1 ≠ 2)) = true := by decide +kernel
      exact of_decide_eq_true (List.all_eq_true.mp all q hq)⟩
  have fe : ∀ j, h_mr (sR h 134 2 y) t j = h_mr h t j := fun j => ne t j (Or.inl (by omega))
  have le : ∀ l, l < 4 → h_mr (sR h 134 2 y) (h_mr h t (l + 15)) 0 = h_mr h (h_mr h t (l + 15)) 0 := fun l hl => ne _ _ (Or.inr (by omega))
  refine ⟨⟨rw_, cw_, fun a h1 h2 => ?_, k.z0⟩, ⟨k.fj.1, k.fj.2.1, k.fj.2.2.1, fun j hj => ?_, fun j hj => ?_⟩, ?_, k.vm, k.fn, fun l hl => ?_, k.ic⟩
  · obtain ⟨s1, s2, s3, s4, s5⟩ := k.st a h1 h2
    exact ⟨s1, s2, s3, s4, fun j => by rw [ne a j (Or.inl (by omega))]; exact s5 j⟩
  · rw [fe]; exact k.fj.2.2.2.1 j hj
  · rw [fe, le j hj]; exact k.fj.2.2.2.2 j hj
  · rw [ne _ _ (Or.inl (by omega))]; exact k.ht
  · rw [fe]; exact k.lc l hl
