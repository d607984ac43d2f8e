/-! what holds between two calls -/
def I3S (S : Nat → Int) : Prop := i3 (S 135) ∧ i3 (S 136) ∧ i3 (S 137)
/-- the tape -/
def TpO (M : MM) : Prop := M 101 1 = M 145 1 ∧ (0 ≤ M 145 1 ∧ M 145 1 ≤ 1000) ∧ ∀ j : Nat, (j : Int) < M 145 1 → M 102 j = M 146 j ∧ (M 146 j = 10 ∨ (32 ≤ M 146 j ∧ M 146 j ≤ 126))
/-- by how much row r of S is thicker than that of S0 -/
def fgV (r : Nat) (S0 S : Nat → Int) : Int := sm (fun j => S (10 * (r : Int) + j).toNat - S0 (10 * (r : Int) + j).toNat) 10
/-- the deed of slot z made S out of S0 -/
def UnD (M : MM) (z : Nat) (S0 S : Nat → Int) : Prop :=
  ∃ r : Nat, r < 6 ∧ M 132 z = r ∧ (∀ j, j < 10 → M 133 (10 * z + j) = S0 (10 * r + j)) ∧ (∀ c, c < 60 → (c < 10 * r ∨ 10 * r + 10 ≤ c) → S0 c = S c) ∧ S0 136 = S 136 ∧
  ((∃ p : Nat, (p : Int) < M 147 2 ∧ p < 6 ∧ M 131 z = 8 + p ∧ (∀ j, j < 6 → S0 (120 + j) = if j = p then S (120 + j) + 1 else S (120 + j)) ∧ S0 132 = S 132 ∧ S0 135 = i_sub (S 135) (fgV r S0 S) ∧ S0 137 = S 137) ∨
   (∃ l : Nat, l < 7 ∧ M 131 z = l ∧ (∀ j, j < 6 → S0 (120 + j) = S (120 + j)) ∧ S0 132 = i_and (S 132) (i_xor (i_shl 1 l) (-1)) ∧ S0 135 = S 135 ∧ S0 137 = i_add (S 137) (fgV r S0 S)))
def unR (U : Nat → Int) (i : Nat) : Nat → Int := fun k => U (144 * i + k)
def slot (x n : Int) (i : Nat) : Nat := ((x + 20 - n + i) % 20).toNat
/-- the ring of the class, the n rows U of the reference -/
def DdG (M : MM) (n : Int) (U S : Nat → Int) : Prop := M 130 4 = n ∧ (0 ≤ n ∧ n ≤ 20) ∧ (0 ≤ M 130 3 ∧ M 130 3 < 20) ∧
  ∀ i : Nat, (i : Int) < n → (SB M 0 (unR U i) ∧ I3S (unR U i)) ∧ UnD M (slot (M 130 3) n i) (unR U i) (if (i : Int) + 1 = n then S else unR U (i + 1))
def IcO (h : HP) (a : Nat) : Prop := 182 ≤ a ∧ a + 4 < h_sz h ∧ h_kd h a = 3 ∧ (∀ i, i < 4 → h_kd h (a + (i + 1)) = 11 ∧ h_ln h (a + (i + 1)) = ([60, 60, 6, 6] : List Nat).getD i 0) ∧ ∀ j, j < 4 → h_mr h a j = a + (j + 1)
def FjO (h : HP) (t : Nat) : Prop := Fj t h ∧ t + 10 < h_sz h ∧ ∀ l, l < 4 → h_mr h t (l + 15) + 1 < h_sz h
/-- the lines of place r lie where they may -/
def LnO (M : MM) (r : Nat) : Prop := ∀ l, l < 4 → 1000 * (r : Int) ≤ M 157 (4 * r + l) ∧ M 157 (4 * r + l) ≤ M 158 (4 * r + l) ∧ M 158 (4 * r + l) ≤ 1000 * (r : Int) + 1000
theorem LnO.e {M N : MM} {r : Nat} (u : LnO M r) (h7 : N 157 = M 157) (h8 : N 158 = M 158) : LnO N r := by
  unfold LnO at u ⊢
  rw [h7, h8]
  exact u
/-- the fjord at t is that of place r -/
def FjM (h : HP) (t r : Nat) (E : EE) : Prop := FjO h t ∧ FB (h_mi h) r ∧ FN (h_mi h) t r ∧ LCs h t r E ∧ (∀ l, l < 4 → LR (h_mi h) (E r l) r l ∧ AlE l (E r l)) ∧ LnO (h_mi h) r
/-- mark k; B: the nights -/
def MkO (h : HP) (E : EE) (B : Int) (k : Nat) : Prop := (h_mi h 180 k = 0 ∧ h_mr h 144 k = 0) ∨
  (h_mi h 180 k = 1 ∧ IcO h (h_mr h 144 k) ∧ FjM h (h_mr h (h_mr h 144 k) 4) (k + 2) E ∧ (SB (h_mi h) (k + 2) (unR (h_mi h 174) k) ∧ I3S (unR (h_mi h 174) k) ∧ h_mi h 174 (144 * k + 134) ≤ B) ∧
    IN (h_mi h) (h_mr h 144 k) (h_mr h 144 k + 1) (h_mi h 147 (5 * (k + 2) + 2)) (unR (h_mi h 174) k))
def MsO (h : HP) (E : EE) (B : Int) : Prop := (∀ k, k < 4 → MkO h E B k) ∧ (∀ k j, k < 4 → j < 4 → k ≠ j → h_mr h 144 k = 0 ∨ h_mr h 144 k ≠ h_mr h 144 j) ∧ LnO (h_mi h) 0
/-- the script and the law's own row -/
def LwO (h : HP) (L : Nat) (xs : Nat → Int) : Prop := h_kd h 40 = skd 40 ∧ h_ln h 40 = L ∧ h_mi h 40 = xs ∧ h_kd h 181 = 12 ∧ h_ln h 181 = 1 ∧ 182 ≤ h_sz h
def Inv (h : HP) (t : Nat) (E : EE) (B : Int) (L : Nat) (xs : Nat → Int) : Prop := Cu h t E ∧ FjO h t ∧ TpO (h_mi h) ∧ DdG (h_mi h) (h_mi h 145 44) (h_mi h 175) (h_mi h 172) ∧ MsO h E B ∧ (I3S (h_mi h 172) ∧ h_mi h 172 134 ≤ B) ∧ LwO h L xs
/-- cells that calls may change without touching marks -/
def CA (t : Nat) : Nat → Prop := fun a => (43 ≤ a ∧ a < 107) ∨ (126 ≤ a ∧ a ≤ 146) ∨ (160 ≤ a ∧ a ≤ 173) ∨ (175 ≤ a ∧ a ≤ 179) ∨ a = t + 9 ∨ a = t + 10
theorem Fj.ds {t t' : Nat} {h : HP} (f : Fj t h) (f' : Fj t' h) {i : Nat} (hi : i ≤ 8) : t' + i ≠ t + 9 ∧ t' + i ≠ t + 10 := by
  have k2 := f'.2.1
  refine ⟨fun z => ?_, fun z => ?_⟩
  · by_cases e : t' = t
    · omega
    · have := (f.2.2.1 (8 - i) (by omega)).1
      rw [show t + (8 - i + 1) = t' by omega, k2] at this
      omega
  · by_cases e : t' = t
    · omega
    · have := (f.2.2.1 (9 - i) (by omega)).1
      rw [show t + (9 - i + 1) = t' by omega, k2] at this
      omega
theorem IcO.ds {t a : Nat} {h : HP} (c : IcO h a) (f : Fj t h) {i : Nat} (hi : i ≤ 4) : a + i ≠ t + 9 ∧ a + i ≠ t + 10 := by
  have k3 := c.2.2.1
  refine ⟨fun z => ?_, fun z => ?_⟩
  · have := (f.2.2.1 (8 - i) (by omega)).1
    rw [show t + (8 - i + 1) = a by omega, k3] at this
    omega
  · have := (f.2.2.1 (9 - i) (by omega)).1
    rw [show t + (9 - i + 1) = a by omega, k3] at this
    omega
theorem FB.e {M N : MM} {r : Nat} (f : FB M r) (g : ∀ a, 147 ≤ a → a ≤ 159 → N a = M a) : FB N r := by
  unfold FB at f ⊢
  rw [g 147 (by omega) (by omega), g 148 (by omega) (by omega), g 149 (by omega) (by omega), g 151 (by omega) (by omega), g 152 (by omega) (by omega), g 153 (by omega) (by omega), g 154 (by omega) (by omega), g 155 (by omega) (by omega), g 156 (by omega) (by omega)]
  exact f
theorem SB.e {M N : MM} {r : Nat} {S : Nat → Int} (f : SB M r S) (g : N 148 = M 148) : SB N r S := by
  unfold SB at f ⊢
  rw [g]
  exact f
theorem FN.e {M N : MM} {t r : Nat} (f : FN M t r) (h1 : ∀ i, i ≤ 8 → N (t + i) = M (t + i)) (h2 : ∀ a, 147 ≤ a → a ≤ 159 → N a = M a) : FN N t r := by
  have e0 : N t = M t := h1 0 (by omega)
  unfold FN at f ⊢
  rw [e0, h1 1 (by omega), h1 2 (by omega), h1 3 (by omega), h1 4 (by omega), h1 5 (by omega), h1 6 (by omega), h1 7 (by omega), h1 8 (by omega), h2 147 (by omega) (by omega), h2 148 (by omega) (by omega), h2 149 (by omega) (by omega), h2 151 (by omega) (by omega), h2 152 (by omega) (by omega), h2 153 (by omega) (by omega), h2 154 (by omega) (by omega), h2 155 (by omega) (by omega), h2 156 (by omega) (by omega)]
  exact f
theorem FjM.st {h : HP} {t t' r : Nat} {E : EE} {N : MM} (f : Fj t h) (g : Ag (CA t) (h_mi h) N) (m : FjM h t' r E) : FjM (sM h N) t' r E := by
  have lt := f.lt
  obtain ⟨fo, fb, fn, lc, lr, ln⟩ := m
  have lt' := fo.1.lt
  have r9 : ∀ a, 147 ≤ a → a ≤ 159 → N a = h_mi h a := fun a h1 h2 => g a (by unfold CA; omega)
  refine ⟨fo, fb.e r9, fn.e (fun i hi => g _ ?_) r9, fun l hl => ?_, fun l hl => ⟨(lr l hl).1.ag (r9 _ (by omega) (by omega)) (r9 _ (by omega) (by omega)) (r9 _ (by omega) (by omega)), (lr l hl).2⟩, ln.e (r9 _ (by omega) (by omega)) (r9 _ (by omega) (by omega))⟩
  · have := f.ds fo.1 hi
    unfold CA; omega
  · have c := lc l hl
    refine LC.cg (h := h) c rfl (g (h_mr h t' (l + 15) + 1) ?_)
    have kd := (fo.1.2.2.2.2 l hl).1
    have n := f.lk kd
    have q := c.1
    unfold CA; omega
theorem MkO.st {h : HP} {t k : Nat} {E : EE} {B : Int} {N : MM} (f : Fj t h) (g : Ag (CA t) (h_mi h) N) (m : MkO h E B k) : MkO (sM h N) E B k := by
  have lt := f.lt
  have e0 : N 180 = h_mi h 180 := g _ (by unfold CA; omega)
  have e4 : N 174 = h_mi h 174 := g _ (by unfold CA; omega)
  have e7 : N 147 = h_mi h 147 := g _ (by unfold CA; omega)
  have e8 : N 148 = h_mi h 148 := g _ (by unfold CA; omega)
  rcases m with ⟨m1, m2⟩ | ⟨m1, ic, fm, ⟨sb, i3s, nb⟩, inn⟩
  · left
    exact ⟨by rw [mi_sM, e0]; exact m1, m2⟩
  · right
    refine ⟨by rw [mi_sM, e0]; exact m1, ic, fm.st f g, ⟨?_, ?_, ?_⟩, ?_⟩
    · rw [mi_sM, e4]; exact sb.e e8
    · rw [mi_sM, e4]; exact i3s
    · rw [mi_sM, e4]; exact nb
    · have ge := ic.1
      rw [mi_sM, e4, e7]
      refine inn.cg (g _ ?_) (fun j hj => g _ ?_)
      · have := ic.ds f (i := 0) (by omega)
        show ¬ CA t (h_mr h 144 k)
        unfold CA; omega
      · have := ic.ds f (i := j + 1) (by omega)
        show ¬ CA t (h_mr h 144 k + 1 + j)
        unfold CA; omega
theorem MsO.st {h : HP} {t : Nat} {E : EE} {B : Int} {N : MM} (f : Fj t h) (g : Ag (CA t) (h_mi h) N) (m : MsO h E B) : MsO (sM h N) E B := ⟨fun k hk => (m.1 k hk).st f g, m.2.1, m.2.2.e (g _ (by have := f.lt; unfold CA; omega)) (g _ (by have := f.lt; unfold CA; omega))⟩
/-- the yard's fjord is no matter -/
theorem FjO.y {h : HP} {t : Nat} (f : FjO h t) (y : Nat) : FjO (sR h 134 2 y) t := by
  have lt := f.1.lt
  have e : ∀ a j, a ≠ 134 ∨ j ≠ 2 → h_mr (sR h 134 2 y) a j = h_mr h a j := fun a j hj => by
    by_cases ha : a = 134
    · subst ha; rw [mrR_eq, up_ne _ _ (by omega)]
    · rw [mrR_ne _ _ _ ha]
  refine ⟨⟨f.1.1, f.1.2.1, f.1.2.2.1, fun j hj => ?_, fun j hj => ?_⟩, f.2.1, fun l hl => ?_⟩
  · rw [e _ _ (Or.inl (by omega))]; exact f.1.2.2.2.1 j hj
  · rw [e t _ (Or.inl (by omega)), e _ 0 (Or.inr (by omega))]; exact f.1.2.2.2.2 j hj
  · rw [e t _ (Or.inl (by omega))]; exact f.2.2 l hl
theorem mrY {h : HP} {a j : Nat} (y : Nat) (hj : a ≠ 134 ∨ j ≠ 2) : h_mr (sR h 134 2 y) a j = h_mr h a j := by
  by_cases ha : a = 134
  · subst ha; rw [mrR_eq, up_ne _ _ (by omega)]
  · rw [mrR_ne _ _ _ ha]
theorem MsO.y {h : HP} {E : EE} {B : Int} (m : MsO h E B) (y : Nat) : MsO (sR h 134 2 y) E B := by
  refine ⟨fun k hk => ?_, fun k j hk hj hn => ?_, m.2.2⟩
  · have e4 : h_mr (sR h 134 2 y) 144 k = h_mr h 144 k := mrY y (Or.inl (by omega))
    rcases m.1 k hk with ⟨m1, m2⟩ | ⟨m1, ic, fm, sb, inn⟩
    · exact Or.inl ⟨m1, by rw [e4]; exact m2⟩
    · have ge := ic.1
      have e5 : h_mr (sR h 134 2 y) (h_mr h 144 k) 4 = h_mr h (h_mr h 144 k) 4 := mrY y (Or.inl (by omega))
      refine Or.inr ⟨m1, ?_, ?_, sb, ?_⟩
      · rw [e4]
        exact ⟨ic.1, ic.2.1, ic.2.2.1, ic.2.2.2.1, fun j hj => by rw [mrY y (Or.inl (by omega))]; exact ic.2.2.2.2 j hj⟩
      · rw [e4, e5]
        obtain ⟨fo, fb, fn, lc, lr⟩ := fm
        have lt := fo.1.lt
        exact ⟨fo.y y, fb, fn, fun l hl => by rw [mrY y (Or.inl (by omega))]; exact lc l hl, lr⟩
      · rw [e4]; exact inn
  · rw [mrY y (Or.inl (by omega)), mrY y (Or.inl (by omega))]
    exact m.2.1 k j hk hj hn
theorem UnD.e {M N : MM} {z : Nat} {S0 S : Nat → Int} (u : UnD M z S0 S) (g : ∀ a, a = 131 ∨ a = 132 ∨ a = 133 ∨ a = 147 → N a = M a) : UnD N z S0 S := by
  unfold UnD at u ⊢
  rw [g 131 (by omega), g 132 (by omega), g 133 (by omega), g 147 (by omega)]
  exact u
theorem DdG.e {M N : MM} {n : Int} {U S : Nat → Int} (u : DdG M n U S) (g : ∀ a, (130 ≤ a ∧ a ≤ 133) ∨ a = 147 ∨ a = 148 → N a = M a) : DdG N n U S := by
  obtain ⟨u1, u2, u3, u4⟩ := u
  refine ⟨by rw [g 130 (by omega)]; exact u1, u2, by rw [g 130 (by omega)]; exact u3, fun i hi => ?_⟩
  obtain ⟨⟨a, b⟩, c⟩ := u4 i hi
  rw [g 130 (by omega)]
  exact ⟨⟨a.e (g 148 (by omega)), b⟩, c.e (fun a ha => g a (by omega))⟩
/-- only the rows that undo brings back count -/
theorem UnD.s {M : MM} {z : Nat} {S0 S S' : Nat → Int} (u : UnD M z S0 S) (g : ∀ c, (c < 60 ∨ (120 ≤ c ∧ c < 126) ∨ c = 132 ∨ (135 ≤ c ∧ c < 144)) → S' c = S c) : UnD M z S0 S' := by
  obtain ⟨r, r6, u1, u2, u3, u4, u5⟩ := u
  have ef : fgV r S0 S' = fgV r S0 S := sm_congr (fun k k0 k1 => by rw [g _ (by omega)])
  refine ⟨r, r6, u1, u2, fun c hc hr => by rw [g c (by omega)]; exact u3 c hc hr, by rw [g 136 (by omega)]; exact u4, ?_⟩
  rcases u5 with ⟨p, p1, p2, p3, p4, p5, p6, p7⟩ | ⟨l, l1, l2, l3, l4, l5, l6⟩
  · refine Or.inl ⟨p, p1, p2, p3, fun j hj => by rw [g (120 + j) (by omega)]; exact p4 j hj, by rw [g 132 (by omega)]; exact p5, by rw [ef, g 135 (by omega)]; exact p6, by rw [g 137 (by omega)]; exact p7⟩
  · refine Or.inr ⟨l, l1, l2, fun j hj => by rw [g (120 + j) (by omega)]; exact l3 j hj, by rw [g 132 (by omega)]; exact l4, by rw [g 135 (by omega)]; exact l5, by rw [ef, g 137 (by omega)]; exact l6⟩
theorem DdG.s {M : MM} {n : Int} {U S S' : Nat → Int} (u : DdG M n U S) (g : ∀ c, (c < 60 ∨ (120 ≤ c ∧ c < 126) ∨ c = 132 ∨ (135 ≤ c ∧ c < 144)) → S' c = S c) : DdG M n U S' := by
  obtain ⟨u1, u2, u3, u4⟩ := u
  refine ⟨u1, u2, u3, fun i hi => ⟨(u4 i hi).1, ?_⟩⟩
  have := (u4 i hi).2
  by_cases z : (i : Int) + 1 = n
  · rw [if_pos z] at this ⊢
    exact this.s g
  · rw [if_neg z] at this ⊢
    exact this
theorem TpO.e {M N : MM} (u : TpO M) (h1 : N 101 1 = M 101 1) (h2 : N 145 1 = M 145 1) (h3 : N 102 = M 102) (h4 : N 146 = M 146) : TpO N := by
  unfold TpO at u ⊢
  rw [h1, h2, h3, h4]
  exact u
section
variable {h : HP} {t : Nat} {E : EE} {B : Int} {L : Nat} {xs : Nat → Int}
/-- the class changes what it likes of its own, the ice becomes S -/
theorem Cg.own {S S' : Nat → Int} (k : Cg h t E S) {N : MM} (g : Ag (CA t) (h_mi h) N) (r : ∀ a, 145 ≤ a → a ≤ 180 → N a = h_mi h a) (z : N 138 0 = 0 ∧ N 139 0 = 0) (i : IN N 106 126 (h_mi h 147 2) S') : Cg (sM h N) t E S' := by
  have lt := k.fj.lt
  refine ⟨⟨k.rs, k.cs, ?_, z⟩, k.fj, k.ht, k.vm.cg r, k.fn.cg (fun i hi => g _ ?_) r, fun l hl => ?_, ?_⟩
  · exact k.st.sc (A := CA t) (h1 := sM h N) ⟨rfl, rfl, rfl, rfl, rfl, fun a ha => ⟨g a ha, rfl⟩⟩ (fun a ha => by unfold CA at ha; omega)
  · have := k.fj.ds k.fj hi
    unfold CA; omega
  · have c := k.lc l hl
    refine LC.cg (h := h) c rfl (g (h_mr h t (l + 15) + 1) ?_)
    have kd := (k.fj.2.2.2.2 l hl).1
    have n := k.fj.lk kd
    have q := c.1
    unfold CA; omega
  · rw [mi_sM, r 147 (by omega) (by omega)]
    exact i
/-- the reference changes its own -/
theorem Cg.ref {S : Nat → Int} (k : Cg h t E S) {N : MM} (g : Ag (fun a => a = 145 ∨ a = 146 ∨ (160 ≤ a ∧ a ≤ 180)) (h_mi h) N) (sb : SB (h_mi h) 0 (N 172)) : Cg (sM h N) t E S := by
  have lt := k.fj.lt
  have r9 : ∀ a, 147 ≤ a → a ≤ 159 → N a = h_mi h a := fun a h1 h2 => g a (by omega)
  refine ⟨⟨k.rs, k.cs, ?_, by rw [mi_sM, g 138 (by omega), g 139 (by omega)]; exact k.z0⟩, k.fj, k.ht, ⟨k.vm.1.e r9, sb.e (g 148 (by omega)), fun l hl => ⟨(k.vm.2.2 l hl).1.ag (r9 _ (by omega) (by omega)) (r9 _ (by omega) (by omega)) (r9 _ (by omega) (by omega)), (k.vm.2.2 l hl).2⟩⟩, k.fn.e (fun i hi => g _ (by omega)) r9, fun l hl => ?_, ?_⟩
  · exact k.st.sc (A := fun a => a = 145 ∨ a = 146 ∨ (160 ≤ a ∧ a ≤ 180)) (h1 := sM h N) ⟨rfl, rfl, rfl, rfl, rfl, fun a ha => ⟨g a ha, rfl⟩⟩ (fun a ha => by omega)
  · have c := k.lc l hl
    refine LC.cg (h := h) c rfl (g (h_mr h t (l + 15) + 1) ?_)
    have q := c.1
    omega
  · rw [mi_sM, r9 147 (by omega) (by omega)]
    exact k.ic.cg (g 106 (by omega)) (fun j hj => g _ (by omega))
theorem Inv.sq {h1 : HP} (i : Inv h t E B L xs) (s : Sq t h h1) : Inv h1 t E B L xs := by
  obtain ⟨k, fo, tp, dd, ms, ss, lw⟩ := i
  obtain ⟨N, y, rfl, g, z⟩ := s
  have lt := k.fj.lt
  have zz := z lt
  have ky := Cg.y k y
  have ku : Cu (sM (sR h 134 2 y) N) t E := Cu.s (h := sR h 134 2 y) ky g (by
    rw [zz.1, zz.2]; exact k.z0)
  have gc : Ag (CA t) (h_mi h) N := g.up (fun a ha => by unfold SqA at ha; unfold CA; omega)
  have r : ∀ a, 144 ≤ a → a ≤ 181 → N a = h_mi h a := fun a h1 h2 => g a (by unfold SqA; omega)
  have r' : ∀ a, a < 107 ∨ (126 ≤ a ∧ a ≤ 133) → N a = h_mi h a := fun a h1 => g a (by unfold SqA; omega)
  refine ⟨ku, fo.y y, tp.e ?_ ?_ (r' 102 (by omega)) (r 146 (by omega) (by omega)), ?_, ?_, ?_, ?_⟩
  · rw [mi_sM, r' 101 (by omega)]
  · rw [mi_sM, r 145 (by omega) (by omega)]
  · rw [mi_sM, r 145 (by omega) (by omega), r 175 (by omega) (by omega), r 172 (by omega) (by omega)]
    exact dd.e (fun a ha => by
      by_cases z : a ≤ 133
      · exact r' a (by omega)
      · exact r a (by omega) (by omega))
  · exact MsO.st (h := sR h 134 2 y) (t := t) (fo.y y).1 gc (ms.y y)
  · rw [mi_sM, r 172 (by omega) (by omega)]; exact ss
  · exact ⟨lw.1, lw.2.1, by rw [mi_sM, r' 40 (by omega)]; exact lw.2.2.1, lw.2.2.2⟩
theorem Inv.qa {N : MM} (i : Inv h t E B L xs) (q : QA (h_mi h) N) : Inv (sM h N) t E B L xs := by
  obtain ⟨k, fo, tp, dd, ms, ss, lw⟩ := i
  have lt := k.fj.lt
  have r : ∀ a, ¬ RsA a → N a = h_mi h a := fun a ha => q.1 a ha
  have e172 : N 172 = h_mi h 172 := r _ (by unfold RsA; omega)
  have ku : Cu (sM h N) t E := by
    have := Cg.ref k (N := N) (q.1.up (fun a ha => by unfold RsA at ha; omega)) (by rw [e172]; exact k.vm.2.1)
    unfold Cu
    rw [mi_sM, e172]
    exact this
  refine ⟨ku, fo, tp.e ?_ q.2.1 (r 102 (by unfold RsA; omega)) (r 146 (by unfold RsA; omega)), ?_, ms.st fo.1 (q.1.up (fun a ha => by unfold RsA at ha; unfold CA; omega)), ?_, ?_⟩
  · rw [mi_sM, r 101 (by unfold RsA; omega)]
  · rw [mi_sM, q.2.2, r 175 (by unfold RsA; omega), e172]
    exact dd.e (fun a ha => r a (by unfold RsA; omega))
  · rw [mi_sM, e172]; exact ss
  · exact ⟨lw.1, lw.2.1, by rw [mi_sM, r 40 (by unfold RsA; omega)]; exact lw.2.2.1, lw.2.2.2⟩
end
