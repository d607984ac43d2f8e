/-! memories: the int rows of a heap as one function; what both sides stand on -/
abbrev MM : Type := Nat → Nat → Int
def sM (h : HP) (M : MM) : HP := (h.1, h.2.1, M, h.2.2.2)
def up2 (M : MM) (a k : Nat) (v : Int) : MM := va_up M a (va_up (M a) k v)
theorem mi_sM (h : HP) (M : MM) : h_mi (sM h M) = M := rfl
theorem kd_sM (h : HP) (M : MM) : h_kd (sM h M) = h_kd h := rfl
theorem ln_sM (h : HP) (M : MM) : h_ln (sM h M) = h_ln h := rfl
theorem mr_sM (h : HP) (M : MM) : h_mr (sM h M) = h_mr h := rfl
theorem ml_sM (h : HP) (M : MM) : h_ml (sM h M) = h_ml h := rfl
theorem sz_sM (h : HP) (M : MM) : h_sz (sM h M) = h_sz h := rfl
theorem sl_sM (h : HP) (M : MM) : h_sl (sM h M) = h_sl h := rfl
theorem isK_sM (h : HP) (M : MM) (a c : Nat) : isK (sM h M) a c = isK h a c := rfl
theorem inb_sM (h : HP) (M : MM) (a : Nat) (i : Int) : inb (sM h M) a i = inb h a i := rfl
theorem sI_sM (h : HP) (M : MM) (a k : Nat) (v : Int) : sI (sM h M) a k v = sM h (up2 M a k v) := rfl
theorem sRi_sM (h : HP) (M : MM) (a : Nat) (f : Nat → Int) : sRi (sM h M) a f = sM h (va_up M a f) := rfl
theorem sM_sM (h : HP) (M N : MM) : sM (sM h M) N = sM h N := rfl
theorem sM_self (h : HP) : sM h (h_mi h) = h := rfl
theorem u2_eq (M : MM) (a k : Nat) (v : Int) : up2 M a k v a = va_up (M a) k v := up_eq _ _ _
theorem u2_ne (M : MM) {a b : Nat} (k : Nat) (v : Int) (h : b ≠ a) : up2 M a k v b = M b := up_ne _ _ h
theorem u2_at (M : MM) (a k : Nat) (v : Int) : up2 M a k v a k = v := by rw [u2_eq, up_eq]
theorem u2_no (M : MM) (a : Nat) {k j : Nat} (v : Int) (h : j ≠ k) : up2 M a k v a j = M a j := by rw [u2_eq, up_ne _ _ h]
theorem u2_u2 (M : MM) (a k : Nat) (v u : Int) : up2 (up2 M a k v) a k u = up2 M a k u := by
  unfold up2; rw [up_eq, up_up, up_up]
/-- M and N agree outside A -/
def Ag (A : Nat → Prop) (M N : MM) : Prop := ∀ a, ¬ A a → N a = M a
theorem Ag.rf {A : Nat → Prop} (M : MM) : Ag A M M := fun _ _ => rfl
theorem Ag.tr {A : Nat → Prop} {M N P : MM} (p : Ag A M N) (q : Ag A N P) : Ag A M P := fun a h => (q a h).trans (p a h)
theorem Ag.up {A B : Nat → Prop} {M N : MM} (p : Ag A M N) (h : ∀ a, A a → B a) : Ag B M N := fun a hb => p a (fun z => hb (h a z))
theorem Ag.u2 {A : Nat → Prop} {M N : MM} (p : Ag A M N) {a : Nat} (k : Nat) (v : Int) (ha : A a) : Ag A M (up2 N a k v) := fun b hb => (u2_ne N k v (fun z => hb (by rw [z]; exact ha))).trans (p b hb)
theorem Ag.row {A : Nat → Prop} {M N : MM} (p : Ag A M N) {a : Nat} (f : Nat → Int) (ha : A a) : Ag A M (va_up N a f) := fun b hb => (up_ne N f (fun z => hb (by rw [z]; exact ha))).trans (p b hb)
theorem Ag.sc {A : Nat → Prop} {h : HP} {M N : MM} (p : Ag A M N) : Sc A (sM h M) (sM h N) := ⟨rfl, rfl, rfl, rfl, rfl, fun a ha => ⟨p a ha, rfl⟩⟩
/-- a truth as a number -/
def bb (p : Prop) [Decidable p] : Int := if p then 1 else 0
theorem bb_t {p : Prop} [Decidable p] (h : p) : bb p = 1 := if_pos h
theorem bb_f {p : Prop} [Decidable p] (h : ¬ p) : bb p = 0 := if_neg h
theorem bb_0 (p : Prop) [Decidable p] : (bb p = 0) = ¬ p := by unfold bb; by_cases h : p <;> simp [h]
theorem bb_1 (p : Prop) [Decidable p] : (bb p = 1) = p := by unfold bb; by_cases h : p <;> simp [h]
theorem bb_01 (p : Prop) [Decidable p] : bb p = 0 ∨ bb p = 1 := by unfold bb; by_cases h : p <;> simp [h]
theorem bb_dt {p : Prop} [Decidable p] (h : p) : decide (bb p = 0) = false := by rw [bb_t h]; rfl
theorem bb_df {p : Prop} [Decidable p] (h : ¬ p) : decide (bb p = 0) = true := by rw [bb_f h]; rfl
theorem bb_nt {p : Prop} [Decidable p] (h : p) : decide (bb p ≠ 0) = true := by rw [bb_t h]; rfl
theorem bb_nf {p : Prop} [Decidable p] (h : ¬ p) : decide (bb p ≠ 0) = false := by rw [bb_f h]; rfl
theorem bb_cg {p q : Prop} [Decidable p] [Decidable q] (h : p ↔ q) : bb p = bb q := by unfold bb; by_cases hp : p <;> simp [hp, h.symm] <;> simp [h.mp, hp] <;> simp_all
/-- clamped to 0 .. 9 -/
def c9 (x : Int) : Int := max 0 (min 9 x)
theorem c9_b (x : Int) : 0 ≤ c9 x ∧ c9 x ≤ 9 := by unfold c9; omega
theorem sI_h (h : HP) (a k : Nat) (v : Int) : sI h a k v = sM h (up2 (h_mi h) a k v) := rfl
theorem sRi_h (h : HP) (a : Nat) (f : Nat → Int) : sRi h a f = sM h (va_up (h_mi h) a f) := rfl
theorem up2_row (M : MM) (a : Nat) (f : Nat → Int) (k : Nat) (v : Int) : up2 (va_up M a f) a k v = va_up M a (va_up f k v) := by
  unfold up2; rw [up_eq, up_up]
theorem up2_out (M : MM) {a b : Nat} (f : Nat → Int) (k : Nat) (v : Int) (hn : a ≠ b) : up2 (va_up M b f) a k v = va_up (up2 M a k v) b f := by
  unfold up2; rw [up_ne _ _ hn, up_comm _ _ _ (fun z => hn z.symm)]
theorem up2_def (M : MM) (a k : Nat) (v : Int) : up2 M a k v = va_up M a (va_up (M a) k v) := rfl
/-- a loop that rewrites a row cell by cell -/
def rowF (g : Int → Int → Int) (k : Nat) (i : Int) (f : Nat → Int) : Nat → Int := itr (fun i f => va_up f i.toNat (g i (f i.toNat))) k i f
theorem rowF_at (g : Int → Int → Int) : ∀ (k : Nat) (i : Int) (f : Nat → Int) (j : Int), 0 ≤ i → 0 ≤ j → rowF g k i f j.toNat = if i ≤ j ∧ j < i + k then g j (f j.toNat) else f j.toNat
  | 0, i, f, j, h1, h2 => by
    rw [if_neg (by omega)]; rfl
  | k + 1, i, f, j, h1, h2 => by
    show rowF g k (i + 1) (va_up f i.toNat (g i (f i.toNat))) j.toNat = _
    rw [rowF_at g k (i + 1) _ j (by omega) h2]
    by_cases hj : j = i
    · subst hj
      rw [if_neg (by omega), if_pos (by omega), up_eq]
    · rw [up_ne _ _ (show j.toNat ≠ i.toNat by omega)]
      by_cases h3 : i + 1 ≤ j ∧ j < i + 1 + k
      · rw [if_pos h3, if_pos (by omega)]
      · rw [if_neg h3, if_neg (by omega)]
theorem rowF_in {g : Int → Int → Int} {n : Int} {f : Nat → Int} {j : Int} (h1 : 0 ≤ j) (h2 : j < n) : rowF g n.toNat 0 f j.toNat = g j (f j.toNat) := by
  rw [rowF_at g _ 0 f j (by omega) h1, if_pos (by omega)]
theorem rowF_out {g : Int → Int → Int} {n : Int} {f : Nat → Int} {j : Int} (h1 : 0 ≤ j) (h2 : n ≤ j) : rowF g n.toNat 0 f j.toNat = f j.toNat := by
  rw [rowF_at g _ 0 f j (by omega) h1, if_neg (by omega)]
/-- the least, 99 at most -/
def mnF (I : Nat → Int) (i a : Int) : Int := min a (I i.toNat)
def lo (I : Nat → Int) (n : Int) : Int := itr (mnF I) n.toNat 0 99
theorem lo_le (I : Nat → Int) (n : Int) : lo I n ≤ 99 := by
  unfold lo
  have key : ∀ (k : Nat) (i a : Int), a ≤ 99 → itr (mnF I) k i a ≤ 99 := by
    intro k
    induction k with
    | zero => intro i a h; exact h
    | succ k ih => intro i a h; exact ih (i + 1) _ (by unfold mnF; omega)
  exact key _ _ _ (by omega)
theorem lo_ge_iff (I : Nat → Int) (n x : Int) : x ≤ lo I n ↔ x ≤ 99 ∧ ∀ i : Int, 0 ≤ i → i < n → x ≤ I i.toNat := by
  unfold lo
  have key : ∀ (k : Nat) (i a : Int), x ≤ itr (mnF I) k i a ↔ x ≤ a ∧ ∀ j : Int, i ≤ j → j < i + k → x ≤ I j.toNat := by
    intro k
    induction k with
    | zero => intro i a; exact ⟨fun h => ⟨h, fun j h1 h2 => by omega⟩, fun h => h.1⟩
    | succ k ih =>
      intro i a
      show x ≤ itr (mnF I) k (i + 1) (mnF I i a) ↔ _
      rw [ih (i + 1) (mnF I i a)]
      unfold mnF
      constructor
      · rintro ⟨h1, h2⟩
        refine ⟨by omega, fun j h3 h4 => ?_⟩
        by_cases hj : j = i
        · subst hj; omega
        · exact h2 j (by omega) (by omega)
      · rintro ⟨h1, h2⟩
        have := h2 i (by omega) (by omega)
        exact ⟨by omega, fun j h3 h4 => h2 j (by omega) (by omega)⟩
  rw [key]
  constructor
  · rintro ⟨h1, h2⟩; exact ⟨h1, fun i h3 h4 => h2 i h3 (by omega)⟩
  · rintro ⟨h1, h2⟩; exact ⟨h1, fun i h3 h4 => h2 i h3 (by omega)⟩
theorem lo_ext {I J : Nat → Int} {n m : Int} (h : ∀ x : Int, x ≤ 99 → ((∀ i : Int, 0 ≤ i → i < n → x ≤ I i.toNat) ↔ ∀ i : Int, 0 ≤ i → i < m → x ≤ J i.toNat)) : lo I n = lo J m := by
  have h1 := lo_le I n
  have h2 := lo_le J m
  have a1 := (lo_ge_iff I n (lo I n)).mp (Int.le_refl _)
  have a2 := (lo_ge_iff J m (lo J m)).mp (Int.le_refl _)
  have b1 := (lo_ge_iff J m (lo I n)).mpr ⟨h1, (h _ h1).mp a1.2⟩
  have b2 := (lo_ge_iff I n (lo J m)).mpr ⟨h2, (h _ h2).mpr a2.2⟩
  omega
theorem RSk.m {h : HP} (w : RSk h) (M : MM) : RSk (sM h M) := w
theorem CSk.m {h : HP} (w : CSk h) (M : MM) : CSk (sM h M) := w
theorem Fj.m {t : Nat} {h : HP} (f : Fj t h) (M : MM) : Fj t (sM h M) := f
theorem itx_l {α β : Type} {f : Int → α → β ⊕ α} {k : Nat} {i : Int} {a : α} {b : β} (h : f i a = .inl b) : itx f (k + 1) i a = .inl b := by unfold itx; rw [h]
theorem itx_r {α β : Type} {f : Int → α → β ⊕ α} {k : Nat} {i : Int} {a a2 : α} (h : f i a = .inr a2) : itx f (k + 1) i a = itx f k (i + 1) a2 := by
  rw [itx.eq_2, h]
