/-! numbers of the machine: wrapped ones that don't wrap -/
theorem bm {x : Int} (h1 : -2147483648 ≤ x) (h2 : x < 2147483648) : x.bmod 4294967296 = x := by
  rw [Int.bmod_def]; split <;> omega
theorem bm64 {x : Int} (h1 : -9223372036854775808 ≤ x) (h2 : x < 9223372036854775808) : x.bmod 18446744073709551616 = x := by
  rw [Int.bmod_def]; split <;> omega
theorem toI (x : Int) : (Int32.ofInt x).toInt = x.bmod 4294967296 := by rw [Int32.toInt_ofInt]
theorem toL (x : Int) : (Int64.ofInt x).toInt = x.bmod 18446744073709551616 := by rw [Int64.toInt_ofInt]
theorem i_add_b (x y : Int) : i_add x y = (x + y).bmod 4294967296 := by
  unfold i_add; rw [Int32.toInt_add, toI, toI]
  show (Int.bmod x 4294967296 + Int.bmod y 4294967296).bmod 4294967296 = _
  rw [Int.bmod_add_bmod, Int.add_bmod_bmod]
theorem i_sub_b (x y : Int) : i_sub x y = (x - y).bmod 4294967296 := by
  unfold i_sub; rw [Int32.toInt_sub, toI, toI]
  show (Int.bmod x 4294967296 - Int.bmod y 4294967296).bmod 4294967296 = _
  rw [Int.bmod_sub_bmod, Int.sub_bmod_bmod]
theorem i_mul_b (x y : Int) : i_mul x y = (x * y).bmod 4294967296 := by
  unfold i_mul; rw [Int32.toInt_mul, toI, toI]
  show (Int.bmod x 4294967296 * Int.bmod y 4294967296).bmod 4294967296 = _
  rw [Int.bmod_mul_bmod, Int.mul_bmod_bmod]
theorem ia {x y : Int} (h1 : -2147483648 ≤ x + y) (h2 : x + y < 2147483648) : i_add x y = x + y := by rw [i_add_b, bm h1 h2]
theorem is_ {x y : Int} (h1 : -2147483648 ≤ x - y) (h2 : x - y < 2147483648) : i_sub x y = x - y := by rw [i_sub_b, bm h1 h2]
theorem im {x y : Int} (h1 : -2147483648 ≤ x * y) (h2 : x * y < 2147483648) : i_mul x y = x * y := by rw [i_mul_b, bm h1 h2]
theorem in_ {x : Int} (h1 : -2147483648 < x) (h2 : x < 2147483648) : i_neg x = -x := by
  unfold i_neg; rw [Int32.toInt_neg, toI, bm (by omega) h2]
  exact bm (by omega) (by omega)
theorem id_ {x y : Int} (h1 : 0 ≤ x) (h2 : x < 2147483648) (h3 : 0 < y) (h4 : y < 2147483648) : i_div x y = x / y := by
  have e : x.tdiv y = x / y := Int.tdiv_eq_ediv_of_nonneg h1
  have b1 : 0 ≤ x / y := Int.ediv_nonneg h1 (by omega)
  have b2 : x / y ≤ x := Int.ediv_le_self y h1
  unfold i_div
  rw [Int32.toInt_div, toI, toI, bm (by omega) h2, bm (by omega) h4, e]
  exact bm (by omega) (by omega)
theorem ir {x y : Int} (h1 : 0 ≤ x) (h2 : x < 2147483648) (h3 : 0 < y) (h4 : y < 2147483648) : i_rem x y = x % y := by
  have b1 : 0 ≤ x / y := Int.ediv_nonneg h1 (by omega)
  have b2 : x / y ≤ x := Int.ediv_le_self y h1
  have b3 : x / y * y ≤ x := Int.ediv_mul_le x (by omega)
  have b4 : 0 ≤ x / y * y := Int.mul_nonneg b1 (by omega)
  have b5 : x % y = x - x / y * y := by have := Int.emod_add_mul_ediv x y; rw [Int.mul_comm y] at this; omega
  have e0 := id_ h1 h2 h3 h4
  unfold i_div at e0
  unfold i_rem
  rw [Int32.toInt_sub, Int32.toInt_mul, e0, toI, toI, bm (by omega) h2, bm (by omega) h4]
  show (x - (x / y * y).bmod 4294967296).bmod 4294967296 = _
  rw [bm (x := x / y * y) (by omega) (by omega), bm (by omega) (by omega), b5]
theorem l_add_b (x y : Int) : l_add x y = (x + y).bmod 18446744073709551616 := by
  unfold l_add; rw [Int64.toInt_add, toL, toL]
  show (Int.bmod x 18446744073709551616 + Int.bmod y 18446744073709551616).bmod 18446744073709551616 = _
  rw [Int.bmod_add_bmod, Int.add_bmod_bmod]
theorem l_sub_b (x y : Int) : l_sub x y = (x - y).bmod 18446744073709551616 := by
  unfold l_sub; rw [Int64.toInt_sub, toL, toL]
  show (Int.bmod x 18446744073709551616 - Int.bmod y 18446744073709551616).bmod 18446744073709551616 = _
  rw [Int.bmod_sub_bmod, Int.sub_bmod_bmod]
theorem l_mul_b (x y : Int) : l_mul x y = (x * y).bmod 18446744073709551616 := by
  unfold l_mul; rw [Int64.toInt_mul, toL, toL]
  show (Int.bmod x 18446744073709551616 * Int.bmod y 18446744073709551616).bmod 18446744073709551616 = _
  rw [Int.bmod_mul_bmod, Int.mul_bmod_bmod]
theorem la {x y : Int} (h1 : -9223372036854775808 ≤ x + y) (h2 : x + y < 9223372036854775808) : l_add x y = x + y := by rw [l_add_b, bm64 h1 h2]
theorem ls_ {x y : Int} (h1 : -9223372036854775808 ≤ x - y) (h2 : x - y < 9223372036854775808) : l_sub x y = x - y := by rw [l_sub_b, bm64 h1 h2]
theorem lm {x y : Int} (h1 : -9223372036854775808 ≤ x * y) (h2 : x * y < 9223372036854775808) : l_mul x y = x * y := by rw [l_mul_b, bm64 h1 h2]
theorem ld_ {x y : Int} (h1 : 0 ≤ x) (h2 : x < 9223372036854775808) (h3 : 0 < y) (h4 : y < 9223372036854775808) : l_div x y = x / y := by
  have e : x.tdiv y = x / y := Int.tdiv_eq_ediv_of_nonneg h1
  have b1 : 0 ≤ x / y := Int.ediv_nonneg h1 (by omega)
  have b2 : x / y ≤ x := Int.ediv_le_self y h1
  unfold l_div
  rw [Int64.toInt_div, toL, toL, bm64 (by omega) h2, bm64 (by omega) h4, e]
  exact bm64 (by omega) (by omega)
theorem lr_ {x y : Int} (h1 : 0 ≤ x) (h2 : x < 9223372036854775808) (h3 : 0 < y) (h4 : y < 9223372036854775808) : l_rem x y = x % y := by
  have b1 : 0 ≤ x / y := Int.ediv_nonneg h1 (by omega)
  have b2 : x / y ≤ x := Int.ediv_le_self y h1
  have b3 : x / y * y ≤ x := Int.ediv_mul_le x (by omega)
  have b4 : 0 ≤ x / y * y := Int.mul_nonneg b1 (by omega)
  have b5 : x % y = x - x / y * y := by have := Int.emod_add_mul_ediv x y; rw [Int.mul_comm y] at this; omega
  have e0 := ld_ h1 h2 h3 h4
  unfold l_div at e0
  unfold l_rem
  rw [Int64.toInt_sub, Int64.toInt_mul, e0, toL, toL, bm64 (by omega) h2, bm64 (by omega) h4]
  show (x - (x / y * y).bmod 18446744073709551616).bmod 18446744073709551616 = _
  rw [bm64 (x := x / y * y) (by omega) (by omega), bm64 (by omega) (by omega), b5]
theorem l2i {x : Int} (h1 : -2147483648 ≤ x) (h2 : x < 2147483648) : l_2i x = x := by
  unfold l_2i
  rw [Int64.toInt_toInt32, toL, bm64 (by omega) (by omega)]
  exact bm h1 h2
theorem dt {p : Prop} [Decidable p] (h : p) : decide p = true := decide_eq_true h
theorem df {p : Prop} [Decidable p] (h : ¬ p) : decide p = false := decide_eq_false h
/-! loops: an accumulator from i on, k times -/
def itr {α : Type} (f : Int → α → α) : Nat → Int → α → α
  | 0, _, a => a
  | k + 1, i, a => itr f k (i + 1) (f i a)
/-- a loop that may end early -/
def itx {α β : Type} (f : Int → α → β ⊕ α) : Nat → Int → α → β ⊕ α
  | 0, _, a => .inr a
  | k + 1, i, a => match f i a with
    | .inl b => .inl b
    | .inr a2 => itx f k (i + 1) a2
theorem itr_inv {α : Type} {f : Int → α → α} (I : Int → α → Prop) {n : Int} (st : ∀ i a, i < n → I i a → I (i + 1) (f i a)) : ∀ (k : Nat) (i : Int) (a : α), i ≤ n → (n - i).toNat = k → I i a → I n (itr f k i a)
  | 0, i, a, h1, h2, h3 => by
    have : i = n := by omega
    subst this; exact h3
  | k + 1, i, a, h1, h2, h3 => itr_inv I st k (i + 1) (f i a) (by omega) (by omega) (st i a (by omega) h3)
theorem itr_sim {α β : Type} {f : Int → α → α} {g : Int → β → β} (R : Int → α → β → Prop) {n : Int} (st : ∀ i a b, i < n → R i a b → R (i + 1) (f i a) (g i b)) : ∀ (k : Nat) (i : Int) (a : α) (b : β), i ≤ n → (n - i).toNat = k → R i a b → R n (itr f k i a) (itr g k i b)
  | 0, i, a, b, h1, h2, h3 => by
    have : i = n := by omega
    subst this; exact h3
  | k + 1, i, a, b, h1, h2, h3 => itr_sim R st k (i + 1) (f i a) (g i b) (by omega) (by omega) (st i a b (by omega) h3)
theorem itr_congr {α : Type} {f g : Int → α → α} {lo n : Int} (st : ∀ i a, lo ≤ i → i < n → f i a = g i a) : ∀ (k : Nat) (i : Int) (a : α), lo ≤ i → (n - i).toNat = k → itr f k i a = itr g k i a
  | 0, _, _, _, _ => rfl
  | k + 1, i, a, h0, h2 => by
    show itr f k (i + 1) (f i a) = itr g k (i + 1) (g i a)
    rw [st i a h0 (by omega)]
    exact itr_congr st k (i + 1) (g i a) (by omega) (by omega)
theorem itr_add {α : Type} (f : Int → α → α) : ∀ (k j : Nat) (i : Int) (a : α), itr f (k + j) i a = itr f j (i + k) (itr f k i a)
  | 0, j, i, a => by rw [Nat.zero_add]; show _ = itr f j (i + ((0 : Nat) : Int)) a; rw [show i + ((0 : Nat) : Int) = i from Int.add_zero i]
  | k + 1, j, i, a => by
    rw [Nat.add_right_comm]
    show itr f (k + j) (i + 1) (f i a) = _
    rw [itr_add f k j (i + 1) (f i a)]
    show itr f j (i + 1 + k) _ = itr f j (i + ((k + 1 : Nat) : Int)) _
    rw [show i + 1 + (k : Int) = i + ((k + 1 : Nat) : Int) by omega]
    rfl
theorem itr_last {α : Type} (f : Int → α → α) (k : Nat) (i : Int) (a : α) : itr f (k + 1) i a = f (i + k) (itr f k i a) := by
  rw [itr_add f k 1 i a]; rfl
