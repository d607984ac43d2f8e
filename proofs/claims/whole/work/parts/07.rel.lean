/-! what the abstract machine's state says of the real one -/
abbrev WP : Type := va_G × (Nat → ClassId) × Nat × (Nat → Nat) × Nat × (Nat → Int)
def w_D (w : WP) : va_G := w.1
def w_cy (w : WP) : Nat → ClassId := w.2.1
def w_b (w : WP) : Nat := w.2.2.1
def w_sa (w : WP) : Nat → Nat := w.2.2.2.1
def w_L (w : WP) : Nat := w.2.2.2.2.1
def w_xs (w : WP) : Nat → Int := w.2.2.2.2.2
def ro (w : WP) (a : Nat) : Option Nat := if a = 0 then none else if a < 100 then some (w_sa w a) else some (w_b w + (a - 100))
def rv (w : WP) (v : AV) : Value := match v with
  | .inl x => .int (Int32.ofInt x)
  | .inr (.inl x) => .long (Int64.ofInt x)
  | .inr (.inr (.inl a)) => va_rf (ro w a)
  | .inr (.inr (.inr _)) => .null
def r32 (x : Int) : Prop := -2147483648 ≤ x ∧ x < 2147483648
def r64 (x : Int) : Prop := -9223372036854775808 ≤ x ∧ x < 9223372036854775808
def inV (v : AV) : Prop := match v with
  | .inl x => r32 x
  | .inr (.inl x) => r64 x
  | _ => True
theorem r32_of (x : Int32) : r32 x.toInt := ⟨by have := Int32.le_toInt x; omega, by have := Int32.toInt_lt x; omega⟩
theorem r64_of (x : Int64) : r64 x.toInt := ⟨by have := Int64.le_toInt x; omega, by have := Int64.toInt_lt x; omega⟩
theorem of32 {x : Int} (h : r32 x) : (Int32.ofInt x).toInt = x := Int32.toInt_ofInt_of_le (by have := h.1; omega) (by have := h.2; omega)
theorem of64 {x : Int} (h : r64 x) : (Int64.ofInt x).toInt = x := Int64.toInt_ofInt_of_le (by have := h.1; omega) (by have := h.2; omega)
theorem lt32 {x y : Int} (hx : r32 x) (hy : r32 y) : Int32.ofInt x < Int32.ofInt y ↔ x < y := by rw [Int32.lt_iff_toInt_lt, of32 hx, of32 hy]
theorem le32 {x y : Int} (hx : r32 x) (hy : r32 y) : Int32.ofInt x ≤ Int32.ofInt y ↔ x ≤ y := by rw [Int32.le_iff_toInt_le, of32 hx, of32 hy]
theorem eq32 {x y : Int} (hx : r32 x) (hy : r32 y) : Int32.ofInt x = Int32.ofInt y ↔ x = y := ⟨fun h => by have := congrArg Int32.toInt h; rwa [of32 hx, of32 hy] at this, fun h => by rw [h]⟩
theorem eq64 {x y : Int} (hx : r64 x) (hy : r64 y) : Int64.ofInt x = Int64.ofInt y ↔ x = y := ⟨fun h => by have := congrArg Int64.toInt h; rwa [of64 hx, of64 hy] at this, fun h => by rw [h]⟩
theorem lt64 {x y : Int} (hx : r64 x) (hy : r64 y) : Int64.ofInt x < Int64.ofInt y ↔ x < y := by rw [Int64.lt_iff_toInt_lt, of64 hx, of64 hy]
theorem r0 : r32 0 := ⟨by omega, by omega⟩
theorem o0 : Int32.ofInt 0 = 0 := rfl
theorem clamp32 {x : Int} (h : r32 x) (h0 : 0 ≤ x) : (Int32.ofInt x).toNatClampNeg = x.toNat := by
  have : ((Int32.ofInt x).toNatClampNeg : Int) = x := by
    rw [Int32.toNatClampNeg, of32 h]; omega
  omega
/-! locals -/
def isU (v : AV) : Bool := match v with
  | .inr (.inr (.inr _)) => true
  | _ => false
def LVr (w : WP) (ls : Array Slot) (lv : List AV) : Prop := ls.size = lv.length ∧ lv_wf ls ∧ ∀ (i : Nat) (v : AV), lv[i]? = some v → isU v = false → ls[i]? = some (.val (rv w v)) ∧ inV v
def asc (w : WP) (lv : List AV) : List (Nat × Value) := (List.range lv.length).filterMap (fun i => match lv[i]? with
  | some v => bif isU v then none else some (i, rv w v)
  | none => none)
theorem asc_in {w : WP} {lv : List AV} {i : Nat} {v : AV} (h : lv[i]? = some v) (hu : isU v = false) : (i, rv w v) ∈ asc w lv := by
  refine List.mem_filterMap.mpr ⟨i, List.mem_range.mpr (List.getElem?_eq_some_iff.mp h).1, ?_⟩
  simp only [h, hu, cond_false]
theorem asc_out {w : WP} {lv : List AV} {q : Nat × Value} (h : q ∈ asc w lv) : ∃ v, lv[q.1]? = some v ∧ isU v = false ∧ q.2 = rv w v := by
  obtain ⟨i, -, hi⟩ := List.mem_filterMap.mp h
  cases hv : lv[i]? with
  | none => simp [hv] at hi
  | some v =>
    simp only [hv] at hi
    cases hu : isU v with
    | true => simp [hu] at hi
    | false =>
      simp only [hu, cond_false] at hi
      cases hi
      exact ⟨v, hv, hu, rfl⟩
theorem LVr.has {w : WP} {ls : Array Slot} {lv : List AV} (h : LVr w ls lv) : lv_has ls lv.length (asc w lv) := ⟨h.1, h.2.1, fun q hq => by
  obtain ⟨v, h1, h2, h3⟩ := asc_out hq
  rw [h3]; exact (h.2.2 _ v h1 h2).1⟩
theorem LVr.gt {w : WP} {ls : Array Slot} {lv : List AV} (h : LVr w ls lv) {i : Nat} {v : AV} (hv : lv.getD i vu = v) (hu : isU v = false) : ls[i]? = some (.val (rv w v)) ∧ inV v := by
  rw [List.getD_eq_getElem?_getD] at hv
  cases hi : lv[i]? with
  | none => rw [hi] at hv; simp at hv; subst hv; simp [isU] at hu
  | some u => rw [hi] at hv; simp at hv; subst hv; exact h.2.2 i _ hi hu
theorem rv_cat (w : WP) (v : AV) : (rv w v).category = cat v := by
  match v with
  | .inl x => rfl
  | .inr (.inl x) => rfl
  | .inr (.inr (.inl a)) =>
    show (va_rf (ro w a)).category = 1
    cases ro w a <;> rfl
  | .inr (.inr (.inr u)) => rfl
theorem kil_len (lv : List AV) (i : Nat) : (kil lv i).length = lv.length := by
  unfold kil
  split
  · rfl
  · split <;> simp
theorem kil_get {lv : List AV} {i j : Nat} {v : AV} (h : (kil lv i)[j]? = some v) (hu : isU v = false) : lv[j]? = some v ∧ ¬ (j + 1 = i ∧ cat v = 2) := by
  unfold kil at h
  cases i with
  | zero => exact ⟨h, fun q => by omega⟩
  | succ k =>
    simp only at h
    split at h
    · rename_i x hx
      by_cases hj : j = k
      · subst hj
        rw [List.getElem?_set] at h
        split at h
        · split at h
          · cases h; simp [isU] at hu
          · cases h
        · rename_i hne; exact absurd rfl hne
      · rw [List.getElem?_set_ne (fun e => hj e.symm)] at h
        exact ⟨h, fun q => by omega⟩
    · rename_i hx
      refine ⟨h, fun q => ?_⟩
      have hj : j = k := by omega
      subst hj
      match v, q.2 with
      | .inr (.inl x), _ => exact hx x (by rw [List.getD_eq_getElem?_getD, h]; rfl)
theorem LVr.put1 {w : WP} {ls ls2 : Array Slot} {lv : List AV} {i : Nat} {v : AV} (h : LVr w ls lv) (hi : i < lv.length) (hv : inV v)
    (h2 : lv_has ls2 lv.length ((i, rv w v) :: (asc w lv).filter (fun q => !(q.1 == i) && !(q.1 + 1 == i && q.2.category == 2)))) : LVr w ls2 (st1 lv i v) := by
  have hlen : (st1 lv i v).length = lv.length := by unfold st1; rw [List.length_set, kil_len]
  refine ⟨by rw [hlen]; exact h2.1, h2.2.1, fun j u hj hu => ?_⟩
  unfold st1 at hj
  by_cases hji : j = i
  · subst hji
    rw [List.getElem?_set] at hj
    simp [kil_len, hi] at hj
    subst hj
    exact ⟨h2.2.2 _ List.mem_cons_self, hv⟩
  · rw [List.getElem?_set_ne (fun e => hji e.symm)] at hj
    obtain ⟨h3, h4⟩ := kil_get hj hu
    refine ⟨h2.2.2 (j, rv w u) (List.mem_cons_of_mem _ (List.mem_filter.mpr ⟨asc_in h3 hu, ?_⟩)), (h.2.2 j u h3 hu).2⟩
    simp only [rv_cat, Bool.and_eq_true, Bool.not_eq_true', Bool.and_eq_false_imp, beq_eq_false_iff_ne, beq_iff_eq]
    exact ⟨hji, fun e1 e2 => h4 ⟨e1, e2⟩⟩
theorem LVr.put2 {w : WP} {ls ls2 : Array Slot} {lv : List AV} {i : Nat} {v : AV} (h : LVr w ls lv) (hi : i + 1 < lv.length) (hv : inV v)
    (h2 : lv_has ls2 lv.length ((i, rv w v) :: (asc w lv).filter (fun q => !(q.1 == i) && (!(q.1 == i + 1) && !(q.1 + 1 == i && q.2.category == 2))))) : LVr w ls2 (st2 lv i v) := by
  have hlen : (st2 lv i v).length = lv.length := by unfold st2; rw [List.length_set, List.length_set, kil_len]
  refine ⟨by rw [hlen]; exact h2.1, h2.2.1, fun j u hj hu => ?_⟩
  unfold st2 at hj
  by_cases hj1 : j = i + 1
  · subst hj1
    rw [List.getElem?_set] at hj
    simp [kil_len, hi] at hj
    subst hj; simp [isU] at hu
  rw [List.getElem?_set_ne (fun e => hj1 e.symm)] at hj
  by_cases hji : j = i
  · subst hji
    rw [List.getElem?_set] at hj
    simp [kil_len, show j < lv.length by omega] at hj
    subst hj
    exact ⟨h2.2.2 _ List.mem_cons_self, hv⟩
  · rw [List.getElem?_set_ne (fun e => hji e.symm)] at hj
    obtain ⟨h3, h4⟩ := kil_get hj hu
    refine ⟨h2.2.2 (j, rv w u) (List.mem_cons_of_mem _ (List.mem_filter.mpr ⟨asc_in h3 hu, ?_⟩)), (h.2.2 j u h3 hu).2⟩
    simp only [rv_cat, Bool.and_eq_true, Bool.not_eq_true', Bool.and_eq_false_imp, beq_eq_false_iff_ne, beq_iff_eq]
    exact ⟨hji, hj1, fun e1 e2 => h4 ⟨e1, e2⟩⟩
