/-! words at a state, and the checks of the link tables -/
/-- the words of a throw that aren't among the good ones -/
def Wx (s : State) : Prop := va_Nw (.declares ⟨"java/lang/RuntimeException", "<init>", "()V"⟩) s ∧ va_Nw (.declares ⟨"java/lang/Exception", "<init>", "()V"⟩) s ∧ va_Nw (.declares ⟨"java/lang/Throwable", "<init>", "()V"⟩) s ∧ va_Nw (.castable "java/util/NoSuchElementException" "java/util/NoSuchElementException") s
def Wd (s : State) : Prop := (∀ w ∈ lw_tbl, goodWord w = true → ∀ a, w.before a s = true) ∧ (∀ w ∈ lw_tbl, isNest w = true → ∀ a, w.before a s = true) ∧ va_AO "IceBridge$Ice" s ∧ Wx s
theorem Wd.warm {s U : State} (h : Wd s) (hW : s.WarmedH U.vm) : Wd U := by
  refine ⟨fun w hw hg a => word_at hW (good_of_word hg) (h.1 w hw hg a), fun w hw hn a => ?_, h.2.2.1.moved hW.alike, va_Nw.warmD hW h.2.2.2.1, va_Nw.warmD hW h.2.2.2.2.1, va_Nw.warmD hW h.2.2.2.2.2.1, va_Nw.warmC hW h.2.2.2.2.2.2⟩
  match w, hn with
  | .fieldLinkNest .., _ => exact va_Nw.use rfl (va_Nw.warmF hW (va_Nw.of rfl (h.2.1 _ hw rfl a)))
  | .methodLinkNest .., _ => exact va_Nw.use rfl (va_Nw.warmM hW (va_Nw.of rfl (h.2.1 _ hw rfl a)))
theorem Wd.same {s U : State} (h : Wd s) (hv : U.vm = s.vm) : Wd U := h.warm (by rw [hv]; exact State.WarmedH.refl s)
theorem Wd.at {s : State} (h : Wd s) {i : Nat} {w : Cond} (hi : lw_tbl[i]? = some w) (hg : goodWord w = true) {a : Array Value} : w.before a s = true := h.1 w (List.mem_of_getElem? hi) hg a
theorem Wd.nest {s : State} (h : Wd s) {i : Nat} {w : Cond} (hi : lw_tbl[i]? = some w) (hg : isNest w = true) {a : Array Value} : w.before a s = true := h.2.1 w (List.mem_of_getElem? hi) hg a
theorem all_of {α : Type} {l : List α} {p : α → Bool} (h : l.all p = true) {x : α} (hx : x ∈ l) : p x = true := List.all_eq_true.mp h x hx
theorem rng_of {n : Nat} {p : Nat → Bool} (h : (List.range n).all p = true) {x : Nat} (hx : x < n) : p x = true := all_of h (List.mem_range.mpr hx)
/-- the words of a class' fields -/
theorem lays_of {s : State} (h : Wd s) {c : Nat} (hc : c < 10) {args : Array Value} : ∀ w ∈ u_ws (RC c) (TC c) (NC c), w.before args s = true := by
  intro w hw
  obtain ⟨k, hk, rfl⟩ := List.mem_map.mp hw
  have h1 := rng_of (rng_of lay_ck hc) (List.mem_range.mp hk)
  simp only [Bool.and_eq_true, decide_eq_true_eq] at h1
  exact h.at h1.1 h1.2
theorem cls_at {c : Nat} (hc : c < 10) : clsL[c]? = some (RC c, TC c, NC c) := by simp [clsL, hc]
theorem nodup_ck : ((List.range 10).all fun c => decide (((List.range (NC c)).map fun k => (TC c k).2.1).Nodup)) = true := by decide +kernel
theorem names_of {c : Nat} (hc : c < 10) : ∀ a, a < NC c → ∀ b, b < NC c → a ≠ b → (TC c a).2.1 ≠ (TC c b).2.1 := by
  intro a ha b hb hne he
  have h1 := rng_of nodup_ck hc
  simp only [decide_eq_true_eq] at h1
  have h2 := List.pairwise_iff_getElem.mp h1
  rcases Nat.lt_or_gt_of_ne hne with q | q
  · exact h2 a b (by simpa using ha) (by simpa using hb) q (by simpa using he)
  · exact h2 b a (by simpa using hb) (by simpa using ha) q (by simpa using he.symm)
def tyK (t : Nat) (ty : FieldType) : Bool := match t, ty with
  | 0, .int => true
  | 1, .long => true
  | 3, .boolean => true
  | 2, .object _ => true
  | 2, .array _ => true
  | _, _ => false
theorem ty_ck : ((List.range 10).all fun c => (List.range (NC c)).all fun k => decide (parseFieldDescriptor (TC c k).2.2.1 = some (tyC c k)) && tyK (tco (TC c k).2.2.1) (tyC c k)) = true := by decide +kernel
theorem ty_of {c : Nat} (hc : c < 10) : ∀ k, k < NC c → parseFieldDescriptor (TC c k).2.2.1 = some (tyC c k) := by
  intro k hk
  have h1 := rng_of (rng_of ty_ck hc) hk
  simp only [Bool.and_eq_true, decide_eq_true_eq] at h1
  exact h1.1
theorem tyK_of {c k : Nat} (hc : c < 10) (hk : k < NC c) : tyK (tco (TC c k).2.2.1) (tyC c k) = true := by
  have h1 := rng_of (rng_of ty_ck hc) hk
  simp only [Bool.and_eq_true, decide_eq_true_eq] at h1
  exact h1.2
/-- a field's names by its kind and place -/
def nmF (c j : Nat) : String × String × String := if c ≤ 9 then (RC c, (TC c j).2.1, (TC c j).2.2.1)
  else if c = 20 then ([("IceBridge$Word", "code", "J"), ("IceBridge$Word", "group", "I"), ("IceBridge$Word", "number", "I"), ("IceBridge$Word", "fact", "I"), ("java/lang/Enum", "ordinal", "I")] : List (String × String × String)).getD j ("", "", "")
  else ([("java/lang/String", "value", "[B"), ("java/lang/String", "coder", "B")] : List (String × String × String)).getD j ("", "", "")
def fOK (own k : Nat) (q : Nat × Nat × Nat) : Bool :=
  (decide (lw_tbl[fld_p own k]? = some (Cond.fieldLink (oN own) k (nmF q.1 q.2.1).1 (nmF q.1 q.2.1).2.1 (nmF q.1 q.2.1).2.2)) || decide (lw_tbl[fld_p own k]? = some (Cond.fieldLinkNest (oN own) k (nmF q.1 q.2.1).1 (nmF q.1 q.2.1).2.1 (nmF q.1 q.2.1).2.2 "IceBridge"))) &&
  (!decide (q.1 ≤ 9) || (decide (q.2.1 < NC q.1) && decide (q.2.2 = tco (nmF q.1 q.2.1).2.2))) && (decide (q.1 ≤ 9) || (decide (q.1 = 20) && decide (q.2.1 < 5)) || (decide (q.1 = 23) && decide (q.2.1 < 2)))
set_option maxRecDepth 100000 in
theorem fld_ck : (fres_t.all fun o => o.2.all fun e => fOK o.1 e.1 e.2) = true := by decide +kernel
theorem fld_of {own k c j t : Nat} (h : fres own k = some (c, j, t)) : fOK own k (c, j, t) = true := by
  unfold fres at h
  cases h1 : lk fres_t own with
  | none => rw [h1] at h; cases h
  | some tb =>
    rw [h1] at h
    exact all_of (all_of fld_ck (lk_mem _ h1)) (lk_mem _ h)
theorem fld_link {s : State} (hW : Wd s) {own k c j t : Nat} (h : fres own k = some (c, j, t)) {args : Array Value} :
    (Cond.fieldLink (oN own) k (nmF c j).1 (nmF c j).2.1 (nmF c j).2.2).before args s = true ∨ (Cond.fieldLinkNest (oN own) k (nmF c j).1 (nmF c j).2.1 (nmF c j).2.2 "IceBridge").before args s = true := by
  have h1 := fld_of h
  unfold fOK at h1
  simp only [Bool.and_eq_true, Bool.or_eq_true, decide_eq_true_eq] at h1
  rcases h1.1.1 with q | q
  · exact Or.inl (hW.at q rfl)
  · exact Or.inr (hW.nest q rfl)
theorem fld_dyn {own k c j t : Nat} (h : fres own k = some (c, j, t)) (hc : c ≤ 9) : j < NC c ∧ t = tco (TC c j).2.2.1 ∧ nmF c j = (RC c, (TC c j).2.1, (TC c j).2.2.1) := by
  have h1 := fld_of h
  have e : nmF c j = (RC c, (TC c j).2.1, (TC c j).2.2.1) := if_pos hc
  unfold fOK at h1
  simp only [Bool.and_eq_true, Bool.or_eq_true, decide_eq_true_eq, Bool.not_eq_true', decide_eq_false_iff_not, e] at h1
  rcases h1.1.2 with q | q
  · exact absurd hc q
  · exact ⟨q.1, q.2, e⟩
