/-! the start, put together -/
def h00 (w : WP) : HP := (fun a => if a < 100 then skd a else 99, fun a => if a < 100 then sln w a else 0, fun a k => if a < 100 then smi w a k else 0, fun a _ => if a < 100 then sml a else 0, fun a k => if a < 100 then smr a k else 0, 100, 0)
theorem Wd_of {s : State} {a : Array Value} (hts : ∀ w ∈ lw_tbl, w.before a s = true) : Wd s := by
  obtain ⟨g1, g2, g3, g4, g5⟩ := gx_ck7
  refine ⟨fun w hw hg a' => word_at (State.WarmedH.refl s) (good_of_word hg) (hts w hw), fun w hw hn a' => ?_, va_AO.of (hts _ (List.mem_of_getElem? g1)), va_Nw.of rfl (hts _ (List.mem_of_getElem? g2)), va_Nw.of rfl (hts _ (List.mem_of_getElem? g3)), va_Nw.of rfl (hts _ (List.mem_of_getElem? g4)), va_Nw.of rfl (hts _ (List.mem_of_getElem? g5))⟩
  match w, hn with
  | .fieldLinkNest .., _ => exact va_Nw.use rfl (va_Nw.of rfl (hts _ hw))
  | .methodLinkNest .., _ => exact va_Nw.use rfl (va_Nw.of rfl (hts _ hw))
theorem arrC_of {s : State} {a : Array Value} {ty : FieldType} (h : (Cond.arrayClass ty).before a s = true) : ∃ c, ArrOfT s c ty ∧ s.vm.findClass ("[" ++ ty.toString) = some c := by
  obtain ⟨c, k, comp, h1, h2, h3⟩ := Cond.arrayClass_spec h
  exact ⟨c, fun n z => ⟨(fun k h => by cases h), k, h2, comp, h3⟩, h1⟩
theorem K_of {s : State} {a : Array Value} (hW : Wd s) (hts : ∀ w ∈ lw_tbl, w.before a s = true) : ∃ (D : va_G) (cy : Nat → ClassId), ∀ (b : Nat) (sa : Nat → Nat) (L : Nat) (xs : Nat → Int), va_K (w_D (D, cy, b, sa, L, xs)) clsL (tysL (D, cy, b, sa, L, xs)) s := by
  have h0 : ∀ c : Nat, ∃ q : ClassId × (Nat → Nat), c < 10 → u_Kn s (RC c) (TC c) (NC c) q.1 q.2 := by
    intro c
    by_cases hc : c < 10
    · have h1 := rng_of ins_ck hc
      simp only [Bool.and_eq_true, decide_eq_true_eq] at h1
      obtain ⟨cC, iS, hk⟩ := u_known (C := RC c) (T := TC c) (N := NC c) (n := NC c) (ws := u_ws (RC c) (TC c) (NC c)) (lays_of hW hc (args := a)) (fun w hw => hw) (hts _ (List.mem_of_getElem? h1.1))
      exact ⟨(cC, iS), fun _ => hk⟩
    · exact ⟨((0 : Nat), fun _ => 0), fun h => absurd h hc⟩
  obtain ⟨q, hq⟩ := Classical.axiomOfChoice h0
  obtain ⟨c10, x10, y10⟩ := arrC_of (hts _ (List.mem_of_getElem? arr_ck.1))
  obtain ⟨c11, x11, y11⟩ := arrC_of (hts _ (List.mem_of_getElem? arr_ck.2.1))
  obtain ⟨c12, x12, y12⟩ := arrC_of (hts _ (List.mem_of_getElem? arr_ck.2.2.1))
  obtain ⟨c13, x13, y13⟩ := arrC_of (hts _ (List.mem_of_getElem? arr_ck.2.2.2))
  obtain ⟨comp, c14, k14, z1, -, z2, z3, z4⟩ := Cond.arrayOver_spec (hts _ (List.mem_of_getElem? gx_ck7.1))
  refine ⟨(fun c => (q c).1, fun c => (q c).2), fun t => if t = 10 then c10 else if t = 11 then c11 else if t = 12 then c12 else if t = 13 then c13 else c14, fun b sa L xs => ⟨fun c r hr => ?_, fun k r hr => ?_⟩⟩
  · by_cases hc : c < 10
    · rw [cls_at hc] at hr
      cases hr
      exact hq c hc
    · have := (List.getElem?_eq_some_iff.mp hr).1
      simp [clsL] at this
      omega
  · have hk : k < 5 := by
      have := (List.getElem?_eq_some_iff.mp hr).1
      simpa [tysL] using this
    match k, hk with
    | 0, _ => cases hr; exact ⟨x10, y10⟩
    | 1, _ => cases hr; exact ⟨x11, y11⟩
    | 2, _ => cases hr; exact ⟨x12, y12⟩
    | 3, _ => cases hr; exact ⟨x13, y13⟩
    | 4, _ => cases hr; exact ⟨fun N z => ⟨(fun k h => by cases h), k14, z2, comp, z3⟩, k14, comp, z2, z3, z1, z4⟩
theorem skd_ge (a : Nat) : 15 ≤ skd a := by unfold skd; split <;> (try omega); repeat (split <;> try omega)
theorem getD_all {l : List Int} {lo hi : Int} (hl : lo ≤ 0) (hh : 0 ≤ hi) (h : (l.all fun x => decide (lo ≤ x) && decide (x ≤ hi)) = true) (k : Nat) : lo ≤ l.getD k 0 ∧ l.getD k 0 ≤ hi := by
  rw [List.getD_eq_getElem?_getD]
  cases hk : l[k]? with
  | none => exact ⟨hl, hh⟩
  | some x =>
    have := all_of h (List.mem_of_getElem? hk)
    simp only [Bool.and_eq_true, decide_eq_true_eq] at this
    exact this
theorem smi_r {w : WP} (hx : ∀ j, r32 (w_xs w j)) (a k : Nat) (ha : a < 100) : r32 (smi w a k) := by
  have e1 := getD_all (l := en_group) (lo := -1) (hi := 1000) (by decide) (by decide) (by decide +kernel) (a - 1)
  have e2 := getD_all (l := en_number) (lo := -1) (hi := 1000) (by decide) (by decide) (by decide +kernel) (a - 1)
  have e3 := getD_all (l := en_fact) (lo := -1) (hi := 1000) (by decide) (by decide) (by decide +kernel) (a - 1)
  have e4 := getD_all (l := st_wears) (lo := -1) (hi := 1000) (by decide) (by decide) (by decide +kernel) k
  have e5 := getD_all (l := st_facts) (lo := -1) (hi := 1000) (by decide) (by decide) (by decide +kernel) k
  have e6 := getD_all (l := st_switch) (lo := -1) (hi := 1000) (by decide) (by decide) (by decide +kernel) k
  have e7 := getD_all (l := st_bytes) (lo := -1) (hi := 1000) (by decide) (by decide) (by decide +kernel) k
  unfold smi
  unfold r32
  split
  · split
    · omega
    · split
      · omega
      · split
        · omega
        · split <;> omega
  · split
    · omega
    · split
      · omega
      · split
        · omega
        · split
          · exact hx k
          · split <;> omega
theorem sml_r (a : Nat) : r64 (sml a) := by
  have e1 := getD_all (l := en_code) (lo := 0) (hi := 9000000000000) (by decide) (by decide) (by decide +kernel) (a - 1)
  unfold sml r64
  split <;> omega
theorem h00_HR {w : WP} {H : Heap} (hb : w_b w = H.size) (hL : w_L w ≤ 3584) (hx : ∀ j, r32 (w_xs w j)) : HR w (h00 w) H := by
  refine ⟨by show _ = w_b w + (100 - 100); omega, Nat.le_refl _, ⟨fun a j => ?_, fun a j => ?_, fun a => ?_, fun a ha => ?_⟩, fun a ha => ?_, fun a ha => ?_, [], fun a ha => ?_, fun k q hk => ?_, ⟨fun i j p q hp => ?_, fun k q hk => ?_⟩⟩
  · show r32 (if a < 100 then smi w a j else 0)
    split
    · exact smi_r hx a j (by assumption)
    · exact r0
  · show r64 (if a < 100 then sml a else 0)
    split
    · exact sml_r a
    · exact ⟨by omega, by omega⟩
  · show (if a < 100 then sln w a else 0) ≤ 100000
    unfold sln
    repeat (split <;> try omega)
  · refine Or.inr ?_
    show (if a < 100 then skd a else 99) = 99
    rw [if_neg (by omega)]
  · refine ⟨?_, ?_, fun k => ?_, fun k _ => ?_, fun k => ?_⟩
    · show (if a < 100 then skd a else 99) = _; rw [if_pos ha]
    · show (if a < 100 then sln w a else 0) = _; rw [if_pos ha]
    · show (if a < 100 then smi w a k else 0) = _; rw [if_pos ha]
    · show (if a < 100 then sml a else 0) = _; rw [if_pos ha]
    · show (if a < 100 then smr a k else 0) = _; rw [if_pos ha]
  · exfalso
    have ha : (if a < 100 then skd a else 99) ≤ 14 := ha
    have := skd_ge a
    split at ha <;> omega
  · exfalso
    have ha : (if a < 100 then skd a else 99) ≤ 14 := ha
    have := skd_ge a
    split at ha <;> omega
  · cases hk
  · cases hp
  · cases hk
theorem of_field {args : Array Value} {s : State} {tm : Term} {a : Nat} {v : Value} {o n d : String} {A : Nat → Prop} (ht : tm.eval args s none [] s = some (.ref a)) (hv : (Term.field tm o n d).eval args s none [] s = some v) (hA : ∀ a : Nat, a < s.heap.size → ¬ A a) : va_OF o n d v a A s s.heap := by
  cases hfo : s.fieldFound? o n d with
  | none =>
    rw [va_fe ht] at hv
    simp [State.fieldOf?, State.fieldNamed?, hfo] at hv
  | some x =>
    obtain ⟨cf, k, fi, f⟩ := x
    obtain ⟨g1, cell, g2, g3, -, -, g6⟩ := Term.field_spec hfo ht hv
    exact ⟨cf, k, fi, f, cell, hfo, g1, g2, g3, g6, hA _ (Array.getElem?_eq_some_iff.mp g2).1⟩
