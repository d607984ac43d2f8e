/-! the statics at the start, and the whole walk -/
theorem smi_en {w : WP} {i j : Nat} (hi : i < 35) : smi w (i + 1) j = evI i j := by
  unfold smi evI
  rw [if_pos (by omega)]
  have e : (((i + 1 : Nat) : Int) - 1) = (i : Int) := by omega
  rw [e, Nat.add_sub_cancel]
theorem of32i (x : Int32) : Int32.ofInt x.toInt = x := by simp
theorem sTab_in {q : String × String × String × AV} (h : q ∈ sTab) : (∃ i, i < 35 ∧ q = ("IceBridge$Word", eN i, "LIceBridge$Word;", vr (i + 1))) ∨ q = ("IceBridge", "WORDS", "[LIceBridge$Word;", vr 36) ∨ q = ("IceBridge", "WEARS", "[I", vr 37) ∨ q = ("IceBridge", "LAW_FACTS", "[I", vr 38) ∨ q = ("IceBridge$1", "$SwitchMap$IceBridge$Word", "[I", vr 39) ∨ q = ("java/lang/String", "COMPACT_STRINGS", "Z", vi 1) := by
  have hn : sTab.length = 40 := by decide +kernel
  obtain ⟨n, hn2, rfl⟩ := List.mem_iff_getElem.mp h
  have key0 : ((List.range 35).all fun i => match sTab[i]? with
    | some (a, b, c, .inr (.inr (.inl n))) => decide (a = "IceBridge$Word") && decide (b = eN i) && decide (c = "LIceBridge$Word;") && Nat.beq n (i + 1)
    | _ => false) = true := by decide +kernel
  have key : ∀ i, i < 35 → sTab[i]? = some ("IceBridge$Word", eN i, "LIceBridge$Word;", vr (i + 1)) := fun i hi => by
    have h1 := rng_of key0 hi
    split at h1
    · rename_i a b c n h2
      simp only [Bool.and_eq_true, decide_eq_true_eq, Nat.beq_eq] at h1
      obtain ⟨⟨⟨rfl, rfl⟩, rfl⟩, rfl⟩ := h1
      exact h2
    · cases h1
  have k5 : sTab[35]? = some ("IceBridge", "WORDS", "[LIceBridge$Word;", vr 36) ∧ sTab[36]? = some ("IceBridge", "WEARS", "[I", vr 37) ∧ sTab[37]? = some ("IceBridge", "LAW_FACTS", "[I", vr 38) ∧ sTab[38]? = some ("IceBridge$1", "$SwitchMap$IceBridge$Word", "[I", vr 39) ∧ sTab[39]? = some ("java/lang/String", "COMPACT_STRINGS", "Z", vi 1) := ⟨rfl, rfl, rfl, rfl, rfl⟩
  have hg := List.getElem?_eq_getElem hn2
  by_cases h35 : n < 35
  · have := key n h35
    rw [hg] at this
    exact Or.inl ⟨n, h35, Option.some.inj this⟩
  · have h9 : n = 35 ∨ n = 36 ∨ n = 37 ∨ n = 38 ∨ n = 39 := by omega
    rcases h9 with rfl | rfl | rfl | rfl | rfl
    · exact Or.inr (Or.inl (Option.some.inj (hg.symm.trans k5.1)))
    · exact Or.inr (Or.inr (Or.inl (Option.some.inj (hg.symm.trans k5.2.1))))
    · exact Or.inr (Or.inr (Or.inr (Or.inl (Option.some.inj (hg.symm.trans k5.2.2.1)))))
    · exact Or.inr (Or.inr (Or.inr (Or.inr (Or.inl (Option.some.inj (hg.symm.trans k5.2.2.2.1))))))
    · exact Or.inr (Or.inr (Or.inr (Or.inr (Or.inr (Option.some.inj (hg.symm.trans k5.2.2.2.2))))))
theorem tab_of {args : Array Value} {s : State} {tm : Term} {ty : FieldType} {N ia il : Nat} {ix : List Nat} {l : List Int} {A : Nat → Prop} (hgv : ∀ c ∈ gvL, c.before args s = true) (hN : N < 2 ^ 31) (h1 : gvL[ia]? = some (.arrayOf tm ty)) (h2 : gvL[il]? = some (.eq (.length tm) (.int (Int32.ofNat N)))) (h3 : ((List.range N).all fun j => decide (gvL[ix.getD j 0]? = some (.eq (.elem tm (.int (Int32.ofNat j))) (.int (Int32.ofInt (l.getD j 0)))))) = true) (hA : ∀ a : Nat, a < s.heap.size → ¬ A a) :
    ∃ t : Nat, tm.eval args s none [] s = some (.ref t) ∧ va_T ty t N (fun j => .int (Int32.ofInt (l.getD j 0))) A s s.heap := by
  refine va_Tof hN (hgv _ (List.mem_of_getElem? h1)) (va_eqt (hgv _ (List.mem_of_getElem? h2))) (fun j hj => ?_) hA
  have h4 := rng_of h3 hj
  rw [decide_eq_true_eq] at h4
  exact va_eqt (hgv _ (List.mem_of_getElem? h4))
theorem SF_of {s : State} {b L : Nat} {xs : Nat → Int32} (hts : ∀ w ∈ lw_tbl, w.before #[Value.ref b] s = true) (hg : (Jvm.Cond.and given_1 narrow_1).before #[Value.ref b] s = true) (hX : va_X b L xs s s.heap) (hbl : b < s.heap.size) (hL : L ≤ 3584) :
    ∃ sa : Nat → Nat, sa 40 = b ∧ ∀ (D : va_G) (cy : Nat → ClassId), SF (D, cy, s.heap.size, sa, L, fun j => (xs j).toInt) s := by
  have hgv : ∀ c ∈ gvL, c.before #[Value.ref b] s = true := flat_of_before _ hg
  have hA : ∀ a : Nat, a < s.heap.size → ¬ (fun q => s.heap.size ≤ q) a := fun a ha z => by have z : s.heap.size ≤ a := z; omega
  have h0 : ∀ i : Nat, ∃ t : Nat, i < 35 → (eW i).eval #[Value.ref b] s none [] s = some (.ref t) ∧ va_O "IceBridge$Word" t (fun q => s.heap.size ≤ q) s s.heap := by
    intro i
    by_cases hi : i < 35
    · have h1 := rng_of gx_ck1 hi
      rw [decide_eq_true_eq] at h1
      obtain ⟨a, c, cell, k, q1, q2, q3, q4, q5, q6, -⟩ := Cond.exactly_spec (hgv _ (List.mem_of_getElem? h1))
      exact ⟨a, fun _ => ⟨q1, cell, q3, q5, by rw [q6]; exact q2, hA a (Array.getElem?_eq_some_iff.mp q3).1⟩⟩
    · exact ⟨0, fun h => absurd h hi⟩
  obtain ⟨ad, had⟩ := Classical.axiomOfChoice h0
  obtain ⟨y1, y2, y3, y4, y5, y6, y7, y8, y9, y10, y11, y12, y13⟩ := gx_ck6
  obtain ⟨u1, u2, u3, u4, u5⟩ := gx_ck5
  obtain ⟨t36, e36, T36⟩ := va_Tof (tm := gt_36) (ty := .object "IceBridge$Word") (N := 35) (f := fun j => .ref (ad j)) (A := fun q => s.heap.size ≤ q) (by decide) (hgv _ (List.mem_of_getElem? gx_ck36.1)) (va_eqt (hgv _ (List.mem_of_getElem? gx_ck36.2.1))) (fun j hj => by
    have h4 := rng_of gx_ck36.2.2 hj
    rw [decide_eq_true_eq] at h4
    exact va_eqv (hgv _ (List.mem_of_getElem? h4)) (had j hj).1) hA
  obtain ⟨t37, e37, T37⟩ := tab_of (tm := gt_37) (ty := .int) (l := st_wears) hgv (by decide) gx_ck37.1 gx_ck37.2.1 gx_ck37.2.2 hA
  obtain ⟨t38, e38, T38⟩ := tab_of (tm := gt_38) (ty := .int) (l := st_facts) hgv (by decide) gx_ck38.1 gx_ck38.2.1 gx_ck38.2.2 hA
  obtain ⟨t39, e39, T39⟩ := tab_of (tm := gt_39) (ty := .int) (l := st_switch) hgv (by decide) gx_ck39.1 gx_ck39.2.1 gx_ck39.2.2 hA
  obtain ⟨t42, e42, T42⟩ := tab_of (tm := gt_42) (ty := .byte) (l := st_bytes) hgv (by decide) gx_ck42.1 gx_ck42.2.1 gx_ck42.2.2 hA
  obtain ⟨t41, c41, cell41, k41, e41, -, -, -, -, -, -⟩ := Cond.exactly_spec (hgv _ (List.mem_of_getElem? u1))
  refine ⟨fun a => if a ≤ 35 then ad (a - 1) else if a = 36 then t36 else if a = 37 then t37 else if a = 38 then t38 else if a = 39 then t39 else if a = 40 then b else if a = 41 then t41 else t42, rfl, fun D cy => ⟨fun q hq => ?_, fun a a1 a2 => ?_, ?_, fun a a1 a2 => ⟨fun j hj => ?_, ?_⟩, fun a c a1 a2 c1 c2 he => ?_, vk_R.of (hts _ (List.mem_of_getElem? y8)) e41, of_field e41 e42 hA, of_field e41 (va_eqt (hgv _ (List.mem_of_getElem? u2))) hA, va_Oof (hgv _ (List.mem_of_getElem? u1)) e41 hA, T42, ⟨hL, fun j => r32_of (xs j)⟩, vx_Zqof (hts _ (List.mem_of_getElem? y6)) (hts _ (List.mem_of_getElem? y13)) (hgv _ (List.mem_of_getElem? u4)) hA, vx_Zqof (hts _ (List.mem_of_getElem? y7)) (hts _ (List.mem_of_getElem? y13)) (hgv _ (List.mem_of_getElem? u5)) hA⟩⟩
  · rcases sTab_in hq with ⟨i, hi, rfl⟩ | rfl | rfl | rfl | rfl | rfl
    · have h1 := rng_of gx_ck2 hi
      rw [decide_eq_true_eq] at h1
      have e1 : rv (D, cy, s.heap.size, fun a => if a ≤ 35 then ad (a - 1) else if a = 36 then t36 else if a = 37 then t37 else if a = 38 then t38 else if a = 39 then t39 else if a = 40 then b else if a = 41 then t41 else t42, L, fun j => (xs j).toInt) (vr (i + 1)) = .ref (ad i) := by
        rw [ref_stat (by omega) (by omega)]
        show Value.ref (if i + 1 ≤ 35 then ad (i + 1 - 1) else _) = _
        rw [if_pos (by omega), Nat.add_sub_cancel]
      show va_Z _ _ _ (rv _ (vr (i + 1))) _ _ _
      rw [e1]
      exact va_Zref (hts _ (List.mem_of_getElem? h1)) (hts _ (List.mem_of_getElem? y9)) (had i hi).1 hA
    · exact va_Zref (hts _ (List.mem_of_getElem? y1)) (hts _ (List.mem_of_getElem? y10)) e36 hA
    · exact va_Zref (hts _ (List.mem_of_getElem? y2)) (hts _ (List.mem_of_getElem? y10)) e37 hA
    · exact va_Zref (hts _ (List.mem_of_getElem? y3)) (hts _ (List.mem_of_getElem? y10)) e38 hA
    · exact va_Zref (hts _ (List.mem_of_getElem? y4)) (hts _ (List.mem_of_getElem? y11)) e39 hA
    · exact va_Zof (hts _ (List.mem_of_getElem? y5)) (hts _ (List.mem_of_getElem? y12)) (va_eqi (hgv _ (List.mem_of_getElem? u3))) hA
  · have h9 : a = 37 ∨ a = 38 ∨ a = 39 ∨ a = 40 := by omega
    rcases h9 with rfl | rfl | rfl | rfl
    · exact T37
    · exact T38
    · exact T39
    · obtain ⟨scr, g1, g2, g3, g4, g5⟩ := hX
      refine ⟨scr, g1, g2, g3, Nat.le_of_eq g4.symm, by rw [g4]; rfl, fun j hj => ?_, hA b hbl⟩
      rw [g5 j hj]
      show some (Value.int (xs j)) = some (Value.int (Int32.ofInt ((xs j).toInt)))
      rw [of32i]
  · obtain ⟨cell, g1, g2, g3, g4, g5, g6, g7⟩ := T36
    refine ⟨cell, g1, g2, g3, g4, g5, fun j hj => ?_, g7⟩
    rw [g6 j hj]
    show some (Value.ref (ad j)) = some (Value.ref (if j + 1 ≤ 35 then ad (j + 1 - 1) else _))
    rw [if_pos (by omega), Nat.add_sub_cancel]
  · obtain ⟨i, rfl⟩ : ∃ i, a = i + 1 := ⟨a - 1, by omega⟩
    have hi : i < 35 := by omega
    have e0 : w_sa (D, cy, s.heap.size, (fun a => if a ≤ 35 then ad (a - 1) else if a = 36 then t36 else if a = 37 then t37 else if a = 38 then t38 else if a = 39 then t39 else if a = 40 then b else if a = 41 then t41 else t42), L, fun j => (xs j).toInt) (i + 1) = ad i := by
      show (if i + 1 ≤ 35 then ad (i + 1 - 1) else _) = _
      rw [if_pos (by omega), Nat.add_sub_cancel]
    rw [e0]
    by_cases h0 : j = 0
    · subst h0
      have h1 := rng_of gx_ck3 hi
      rw [decide_eq_true_eq] at h1
      have := of_field (had i hi).1 (va_eqtl (hgv _ (List.mem_of_getElem? h1))) hA
      show va_OF "IceBridge$Word" "code" "J" (.long (Int64.ofInt (sml (i + 1)))) _ _ _ _
      have e2 : sml (i + 1) = en_code.getD i 0 := by unfold sml; rw [if_pos (by omega), Nat.add_sub_cancel]
      rw [e2]
      exact this
    · have h1 := rng_of (rng_of gx_ck4 hi) hj
      simp only [Bool.or_eq_true, Nat.beq_eq, decide_eq_true_eq] at h1
      have h1 := h1.resolve_left h0
      have := of_field (had i hi).1 (va_eqt (hgv _ (List.mem_of_getElem? h1))) hA
      unfold svF
      rw [if_neg h0, smi_en hi]
      exact this
  · obtain ⟨i, rfl⟩ : ∃ i, a = i + 1 := ⟨a - 1, by omega⟩
    have hi : i < 35 := by omega
    show va_O _ (if i + 1 ≤ 35 then ad (i + 1 - 1) else _) _ _ _
    rw [if_pos (by omega), Nat.add_sub_cancel]
    exact (had i hi).2
  · obtain ⟨i, rfl⟩ : ∃ i, a = i + 1 := ⟨a - 1, by omega⟩
    obtain ⟨j, rfl⟩ : ∃ i, c = i + 1 := ⟨c - 1, by omega⟩
    have hi : i < 35 := by omega
    have hj : j < 35 := by omega
    have he : (if i + 1 ≤ 35 then ad (i + 1 - 1) else _) = (if j + 1 ≤ 35 then ad (j + 1 - 1) else _) := he
    rw [if_pos (by omega), if_pos (by omega), Nat.add_sub_cancel, Nat.add_sub_cancel] at he
    have h1 := rng_of (rng_of gx_ck4 hi) (show 4 < 5 by omega)
    have h2 := rng_of (rng_of gx_ck4 hj) (show 4 < 5 by omega)
    simp only [Bool.or_eq_true, Nat.beq_eq, decide_eq_true_eq] at h1 h2
    have h1 := va_eqt (hgv _ (List.mem_of_getElem? (h1.resolve_left (by omega))))
    have h2 := va_eqt (hgv _ (List.mem_of_getElem? (h2.resolve_left (by omega))))
    rw [va_fe (had i hi).1, he, ← va_fe (had j hj).1 (t := eW j), h2] at h1
    have h3 : Int32.ofInt (evI j 4) = Int32.ofInt (evI i 4) := Value.int.inj (Option.some.inj h1)
    have h4 : evI j 4 = evI i 4 := (eq32 ⟨by show _ ≤ (j : Int); omega, by show (j : Int) < _; omega⟩ ⟨by show _ ≤ (i : Int); omega, by show (i : Int) < _; omega⟩).mp h3
    have h5 : (j : Int) = (i : Int) := h4
    omega
