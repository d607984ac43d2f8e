/-! growth, lengths; the step whatever the instruction; the walk; soundness (written by wip/whole/gen_walk.py) -/
theorem geH.rf (h : HP) : geH h h := ⟨Nat.le_refl _, Nat.le_refl _⟩
theorem geH.tr {a b c : HP} (h1 : geH a b) (h2 : geH b c) : geH a c := ⟨Nat.le_trans h1.1 h2.1, Nat.le_trans h1.2 h2.2⟩
theorem geH_alo (h : HP) (t n w : Nat) : geH h (alo h t n w) := ⟨Nat.le_succ _, Nat.le_add_right _ _⟩
theorem geH_ex (h : HP) : geH h (exH h) := ⟨Nat.le_succ _, Nat.le_add_right _ _⟩
/-- the heaps and locals of what is next -/
def geN (h : HP) (lv : List AV) (nx : NX) : Prop := match nx with
  | .inl (_, lv2, _, h2) => geH h h2 ∧ lv2.length = lv.length
  | .inr (.inl (_, (_, lv2, _, h2), (_, lv3, _, h3))) => (geH h h2 ∧ lv2.length = lv.length) ∧ geH h h3 ∧ lv3.length = lv.length
  | .inr (.inr (.inl (_, _, _, h2, _, lv2, _))) => geH h h2 ∧ lv2.length = lv.length
  | .inr (.inr (.inr (.inl (_, h2)))) => geH h h2
  | .inr (.inr (.inr (.inr (_, _, (_, lv2, _, h2))))) => geH h h2 ∧ lv2.length = lv.length
theorem st1_len (lv : List AV) (i : Nat) (v : AV) : (st1 lv i v).length = lv.length := by unfold st1; rw [List.length_set, kil_len]
theorem st2_len (lv : List AV) (i : Nat) (v : AV) : (st2 lv i v).length = lv.length := by unfold st2; rw [List.length_set, List.length_set, kil_len]
section GN
variable {h h2 h3 : HP} {lv lv2 lv3 st2 st3 rest as : List AV} {g g2 c : Bool} {b : NX} {pc2 pc3 t ci : Nat} {v : AV} {x : Int} {ps : List (Int × Nat)}
theorem gnI (ha : (some (g, .inl (pc2, lv2, st2, h2)) : DT) = some (g2, b)) (h1 : geH h h2) (hl : lv2.length = lv.length) : geN h lv b := by
  simp only [Option.some.injEq, Prod.mk.injEq] at ha
  rw [← ha.2]; exact ⟨h1, hl⟩
theorem gnB (ha : (some (g, .inr (.inl (c, (pc2, lv, st2, h), (pc3, lv, st3, h)))) : DT) = some (g2, b)) : geN h lv b := by
  simp only [Option.some.injEq, Prod.mk.injEq] at ha
  rw [← ha.2]; exact ⟨⟨geH.rf h, rfl⟩, geH.rf h, rfl⟩
theorem gnC (ha : (some (g, .inr (.inr (.inl (t, ci, as, h, pc2, lv, rest)))) : DT) = some (g2, b)) : geN h lv b := by
  simp only [Option.some.injEq, Prod.mk.injEq] at ha
  rw [← ha.2]; exact ⟨geH.rf h, rfl⟩
theorem gnR (ha : (some (g, .inr (.inr (.inr (.inl (v, h2))))) : DT) = some (g2, b)) (h1 : geH h h2) : geN h lv b := by
  simp only [Option.some.injEq, Prod.mk.injEq] at ha
  rw [← ha.2]; exact h1
theorem gnS (ha : (some (g, .inr (.inr (.inr (.inr (x, ps, (pc2, lv, st2, h)))))) : DT) = some (g2, b)) : geN h lv b := by
  simp only [Option.some.injEq, Prod.mk.injEq] at ha
  rw [← ha.2]; exact ⟨geH.rf h, rfl⟩
end GN
theorem inv_ge {own k len pc : Nat} {lv st : List AV} {h : HP} {g : Bool} {nx : NX} (ha : inv own k len pc lv st h = some (g, nx)) : geN h lv nx := by
  unfold inv at ha
  split at ha <;> (try split at ha) <;> first | exact gnI ha (geH.rf h) rfl | exact gnC ha | (exfalso; cases ha; done)
theorem act_ge {own rt len tgt pc : Nat} {i : Instr} {lv st : List AV} {h : HP} {g : Bool} {nx : NX} (ha : act own rt i len tgt pc lv st h = some (g, nx)) : geN h lv nx := by
  unfold act at ha
  split at ha
  all_goals first
    | exact inv_ge ha
    | exact gnI ha (geH.rf h) rfl
    | exact gnI ha (geH.rf h) (st1_len _ _ _)
    | (split at ha <;> first | exact gnI ha (geH.rf h) rfl | exact gnI ha (geH.rf h) (st1_len _ _ _) | exact gnI ha (geH.rf h) (st2_len _ _ _) | exact gnB ha | exact gnS ha | exact gnR ha (geH.rf h) | (exfalso; cases ha; done))
    | skip
  all_goals first
    | (split at ha <;> (try split at ha) <;> first | exact gnI ha (geH.rf h) rfl | exact gnI ha (geH_alo h _ _ _) rfl | exact gnB ha | exact gnR ha (geH.rf h) | (exfalso; cases ha; done))
    | (split at ha <;> (try split at ha) <;> (try split at ha) <;> first | exact gnI ha (geH.rf h) rfl | exact gnI ha (geH_alo h _ _ _) rfl | exact gnB ha | exact gnR ha (geH.rf h) | (exfalso; cases ha; done))
    | skip
  · split at ha
    · rename_i q n hq
      cases hc : Nat.beq q 99 with
      | true => rw [hc] at ha; exact gnR ha (geH_ex h)
      | false => rw [hc] at ha; exact gnI ha (geH_alo h _ _ _) rfl
    · cases ha
  · cases ha
/-- what a call's way on was -/
theorem cal_some {K : KT} {t pc : Nat} {o : RS} {lv rest : List AV} {res : AV × HP} (h : cal K t o pc lv rest = some res) : ∃ v h2, o = some (v, h2) ∧ ((t ≠ 7 ∧ isU v = false ∧ K pc lv (tst t v rest) h2 = some res) ∨ (t = 7 ∧ ∃ pc' lv' st', (pc' = pc + 5 ∨ pc' = pc) ∧ lv' = lv ∧ K pc' lv' st' h2 = some res)) := by
  unfold cal at h
  split at h
  · match o, h with
    | some (.inr (.inr (.inl a)), h2), h => exact ⟨vr a, h2, rfl, Or.inl ⟨by omega, rfl, h⟩⟩
    | none, h => cases h
    | some (.inl _, _), h => cases h
    | some (.inr (.inl _), _), h => cases h
    | some (.inr (.inr (.inr _)), _), h => cases h
  · match o, h with
    | some (.inl x, h2), h => exact ⟨vi x, h2, rfl, Or.inl ⟨by omega, rfl, h⟩⟩
    | none, h => cases h
    | some (.inr _, _), h => cases h
  · match o, h with
    | some (.inr (.inr (.inl a)), h2), h => exact ⟨vr a, h2, rfl, Or.inl ⟨by omega, rfl, h⟩⟩
    | none, h => cases h
    | some (.inl _, _), h => cases h
    | some (.inr (.inl _), _), h => cases h
    | some (.inr (.inr (.inr _)), _), h => cases h
  · match o, h with
    | some (.inl x, h2), h => exact ⟨vi x, h2, rfl, Or.inr ⟨rfl, _, _, _, Or.inr rfl, rfl, h⟩⟩
    | some (.inr (.inr (.inr u)), h2), h => exact ⟨.inr (.inr (.inr u)), h2, rfl, Or.inr ⟨rfl, _, _, _, Or.inl rfl, rfl, h⟩⟩
    | none, h => cases h
    | some (.inr (.inl _), _), h => cases h
    | some (.inr (.inr (.inl _)), _), h => cases h
  · cases h
/-- a callee's run -/
def EX (n : Nat) (d : Nat) : ET := match d with
  | 0 => fun _ _ _ => none
  | d + 1 => fun k as g => bif okA k as then X n d (meth k) 0 (fil (meth k).2.2.1 (ent as)) [] g else none
theorem EX_some {n d ci : Nat} {as : List AV} {h : HP} {o : AV × HP} (h1 : EX n d ci as h = some o) : ∃ d1, d = d1 + 1 ∧ okA ci as = true ∧ X n d1 (meth ci) 0 (fil (meth ci).2.2.1 (ent as)) [] h = some o := by
  cases d with
  | zero => cases h1
  | succ d =>
    have h1 : (bif okA ci as then X n d (meth ci) 0 (fil (meth ci).2.2.1 (ent as)) [] h else none) = some o := h1
    cases hk : okA ci as with
    | true => rw [hk] at h1; exact ⟨d, rfl, rfl, h1⟩
    | false => rw [hk] at h1; cases h1
/-- one step of the abstract machine, taken apart -/
theorem X_step {n d : Nat} {M : MD} {pc : Nat} {lv st : List AV} {h : HP} {r : AV × HP} (hX : X (n + 1) d M pc lv st h = some r) : ∃ i len tgt nx, lk M.2.2.2 pc = some (i, len, tgt) ∧ act M.1 M.2.1 i len tgt pc lv st h = some (true, nx) ∧
    doN (fun q l s g => X n d M q l s g) (EX n d) nx = some r := by
  have hX : stp (fun q l s g => X n d M q l s g) (EX n d) M pc lv st h = some r := by
    cases d with
    | zero => exact hX
    | succ d => exact hX
  unfold stp at hX
  cases hf : lk M.2.2.2 pc with
  | none => rw [hf] at hX; cases hX
  | some q =>
    obtain ⟨i, len, tgt⟩ := q
    rw [hf] at hX
    simp only at hX
    cases ha : act M.1 M.2.1 i len tgt pc lv st h with
    | none => rw [ha] at hX; cases hX
    | some gn =>
      obtain ⟨g, nx⟩ := gn
      rw [ha] at hX
      cases g with
      | false => cases hX
      | true => exact ⟨i, len, tgt, nx, rfl, ha, hX⟩
theorem X_ge : ∀ (n d : Nat) (M : MD) (pc : Nat) (lv st : List AV) (h : HP) (r : AV × HP), X n d M pc lv st h = some r → geH h r.2
  | 0, _, _, _, _, _, _, _, hX => by simp [X] at hX
  | n + 1, d, M, pc, lv, st, h, r, hX => by
    obtain ⟨i, len, tgt, nx, -, ha, hN⟩ := X_step hX
    have hg := act_ge ha
    match nx, hg, hN with
    | .inl (pc2, lv2, st2, h2), hg, hN => exact hg.1.tr (X_ge n d M _ _ _ _ r hN)
    | .inr (.inl (true, (pc2, lv2, st2, h2), (pc3, lv3, st3, h3))), hg, hN => exact hg.1.1.tr (X_ge n d M _ _ _ _ r hN)
    | .inr (.inl (false, (pc2, lv2, st2, h2), (pc3, lv3, st3, h3))), hg, hN => exact hg.2.1.tr (X_ge n d M _ _ _ _ r hN)
    | .inr (.inr (.inl (t, ci, as, h2, pc2, lv2, rest))), hg, hN =>
      obtain ⟨v, h3, ho, hK⟩ := cal_some hN
      have h4 : geH h2 h3 := by
        obtain ⟨d1, -, -, ho⟩ := EX_some ho
        exact X_ge n d1 (meth ci) _ _ _ _ _ ho
      rcases hK with ⟨-, -, hK⟩ | ⟨-, _, _, _, -, -, hK⟩
      · exact (hg.1.tr h4).tr (X_ge n d M _ _ _ _ r hK)
      · exact (hg.1.tr h4).tr (X_ge n d M _ _ _ _ r hK)
    | .inr (.inr (.inr (.inl r2))), hg, hN => cases hN; exact hg
    | .inr (.inr (.inr (.inr (x, ps, (pc2, lv2, st2, h2))))), hg, hN =>
      have hN : sw (fun q l s g => X n d M q l s g) x (pc2, lv2, st2, h2) ps = some r := hN
      rw [sw_swS] at hN
      exact hg.1.tr (X_ge n d M _ _ _ _ r hN)
