/-! the walk of a method, and soundness -/
def DK : Prop := ∀ q ∈ meths, (q.2.2.2.2.all (okE (mC q.1))) = true
theorem t_no7 {own k mode ci n q : Nat} (hf : mres own k = some (mode, ci, n, q, 7)) (hm : mode = 1 ∨ mode = 2) : False := by
  have h1 := mth_of hf
  unfold mOK at h1
  simp only [Bool.and_eq_true] at h1
  have h2 := h1.2
  rcases hm with rfl | rfl
  · clear h1 hf
    simp only at h2
    cases h2
  · clear h1 hf
    simp only at h2
    cases h2
section IC
variable {g : Bool} {s4 : S4} {t ci : Nat} {x : List AV × HP × Nat × List AV × List AV} {c1 : Bool} {a1 a2 : S4} {r2 : AV × HP} {y : Int × List (Int × Nat) × S4}
theorem nc1 (h : (some (g, .inl s4) : DT) = some (true, .inr (.inr (.inl (t, ci, x))))) : False := by simp at h
theorem nc2 (h : (some (g, .inr (.inl (c1, a1, a2))) : DT) = some (true, .inr (.inr (.inl (t, ci, x))))) : False := by simp at h
theorem nc3 (h : (some (g, .inr (.inr (.inr (.inl r2)))) : DT) = some (true, .inr (.inr (.inl (t, ci, x))))) : False := by simp at h
theorem nc4 (h : (some (g, .inr (.inr (.inr (.inr y)))) : DT) = some (true, .inr (.inr (.inl (t, ci, x))))) : False := by simp at h
theorem nr1 (h : (some (g, .inl s4) : DT) = some (true, .inr (.inr (.inr (.inl r2))))) : False := by simp at h
theorem nr2 (h : (some (g, .inr (.inl (c1, a1, a2))) : DT) = some (true, .inr (.inr (.inr (.inl r2))))) : False := by simp at h
theorem nr3 (h : (some (g, .inr (.inr (.inl (t, ci, x)))) : DT) = some (true, .inr (.inr (.inr (.inl r2))))) : False := by simp at h
theorem nr4 (h : (some (g, .inr (.inr (.inr (.inr y)))) : DT) = some (true, .inr (.inr (.inr (.inl r2))))) : False := by simp at h
end IC
/-- a call that isn't of a method below 266, or may throw: only in the law's class -/
theorem sp_k {k rt len tgt pc t ci : Nat} {i : Instr} {lv st : List AV} {h : HP} {x : List AV × HP × Nat × List AV × List AV} (hSt : okS k (meth k) i = true) (ha : act (meth k).1 rt i len tgt pc lv st h = some (true, .inr (.inr (.inl (t, ci, x))))) (hs : t = 7 ∨ 266 ≤ ci) : (t = 7 ∧ (k = 266 ∨ k = 267)) ∨ (t ≠ 7 ∧ k = 268) := by
  have key : ∀ j, (∀ ci2 n q t2, mres (meth k).1 j = some (1, ci2, n, q, t2) → ci2 < 266 ∨ k = 268) → (∀ ci2 n q t2, mres (meth k).1 j = some (2, ci2, n, q, t2) → ci2 < 266) → (∀ ci2 n q t2, mres (meth k).1 j = some (7, ci2, n, q, t2) → k = 266 ∨ k = 267) → inv (meth k).1 j len pc lv st h = some (true, .inr (.inr (.inl (t, ci, x)))) → (t = 7 ∧ (k = 266 ∨ k = 267)) ∨ (t ≠ 7 ∧ k = 268) := by
    intro j h1 h2 h7 hi
    unfold inv at hi
    split at hi
    · split at hi
      · exact (nc1 hi).elim
      · cases hi
    · rename_i c n q t2 hf
      simp only [Option.some.injEq, Prod.mk.injEq, Sum.inr.injEq, Sum.inl.injEq] at hi
      obtain ⟨-, rfl, rfl, -⟩ := hi
      have ht : t2 ≠ 7 := fun z => by rw [z] at hf; exact (t_no7 hf (Or.inl rfl)).elim
      rcases h1 _ _ _ _ hf with g | g
      · rcases hs with hs | hs
        · exact absurd hs ht
        · omega
      · exact Or.inr ⟨ht, g⟩
    · rename_i c n q t2 hf
      split at hi
      · simp only [Option.some.injEq, Prod.mk.injEq, Sum.inr.injEq, Sum.inl.injEq] at hi
        obtain ⟨-, rfl, rfl, -⟩ := hi
        have g := h2 _ _ _ _ hf
        rcases hs with rfl | hs
        · exact (t_no7 hf (Or.inr rfl)).elim
        · omega
      · cases hi
    · split at hi
      · exact (nc1 hi).elim
      · cases hi
    · split at hi
      · exact (nc1 hi).elim
      · cases hi
    · split at hi
      · exact (nc1 hi).elim
      · cases hi
    · split at hi
      · exact (nc1 hi).elim
      · cases hi
    · split at hi
      · exact (nc1 hi).elim
      · cases hi
    · rename_i c n q t2 hf
      split at hi
      · simp only [Option.some.injEq, Prod.mk.injEq, Sum.inr.injEq, Sum.inl.injEq] at hi
        exact Or.inl ⟨hi.2.1.symm, h7 _ _ _ _ hf⟩
      · cases hi
    · cases hi
  unfold act at ha
  split at ha
  all_goals first
    | exact (nc1 ha).elim
    | (split at ha <;> first | exact (nc1 ha).elim | exact (nc2 ha).elim | exact (nc4 ha).elim | (exfalso; cases ha; done))
    | (split at ha <;> (try split at ha) <;> first | exact (nc1 ha).elim | exact (nc2 ha).elim | exact (nc3 ha).elim | (exfalso; cases ha; done))
    | (split at ha <;> (try split at ha) <;> (try split at ha) <;> first | exact (nc1 ha).elim | exact (nc2 ha).elim | exact (nc3 ha).elim | (exfalso; cases ha; done))
    | skip
  · split at ha
    · rename_i q n hq
      cases hc : Nat.beq q 99 with
      | true => rw [hc] at ha; exact (nc3 ha).elim
      | false => rw [hc] at ha; exact (nc1 ha).elim
    · cases ha
  · refine key _ (fun ci2 n q t2 hf => ?_) (fun ci2 n q t2 hf => ?_) (fun ci2 n q t2 hf => ?_) ha
    · simp only [okS, hf] at hSt; cases hSt
    · simp only [okS, hf, Bool.and_eq_true, decide_eq_true_eq] at hSt; exact hSt.1.1
    · simp only [okS, hf] at hSt; cases hSt
  · refine key _ (fun ci2 n q t2 hf => ?_) (fun ci2 n q t2 hf => ?_) (fun ci2 n q t2 hf => ?_) ha
    · simp only [okS, hf] at hSt; cases hSt
    · simp only [okS, hf, Bool.and_eq_true, decide_eq_true_eq] at hSt; exact hSt.1
    · simp only [okS, hf, Bool.or_eq_true, decide_eq_true_eq] at hSt; exact hSt
  · refine key _ (fun ci2 n q t2 hf => ?_) (fun ci2 n q t2 hf => ?_) (fun ci2 n q t2 hf => ?_) ha
    · simp only [okS, hf, Bool.or_eq_true, decide_eq_true_eq] at hSt; exact hSt
    · simp only [okS, hf] at hSt; cases hSt
    · simp only [okS, hf] at hSt; cases hSt
  · cases ha
section S20
variable {p : Program} {l : Launch} {e : Env} {R : Room} {s : State} {m : MethodId} {args : Array Value} {below : List Frame} {mth : Method} {c : Code} {Q : State → Prop}
variable {w : WP} {z0 l0 k d : Nat} {hE : HP} {r : AV}
theorem walk (hDK : DK) (N : Nat) (hk : k < 269) (C : CXk p s m args mth c w k) (hRf : d + 2 ≤ R.frames) (hRl : 41 * (d + 2) ≤ R.locals) (hRc : h_sz hE - z0 ≤ R.cells) (hRs : h_sl hE - l0 ≤ R.slots)
    (hMet : ∀ n', n' < N → ∀ (d1 ci : Nat) (as : List AV) (h1 : HP) (r1 : AV) (h2 : HP), d = d1 + 1 → ci < 266 → okA ci as = true → X n' d1 (meth ci) 0 (fil (meth ci).2.2.1 (ent as)) [] h1 = some (r1, h2) → isU r1 = false → MetX l w ci d1 as h1 r1 h2)
    (hEnd : ∀ (pc : Nat) (lv st : List AV) (h : HP) (i : Instr) (len tgt : Nat), lk (meth k).2.2.2 pc = some (i, len, tgt) → decode (mC k) pc = .ok (i, len) → (Nat.beq (iL i) 0 || Nat.beq (iL i) len) = true → act (meth k).1 (meth k).2.1 i len tgt pc lv st h = some (true, .inr (.inr (.inr (.inl (r, hE))))) → z0 ≤ h_sz h ∧ l0 ≤ h_sl h → (meth k).2.2.1 = lv.length → Go p l e R s m args below mth c Q w z0 l0 pc lv st h)
    (hSp : ∀ n', n' < N → ∀ (pc : Nat) (lv st : List AV) (h : HP) (i : Instr) (len tgt t ci : Nat) (as : List AV) (h1 : HP) (pc1 : Nat) (lv1 rest : List AV), lk (meth k).2.2.2 pc = some (i, len, tgt) → okS k (meth k) i = true → decode (mC k) pc = .ok (i, len) → (Nat.beq (iL i) 0 || Nat.beq (iL i) len) = true → act (meth k).1 (meth k).2.1 i len tgt pc lv st h = some (true, .inr (.inr (.inl (t, ci, as, h1, pc1, lv1, rest)))) → (t = 7 ∨ 266 ≤ ci) → cal (fun q l s g => X n' d (meth k) q l s g) t (EX n' d ci as h1) pc1 lv1 rest = some (r, hE) →
      (∀ (pc : Nat) (lv st : List AV) (h : HP), X n' d (meth k) pc lv st h = some (r, hE) → z0 ≤ h_sz h ∧ l0 ≤ h_sl h → (meth k).2.2.1 = lv.length → Go p l e R s m args below mth c Q w z0 l0 pc lv st h) → z0 ≤ h_sz h ∧ l0 ≤ h_sl h → (meth k).2.2.1 = lv.length → Go p l e R s m args below mth c Q w z0 l0 pc lv st h) :
    ∀ n, n ≤ N → ∀ (pc : Nat) (lv st : List AV) (h : HP), X n d (meth k) pc lv st h = some (r, hE) → z0 ≤ h_sz h ∧ l0 ≤ h_sl h → (meth k).2.2.1 = lv.length → Go p l e R s m args below mth c Q w z0 l0 pc lv st h := by
  intro n
  induction n with
  | zero => intro _ pc lv st h hX; simp [X] at hX
  | succ n ihn =>
    intro hn pc lv st h hX hz hml
    have ihn := ihn (by omega)
    have hge : geH h hE := X_ge _ _ _ _ _ _ _ _ hX
    obtain ⟨i, len, tgt, nx, hf, ha, hN⟩ := X_step hX
    have hg := act_ge ha
    have hok : okE (mC k) (pc, i, len, tgt) = true := all_of (hDK _ (lk_mem _ (meth_at hk))) (lk_mem _ hf)
    unfold okE at hok
    simp only [Bool.and_eq_true, decide_eq_true_eq] at hok
    obtain ⟨⟨hd, hLn⟩, hT⟩ := hok
    have hSt := okS_of hk hf
    have hR : 2 ≤ R.frames ∧ 82 ≤ R.locals := ⟨by omega, by omega⟩
    have hcu : h_sz h - z0 ≤ R.cells ∧ h_sl h - l0 ≤ R.slots := ⟨by have := hge.1; omega, by have := hge.2; omega⟩
    have room : ∀ h2 : HP, geH h2 hE → h_sz h2 - z0 ≤ R.cells ∧ h_sl h2 - l0 ≤ R.slots := fun h2 g => ⟨by have := g.1; omega, by have := g.2; omega⟩
    have base : ∀ h2 : HP, geH h h2 → z0 ≤ h_sz h2 ∧ l0 ≤ h_sl h2 := fun h2 g => ⟨by have := g.1; omega, by have := g.2; omega⟩
    match nx, hg, hN, ha with
    | .inl (pc2, lv2, st2, h2), hg, hN, ha =>
      exact step_ok C hml hR hcu hz hd hLn hT hSt ha (fun _ z => by cases z) (fun _ _ _ z => by cases z) ⟨room h2 (X_ge _ _ _ _ _ _ _ _ hN), ihn _ _ _ _ hN (base h2 hg.1) (hml.trans hg.2.symm)⟩
    | .inr (.inl (b, (pc2, lv2, st2, h2), (pc3, lv3, st3, h3))), hg, hN, ha =>
      refine step_ok C hml hR hcu hz hd hLn hT hSt ha (fun _ z => by cases z) (fun _ _ _ z => by cases z) ⟨fun hb => ?_, fun hb => ?_⟩
      · subst hb; exact ihn _ _ _ _ hN (base h2 hg.1.1) (hml.trans hg.1.2.symm)
      · subst hb; exact ihn _ _ _ _ hN (base h3 hg.2.1) (hml.trans hg.2.2.symm)
    | .inr (.inr (.inl (t, ci, as, h2, pc2, lv2, rest))), hg, hN, ha =>
      by_cases hs : t = 7 ∨ 266 ≤ ci
      · exact hSp n (by omega) pc lv st h i len tgt t ci as h2 pc2 lv2 rest hf hSt hd hLn ha hs hN ihn hz hml
      · obtain ⟨v, h3, ho, hK⟩ := cal_some hN
        obtain ⟨d1, hd1, hoA, hX1⟩ := EX_some ho
        rcases hK with ⟨ht7, hu, hK⟩ | ⟨ht7, -⟩
        · have hci : ci < 266 := by omega
          have hM := hMet n (by omega) d1 ci as h2 v h3 hd1 hci hoA hX1 hu
          have hg3 : geH h2 h3 := X_ge _ _ _ _ _ _ _ _ hX1
          have hgE : geH h3 hE := X_ge _ _ _ _ _ _ _ _ hK
          refine step_ok C hml hR hcu hz hd hLn hT hSt ha (fun _ z => by cases z) (fun t2 ci2 x2 z => ?_) ⟨d1, v, h3, hM, hg3, by omega, by omega, (room h3 hgE).1, (room h3 hgE).2, ihn _ _ _ _ hK (base h3 (hg.1.tr hg3)) (hml.trans hg.2.symm)⟩
          simp only [Sum.inr.injEq, Sum.inl.injEq, Prod.mk.injEq] at z
          obtain ⟨rfl, rfl, -⟩ := z
          exact ⟨ht7, hci⟩
        · exact absurd (Or.inl ht7) hs
    | .inr (.inr (.inr (.inl r2))), hg, hN, ha =>
      cases hN
      exact hEnd pc lv st h i len tgt hf hd hLn ha hz hml
    | .inr (.inr (.inr (.inr (x, ps, (pc2, lv2, st2, h2))))), hg, hN, ha =>
      have hN : sw (fun q l s g => X n d (meth k) q l s g) x (pc2, lv2, st2, h2) ps = some (r, hE) := hN
      rw [sw_swS] at hN
      exact step_ok C hml hR hcu hz hd hLn hT hSt ha (fun _ z => by cases z) (fun _ _ _ z => by cases z) (ihn _ _ _ _ hN (base h2 hg.1) (hml.trans hg.2.symm))
end S20
