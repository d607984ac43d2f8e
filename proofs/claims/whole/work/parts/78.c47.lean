/-! laws are read: what each side leaves; the first token of a part -/
def TX (f : Nat → Int) (n l : Nat) : Prop := (∀ j, j < n → 0 ≤ f j ∧ f j < 127) ∧ n ≤ 1000 ∧ l < 4
def Wr (g g' : Nat → Int) (s : Nat) (cs : List Int) : Prop := (∀ j, j < s → g' j = g j) ∧ ∀ j, j < cs.length → g' (s + j) = cs.getD j 0
theorem Wr.nil (g : Nat → Int) (s : Nat) : Wr g g s [] := ⟨fun _ _ => rfl, fun j hj => absurd hj (Nat.not_lt_zero j)⟩
theorem Wr.one (g : Nat → Int) (s : Nat) (c : Int) : Wr g (va_up g s c) s [c] := ⟨fun j hj => up_ne _ _ (by omega), fun j hj => by
  have : j = 0 := by have : j < 1 := hj; omega
  subst this
  exact up_eq _ _ _⟩
theorem Wr.ap {g g1 g2 : Nat → Int} {s : Nat} {cs cs' : List Int} (a : Wr g g1 s cs) (b : Wr g1 g2 (s + cs.length) cs') : Wr g g2 s (cs ++ cs') := ⟨fun j hj => (b.1 j (by omega)).trans (a.1 j hj), fun j hj => by
  rw [List.length_append] at hj
  by_cases z : j < cs.length
  · rw [b.1 _ (by omega), a.2 j z, List.getD_eq_getElem?_getD, List.getD_eq_getElem?_getD, List.getElem?_append_left z]
  · have := b.2 (j - cs.length) (by omega)
    rw [show s + cs.length + (j - cs.length) = s + j by omega] at this
    rw [this, List.getD_eq_getElem?_getD, List.getD_eq_getElem?_getD, List.getElem?_append_right (by omega)]⟩
/-- the class at a token -/
def CT (h : HP) (f : Nat → Int) (n l p s : Nat) : Prop := CSk h ∧ Stt h ∧ CTk h f n p ∧ h_mi h 103 8 = 0 ∧ h_mi h 103 4 = (s : Int) ∧ h_mi h 103 7 = st_facts.getD l 0
def CE (h h1 : HP) (f : Nat → Int) (n : Nat) (q : Int) : Prop := CRel h h1 ∧ (∃ p, p ≤ n ∧ CTk h1 f n p) ∧ h_mi h1 103 8 = q ∧ 0 ≤ h_mi h1 103 4 ∧ h_mi h1 103 4 ≤ 1000
def CG (h h1 : HP) (f : Nat → Int) (n l p s : Nat) (cs : List Int) : Prop := CRel h h1 ∧ CT h1 f n l p (s + cs.length) ∧ Wr (h_mi h 104) (h_mi h1 104) s cs
theorem CT.go {h h1 : HP} {f : Nat → Int} {n l p p' s s' : Nat} (c : CT h f n l p s) (r : CRel h h1) (t : CTk h1 f n p') (f0 : h_mi h1 103 8 = 0) (s1 : h_mi h1 103 4 = (s' : Int)) : CT h1 f n l p' s' := ⟨r.cs c.1, r.st c.2.1, t, f0, s1, (r.f (by omega) (by omega)).trans c.2.2.2.2.2⟩
theorem CG.tr {h h1 h2 : HP} {f : Nat → Int} {n l p p' s : Nat} {cs cs' : List Int} (a : CG h h1 f n l p s cs) (b : CG h1 h2 f n l p' (s + cs.length) cs') : CG h h2 f n l p' s (cs ++ cs') := ⟨a.1.tr b.1, by rw [List.length_append, ← Nat.add_assoc]; exact b.2.1, a.2.2.ap b.2.2⟩
theorem CG.ce {h h1 h2 : HP} {f : Nat → Int} {n l p s : Nat} {cs : List Int} {q : Int} (a : CG h h1 f n l p s cs) (b : CE h1 h2 f n q) : CE h h2 f n q := ⟨a.1.tr b.1, b.2⟩
/-- the reference at a token -/
def RT (h : HP) (f : Nat → Int) (n l p c : Nat) : Prop := RSk h ∧ RTk h f n p ∧ h_mi h 145 24 = (c : Int) ∧ h_mi h 145 26 = (l : Int) ∧ 1000 ≤ c
def RG (h h1 : HP) (f : Nat → Int) (n l p c : Nat) (rs : List Int) (dp e : Nat) : Prop := RRel h h1 ∧ RT h1 f n l p (c + rs.length) ∧ Wr (h_mi h 159) (h_mi h1 159) c rs ∧ (∀ j, j ≤ dp → h_mi h1 160 j = h_mi h 160 j) ∧ ∀ j, j < e → h_mi h1 161 j = h_mi h 161 j
theorem RT.go {h h1 : HP} {f : Nat → Int} {n l p p' c c' : Nat} (r : RT h f n l p c) (g : RRel h h1) (t : RTk h1 f n p') (e : h_mi h1 145 24 = (c' : Int)) (hc : c ≤ c') : RT h1 f n l p' c' := ⟨g.rs r.1, t, e, (g.fl (by omega) (by omega) (by omega) (by omega) (by omega) (by omega)).trans r.2.2.2.1, Nat.le_trans r.2.2.2.2 hc⟩
theorem RG.tr {h h1 h2 : HP} {f : Nat → Int} {n l p p' c dp e dp' e' : Nat} {rs rs' : List Int} (a : RG h h1 f n l p c rs dp e) (b : RG h1 h2 f n l p' (c + rs.length) rs' dp' e') (hd : dp ≤ dp') (he : e ≤ e') : RG h h2 f n l p' c (rs ++ rs') dp e := ⟨a.1.tr b.1, by rw [List.length_append, ← Nat.add_assoc]; exact b.2.1, a.2.2.1.ap b.2.2.1, fun j hj => (b.2.2.2.1 j (by omega)).trans (a.2.2.2.1 j hj), fun j hj => (b.2.2.2.2 j (by omega)).trans (a.2.2.2.2 j hj)⟩
theorem RG.dn {h h1 : HP} {f : Nat → Int} {n l p c dp e dp' e' : Nat} {rs : List Int} (a : RG h h1 f n l p c rs dp' e') (hd : dp ≤ dp') (he : e ≤ e') : RG h h1 f n l p c rs dp e := ⟨a.1, a.2.1, a.2.2.1, fun j hj => a.2.2.2.1 j (by omega), fun j hj => a.2.2.2.2 j (by omega)⟩
def popD (g : Nat → Int) : Nat → Nat
  | 0 => 0
  | k + 1 => if g (k + 1) = 1 then popD g k else k + 1
theorem popD_id {g : Nat → Int} {k : Nat} (h : k = 0 ∨ g k ≠ 1) : popD g k = k := by
  cases k with
  | zero => rfl
  | succ k => unfold popD; rw [if_neg (Or.resolve_left h (by omega))]
theorem popD_le (g : Nat → Int) (k : Nat) : popD g k ≤ k := by
  induction k with
  | zero => exact Nat.le_refl _
  | succ k ih =>
    unfold popD
    split
    · omega
    · exact Nat.le_refl _
theorem popD_cg {g g' : Nat → Int} {k : Nat} (h : ∀ j, j ≤ k → g' j = g j) : popD g' k = popD g k := by
  induction k with
  | zero => rfl
  | succ k ih =>
    unfold popD
    rw [h _ (Nat.le_refl _), ih (fun j hj => h j (by omega))]
theorem fcI_m (l : Nat) (w : Int) : -1 ≤ fcI l w := by
  unfold fcI
  repeat' split
  all_goals omega
theorem fcI_not (l : Nat) : fcI l 10631 = -1 := by
  by_cases a : l = 3 <;> by_cases b : l = 2 <;> simp [fcI, a, b]
noncomputable def x3V (f : Nat → Int) (n p l : Nat) : Int := if tkK f n p = 1 then fcI l (tkW f n p) + 1 else 0
section
variable {h : HP} {f : Nat → Int} {n l p c : Nat}
theorem r_st (r : RT h f n l p c) (x : TX f n l) (p1 : p ≤ n) (dd dp : Nat) (v3 v4 v5 : AV) : run (dd + 2) md_159 11 [vr 145, vi (dp : Int), vi 1, v3, v4, v5] [] h = run (dd + 2) md_159 35 [vr 145, vi (dp : Int), vi 1, vi (x3V f n p l), vi (bb (tkK f n p = 1 ∧ tkW f n p = 10631)), v5] [vi (bb (tkK f n p = 3 ∧ f (tB f n p) = 40))] h := by
  rw [q_159_11 (w := r.1), df (show ¬ (1 : Int) = 0 by decide)]
  simp only [zb]
  rw [r_158 r.1 r.2.1 _ r.2.2.2.1, bI_s, q_159_19 (w := r.1), r_153 r.1 r.2.1, bI_s, q_159_27 (w := r.1), r_154 r.1 r.2.1 x.2.1 p1, bI_s]
  rfl
theorem r_st0 (r : RT h f n l p c) (x : TX f n l) (p1 : p ≤ n) (ns : ¬ stP f n p l) (dd dp : Nat) (v3 v4 v5 : AV) : run (dd + 2) md_159 11 [vr 145, vi (dp : Int), vi 1, v3, v4, v5] [] h = some (vi 0, sI h 145 9 (1 + 16 * ((tB f n p : Nat) : Int))) := by
  have a1 : x3V f n p l = 0 := by
    unfold x3V
    split
    · rename_i k1
      have := fcI_m l (tkW f n p)
      have : ¬ 0 ≤ fcI l (tkW f n p) := fun q => ns (Or.inr (Or.inr ⟨k1, Or.inr q⟩))
      omega
    · rfl
  have a2 : ¬ (tkK f n p = 1 ∧ tkW f n p = 10631) := fun q => ns (Or.inr (Or.inr ⟨q.1, Or.inl q.2⟩))
  have a3 : ¬ (tkK f n p = 3 ∧ f (tB f n p) = 40) := fun q => ns (Or.inr (Or.inl q))
  have a4 : tkK f n p ≠ 2 := fun q => ns (Or.inl q)
  rw [r_st r x p1, q_159_35 (w := r.1), a1, bb_f a2, bb_f a3, r.2.1.2.2.2.1, df a4, r_155 r.1 r.2.1 x.2.1 p1 _ (by omega) (by omega), bI_s, q_159_64]
  rfl
theorem r_65 (r : RT h f n l p c) (x : TX f n l) (p1 : p ≤ n) (ns : stP f n p l) (dd dp : Nat) (v3 v4 v5 : AV) : run (dd + 2) md_159 11 [vr 145, vi (dp : Int), vi 1, v3, v4, v5] [] h = run (dd + 2) md_159 65 [vr 145, vi (dp : Int), vi 1, vi (x3V f n p l), vi (bb (tkK f n p = 1 ∧ tkW f n p = 10631)), vi (bb (tkK f n p = 3 ∧ f (tB f n p) = 40))] [] h := by
  rw [r_st r x p1, q_159_35 (w := r.1), r.2.1.2.2.2.1]
  by_cases a1 : x3V f n p l = 0
  · rw [df (show ¬ x3V f n p l ≠ 0 from fun q => q a1)]
    by_cases a2 : tkK f n p = 1 ∧ tkW f n p = 10631
    · rw [bb_nt a2]; rfl
    · rw [bb_nf a2]
      by_cases a3 : tkK f n p = 3 ∧ f (tB f n p) = 40
      · rw [bb_nt a3]; rfl
      · rw [bb_nf a3]
        have : tkK f n p = 2 := by
          rcases ns with z | z | ⟨z, y | y⟩
          · exact z
          · exact absurd z a3
          · exact absurd ⟨z, y⟩ a2
          · unfold x3V at a1; rw [if_pos z] at a1; omega
        rw [dt this]; rfl
  · rw [dt (show x3V f n p l ≠ 0 from a1)]; rfl
theorem r_st5 (r : RT h f n l p c) (x : TX f n l) (p1 : p ≤ n) (ns : stP f n p l) (dd : Nat) (v3 v4 v5 : AV) : run (dd + 2) md_159 11 [vr 145, vi ((5 : Nat) : Int), vi 1, v3, v4, v5] [] h = some (vi 0, sI h 145 9 (5 + 16 * ((tB f n p : Nat) : Int))) := by
  rw [r_65 r x p1 ns, q_159_65 (w := r.1), df (show ¬ ((5 : Nat) : Int) ≠ 5 from fun q => q rfl), r_155 r.1 r.2.1 x.2.1 p1 _ (by omega) (by omega), bI_s, q_159_75]
  rfl
/-- code is laid -/
theorem r_lay (r : RT h f n l p c) (x : TX f n l) (p1 : p ≤ n) (c1 : c ≤ 1000 + p) (tk : tkK f n p ≠ 0) (v : Int) (d : Nat) : ∃ h1, ev d 157 [vr 145, vi v] h = some (vr 0, h1) ∧ RG h h1 f n l p c [v] 7 8 := by
  have e := r_157 r.1 d r.2.2.1 (by have := x.2.1; omega) v
  have g1 : RRel h (sI (sI h 159 c v) 145 24 ((c + 1 : Nat) : Int)) := ((RRel.rf h).si (Or.inr (Or.inl ⟨rfl, r.2.2.2.2, by have := x.2.1; have := (tk_n (f := f) p1).2.1; have := ((tk_n (f := f) p1).2.2 tk).1; omega⟩))).si (Or.inr (Or.inr ⟨rfl, Or.inr rfl⟩))
  refine ⟨_, e, g1, r.go g1 ((r.2.1.si (by omega) (by omega)).si (by omega) (by omega)) (by rw [miI_eq, up_eq]; rfl) (Nat.le_add_right _ _), ?_, fun j _ => ?_, fun j _ => ?_⟩
  · rw [miI_ne _ _ _ (by omega), miI_eq]
    exact Wr.one _ _ _
  · rw [miI_ne _ _ _ (by omega), miI_ne _ _ _ (by omega)]
  · rw [miI_ne _ _ _ (by omega), miI_ne _ _ _ (by omega)]
/-- the next token is read -/
theorem r_go (r : RT h f n l p c) (x : TX f n l) (p1 : p ≤ n) (d : Nat) : ∃ h1, ev (d + 1) 152 [vr 145] h = some (vr 0, h1) ∧ RG h h1 f n l (tkE f n p) c [] 7 8 := by
  obtain ⟨h1, e, g, t, a, b⟩ := r_nx r.1 d r.2.1 x.2.1 p1
  refine ⟨h1, e, g, r.go g t (b.trans r.2.2.1) (Nat.le_add_right _ _), ?_, fun j _ => ?_, fun j _ => ?_⟩
  · rw [a 159 (by omega) (by omega)]; exact Wr.nil _ _
  · rw [a 160 (by omega) (by omega)]
  · rw [a 161 (by omega) (by omega)]
/-- a depth is opened -/
theorem r_op (r : RT h f n l p c) (k : Nat) (v : Int) : RG h (sI (sI h 160 (k + 1) v) 161 (k + 1) 0) f n l p c [] k (k + 1) ∧ h_mi (sI (sI h 160 (k + 1) v) 161 (k + 1) 0) 160 (k + 1) = v ∧ h_mi (sI (sI h 160 (k + 1) v) 161 (k + 1) 0) 161 (k + 1) = 0 := by
  have g1 : RRel h (sI (sI h 160 (k + 1) v) 161 (k + 1) 0) := ((RRel.rf h).si (Or.inl (by omega))).si (Or.inl (by omega))
  refine ⟨⟨g1, r.go g1 ((r.2.1.si (by omega) (by omega)).si (by omega) (by omega)) (by rw [miI_ne _ _ _ (by omega), miI_ne _ _ _ (by omega)]; exact r.2.2.1) (Nat.le_add_right _ _), ?_, fun j _ => ?_, fun j _ => ?_⟩, ?_, ?_⟩
  · rw [miI_ne _ _ _ (by omega), miI_ne _ _ _ (by omega)]; exact Wr.nil _ _
  · rw [miI_ne _ _ _ (by omega), miI_eq, up_ne _ _ (by omega)]
  · rw [miI_eq, up_ne _ _ (by omega), miI_ne _ _ _ (by omega)]
  · rw [miI_ne _ _ _ (by omega), miI_eq, up_eq]
  · rw [miI_eq, up_eq]
/-- compared is set -/
theorem r_cm (r : RT h f n l p c) (k : Nat) (v : Int) : RG h (sI h 161 k v) f n l p c [] 7 k ∧ h_mi (sI h 161 k v) 161 k = v := by
  have g1 : RRel h (sI h 161 k v) := (RRel.rf h).si (Or.inl (by omega))
  refine ⟨⟨g1, r.go g1 (r.2.1.si (by omega) (by omega)) (by rw [miI_ne _ _ _ (by omega)]; exact r.2.2.1) (Nat.le_add_right _ _), ?_, fun j _ => ?_, fun j _ => ?_⟩, ?_⟩
  · rw [miI_ne _ _ _ (by omega)]; exact Wr.nil _ _
  · rw [miI_ne _ _ _ (by omega)]
  · rw [miI_eq, up_ne _ _ (by omega)]
  · rw [miI_eq, up_eq]
theorem r_p1 (w : RSk h) (dd : Nat) (x2 x3 x4 x5 : Int) : ∀ k : Nat, k < 7 → run (dd + 2) md_159 152 [vr 145, vi (k : Int), vi x2, vi x3, vi x4, vi x5] [] h = bV (ev (dd + 1) 152 [vr 145] h) fun h1 => run (dd + 2) md_159 176 [vr 145, vi ((popD (h_mi h 160) k : Nat) : Int), vi x2, vi x3, vi x4, vi x5] [] h1
  | 0, _ => by rw [q_159_152 (w := w), dt (show ((0 : Nat) : Int) ≤ 0 by omega)]; rfl
  | k + 1, hk => by
    rw [q_159_152 (w := w), df (show ¬ ((k + 1 : Nat) : Int) ≤ 0 by omega), dt (show 0 ≤ ((k + 1 : Nat) : Int) by omega), dt (show ((k + 1 : Nat) : Int) < 7 by omega), Int.toNat_natCast, ia (by omega) (by omega), show ((k + 1 : Nat) : Int) + -1 = (k : Int) by omega, r_p1 w dd x2 x3 x4 x5 k (by omega)]
    by_cases z : h_mi h 160 (k + 1) = 1
    · rw [df (fun q => q z), show popD (h_mi h 160) (k + 1) = popD (h_mi h 160) k from if_pos z]; rfl
    · rw [dt (show h_mi h 160 (k + 1) ≠ 1 from z), show popD (h_mi h 160) (k + 1) = k + 1 from if_neg z]; rfl
theorem r_p2 (w : RSk h) (dd : Nat) (x2 : Int) (v3 v4 v5 : AV) : ∀ k : Nat, k < 7 → run (dd + 2) md_159 379 [vr 145, vi (k : Int), vi x2, v3, v4, v5] [] h = bV (ev (dd + 1) 152 [vr 145] h) fun h1 => run (dd + 2) md_159 428 [vr 145, vi ((popD (h_mi h 160) k : Nat) : Int), vi x2, v3, v4, v5] [] h1
  | 0, _ => by rw [q_159_379 (w := w), dt (show ((0 : Nat) : Int) ≤ 0 by omega)]; rfl
  | k + 1, hk => by
    rw [q_159_379 (w := w), df (show ¬ ((k + 1 : Nat) : Int) ≤ 0 by omega), dt (show 0 ≤ ((k + 1 : Nat) : Int) by omega), dt (show ((k + 1 : Nat) : Int) < 7 by omega), Int.toNat_natCast, ia (by omega) (by omega), show ((k + 1 : Nat) : Int) + -1 = (k : Int) by omega, r_p2 w dd x2 v3 v4 v5 k (by omega)]
    by_cases z : h_mi h 160 (k + 1) = 1
    · rw [df (fun q => q z), show popD (h_mi h 160) (k + 1) = popD (h_mi h 160) k from if_pos z]; rfl
    · rw [dt (show h_mi h 160 (k + 1) ≠ 1 from z), show popD (h_mi h 160) (k + 1) = k + 1 from if_neg z]; rfl
/-- a number or a fact -/
theorem r_at (r : RT h f n l p c) (x : TX f n l) (p1 : p ≤ n) (c1 : c ≤ 1000 + p) (dd : Nat) {dp : Nat} (hd : dp < 5) {v : Int} (hv : (tkK f n p = 2 ∧ v = 100 + tkN f n p) ∨ (tkK f n p = 1 ∧ 0 ≤ fcI l (tkW f n p) ∧ v = fcI l (tkW f n p) + 1)) (v3 v4 v5 : AV) : ∃ h1 x3 x4 x5, run (dd + 2) md_159 11 [vr 145, vi (dp : Int), vi 1, v3, v4, v5] [] h = run (dd + 2) md_159 11 [vr 145, vi ((popD (h_mi h 160) dp : Nat) : Int), vi 0, x3, x4, x5] [] h1 ∧ RG h h1 f n l (tkE f n p) c [v] 7 8 := by
  obtain ⟨h1, e1, g1⟩ := r_lay r x p1 c1 (by rcases hv with z | z <;> omega) v (dd + 1)
  obtain ⟨h2, e2, g2⟩ := r_go g1.2.1 x p1 dd
  have po : popD (h_mi h1 160) dp = popD (h_mi h 160) dp := popD_cg (fun j hj => g1.2.2.2.1 j (by omega))
  have st : stP f n p l := by
    rcases hv with z | z
    · exact Or.inl z.1
    · exact Or.inr (Or.inr ⟨z.1, Or.inr z.2.1⟩)
  have a2 : ¬ (tkK f n p = 1 ∧ tkW f n p = 10631) := by
    rintro ⟨q1, q2⟩
    rcases hv with z | z
    · omega
    · rw [q2, fcI_not] at z; omega
  have a3 : ¬ (tkK f n p = 3 ∧ f (tB f n p) = 40) := fun q => by rcases hv with z | z <;> omega
  refine ⟨h2, vi (x3V f n p l), vi 0, vi 0, ?_, g1.tr g2 (by omega) (by omega)⟩
  rw [r_65 r x p1 st, q_159_65 (w := r.1), bb_f a2, bb_f a3, dt (show (dp : Int) ≠ 5 by omega)]
  simp only [zb]
  rcases hv with ⟨z, y⟩ | ⟨z, y, u⟩
  · have b := tkN_b p1 z
    rw [dt (show x3V f n p l ≤ 0 by unfold x3V; rw [if_neg (by omega)]; omega), r.2.1.2.2.2.2.2.1 z, ia (by omega) (by omega), ← y, e1]
    simp only [zb, bV_s]
    rw [q_159_150, r_p1 g1.2.1.1 dd 0 _ _ _ dp (by omega), po, e2, bV_s, q_159_176]
    rfl
  · have b : x3V f n p l = v := by unfold x3V; rw [if_pos z, u]
    rw [df (show ¬ x3V f n p l ≤ 0 by omega), b, e1]
    simp only [zb, bV_s]
    rw [q_159_150, r_p1 g1.2.1.1 dd 0 _ _ _ dp (by omega), po, e2, bV_s, q_159_176]
    rfl
/-- not, or a parenthesis -/
theorem r_on (r : RT h f n l p c) (x : TX f n l) (p1 : p ≤ n) (c1 : c ≤ 1000 + p) (dd : Nat) {dp : Nat} (hd : dp < 5) {v u : Int} (hv : (tkK f n p = 3 ∧ f (tB f n p) = 40 ∧ v = 28 ∧ u = 2) ∨ (tkK f n p = 1 ∧ tkW f n p = 10631 ∧ v = 30 ∧ u = 1)) (v3 v4 v5 : AV) : ∃ h1 x3 x4 x5, run (dd + 2) md_159 11 [vr 145, vi (dp : Int), vi 1, v3, v4, v5] [] h = run (dd + 2) md_159 11 [vr 145, vi ((dp + 1 : Nat) : Int), vi 1, x3, x4, x5] [] h1 ∧ RG h h1 f n l (tkE f n p) c [v] dp (dp + 1) ∧ h_mi h1 160 (dp + 1) = u ∧ h_mi h1 161 (dp + 1) = 0 := by
  obtain ⟨h1, e1, g1⟩ := r_lay r x p1 c1 (by rcases hv with z | z <;> omega) v (dd + 1)
  obtain ⟨g2, m1, m2⟩ := r_op g1.2.1 dp u
  generalize hh : sI (sI h1 160 (dp + 1) u) 161 (dp + 1) 0 = h2 at g2 m1 m2
  obtain ⟨h3, e3, g3⟩ := r_go g2.2.1 x p1 dd
  have st : stP f n p l := by
    rcases hv with z | z
    · exact Or.inr (Or.inl ⟨z.1, z.2.1⟩)
    · exact Or.inr (Or.inr ⟨z.1, Or.inl z.2.1⟩)
  refine ⟨h3, vi (x3V f n p l), vi (bb (tkK f n p = 1 ∧ tkW f n p = 10631)), vi (bb (tkK f n p = 3 ∧ f (tB f n p) = 40)), ?_, (g1.dn (dp := dp) (e := dp + 1) (by omega) (by omega)).tr (g2.tr g3 (by omega) (by omega)) (Nat.le_refl _) (Nat.le_refl _), (g3.2.2.2.1 _ (by omega)).trans m1, (g3.2.2.2.2 _ (by omega)).trans m2⟩
  have i1 : i_add (dp : Int) 1 = ((dp + 1 : Nat) : Int) := by rw [ia (by omega) (by omega)]; rfl
  rw [r_65 r x p1 st, q_159_65 (w := r.1), dt (show (dp : Int) ≠ 5 by omega)]
  rcases hv with ⟨z, y, rfl, rfl⟩ | ⟨z, y, rfl, rfl⟩
  · have a2 : ¬ (tkK f n p = 1 ∧ tkW f n p = 10631) := fun q => by omega
    rw [bb_f a2, bb_t ⟨z, y⟩, e1]
    show run (dd + 2) md_159 102 [vr 145, vi (dp : Int), vi 1, vi (x3V f n p l), vi 0, vi 1] [] h1 = _
    rw [q_159_102 (w := g1.2.1.1), i1, dt (show 0 ≤ ((dp + 1 : Nat) : Int) by omega), dt (show ((dp + 1 : Nat) : Int) < 7 by omega), Int.toNat_natCast]
    show bV (ev (dd + 1) 152 [vr 145] (sI (sI h1 160 (dp + 1) 2) 161 (dp + 1) 0)) _ = _
    rw [hh, e3, bV_s, q_159_176]
  · have a3 : ¬ (tkK f n p = 3 ∧ f (tB f n p) = 40) := fun q => by omega
    rw [bb_t ⟨z, y⟩, bb_f a3, e1]
    show run (dd + 2) md_159 102 [vr 145, vi (dp : Int), vi 1, vi (x3V f n p l), vi 1, vi 0] [] h1 = _
    rw [q_159_102 (w := g1.2.1.1), i1, dt (show 0 ≤ ((dp + 1 : Nat) : Int) by omega), dt (show ((dp + 1 : Nat) : Int) < 7 by omega), Int.toNat_natCast]
    show bV (ev (dd + 1) 152 [vr 145] (sI (sI h1 160 (dp + 1) 1) 161 (dp + 1) 0)) _ = _
    rw [hh, e3, bV_s, q_159_176]
end
