/-! laws are read: chains -/
section
variable {h h2 : HP} {f : Nat → Int} {n l L p dp s c : Nat}
theorem RG.rf {e : Nat} (r : RT h f n l p c) : RG h h f n l p c [] dp e := ⟨RRel.rf h, r, Wr.nil _ _, fun _ _ => rfl, fun _ _ => rfl⟩
theorem CG.rf (c : CT h f n l p s) : CG h h f n l p s [] := ⟨CRel.rf h, c, Wr.nil _ _⟩
theorem c_en (w : CSk h) (hL : L ≤ 3) {d : Nat} {dp : Int} (e : ev d 72 [vr 103, vi (i_add (L : Int) 1), vi dp] h = some (vr 0, h2)) : ev (d + 1) 72 [vr 103, vi (L : Int), vi dp] h = run (d + 1) md_72 35 [vr 103, vi (L : Int), vi dp, vi (if L = 1 then 1 else 1000), vi ((0 : Nat) : Int), vu] [] h2 := by
  rw [v_72, q_72_0 (w := w), e, dt (show (L : Int) < 4 by omega)]
  show run (d + 1) md_72 19 _ [] h2 = _
  rw [q_72_19]
  by_cases z : L = 1
  · rw [df (show ¬ (L : Int) ≠ 1 by omega), if_pos z]; rfl
  · rw [dt (show (L : Int) ≠ 1 by omega), if_neg z]; rfl
def LX (f : Nat → Int) (n l L dp p : Nat) (q : Int) : Prop := (∀ (d : Nat) (h : HP) (s x4 : Nat) (v5 : AV), cb L dp ≤ d + 1 → CT h f n l p s → s ≤ p → x4 ≤ p → ∃ h1, run (d + 1) md_72 35 [vr 103, vi (L : Int), vi (dp : Int), vi 1000, vi (x4 : Int), v5] [] h = some (vr 0, h1) ∧ CE h h1 f n q) ∧ ∀ (dd : Nat) (h : HP) (c : Nat) (v3 v4 v5 : AV), RT h f n l p c → c ≤ 1000 + p → (dp = 0 ∨ h_mi h 160 dp ≠ 1) → ∃ h1, run (dd + 2) md_159 11 [vr 145, vi (dp : Int), vi 0, v3, v4, v5] [] h = some (vi 0, h1) ∧ RRel h h1 ∧ h_mi h1 145 9 = q
def LO (f : Nat → Int) (n l L dp p p' : Nat) (cs rs : List Int) : Prop := (∀ (d : Nat) (h : HP) (s x4 : Nat) (v5 : AV), cb L dp ≤ d + 1 → CT h f n l p s → s ≤ p → x4 ≤ p → ∃ h1, run (d + 1) md_72 35 [vr 103, vi (L : Int), vi (dp : Int), vi 1000, vi (x4 : Int), v5] [] h = some (vr 0, h1) ∧ CG h h1 f n l p' s cs) ∧ ∀ (dd : Nat) (h : HP) (c : Nat) (v3 v4 v5 : AV), RT h f n l p c → c ≤ 1000 + p → (dp = 0 ∨ h_mi h 160 dp ≠ 1) → (L = 0 → (jsV f n p = 12 ∨ jsV f n p = 13) → h_mi h 161 dp ≠ 0) → ∃ h1 x3 x4 x5, run (dd + 2) md_159 11 [vr 145, vi (dp : Int), vi 0, v3, v4, v5] [] h = run (dd + 2) md_159 11 [vr 145, vi (dp : Int), vi 0, x3, x4, x5] [] h1 ∧ RG h h1 f n l p' c rs dp (if 2 ≤ L then dp + 1 else dp) ∧ (L = 0 → (jsV f n p' = 12 ∨ jsV f n p' = 13) → h_mi h1 161 dp ≠ 0)
def LoS (l L dp : Nat) (cs rs : List Int) : Prop := ∀ cs0 rs0 e0, CSem l cs0 e0 (4 * (5 - dp) + 1 + (4 - L)) → Sm L rs0 e0 (5 - dp) → AlE l e0 → ∃ e, CSem l (cs0 ++ cs) e (4 * (5 - dp) + 1 + (4 - L)) ∧ Sm L (rs0 ++ rs) e (5 - dp) ∧ AlE l e
def LpC (f : Nat → Int) (n l L dp p : Nat) : Prop := (∃ q, q ≠ 0 ∧ LX f n l L dp p q) ∨ ∃ p' cs rs, (p ≤ p' ∧ p' ≤ n ∧ cs.length ≤ p' - p ∧ rs.length ≤ p' - p) ∧ LoS l L dp cs rs ∧ Nt L f n p' ∧ LO f n l L dp p p' cs rs
theorem Nt.dn (hL : L ≤ 3) (nt : Nt (L + 1) f n p) (j : ¬ lvO L (jsV f n p)) : Nt L f n p := by
  unfold Nt at nt ⊢
  unfold lvO at j
  omega
theorem lp0 (hL : L ≤ 3) (p1 : p ≤ n) (nt : Nt (L + 1) f n p) (j : ¬ lvO L (jsV f n p)) : LpC f n l L dp p :=
  Or.inr ⟨p, [], [], ⟨Nat.le_refl _, p1, Nat.zero_le _, Nat.zero_le _⟩, fun cs0 rs0 e0 a b c => ⟨e0, by rw [List.append_nil]; exact a, by rw [List.append_nil]; exact b, c⟩, nt.dn hL j, fun d h s x4 v5 _ c _ _ => ⟨h, c_l0 c d hL j dp 1000 x4 v5, CG.rf c⟩, fun dd h c v3 v4 v5 r _ _ q => ⟨h, v3, v4, v5, rfl, RG.rf r, q⟩⟩
theorem lp (x : TX f n l) (hL : L ≤ 3) (hL1 : L ≠ 1) (hd : dp ≤ 5) (ih : ∀ p, p ≤ n → Cl f n l (L + 1) dp p) : ∀ m p, n - p ≤ m → p ≤ n → Nt (L + 1) f n p → LpC f n l L dp p := by
  intro m
  induction m with
  | zero =>
    intro p hm p1 nt
    refine lp0 hL p1 nt (fun j => ?_)
    have := ((tk_n (f := f) p1).2.2 (lv_k j).2).1
    have := (tk_n (f := f) p1).2.1
    omega
  | succ m im =>
    intro p hm p1 nt
    by_cases j : lvO L (jsV f n p)
    · have tn := (tk_n (f := f) p1).2.1
      have tn2 := ((tk_n (f := f) p1).2.2 (lv_k j).2).1
      have x2 := x.2.1
      have o10 : 10 ≤ jsV f n p ∧ jsV f n p ≤ 16 := by unfold lvO at j; omega
      rcases jn x p1 hL hd j (ih _ tn) with ⟨q, q0, jc, jr⟩ | ⟨p', cs, rs, e, ⟨l1, l2, l3, l4⟩, ⟨m1, m2, m3⟩, nt', jc, jr⟩
      · exact Or.inl ⟨q, q0, fun d h s x4 v5 hD c s1 h4 => jc d h s x4 1000 v5 hD c s1 (by omega) h4, fun dd h c v3 v4 v5 r c1 h2 => jr dd h c v3 v4 v5 r c1 h2 (fun z => absurd z hL1)⟩
      · have z1 : (cs ++ [-1 - jsV f n p]).length = cs.length + 1 := by rw [List.length_append]; rfl
        have z2 : ([rcO (jsV f n p)] ++ rs).length = rs.length + 1 := by rw [List.length_append, Nat.add_comm]; rfl
        have k160 : ∀ (h h1 : HP) (c : Nat) (rs : List Int) (p' e : Nat), RG h h1 f n l p' c rs dp e → (dp = 0 ∨ h_mi h 160 dp ≠ 1) → (dp = 0 ∨ h_mi h1 160 dp ≠ 1) := fun h h1 c rs p' e g q => by
          rcases q with y | y
          · exact Or.inl y
          · exact Or.inr (by rw [g.2.2.2.1 dp (Nat.le_refl _)]; exact y)
        rcases im p' (by omega) l2 nt' with ⟨q, q0, lc, lr⟩ | ⟨p2, cs2, rs2, ⟨b1, b2, b3, b4⟩, ls, nt2, lc, lr⟩
        · refine Or.inl ⟨q, q0, fun d h s x4 v5 hD c s1 h4 => ?_, fun dd h c v3 v4 v5 r c1 h2 => ?_⟩
          · obtain ⟨h1, e1, g1⟩ := jc d h s x4 1000 v5 hD c s1 (by omega) h4
            obtain ⟨h2, e2, g2⟩ := lc d h1 _ (x4 + 1) _ hD g1.2.1 (by omega) (by omega)
            exact ⟨h2, e1.trans e2, g1.ce g2⟩
          · obtain ⟨h1, y3, y4, y5, e1, g1, _, _⟩ := jr dd h c v3 v4 v5 r c1 h2 (fun z => absurd z hL1)
            obtain ⟨h3, e3, g3, g4⟩ := lr dd h1 _ y3 y4 y5 g1.2.1 (by omega) (k160 _ _ _ _ _ _ g1 h2)
            exact ⟨h3, e1.trans e3, g1.1.tr g3, g4⟩
        · refine Or.inr ⟨p2, (cs ++ [-1 - jsV f n p]) ++ cs2, ([rcO (jsV f n p)] ++ rs) ++ rs2, ⟨by omega, b2, by rw [List.length_append, z1]; omega, by rw [List.length_append, z2]; omega⟩, fun cs0 rs0 e0 a b c => ?_, nt2, fun d h s x4 v5 hD c s1 h4 => ?_, fun dd h c v3 v4 v5 r c1 h2 h5 => ?_⟩
          · obtain ⟨e2, u1, u2, u3⟩ := ls _ (rs0 ++ ([rcO (jsV f n p)] ++ rs)) _ (CSem.join a m1 o10.1 o10.2 (Nat.le_refl _) (by omega)) (by rw [List.singleton_append]; exact sm_jn hL1 j b m2) (al_jn _ c m3)
            exact ⟨e2, by rw [← List.append_assoc cs0]; exact u1, by rw [← List.append_assoc rs0]; exact u2, u3⟩
          · obtain ⟨h1, e1, g1⟩ := jc d h s x4 1000 v5 hD c s1 (by omega) h4
            obtain ⟨h2, e2, g2⟩ := lc d h1 _ (x4 + 1) _ hD g1.2.1 (by omega) (by omega)
            exact ⟨h2, e1.trans e2, g1.tr g2⟩
          · obtain ⟨h1, y3, y4, y5, e1, g1, q1, _⟩ := jr dd h c v3 v4 v5 r c1 h2 (fun z => absurd z hL1)
            obtain ⟨h3, w3, w4, w5, e3, g3, g4⟩ := lr dd h1 _ y3 y4 y5 g1.2.1 (by omega) (k160 _ _ _ _ _ _ g1 h2) q1
            exact ⟨h3, w3, w4, w5, e1.trans e3, g1.tr g3 (Nat.le_refl _) (Nat.le_refl _), g4⟩
    · exact lp0 hL p1 nt j
theorem Rp.up (hL : L ≤ 3) (r : Rp L dp h) : Rp (L + 1) dp h := ⟨fun q => r.1 (by omega), fun _ => r.2 hL⟩
theorem k16 {h1 : HP} {rs : List Int} {e : Nat} (g : RG h h1 f n l p c rs dp e) (q : dp = 0 ∨ h_mi h 160 dp ≠ 1) : dp = 0 ∨ h_mi h1 160 dp ≠ 1 := by
  rcases q with y | y
  · exact Or.inl y
  · exact Or.inr (by rw [g.2.2.2.1 dp (Nat.le_refl _)]; exact y)
/-- a fault in what stands first -/
theorem ch_x (hL : L ≤ 3) {q : Int} (q0 : q ≠ 0) (hc : CX f n l (L + 1) dp p q) (hr : RX f n l (L + 1) dp p q) : Cl f n l L dp p := by
  refine Or.inl ⟨q, q0, fun D h s hD c s1 => ?_, fun dd h c v3 v4 v5 r c1 rp => hr dd h c v3 v4 v5 r c1 (rp.up hL)⟩
  obtain ⟨d, rfl⟩ : ∃ d, D = d + 1 := ⟨D - 1, by rw [cbn (by omega)] at hD; omega⟩
  obtain ⟨D', hD2, ci⟩ := c_in (dp := dp) hL hD
  obtain ⟨h2, e2, g2⟩ := hc D' h s hD2 c s1
  refine ⟨h2, ?_, g2⟩
  rw [cxn (by omega), c_en c.1 hL (ci h h2 c.1 e2), c_lf (g2.1.cs c.1) (by rw [g2.2.2.1]; exact q0)]
theorem ch (x : TX f n l) (hL : L ≤ 3) (hL1 : L ≠ 1) (hd : dp ≤ 5) (ih : ∀ p, p ≤ n → Cl f n l (L + 1) dp p) (p1 : p ≤ n) : Cl f n l L dp p := by
  rcases ih p p1 with ⟨q, q0, hc, hr⟩ | ⟨p', cs, rs, e, ⟨l1, l2, l3, l4⟩, ⟨m1, m2, m3⟩, nt, hc, hr⟩
  · exact ch_x hL q0 hc hr
  · have en : ∀ (D : Nat) (h : HP) (s : Nat), cb L dp ≤ D → CT h f n l p s → s ≤ p → ∃ d h2, D = d + 1 ∧ cx L dp D h = run (d + 1) md_72 35 [vr 103, vi (L : Int), vi (dp : Int), vi 1000, vi ((0 : Nat) : Int), vu] [] h2 ∧ CG h h2 f n l p' s cs := fun D h s hD c s1 => by
      obtain ⟨d, rfl⟩ : ∃ d, D = d + 1 := ⟨D - 1, by rw [cbn (by omega)] at hD; omega⟩
      obtain ⟨D', hD2, ci⟩ := c_in (dp := dp) hL hD
      obtain ⟨h2, e2, g2⟩ := hc D' h s hD2 c s1
      refine ⟨d, h2, rfl, ?_, g2⟩
      rw [cxn (by omega), c_en c.1 hL (ci h h2 c.1 e2), if_neg hL1]
    rcases lp x hL hL1 hd ih (n - p') p' (Nat.le_refl _) l2 nt with ⟨q, q0, lc, lr⟩ | ⟨p2, cs2, rs2, ⟨b1, b2, b3, b4⟩, ls, nt2, lc, lr⟩
    · refine Or.inl ⟨q, q0, fun D h s hD c s1 => ?_, fun dd h c v3 v4 v5 r c1 rp => ?_⟩
      · obtain ⟨d, h2, rfl, e2, g2⟩ := en D h s hD c s1
        obtain ⟨h3, e3, g3⟩ := lc d h2 _ 0 vu hD g2.2.1 (by omega) (by omega)
        exact ⟨h3, e2.trans e3, g2.ce g3⟩
      · obtain ⟨h1, y3, y4, y5, e1, g1, _⟩ := hr dd h c v3 v4 v5 r c1 (rp.up hL)
        rw [popD_id (rp.2 hL)] at e1
        obtain ⟨h3, e3, g3, g4⟩ := lr dd h1 _ y3 y4 y5 g1.2.1 (by omega) (k16 g1 (rp.2 hL))
        exact ⟨h3, e1.trans e3, g1.1.tr g3, g4⟩
    · obtain ⟨e', n1, n2, n3⟩ := sm_up hL m1 m2 m3
      obtain ⟨e2, u1, u2, u3⟩ := ls _ _ _ (n1.up (by omega) (fun _ _ => rfl)) n2 n3
      refine Or.inr ⟨p2, cs ++ cs2, rs ++ rs2, e2, ⟨by omega, b2, by rw [List.length_append]; omega, by rw [List.length_append]; omega⟩, ⟨u1, u2, u3⟩, nt2, fun D h s hD c s1 => ?_, fun dd h c v3 v4 v5 r c1 rp => ?_⟩
      · obtain ⟨d, h2, rfl, e2, g2⟩ := en D h s hD c s1
        obtain ⟨h3, e3, g3⟩ := lc d h2 _ 0 vu hD g2.2.1 (by omega) (by omega)
        exact ⟨h3, e2.trans e3, g2.tr g3⟩
      · obtain ⟨h1, y3, y4, y5, e1, g1, q1⟩ := hr dd h c v3 v4 v5 r c1 (rp.up hL)
        rw [popD_id (rp.2 hL)] at e1
        obtain ⟨h3, w3, w4, w5, e3, g3, g4⟩ := lr dd h1 _ y3 y4 y5 g1.2.1 (by omega) (k16 g1 (rp.2 hL)) (fun z => q1 (by omega))
        refine ⟨h3, w3, w4, w5, by rw [popD_id (rp.2 hL)]; exact e1.trans e3, (g1.dn (Nat.le_refl _) (by split <;> split <;> omega)).tr g3 (Nat.le_refl _) (Nat.le_refl _), fun z => g4 (by omega)⟩
theorem ch1 (x : TX f n l) (hd : dp ≤ 5) (ih : ∀ p, p ≤ n → Cl f n l 2 dp p) (p1 : p ≤ n) : Cl f n l 1 dp p := by
  rcases ih p p1 with ⟨q, q0, hc, hr⟩ | ⟨p', cs, rs, e, ⟨l1, l2, l3, l4⟩, ⟨m1, m2, m3⟩, nt, hc, hr⟩
  · exact ch_x (by omega) q0 hc hr
  · have en : ∀ (D : Nat) (h : HP) (s : Nat), cb 1 dp ≤ D → CT h f n l p s → s ≤ p → ∃ d h2, D = d + 1 ∧ cx 1 dp D h = run (d + 1) md_72 35 [vr 103, vi ((1 : Nat) : Int), vi (dp : Int), vi 1, vi ((0 : Nat) : Int), vu] [] h2 ∧ CG h h2 f n l p' s cs := fun D h s hD c s1 => by
      obtain ⟨d, rfl⟩ : ∃ d, D = d + 1 := ⟨D - 1, by rw [cbn (by omega)] at hD; omega⟩
      obtain ⟨D', hD2, ci⟩ := c_in (L := 1) (dp := dp) (by omega) hD
      obtain ⟨h2, e2, g2⟩ := hc D' h s hD2 c s1
      refine ⟨d, h2, rfl, ?_, g2⟩
      rw [cxn (by omega), c_en c.1 (by omega) (ci h h2 c.1 e2), if_pos rfl]
    by_cases j : lvO 1 (jsV f n p')
    · have jj : jsV f n p' = 12 ∨ jsV f n p' = 13 := by unfold lvO at j; omega
      rcases jn x l2 (by omega) hd j (ih _ (tk_n (f := f) l2).2.1) with ⟨q, q0, jc, jr⟩ | ⟨p2, cs2, rs2, e2, ⟨b1, b2, b3, b4⟩, ⟨n1, n2, n3⟩, nt2, jc, jr⟩
      · refine Or.inl ⟨q, q0, fun D h s hD c s1 => ?_, fun dd h c v3 v4 v5 r c1 rp => ?_⟩
        · obtain ⟨d, h2, rfl, e2, g2⟩ := en D h s hD c s1
          obtain ⟨h3, e3, g3⟩ := jc d h2 _ 0 1 vu hD g2.2.1 (by omega) (by omega) (by omega)
          exact ⟨h3, e2.trans e3, g2.ce g3⟩
        · obtain ⟨h1, y3, y4, y5, e1, g1, _⟩ := hr dd h c v3 v4 v5 r c1 (Rp.up (L := 1) (by omega) rp)
          rw [popD_id (rp.2 (by omega))] at e1
          obtain ⟨h3, e3, g3, g4⟩ := jr dd h1 _ y3 y4 y5 g1.2.1 (by omega) (k16 g1 (rp.2 (by omega))) (fun _ => by rw [g1.2.2.2.2 dp (by show dp < dp + 1; omega)]; exact rp.1 (by omega))
          exact ⟨h3, e1.trans e3, g1.1.tr g3, g4⟩
      · have z1 : (cs2 ++ [-1 - jsV f n p']).length = cs2.length + 1 := by rw [List.length_append]; rfl
        have z2 : ([rcO (jsV f n p')] ++ rs2).length = rs2.length + 1 := by rw [List.length_append, Nat.add_comm]; rfl
        refine Or.inr ⟨p2, cs ++ (cs2 ++ [-1 - jsV f n p']), rs ++ ([rcO (jsV f n p')] ++ rs2), _, ⟨by omega, b2, by rw [List.length_append, z1]; omega, by rw [List.length_append, z2]; omega⟩, ⟨CSem.join m1 n1 (by omega) (by omega) (by omega) (by omega), by rw [List.singleton_append]; exact sm_j1 jj m2 n2, al_jn _ m3 n3⟩, ?_, fun D h s hD c s1 => ?_, fun dd h c v3 v4 v5 r c1 rp => ?_⟩
        · exact ⟨fun _ => nt2.1 (by omega), fun _ => nt2.2.1 (by omega), fun z => absurd z (by omega)⟩
        · obtain ⟨d, h2, rfl, e2, g2⟩ := en D h s hD c s1
          obtain ⟨h3, e3, g3⟩ := jc d h2 _ 0 1 vu hD g2.2.1 (by omega) (by omega) (by omega)
          refine ⟨h3, (e2.trans e3).trans ?_, g2.tr g3⟩
          rw [q_72_35 (w := g3.2.1.1), dt (by omega)]; rfl
        · obtain ⟨h1, y3, y4, y5, e1, g1, _⟩ := hr dd h c v3 v4 v5 r c1 (Rp.up (L := 1) (by omega) rp)
          rw [popD_id (rp.2 (by omega))] at e1
          obtain ⟨h3, w3, w4, w5, e3, g3, _, g4⟩ := jr dd h1 _ y3 y4 y5 g1.2.1 (by omega) (k16 g1 (rp.2 (by omega))) (fun _ => by rw [g1.2.2.2.2 dp (by show dp < dp + 1; omega)]; exact rp.1 (by omega))
          exact ⟨h3, w3, w4, w5, by rw [popD_id (rp.2 (by omega))]; exact e1.trans e3, (g1.dn (e := dp) (Nat.le_refl _) (by show dp ≤ dp + 1; omega)).tr g3 (Nat.le_refl _) (Nat.le_refl _), fun _ _ => g4 rfl⟩
    · obtain ⟨e', n1, n2, n3⟩ := sm_up (L := 1) (by omega) m1 m2 m3
      refine Or.inr ⟨p', cs, rs, e', ⟨l1, l2, l3, l4⟩, ⟨n1.up (by omega) (fun _ _ => rfl), n2, n3⟩, Nt.dn (by omega) nt j, fun D h s hD c s1 => ?_, fun dd h c v3 v4 v5 r c1 rp => ?_⟩
      · obtain ⟨d, h2, rfl, e2, g2⟩ := en D h s hD c s1
        exact ⟨h2, e2.trans (c_l0 g2.2.1 d (by omega) j dp 1 _ vu), g2⟩
      · obtain ⟨h1, y3, y4, y5, e1, g1, _⟩ := hr dd h c v3 v4 v5 r c1 (Rp.up (L := 1) (by omega) rp)
        exact ⟨h1, y3, y4, y5, e1, g1.dn (Nat.le_refl _) (by show dp ≤ dp + 1; omega), fun _ z => absurd (show lvO 1 (jsV f n p') from Or.inr (Or.inl ⟨rfl, z⟩)) j⟩
/-- every law, on both sides -/
theorem cl_all (x : TX f n l) : ∀ k dp, dp + k = 5 → ∀ L, L ≤ 4 → ∀ p, p ≤ n → Cl f n l L dp p := by
  intro k
  induction k with
  | zero =>
    intro dp hk
    have d5 : dp ≤ 5 := by omega
    have c4 : ∀ p, p ≤ n → Cl f n l 4 dp p := fun p p1 => cl_4 x d5 (fun z => absurd z (by omega)) (fun z => absurd z (by omega)) p1
    have c3 : ∀ p, p ≤ n → Cl f n l 3 dp p := fun p p1 => ch x (by omega) (by omega) d5 c4 p1
    have c2 : ∀ p, p ≤ n → Cl f n l 2 dp p := fun p p1 => ch x (by omega) (by omega) d5 c3 p1
    have c1 : ∀ p, p ≤ n → Cl f n l 1 dp p := fun p p1 => ch1 x d5 c2 p1
    have c0 : ∀ p, p ≤ n → Cl f n l 0 dp p := fun p p1 => ch x (by omega) (by omega) d5 c1 p1
    intro L hL
    rcases (show L = 0 ∨ L = 1 ∨ L = 2 ∨ L = 3 ∨ L = 4 by omega) with z | z | z | z | z <;> subst z <;> assumption
  | succ k ik =>
    intro dp hk
    have d5 : dp ≤ 5 := by omega
    have c4 : ∀ p, p ≤ n → Cl f n l 4 dp p := fun p p1 => cl_4 x d5 (fun _ => ik (dp + 1) (by omega) 4 (by omega)) (fun _ => ik (dp + 1) (by omega) 0 (by omega)) p1
    have c3 : ∀ p, p ≤ n → Cl f n l 3 dp p := fun p p1 => ch x (by omega) (by omega) d5 c4 p1
    have c2 : ∀ p, p ≤ n → Cl f n l 2 dp p := fun p p1 => ch x (by omega) (by omega) d5 c3 p1
    have c1 : ∀ p, p ≤ n → Cl f n l 1 dp p := fun p p1 => ch1 x d5 c2 p1
    have c0 : ∀ p, p ≤ n → Cl f n l 0 dp p := fun p p1 => ch x (by omega) (by omega) d5 c1 p1
    intro L hL
    rcases (show L = 0 ∨ L = 1 ∨ L = 2 ∨ L = 3 ∨ L = 4 by omega) with z | z | z | z | z <;> subst z <;> assumption
end
