/-! laws are read: a sign and what follows it -/
theorem sm_up {l L n d : Nat} {cs rs : List Int} {e : (Nat → Int) → Int} (hL : L ≤ 3) (c : CSem l cs e n) (s : Sm (L + 1) rs e d) (a : AlE l e) : ∃ e', CSem l cs e' (n + 1) ∧ Sm L rs e' d ∧ AlE l e' := by
  rcases (show L = 0 ∨ L = 1 ∨ L = 2 ∨ L = 3 by omega) with z | z | z | z <;> subst z
  · exact ⟨e, c.up (by omega) (fun _ _ => rfl), RCh.one0 s, a⟩
  · exact ⟨e, c.up (by omega) (fun _ _ => rfl), RCh.one1 s, a⟩
  · refine ⟨fun F => i_add 0 (e F), c.up (by omega) (fun F hF => ?_), RCh.one2 s, fun F G q => by show i_add 0 (e F) = i_add 0 (e G); rw [a F G q]⟩
    have b := (c.2.2 F hF).1
    unfold i3 at b
    show i_add 0 (e F) = e F
    rw [ia (by omega) (by omega)]; omega
  · exact ⟨e, c.up (by omega) (fun _ _ => rfl), RCh.one s, a⟩
def lvO (L : Nat) (o : Int) : Prop := (L = 0 ∧ (o = 10 ∨ o = 11)) ∨ (L = 1 ∧ (o = 12 ∨ o = 13)) ∨ (L = 2 ∧ (o = 14 ∨ o = 15)) ∨ (L = 3 ∧ o = 16)
theorem sm_jn {L d : Nat} {rs rs' : List Int} {e e' : (Nat → Int) → Int} {o : Int} (h1 : L ≠ 1) (ho : lvO L o) (s : Sm L rs e d) (s' : Sm (L + 1) rs' e' d) : Sm L (rs ++ (rcO o :: rs')) (fun F => jnV o (e F) (e' F)) d := by
  rcases ho with ⟨z, y | y⟩ | ⟨z, _⟩ | ⟨z, y | y⟩ | ⟨z, y⟩
  · subst z; subst y; exact RCh.bo (Or.inl rfl) s s'
  · subst z; subst y; exact RCh.bo (Or.inr rfl) s s'
  · exact absurd z h1
  · subst z; subst y; exact RCh.add (Or.inl rfl) s s'
  · subst z; subst y; exact RCh.add (Or.inr rfl) s s'
  · subst z; subst y; exact RCh.mul s s'
theorem sm_j1 {d : Nat} {rs rs' : List Int} {e e' : (Nat → Int) → Int} {o : Int} (ho : o = 12 ∨ o = 13) (s : Sm 2 rs e d) (s' : Sm 2 rs' e' d) : Sm 1 (rs ++ (rcO o :: rs')) (fun F => jnV o (e F) (e' F)) d := by
  rcases ho with y | y
  · subst y; exact RCh.cmp (Or.inl rfl) s s'
  · subst y; exact RCh.cmp (Or.inr rfl) s s'
theorem al_jn {l : Nat} {e e' : (Nat → Int) → Int} (o : Int) (a : AlE l e) (b : AlE l e') : AlE l (fun F => jnV o (e F) (e' F)) := fun F G q => by
  show jnV o (e F) (e' F) = jnV o (e G) (e' G)
  rw [a F G q, b F G q]
theorem lv_i {L : Nat} {o : Int} (h : lvO L o) : i_div (i_sub o 10) 2 = (L : Int) := by
  rcases h with ⟨z, y | y⟩ | ⟨z, y | y⟩ | ⟨z, y | y⟩ | ⟨z, y⟩ <;> subst z <;> subst y <;> rfl
section
variable {h h0 : HP} {f : Nat → Int} {n l L p dp s c : Nat}
theorem lv_n (h : ¬ lvO L (jsV f n p)) (hL : L ≤ 3) : jsV f n p = -1 ∨ i_div (i_sub (jsV f n p) 10) 2 ≠ (L : Int) := by
  have i0 : i_div (i_sub 10 10) 2 = 0 ∧ i_div (i_sub 11 10) 2 = 0 ∧ i_div (i_sub 12 10) 2 = 1 ∧ i_div (i_sub 13 10) 2 = 1 ∧ i_div (i_sub 14 10) 2 = 2 ∧ i_div (i_sub 15 10) 2 = 2 ∧ i_div (i_sub 16 10) 2 = 3 := ⟨rfl, rfl, rfl, rfl, rfl, rfl, rfl⟩
  unfold lvO at h
  rcases jsV_c f n p with ⟨_, _, z⟩ | ⟨_, _, z⟩ | ⟨_, _, z⟩ | ⟨_, _, z⟩ | ⟨_, _, z⟩ | ⟨_, _, z⟩ | ⟨_, _, z⟩ | ⟨z, _⟩ <;> rw [z] at h ⊢ <;> first | exact Or.inl rfl | (refine Or.inr ?_; omega)
theorem lv_k (h : lvO L (jsV f n p)) : jsV f n p ≠ -1 ∧ tkK f n p ≠ 0 := by
  unfold lvO at h
  rcases jsV_c f n p with ⟨y, _, z⟩ | ⟨y, _, z⟩ | ⟨y, _, z⟩ | ⟨y, _, z⟩ | ⟨y, _, z⟩ | ⟨y, _, z⟩ | ⟨y, _, z⟩ | ⟨z, _⟩ <;> omega
theorem c_l0 (c : CT h f n l p s) (d : Nat) (hL : L ≤ 3) (j : ¬ lvO L (jsV f n p)) (dp : Int) (x3 x4 : Int) (v5 : AV) : run (d + 1) md_72 35 [vr 103, vi (L : Int), vi dp, vi x3, vi x4, v5] [] h = some (vr 0, h) := by
  have e : run (d + 1) md_72 52 [vr 103, vi (L : Int), vi dp, vi x3, vi x4, v5] [vi (jsV f n p)] h = some (vr 0, h) := by
    rw [q_72_52 (w := c.1)]
    rcases lv_n j hL with z | z
    · rw [dt z]; rfl
    · rw [df z]
      cases decide (jsV f n p = -1) <;> rfl
  rw [q_72_35 (w := c.1), df (show ¬ h_mi h 103 8 ≠ 0 from fun q => q c.2.2.2.1), c_75 c.1 c.2.2.1, bI_s, e]
  cases decide (x3 ≤ x4) <;> rfl
theorem c_lf (w : CSk h) (hf : h_mi h 103 8 ≠ 0) (d : Nat) (x1 dp x3 x4 : Int) (v5 : AV) : run (d + 1) md_72 35 [vr 103, vi x1, vi dp, vi x3, vi x4, v5] [] h = some (vr 0, h) := by
  rw [q_72_35 (w := w), dt hf]
  cases decide (x3 ≤ x4) <;> rfl
theorem c_l1 (c : CT h f n l p s) (x : TX f n l) (p1 : p ≤ n) {d : Nat} (hd : 5 ≤ d) (j : lvO L (jsV f n p)) (dp : Int) {x3 x4 : Int} (h4 : x4 < x3) (v5 : AV) : ∃ h1, run (d + 1) md_72 35 [vr 103, vi (L : Int), vi dp, vi x3, vi x4, v5] [] h = run (d + 1) md_72 79 [vr 103, vi (L : Int), vi dp, vi x3, vi x4, vi (jsV f n p)] [] h1 ∧ CG h h1 f n l (tkE f n p) s [] := by
  obtain ⟨h1, e1, g1⟩ := c_go c x p1 hd
  refine ⟨h1, ?_, g1⟩
  rw [q_72_35 (w := c.1), df (show ¬ h_mi h 103 8 ≠ 0 from fun q => q c.2.2.2.1), c_75 c.1 c.2.2.1, bI_s, q_72_52 (w := c.1), df (lv_k j).1, lv_i j, dt rfl, e1, df (show ¬ x3 ≤ x4 by omega)]
  rfl
theorem cxn {L : Nat} (hL : L ≠ 4) (dp D : Nat) (h : HP) : cx L dp D h = ev D 72 [vr 103, vi (L : Int), vi (dp : Int)] h := if_neg hL
theorem cbn {L : Nat} (hL : L ≠ 4) (dp : Nat) : cb L dp = 6 * (5 - dp) + 10 + (5 - L) := by unfold cb; rw [if_neg hL]
theorem c_in (hL : L ≤ 3) {d : Nat} (hd : cb L dp ≤ d + 1) : ∃ D, cb (L + 1) dp ≤ D ∧ ∀ h h2, CSk h → cx (L + 1) dp D h = some (vr 0, h2) → ev d 72 [vr 103, vi (i_add (L : Int) 1), vi (dp : Int)] h = some (vr 0, h2) := by
  have i1 : i_add (L : Int) 1 = ((L + 1 : Nat) : Int) := by rw [ia (by omega) (by omega)]; rfl
  rw [cbn (by omega)] at hd
  rw [i1]
  by_cases z : L = 3
  · subst z
    obtain ⟨d', rfl⟩ : ∃ d', d = d' + 1 := ⟨d - 1, by omega⟩
    refine ⟨d', by rw [cb4]; omega, fun h h2 w e => ?_⟩
    rw [cx4] at e
    rw [v_72, q_72_0 (w := w), e]
    exact q_72_10 ..
  · exact ⟨d, by rw [cbn (by omega)]; omega, fun h h2 _ e => by rw [cxn (by omega)] at e; exact e⟩
/-- a sign and its right side: how both do -/
def JX (f : Nat → Int) (n l L dp p : Nat) (q : Int) : Prop := (∀ (d : Nat) (h : HP) (s x4 : Nat) (x3 : Int) (v5 : AV), cb L dp ≤ d + 1 → CT h f n l p s → s ≤ p → (x4 : Int) < x3 → x4 ≤ p → ∃ h1, run (d + 1) md_72 35 [vr 103, vi (L : Int), vi (dp : Int), vi x3, vi (x4 : Int), v5] [] h = some (vr 0, h1) ∧ CE h h1 f n q) ∧ ∀ (dd : Nat) (h : HP) (c : Nat) (v3 v4 v5 : AV), RT h f n l p c → c ≤ 1000 + p → (dp = 0 ∨ h_mi h 160 dp ≠ 1) → (L = 1 → h_mi h 161 dp = 0) → ∃ h1, run (dd + 2) md_159 11 [vr 145, vi (dp : Int), vi 0, v3, v4, v5] [] h = some (vi 0, h1) ∧ RRel h h1 ∧ h_mi h1 145 9 = q
def JO (f : Nat → Int) (n l L dp p p' : Nat) (cs rs : List Int) : Prop := (∀ (d : Nat) (h : HP) (s x4 : Nat) (x3 : Int) (v5 : AV), cb L dp ≤ d + 1 → CT h f n l p s → s ≤ p → (x4 : Int) < x3 → x4 ≤ p → ∃ h1, run (d + 1) md_72 35 [vr 103, vi (L : Int), vi (dp : Int), vi x3, vi (x4 : Int), v5] [] h = run (d + 1) md_72 35 [vr 103, vi (L : Int), vi (dp : Int), vi x3, vi ((x4 + 1 : Nat) : Int), vi (jsV f n p)] [] h1 ∧ CG h h1 f n l p' s (cs ++ [-1 - jsV f n p])) ∧ ∀ (dd : Nat) (h : HP) (c : Nat) (v3 v4 v5 : AV), RT h f n l p c → c ≤ 1000 + p → (dp = 0 ∨ h_mi h 160 dp ≠ 1) → (L = 1 → h_mi h 161 dp = 0) → ∃ h1 x3 x4 x5, run (dd + 2) md_159 11 [vr 145, vi (dp : Int), vi 0, v3, v4, v5] [] h = run (dd + 2) md_159 11 [vr 145, vi (dp : Int), vi 0, x3, x4, x5] [] h1 ∧ RG h h1 f n l p' c ([rcO (jsV f n p)] ++ rs) dp (if 2 ≤ L then dp + 1 else dp) ∧ (L = 0 → (jsV f n p' = 12 ∨ jsV f n p' = 13) → h_mi h1 161 dp ≠ 0) ∧ (L = 1 → h_mi h1 161 dp ≠ 0)
theorem jn (x : TX f n l) (p1 : p ≤ n) (hL : L ≤ 3) (hd : dp ≤ 5) (j : lvO L (jsV f n p)) (ih : Cl f n l (L + 1) dp (tkE f n p)) : (∃ q, q ≠ 0 ∧ JX f n l L dp p q) ∨ ∃ p' cs rs e, (p + 1 < p' ∧ p' ≤ n ∧ cs.length + 1 ≤ p' - p ∧ rs.length + 1 ≤ p' - p) ∧ (CSem l cs e (4 * (5 - dp) + 1 + (4 - (L + 1))) ∧ Sm (L + 1) rs e (5 - dp) ∧ AlE l e) ∧ Nt (L + 1) f n p' ∧ JO f n l L dp p p' cs rs := by
  have k := lv_k j
  have tn := (tk_n (f := f) p1)
  have tn2 := tn.2.2 k.2
  have x2 := x.2.1
  have o10 : 10 ≤ jsV f n p ∧ jsV f n p ≤ 16 := by unfold lvO at j; omega
  have os : i_sub (-1) (jsV f n p) = -1 - jsV f n p := is_ (by omega) (by omega)
  have o1 : L = 0 → jsV f n p ≤ 11 := by unfold lvO at j; omega
  have o2 : L = 1 → jsV f n p = 12 ∨ jsV f n p = 13 := by unfold lvO at j; omega
  have o3 : (jsV f n p = 12 ∨ jsV f n p = 13) → L = 1 := by unfold lvO at j; omega
  have o4 : 2 ≤ L → 14 ≤ jsV f n p := by unfold lvO at j; omega
  -- the reference goes past the sign
  have rsg : ∀ (dd : Nat) (h : HP) (c : Nat) (v3 v4 v5 : AV), RT h f n l p c → c ≤ 1000 + p → (dp = 0 ∨ h_mi h 160 dp ≠ 1) → (L = 1 → h_mi h 161 dp = 0) → ∃ h1, run (dd + 2) md_159 11 [vr 145, vi (dp : Int), vi 0, v3, v4, v5] [] h = run (dd + 2) md_159 11 [vr 145, vi (dp : Int), vi 1, v3, v4, v5] [] h1 ∧ RG h h1 f n l (tkE f n p) c [rcO (jsV f n p)] dp (if 2 ≤ L then dp + 1 else dp) ∧ Rp (L + 1) dp h1 ∧ (L = 1 → h_mi h1 161 dp = 1) ∧ (dp = 0 ∨ h_mi h1 160 dp ≠ 1) := fun dd h c v3 v4 v5 r c1 h2 h3 => by
    obtain ⟨h1, e1, g1, m1⟩ := r_sg r x p1 c1 dd (dp := dp) (by omega) v3 v4 v5 k.1 (fun q => h3 (o3 q))
    have g2 : RG h h1 f n l (tkE f n p) c [rcO (jsV f n p)] dp (if 2 ≤ L then dp + 1 else dp) := by
      by_cases y : 2 ≤ L
      · rw [if_pos y]; rw [if_pos (o4 y)] at g1; exact g1.dn (by omega) (by omega)
      · rw [if_neg y]
        refine g1.dn (by omega) ?_
        split <;> omega
    have z : dp = 0 ∨ h_mi h1 160 dp ≠ 1 := by
      rcases h2 with y | y
      · exact Or.inl y
      · exact Or.inr (by rw [g2.2.2.2.1 dp (by omega)]; exact y)
    refine ⟨h1, e1, g2, ⟨fun q => ?_, fun _ => z⟩, fun q => ?_, z⟩
    · have := o1 (by omega)
      rw [m1 (by omega), if_pos this]
    · have := o2 q
      rw [m1 (by omega), if_neg (by omega)]
  have ix : ∀ x4 : Nat, x4 ≤ p → i_add (x4 : Int) 1 = ((x4 + 1 : Nat) : Int) := fun x4 h4 => by rw [ia (by omega) (by omega)]; rfl
  rcases ih with ⟨q, q0, hc, hr⟩ | ⟨p', cs, rs, e, ⟨l1, l2, l3, l4⟩, m, nt, hc, hr⟩
  · refine Or.inl ⟨q, q0, fun d h s x4 x3 v5 hD c s1 h3 h4 => ?_, fun dd h c v3 v4 v5 r c1 h2 h3 => ?_⟩
    · have d5 : 5 ≤ d := by rw [cbn (by omega)] at hD; omega
      obtain ⟨h1, e1, g1⟩ := c_l1 c x p1 d5 j dp h3 v5
      obtain ⟨D, hD2, ci⟩ := c_in (dp := dp) hL hD
      obtain ⟨h2, e2, g2⟩ := hc D h1 s hD2 g1.2.1 (by omega)
      have e2 := ci h1 h2 g1.2.1.1 e2
      have g2 := g1.ce g2
      obtain ⟨h3, e3, g3⟩ := g2.lay c.1 (-1 - jsV f n p) d
      refine ⟨h3, ?_, g3⟩
      rw [e1, q_72_79 (w := g1.2.1.1), e2, bV_s, q_72_87 (w := g2.1.cs c.1), os, e3, bV_s, q_72_95, c_lf (g3.1.cs c.1) (by rw [g3.2.2.1]; exact q0)]
    · obtain ⟨h1, e1, g1, rp, _⟩ := rsg dd h c v3 v4 v5 r c1 h2 h3
      obtain ⟨h2, e2, g2, g3⟩ := hr dd h1 (c + 1) v3 v4 v5 g1.2.1 (by omega) rp
      exact ⟨h2, e1.trans e2, g1.1.tr g2, g3⟩
  · refine Or.inr ⟨p', cs, rs, e, ⟨by omega, l2, by omega, by omega⟩, m, nt, fun d h s x4 x3 v5 hD c s1 h3 h4 => ?_, fun dd h c v3 v4 v5 r c1 h2 h3 => ?_⟩
    · have d5 : 5 ≤ d := by rw [cbn (by omega)] at hD; omega
      obtain ⟨h1, e1, g1⟩ := c_l1 c x p1 d5 j dp h3 v5
      obtain ⟨D, hD2, ci⟩ := c_in (dp := dp) hL hD
      obtain ⟨h2, e2, g2⟩ := hc D h1 s hD2 g1.2.1 (by omega)
      have e2 := ci h1 h2 g1.2.1.1 e2
      obtain ⟨h3, e3, g3⟩ := c_lay g2.2.1 (by omega) (-1 - jsV f n p) d
      refine ⟨h3, ?_, (g1.tr g2).tr g3⟩
      rw [e1, q_72_79 (w := g1.2.1.1), e2, bV_s, q_72_87 (w := g2.2.1.1), os, e3, bV_s, q_72_95, ix x4 h4]
    · obtain ⟨h1, e1, g1, rp, r1, r2⟩ := rsg dd h c v3 v4 v5 r c1 h2 h3
      obtain ⟨h2, y3, y4, y5, e2, g2, g3⟩ := hr dd h1 (c + 1) v3 v4 v5 g1.2.1 (by omega) rp
      rw [popD_id r2] at e2
      refine ⟨h2, y3, y4, y5, e1.trans e2, g1.tr g2 (Nat.le_refl _) (by split <;> split <;> omega), fun q => g3 (by omega), fun q => ?_⟩
      have := g2.2.2.2.2 dp (by rw [if_pos (by omega)]; omega)
      rw [this, r1 q]; omega
end
