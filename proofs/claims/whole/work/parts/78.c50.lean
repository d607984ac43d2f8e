/-! laws are read: the claim, and parts -/
def Sm : Nat → List Int → ((Nat → Int) → Int) → Nat → Prop
  | 0, rs, e, d => RCh Pr0 Po0 rs e d
  | 1, rs, e, d => RCh Pr1 Po1 rs e d
  | 2, rs, e, d => RCh Pr2 Po2 rs e d
  | 3, rs, e, d => RCh Pr3 Po3 rs e d
  | _, rs, e, d => RPa rs e d
def Nt (L : Nat) (f : Nat → Int) (n p : Nat) : Prop := (L ≤ 3 → jsV f n p ≠ 16) ∧ (L ≤ 2 → jsV f n p ≠ 14 ∧ jsV f n p ≠ 15) ∧ (L = 0 → jsV f n p ≠ 10 ∧ jsV f n p ≠ 11)
noncomputable def cx (L dp D : Nat) (h : HP) : RS := if L = 4 then ev D 73 [vr 103, vi (dp : Int)] h else ev D 72 [vr 103, vi (L : Int), vi (dp : Int)] h
def cb (L dp : Nat) : Nat := 6 * (5 - dp) + 10 + (if L = 4 then 0 else 5 - L)
def CX (f : Nat → Int) (n l L dp p : Nat) (q : Int) : Prop := ∀ (D : Nat) (h : HP) (s : Nat), cb L dp ≤ D → CT h f n l p s → s ≤ p → ∃ h1, cx L dp D h = some (vr 0, h1) ∧ CE h h1 f n q
def CO (f : Nat → Int) (n l L dp p p' : Nat) (cs : List Int) : Prop := ∀ (D : Nat) (h : HP) (s : Nat), cb L dp ≤ D → CT h f n l p s → s ≤ p → ∃ h1, cx L dp D h = some (vr 0, h1) ∧ CG h h1 f n l p' s cs
def Rp (L dp : Nat) (h : HP) : Prop := (L ≤ 1 → h_mi h 161 dp = 0) ∧ (L ≤ 3 → dp = 0 ∨ h_mi h 160 dp ≠ 1)
def RX (f : Nat → Int) (n l L dp p : Nat) (q : Int) : Prop := ∀ (dd : Nat) (h : HP) (c : Nat) (v3 v4 v5 : AV), RT h f n l p c → c ≤ 1000 + p → Rp L dp h → ∃ h1, run (dd + 2) md_159 11 [vr 145, vi (dp : Int), vi 1, v3, v4, v5] [] h = some (vi 0, h1) ∧ RRel h h1 ∧ h_mi h1 145 9 = q
def RO (f : Nat → Int) (n l L dp p p' : Nat) (rs : List Int) : Prop := ∀ (dd : Nat) (h : HP) (c : Nat) (v3 v4 v5 : AV), RT h f n l p c → c ≤ 1000 + p → Rp L dp h → ∃ h1 x3 x4 x5, run (dd + 2) md_159 11 [vr 145, vi (dp : Int), vi 1, v3, v4, v5] [] h = run (dd + 2) md_159 11 [vr 145, vi ((popD (h_mi h 160) dp : Nat) : Int), vi 0, x3, x4, x5] [] h1 ∧ RG h h1 f n l p' c rs dp (if 2 ≤ L then dp + 1 else dp) ∧ (L ≤ 1 → (jsV f n p' = 12 ∨ jsV f n p' = 13) → h_mi h1 161 dp ≠ 0)
def Cl (f : Nat → Int) (n l L dp p : Nat) : Prop := (∃ q, q ≠ 0 ∧ CX f n l L dp p q ∧ RX f n l L dp p q) ∨ ∃ p' cs rs e, (p < p' ∧ p' ≤ n ∧ cs.length ≤ p' - p ∧ rs.length ≤ p' - p) ∧ (CSem l cs e (4 * (5 - dp) + 1 + (4 - L)) ∧ Sm L rs e (5 - dp) ∧ AlE l e) ∧ Nt L f n p' ∧ CO f n l L dp p p' cs ∧ RO f n l L dp p p' rs
theorem RPa.up {rs : List Int} {e : (Nat → Int) → Int} {d d' : Nat} (s : RPa rs e d) (h : d ≤ d') : RPa rs e d' := ⟨s.1, fun hp N i k x dd v4 v5 w hi hd => s.2 hp N i k x dd v4 v5 w hi (by omega)⟩
theorem cx4 (dp D : Nat) (h : HP) : cx 4 dp D h = ev D 73 [vr 103, vi (dp : Int)] h := if_pos rfl
theorem Sm4 (rs : List Int) (e : (Nat → Int) → Int) (d : Nat) : Sm 4 rs e d = RPa rs e d := rfl
theorem cb4 (dp : Nat) : cb 4 dp = 6 * (5 - dp) + 10 := rfl
section
variable {f : Nat → Int} {n l p dp : Nat}
theorem cl_0 (x : TX f n l) (p1 : p ≤ n) (ns : ¬ stP f n p l) : Cl f n l 4 dp p := by
  refine Or.inl ⟨1 + 16 * ((tB f n p : Nat) : Int), by omega, fun D h s hD c s1 => ?_, fun dd h c v3 v4 v5 r c1 _ => ⟨_, r_st0 r x p1 ns dd dp v3 v4 v5, (RRel.rf h).si (Or.inr (Or.inr ⟨rfl, Or.inl rfl⟩)), by rw [miI_eq, up_eq]⟩⟩
  rw [cb4] at hD
  obtain ⟨d, rfl⟩ : ∃ d, D = d + 2 := ⟨D - 2, by omega⟩
  exact c_st0 c x p1 s1 d dp ns
theorem cl_5 (x : TX f n l) (p1 : p ≤ n) (ns : stP f n p l) : Cl f n l 4 5 p := by
  refine Or.inl ⟨5 + 16 * ((tB f n p : Nat) : Int), by omega, fun D h s hD c s1 => ?_, fun dd h c v3 v4 v5 r c1 _ => ⟨_, r_st5 r x p1 ns dd v3 v4 v5, (RRel.rf h).si (Or.inr (Or.inr ⟨rfl, Or.inl rfl⟩)), by rw [miI_eq, up_eq]⟩⟩
  rw [cb4] at hD
  obtain ⟨d, rfl⟩ : ∃ d, D = d + 2 := ⟨D - 2, by omega⟩
  exact c_st5 c x p1 s1 d ns
theorem Nt4 (p : Nat) : Nt 4 f n p := ⟨fun q => absurd q (by omega), fun q => absurd q (by omega), fun q => absurd q (by omega)⟩
theorem cl_nu (x : TX f n l) (p1 : p ≤ n) (hd : dp < 5) (k : tkK f n p = 2) : Cl f n l 4 dp p := by
  have b := tkN_b p1 k
  have tn := (tk_n (f := f) p1)
  have tn2 := tn.2.2 (by omega)
  refine Or.inr ⟨tkE f n p, [tkN f n p], [100 + tkN f n p], fun _ => tkN f n p, ⟨tn2.1, tn.2.1, by show 1 ≤ _; omega, by show 1 ≤ _; omega⟩, ⟨(CSem.num b.1 b.2).up (by omega) (fun _ _ => rfl), (RPa.num b.1 b.2).up (by omega), fun _ _ _ => rfl⟩, Nt4 _, fun D h s hD c s1 => ?_, fun dd h c v3 v4 v5 r c1 _ => ?_⟩
  · rw [cb4] at hD
    obtain ⟨d, rfl⟩ : ∃ d, D = d + 7 := ⟨D - 7, by omega⟩
    exact c_nu c x p1 s1 d hd k
  · obtain ⟨h1, x3, x4, x5, e, g⟩ := r_at r x p1 c1 dd hd (Or.inl ⟨k, rfl⟩) v3 v4 v5
    exact ⟨h1, x3, x4, x5, e, g.dn (by omega) (by show dp + 1 ≤ 8; omega), fun q => absurd q (by omega)⟩
theorem cl_fa (x : TX f n l) (p1 : p ≤ n) (hd : dp < 5) (k : tkK f n p = 1) (y : 0 ≤ fcI l (tkW f n p)) : Cl f n l 4 dp p := by
  have b := fcI_al x.2.2 y
  have tn := (tk_n (f := f) p1)
  have tn2 := tn.2.2 (by omega)
  have ev1 : (((fcI l (tkW f n p)).toNat : Nat) : Int) = fcI l (tkW f n p) := by omega
  have s1 := CSem.fact (l := l) b.1
  have s2 := RPa.fact (f := (fcI l (tkW f n p)).toNat) (by omega)
  rw [ev1] at s1
  rw [show (((fcI l (tkW f n p)).toNat + 1 : Nat) : Int) = fcI l (tkW f n p) + 1 by omega] at s2
  refine Or.inr ⟨tkE f n p, [-1 - fcI l (tkW f n p)], [fcI l (tkW f n p) + 1], fun F => F (fcI l (tkW f n p)).toNat, ⟨tn2.1, tn.2.1, by show 1 ≤ _; omega, by show 1 ≤ _; omega⟩, ⟨s1.up (by omega) (fun _ _ => rfl), s2.up (by omega), fun F G q => q _ b.1⟩, Nt4 _, fun D h s hD c s1 => ?_, fun dd h c v3 v4 v5 r c1 _ => ?_⟩
  · rw [cb4] at hD
    obtain ⟨d, rfl⟩ : ∃ d, D = d + 7 := ⟨D - 7, by omega⟩
    exact c_fa c x p1 s1 d hd k y
  · obtain ⟨h1, x3, x4, x5, e, g⟩ := r_at r x p1 c1 dd hd (Or.inr ⟨k, y, rfl⟩) v3 v4 v5
    exact ⟨h1, x3, x4, x5, e, g.dn (by omega) (by show dp + 1 ≤ 8; omega), fun q => absurd q (by omega)⟩
theorem i1 (hd : dp < 5) : i_add (dp : Int) 1 = ((dp + 1 : Nat) : Int) := by rw [ia (by omega) (by omega)]; rfl
theorem cl_no (x : TX f n l) (p1 : p ≤ n) (hd : dp < 5) (k : tkK f n p = 1) (y : tkW f n p = 10631) (ih : Cl f n l 4 (dp + 1) (tkE f n p)) : Cl f n l 4 dp p := by
  have tn := (tk_n (f := f) p1)
  have tn2 := tn.2.2 (by omega)
  have x2 := x.2.1
  rcases ih with ⟨q, q0, hc, hr⟩ | ⟨p', cs, rs, e, ⟨l1, l2, l3, l4⟩, ⟨m1, m2, m3⟩, nt, hc, hr⟩
  · refine Or.inl ⟨q, q0, fun D h s hD c s1 => ?_, fun dd h c v3 v4 v5 r c1 _ => ?_⟩
    · rw [cb4] at hD
      obtain ⟨d, rfl⟩ : ∃ d, D = d + 7 := ⟨D - 7, by omega⟩
      obtain ⟨h1, e1, g1⟩ := c_no c x p1 d hd k y
      obtain ⟨h2, e2, g2⟩ := hc (d + 6) h1 s (by rw [cb4]; omega) g1.2.1 (by omega)
      have e2 : ev (d + 6) 73 [vr 103, vi ((dp + 1 : Nat) : Int)] h1 = some (vr 0, h2) := e2
      have g2 := g1.ce g2
      obtain ⟨h3, e3, g3⟩ := g2.lay c.1 (-19) (d + 6)
      refine ⟨h3, ?_, g3⟩
      rw [cx4]
      rw [e1, q_73_154 (w := g1.2.1.1), i1 hd, e2, bV_s, q_73_161 (w := g2.1.cs c.1), e3, bV_s, q_73_167, q_73_181]
    · obtain ⟨h1, x3, x4, x5, e1, g1, m1, m2⟩ := r_on r x p1 c1 dd hd (Or.inr ⟨k, y, rfl, rfl⟩) v3 v4 v5
      obtain ⟨h2, e2, g2, g3⟩ := hr dd h1 (c + 1) x3 x4 x5 g1.2.1 (by omega) ⟨fun q => absurd q (by omega), fun q => absurd q (by omega)⟩
      exact ⟨h2, e1.trans e2, g1.1.tr g2, g3⟩
  · refine Or.inr ⟨p', cs ++ [-19], 30 :: rs, (fun F => if e F = 0 then 1 else 0), ⟨by omega, l2, by rw [List.length_append]; show cs.length + 1 ≤ _; omega, by show rs.length + 1 ≤ _; omega⟩, ⟨(CSem.not m1).up (by omega) (fun _ _ => rfl), by rw [Sm4]; exact (RPa.not (show RPa rs e (5 - (dp + 1)) from m2)).up (by omega), fun F G q => by show (if e F = 0 then (1 : Int) else 0) = if e G = 0 then 1 else 0; rw [m3 F G q]⟩, Nt4 _, fun D h s hD c s1 => ?_, fun dd h c v3 v4 v5 r c1 _ => ?_⟩
    · rw [cb4] at hD
      obtain ⟨d, rfl⟩ : ∃ d, D = d + 7 := ⟨D - 7, by omega⟩
      obtain ⟨h1, e1, g1⟩ := c_no c x p1 d hd k y
      obtain ⟨h2, e2, g2⟩ := hc (d + 6) h1 s (by rw [cb4]; omega) g1.2.1 (by omega)
      have e2 : ev (d + 6) 73 [vr 103, vi ((dp + 1 : Nat) : Int)] h1 = some (vr 0, h2) := e2
      obtain ⟨h3, e3, g3⟩ := c_lay g2.2.1 (by omega) (-19) (d + 6)
      refine ⟨h3, ?_, (g1.tr g2).tr g3⟩
      rw [cx4]
      rw [e1, q_73_154 (w := g1.2.1.1), i1 hd, e2, bV_s, q_73_161 (w := g2.2.1.1), e3, bV_s, q_73_167, q_73_181]
    · obtain ⟨h1, x3, x4, x5, e1, g1, m1, m2⟩ := r_on r x p1 c1 dd hd (Or.inr ⟨k, y, rfl, rfl⟩) v3 v4 v5
      obtain ⟨h2, y3, y4, y5, e2, g2, g3⟩ := hr dd h1 (c + 1) x3 x4 x5 g1.2.1 (by omega) ⟨fun q => absurd q (by omega), fun q => absurd q (by omega)⟩
      have po : popD (h_mi h1 160) (dp + 1) = popD (h_mi h 160) dp := by
        rw [show popD (h_mi h1 160) (dp + 1) = popD (h_mi h1 160) dp from if_pos m1]
        exact popD_cg (fun j hj => g1.2.2.2.1 j hj)
      rw [po] at e2
      exact ⟨h2, y3, y4, y5, e1.trans e2, g1.tr g2 (by omega) (by show dp + 1 ≤ dp + 1 + 1; omega), fun q => absurd q (by omega)⟩
theorem js_e (nt : Nt 0 f n p) : jsV f n p = -1 ∨ (jsV f n p = 12 ∨ jsV f n p = 13) := by
  have a := nt.1 (by omega)
  have b := nt.2.1 (by omega)
  have c := nt.2.2 rfl
  rcases jsV_c f n p with z | z | z | z | z | z | z | z <;> omega
theorem cl_pa (x : TX f n l) (p1 : p ≤ n) (hd : dp < 5) (k : tkK f n p = 3) (y : f (tB f n p) = 40) (ih : Cl f n l 0 (dp + 1) (tkE f n p)) : Cl f n l 4 dp p := by
  have tn := (tk_n (f := f) p1)
  have tn2 := tn.2.2 (by omega)
  have x2 := x.2.1
  have cb0 : cb 0 (dp + 1) = 6 * (5 - (dp + 1)) + 15 := rfl
  have rp : ∀ h1 : HP, h_mi h1 160 (dp + 1) = 2 → h_mi h1 161 (dp + 1) = 0 → Rp 0 (dp + 1) h1 := fun h1 a b => ⟨fun _ => b, fun _ => Or.inr (by omega)⟩
  rcases ih with ⟨q, q0, hc, hr⟩ | ⟨p', cs, rs, e, ⟨l1, l2, l3, l4⟩, ⟨m1, m2, m3⟩, nt, hc, hr⟩
  · refine Or.inl ⟨q, q0, fun D h s hD c s1 => ?_, fun dd h c v3 v4 v5 r c1 _ => ?_⟩
    · rw [cb4] at hD
      obtain ⟨d, rfl⟩ : ∃ d, D = d + 7 := ⟨D - 7, by omega⟩
      obtain ⟨h1, e1, g1⟩ := c_pa c x p1 d hd k y
      obtain ⟨h2, e2, g2⟩ := hc (d + 6) h1 s (by rw [cb0]; omega) g1.2.1 (by omega)
      have e2 : ev (d + 6) 72 [vr 103, vi 0, vi ((dp + 1 : Nat) : Int)] h1 = some (vr 0, h2) := e2
      have g2 := g1.ce g2
      obtain ⟨h3, e3, g3⟩ := g2.go c.1 c.2.1 x (D := d + 6) (by omega)
      refine ⟨h3, ?_, g3⟩
      obtain ⟨u1, ⟨p2, u2, u3⟩, u4, u5⟩ := g2
      have w2 := u1.cs c.1
      rw [cx4]
      have fin : run (d + 6 + 1) md_73 124 [vr 103, vi (dp : Int)] [] h2 = some (vr 0, h3) := by rw [q_73_124 (w := w2), e3, bV_s, q_73_131, q_73_181]
      rw [e1, q_73_92 (w := g1.2.1.1), i1 hd, e2, bV_s, q_73_100 (w := w2), c_90 w2 u3, bI_s, q_73_109 (w := w2), c_84n w2 _ _ _ (by rw [u4]; exact q0), bV_s, fin]
      cases decide (bb (tkK f n p2 = 3 ∧ f (tB f n p2) = 41) ≠ 0) <;> rfl
    · obtain ⟨h1, x3, x4, x5, e1, g1, m1, m2⟩ := r_on r x p1 c1 dd hd (Or.inl ⟨k, y, rfl, rfl⟩) v3 v4 v5
      obtain ⟨h2, e2, g2, g3⟩ := hr dd h1 (c + 1) x3 x4 x5 g1.2.1 (by omega) (rp h1 m1 m2)
      exact ⟨h2, e1.trans e2, g1.1.tr g2, g3⟩
  · have je := js_e nt
    by_cases cl : tkK f n p' = 3 ∧ f (tB f n p') = 41
    · have un := (tk_n (f := f) l2)
      have un2 := un.2.2 (by omega)
      refine Or.inr ⟨tkE f n p', cs, 28 :: (rs ++ [29]), e, ⟨by omega, un.2.1, by omega, by show (rs ++ [29]).length + 1 ≤ _; rw [List.length_append]; show rs.length + 1 + 1 ≤ _; omega⟩, ⟨m1.up (by omega) (fun _ _ => rfl), by rw [Sm4]; exact (RPa.par (show RCh Pr0 Po0 rs e (5 - (dp + 1)) from m2)).up (by omega), m3⟩, Nt4 _, fun D h s hD c s1 => ?_, fun dd h c v3 v4 v5 r c1 _ => ?_⟩
      · rw [cb4] at hD
        obtain ⟨d, rfl⟩ : ∃ d, D = d + 7 := ⟨D - 7, by omega⟩
        obtain ⟨h1, e1, g1⟩ := c_pa c x p1 d hd k y
        obtain ⟨h2, e2, g2⟩ := hc (d + 6) h1 s (by rw [cb0]; omega) g1.2.1 (by omega)
        have e2 : ev (d + 6) 72 [vr 103, vi 0, vi ((dp + 1 : Nat) : Int)] h1 = some (vr 0, h2) := e2
        obtain ⟨h3, e3, g3⟩ := c_go g2.2.1 x l2 (D := d + 6) (by omega)
        refine ⟨h3, ?_, by have := (g1.tr g2).tr g3; rw [List.append_nil] at this; exact this⟩
        rw [cx4]
        rw [e1, q_73_92 (w := g1.2.1.1), i1 hd, e2, bV_s, q_73_100 (w := g2.2.1.1), c_90 g2.2.1.1 g2.2.1.2.2.1, bI_s, q_73_109 (w := g2.2.1.1), bb_nt cl]
        simp only [zb]
        rw [q_73_124 (w := g2.2.1.1), e3, bV_s, q_73_131, q_73_181]
      · obtain ⟨h1, x3, x4, x5, e1, g1, m1, m2⟩ := r_on r x p1 c1 dd hd (Or.inl ⟨k, y, rfl, rfl⟩) v3 v4 v5
        obtain ⟨h2, y3, y4, y5, e2, g2, g3⟩ := hr dd h1 (c + 1) x3 x4 x5 g1.2.1 (by omega) (rp h1 m1 m2)
        rw [popD_id (Or.inr (by omega))] at e2
        obtain ⟨h3, e3, g4⟩ := r_cl (dp := dp) g2.2.1 x l2 (by omega) dd (by omega) y3 y4 y5 (by rcases je with z | z; exact Or.inl z; exact Or.inr ⟨z, g3 (by omega) z⟩) cl
        have po : popD (h_mi h2 160) dp = popD (h_mi h 160) dp := popD_cg (fun j hj => (g2.2.2.2.1 j (by omega)).trans (g1.2.2.2.1 j hj))
        rw [po] at e3
        exact ⟨h3, y3, y4, y5, (e1.trans e2).trans e3, (g1.tr g2 (by omega) (by show dp + 1 ≤ dp + 1; omega)).tr (by rw [List.length_append, ← Nat.add_assoc]; exact g4) (by omega) (by show dp + 1 ≤ 8; omega), fun q => absurd q (by omega)⟩
    · refine Or.inl ⟨1 + 16 * ((tB f n p' : Nat) : Int), by omega, fun D h s hD c s1 => ?_, fun dd h c v3 v4 v5 r c1 _ => ?_⟩
      · rw [cb4] at hD
        obtain ⟨d, rfl⟩ : ∃ d, D = d + 7 := ⟨D - 7, by omega⟩
        obtain ⟨h1, e1, g1⟩ := c_pa c x p1 d hd k y
        obtain ⟨h2, e2, g2⟩ := hc (d + 6) h1 s (by rw [cb0]; omega) g1.2.1 (by omega)
        have e2 : ev (d + 6) 72 [vr 103, vi 0, vi ((dp + 1 : Nat) : Int)] h1 = some (vr 0, h2) := e2
        obtain ⟨h3, e3, g3⟩ := c_fl g2.2.1 x l2 (by omega) (d + 6) (k := 1) (by omega) (by omega)
        have g3 := (g1.tr g2).ce g3
        obtain ⟨h4, e4, g4⟩ := g3.go c.1 c.2.1 x (D := d + 6) (by omega)
        refine ⟨h4, ?_, g4⟩
        rw [cx4]
        rw [e1, q_73_92 (w := g1.2.1.1), i1 hd, e2, bV_s, q_73_100 (w := g2.2.1.1), c_90 g2.2.1.1 g2.2.1.2.2.1, bI_s, q_73_109 (w := g2.2.1.1), bb_nf cl, e3]
        simp only [zb, bV_s]
        rw [q_73_124 (w := g3.1.cs c.1), e4, bV_s, q_73_131, q_73_181]
      · obtain ⟨h1, x3, x4, x5, e1, g1, m1, m2⟩ := r_on r x p1 c1 dd hd (Or.inl ⟨k, y, rfl, rfl⟩) v3 v4 v5
        obtain ⟨h2, y3, y4, y5, e2, g2, g3⟩ := hr dd h1 (c + 1) x3 x4 x5 g1.2.1 (by omega) (rp h1 m1 m2)
        rw [popD_id (Or.inr (by omega))] at e2
        have e3 := r_bd (dp := dp + 1) g2.2.1 x l2 dd (by omega) (by omega) y3 y4 y5 (by rcases je with z | z; exact Or.inl z; exact Or.inr ⟨z, g3 (by omega) z⟩) cl
        exact ⟨_, (e1.trans e2).trans e3, (g1.1.tr g2.1).si (Or.inr (Or.inr ⟨rfl, Or.inl rfl⟩)), by rw [miI_eq, up_eq]⟩
theorem cl_4 (x : TX f n l) (hd : dp ≤ 5) (ihp : dp < 5 → ∀ p, p ≤ n → Cl f n l 4 (dp + 1) p) (ihc : dp < 5 → ∀ p, p ≤ n → Cl f n l 0 (dp + 1) p) (p1 : p ≤ n) : Cl f n l 4 dp p := by
  have tn := (tk_n (f := f) p1).2.1
  by_cases ns : stP f n p l
  · by_cases h5 : dp = 5
    · subst h5; exact cl_5 x p1 ns
    · have hd : dp < 5 := by omega
      rcases ns with z | z | ⟨z, y | y⟩
      · exact cl_nu x p1 hd z
      · exact cl_pa x p1 hd z.1 z.2 (ihc hd _ tn)
      · exact cl_no x p1 hd z y (ihp hd _ tn)
      · exact cl_fa x p1 hd z y
  · exact cl_0 x p1 ns
end
