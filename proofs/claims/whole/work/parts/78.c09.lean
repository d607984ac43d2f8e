/-! the class: the yard's answers -/
section
variable {h : HP} {t : Nat} {E : EE} {S : Nat → Int} {K G : Int → Int → Int}
def yT (M : MM) (K G : Int → Int → Int) (m r : Int) : Int := thV (yI M K r) (G r) (M 147 0) m
def yP (M : MM) (K G : Int → Int → Int) (m r : Int) : Int := paV (yI M K r) (G r) (M 147 0) (yT M K G m r)
theorem yT_b (M : MM) (K G : Int → Int → Int) (m r : Int) : 0 ≤ yT M K G m r ∧ yT M K G m r ≤ 99 := thV_b _ _ _ _
theorem l_101 (y : Cy h t E S K G) (d : Nat) (m : Int) : ∀ (n : Nat) (i : Int) (s u : Int × Int × Int) (v6 v7 : AV), (h_mi h 147 1 - i).toNat = n → 0 ≤ i → i ≤ h_mi h 147 1 → ((i = 0 ∧ s = (-1, 0, 0) ∧ u = (0, -1, 0)) ∨ (1 ≤ i ∧ u = s ∧ 0 ≤ s.1)) → 1 ≤ h_mi h 147 1 → run (d + 3) md_101 10 [vr 134, vi m, vi u.1, vi u.2.1, vi u.2.2, vi i, v6, v7] [] h = some (vi (itr (beF (yT (h_mi h) K G m) (yP (h_mi h) K G m)) n i s).1, h)
  | 0, i, s, u, v6, v7, h1, h2, h3, hs, hr => by
    have e : u = s := by
      rcases hs with ⟨z, _⟩ | ⟨_, z, _⟩
      · omega
      · exact z
    rw [q_101_10 (w := y.cs) (f := y.fj) (hy := y.hy), y.1.dr, dt (by omega), e]; rfl
  | n + 1, i, s, u, v6, v7, h1, h2, h3, hs, hr => by
    have rr := y.vm.r
    have tb := yT_b (h_mi h) K G m i
    rw [q_101_10 (w := y.cs) (f := y.fj) (hy := y.hy), y.1.dr, df (by omega), c_100 y d h2 (by omega), show thV (yI (h_mi h) K i) (G i) (h_mi h 147 0) m = yT (h_mi h) K G m i from rfl]
    simp only [cond_false, bI_s]
    rw [q_101_29 (w := y.cs), c_99 y _ h2 (by omega) tb.1 tb.2, bI_s, q_101_39]
    show (bif decide (u.2.1 < yT (h_mi h) K G m i) then _ else bif decide (yT (h_mi h) K G m i ≠ u.2.1) then _ else bif decide (u.2.2 ≤ yP (h_mi h) K G m i) then _ else _) = some (vi (itr (beF (yT (h_mi h) K G m) (yP (h_mi h) K G m)) n (i + 1) (beF (yT (h_mi h) K G m) (yP (h_mi h) K G m) i s)).1, h)
    have take : ∀ v6 v7, beF (yT (h_mi h) K G m) (yP (h_mi h) K G m) i s = (i, yT (h_mi h) K G m i, yP (h_mi h) K G m i) → run (d + 3) md_101 10 [vr 134, vi m, vi i, vi (yT (h_mi h) K G m i), vi (yP (h_mi h) K G m i), vi (i_add i 1), v6, v7] [] h = some (vi (itr (beF (yT (h_mi h) K G m) (yP (h_mi h) K G m)) n (i + 1) (beF (yT (h_mi h) K G m) (yP (h_mi h) K G m) i s)).1, h) := fun v6 v7 e => by
      rw [e, ia (by omega) (by omega)]
      exact l_101 y d m n (i + 1) _ (i, yT (h_mi h) K G m i, yP (h_mi h) K G m i) v6 v7 (by omega) (by omega) (by omega) (Or.inr ⟨by omega, rfl, h2⟩) hr
    have keep : ∀ v6 v7, u = s → 0 ≤ s.1 → beF (yT (h_mi h) K G m) (yP (h_mi h) K G m) i s = s → run (d + 3) md_101 10 [vr 134, vi m, vi u.1, vi u.2.1, vi u.2.2, vi (i_add i 1), v6, v7] [] h = some (vi (itr (beF (yT (h_mi h) K G m) (yP (h_mi h) K G m)) n (i + 1) (beF (yT (h_mi h) K G m) (yP (h_mi h) K G m) i s)).1, h) := fun v6 v7 e1 e2 e => by
      rw [e, ia (by omega) (by omega)]
      exact l_101 y d m n (i + 1) s u v6 v7 (by omega) (by omega) (by omega) (Or.inr ⟨by omega, e1, e2⟩) hr
    rcases hs with ⟨z, z1, z2⟩ | ⟨z, z1, z2⟩
    · have e : beF (yT (h_mi h) K G m) (yP (h_mi h) K G m) i s = (i, yT (h_mi h) K G m i, yP (h_mi h) K G m i) := if_neg (by rw [z1]; intro q; have := q.1; simp at this)
      rw [dt (show u.2.1 < yT (h_mi h) K G m i by rw [z2]; show (-1 : Int) < _; omega)]
      exact take _ _ e
    · subst z1
      by_cases c1 : u.2.1 < yT (h_mi h) K G m i
      · rw [dt c1]
        exact take _ _ (if_neg (by omega))
      · rw [df c1]
        by_cases c2 : yT (h_mi h) K G m i = u.2.1
        · rw [df (by omega)]
          by_cases c3 : u.2.2 ≤ yP (h_mi h) K G m i
          · rw [dt c3]
            exact keep _ _ rfl z2 (if_pos ⟨z2, by omega⟩)
          · rw [df c3]
            exact take _ _ (if_neg (by omega))
        · rw [dt c2]
          exact keep _ _ rfl z2 (if_pos ⟨z2, by omega⟩)
theorem c_101 (y : Cy h t E S K G) (d : Nat) (m : Int) : ev (d + 3) 101 [vr 134, vi m] h = some (vi (beS (yT (h_mi h) K G m) (yP (h_mi h) K G m) (h_mi h 147 1)).1, h) := by
  have rr := y.vm.r
  have := l_101 y d m _ 0 (-1, 0, 0) (0, -1, 0) vu vu rfl (by omega) (by omega) (Or.inl ⟨rfl, rfl, rfl⟩) rr.1
  rw [Int.sub_zero] at this
  rw [v_101, q_101_0]
  exact this
theorem l_103 (y : Cy h t E S K G) (d : Nat) {r lim : Int} (r0 : 0 ≤ r) (r1 : r < h_mi h 147 1) (ln : lim ≤ h_mi h 147 0) (x1 x3 : Int) : ∀ (n : Nat) (i a : Int) (v7 : AV), (lim - i).toNat = n → 0 ≤ i → i ≤ lim → 0 ≤ a → (a ≤ i ∨ (100000 ≤ a ∧ a ≤ i * 100000)) → run (d + 1) md_103 43 [vr 134, vi x1, vi r, vi x3, vi lim, vi a, vi i, v7] [] h = some (vi (min 99 (itr (fun k a => a + ptV (yI (h_mi h) K r k) (G r k) 1) n i a)), h)
  | 0, i, a, v7, h1, h2, h3, a0, a1 => by
    have cc := y.vm.c
    rw [q_103_43, dt (by omega)]
    show _ = some (vi (min 99 a), h)
    by_cases z : 100000 ≤ a
    · rw [dt z, show min 99 a = 99 by omega]; rfl
    · rw [df z, show min 99 a = a by omega]; rfl
  | n + 1, i, a, v7, h1, h2, h3, a0, a1 => by
    have cc := y.vm.c
    have rr := y.vm.r
    obtain ⟨⟨b1, b2⟩, b3, b4⟩ := y.2.2 r i r0 r1 h2 (by omega)
    rw [q_103_43, df (by omega), c_141 _ _ _ _ (by omega) (by omega) (by omega) (by omega)]
    simp only [cond_false, bI_s]
    rw [q_103_56 (w := y.cs), c_97 y _ (by omega) (by omega), bI_s, q_103_64 (w := y.cs), b1]
    show _ = some (vi (min 99 (itr (fun k a => a + ptV (yI (h_mi h) K r k) (G r k) 1) n (i + 1) (a + ptV (yI (h_mi h) K r i) (G r i) 1))), h)
    have go : ∀ a', a' = a + ptV (yI (h_mi h) K r i) (G r i) 1 → 0 ≤ a' → (a' ≤ i + 1 ∨ (100000 ≤ a' ∧ a' ≤ (i + 1) * 100000)) → ∀ v7, run (d + 1) md_103 43 [vr 134, vi x1, vi r, vi x3, vi lim, vi a', vi (i_add i 1), v7] [] h = some (vi (min 99 (itr (fun k a => a + ptV (yI (h_mi h) K r k) (G r k) 1) n (i + 1) (a + ptV (yI (h_mi h) K r i) (G r i) 1))), h) := fun a' e a0' a1' v7 => by
      rw [← e, ia (by omega) (by omega)]
      exact l_103 y d r0 r1 ln x1 x3 n (i + 1) a' v7 (by omega) (by omega) (by omega) a0' a1'
    by_cases z : h_mi h 148 (10 * r + i).toNat = 1
    · have e : ptV (yI (h_mi h) K r i) (G r i) 1 = 0 := by unfold ptV yI; rw [if_pos z, if_pos (by omega)]
      rw [if_pos z, dt (by omega)]
      exact go a (by omega) a0 (by omega) _
    · rw [if_neg z, df (by omega)]
      have eI : yI (h_mi h) K r i = K r i := if_neg z
      by_cases z2 : K r i = 0
      · rw [c_98 y _ r0 r1 h2 (by omega) (by omega) (by omega)]
        simp (disch := omega) only [dt, df, zb, bI_s]
        rw [q_103_86]
        have e : ptV (yI (h_mi h) K r i) (G r i) 1 = pnV (G r i) 1 := by
          unfold ptV pnV; rw [eI, z2, if_neg (show ¬ (1 : Int) ≤ 0 by omega), if_neg (show ¬ (1 : Int) ≤ 0 by omega), Int.sub_zero]
        have pb : pnV (G r i) 1 = 100000 ∨ (0 ≤ pnV (G r i) 1 ∧ pnV (G r i) 1 ≤ 1) := by
          unfold pnV
          rw [if_neg (by omega)]
          by_cases q : G r i = 0
          · rw [if_pos q]; exact Or.inl rfl
          · rw [if_neg q, show 1 + G r i - 1 = G r i by omega, Int.ediv_self q]; exact Or.inr ⟨by omega, by omega⟩
        rw [ia (x := a) (by omega) (by omega)]
        exact go _ (by rw [e]) (by omega) (by omega) _
      · have e : ptV (yI (h_mi h) K r i) (G r i) 1 = 0 := by unfold ptV; rw [eI, if_pos (by omega)]
        rw [dt z2]
        simp (disch := omega) only [dt, df, zb, bI_s]
        exact go a (by omega) a0 (by omega) _
def yH (M : MM) (K G : Int → Int → Int) (side r : Int) : Int := min 99 (hfS (yI M K r) (G r) (M 147 0) side)
theorem c_103 (y : Cy h t E S K G) (d : Nat) {side r : Int} (r0 : 0 ≤ r) (r1 : r < h_mi h 147 1) : ev (d + 1) 103 [vr 134, vi side, vi r] h = some (vi (yH (h_mi h) K G side r), h) := by
  have cc := y.vm.c
  rw [v_103, q_103_0 (w := y.cs) (f := y.fj) (hy := y.hy), y.1.dc, ia (by omega) (by omega), id_ (by omega) (by omega) (by omega) (by omega)]
  unfold yH hfS
  by_cases z : side = 0
  · rw [df (by omega), if_pos z]
    simp only [cond_false]
    rw [l_103 y d r0 r1 (by omega) side _ _ 0 0 _ rfl (by omega) (by omega) (by omega) (by omega), Int.sub_zero]
  · rw [dt z, if_neg z]
    simp only [cond_true]
    rw [l_103 y d r0 r1 (by omega) side _ _ _ 0 _ rfl (by omega) (by omega) (by omega) (by omega)]
theorem yH_b (y : Cy h t E S K G) {side r : Int} (r0 : 0 ≤ r) (r1 : r < h_mi h 147 1) : 0 ≤ yH (h_mi h) K G side r ∧ yH (h_mi h) K G side r ≤ 99 := by
  have cc := y.vm.c
  unfold yH hfS
  have nn : ∀ (k : Nat) (i : Int), 0 ≤ i → i + k ≤ h_mi h 147 0 → 0 ≤ itr (fun k a => a + ptV (yI (h_mi h) K r k) (G r k) 1) k i 0 := fun k i i0 i1 => itr_nn k i 0 (by omega) (fun j j0 j1 => (ptV_b (y.ib r0 r1 j (by omega) (by omega)).1 (y.ib r0 r1 j (by omega) (by omega)).2 (by omega)).1)
  split
  · have := nn ((h_mi h 147 0 + 1) / 2).toNat 0 (by omega) (by omega); omega
  · have := nn (h_mi h 147 0 - (h_mi h 147 0 + 1) / 2).toNat ((h_mi h 147 0 + 1) / 2) (by omega) (by omega); omega
def yW (M : MM) (K G : Int → Int → Int) (side mis r o : Int) : Int := yH M K G side r + mis * ap r o
theorem c_105 (y : Cy h t E S K G) (d : Nat) {side r o mis : Int} (r0 : 0 ≤ r) (r1 : r < h_mi h 147 1) (o0 : 0 ≤ o) (o1 : o < h_mi h 147 1) (m0 : 0 ≤ mis) (m1 : mis ≤ 99) : ev (d + 2) 105 [vr 134, vi side, vi r, vi o, vi mis] h = some (vi (yW (h_mi h) K G side mis r o), h) := by
  have rr := y.vm.r
  have b := yH_b y (side := side) r0 r1
  have ab := ap_b (n := 6) r0 (by omega) o0 (show o < 6 by omega)
  have mb := mulb m0 m1 ab.1 (show ap r o ≤ 6 by omega)
  rw [v_105, q_105_0 (w := y.cs), c_103 y d r0 r1, bI_s, q_105_6, is_ (by omega) (by omega)]
  have e : (if r - o < 0 then i_neg (r - o) else r - o) = ap r o := by
    unfold ap
    by_cases z : r < o
    · rw [if_pos (by omega), if_pos z, in_ (by omega) (by omega)]; omega
    · rw [if_neg (by omega), if_neg z]
  rw [e, im (by omega) (by omega), ia (by omega) (by omega)]
  rfl
theorem yW_b (y : Cy h t E S K G) {side r o mis : Int} (r0 : 0 ≤ r) (r1 : r < h_mi h 147 1) (o0 : 0 ≤ o) (o1 : o < h_mi h 147 1) (m0 : 0 ≤ mis) (m1 : mis ≤ 99) : 0 ≤ yW (h_mi h) K G side mis r o ∧ yW (h_mi h) K G side mis r o ≤ 1000 := by
  have rr := y.vm.r
  have b := yH_b y (side := side) r0 r1
  have ab := ap_b (n := 6) r0 (by omega) o0 (show o < 6 by omega)
  have mb := mulb m0 m1 ab.1 (show ap r o ≤ 6 by omega)
  unfold yW; omega
def yR (M : MM) (K G : Int → Int → Int) (mis w e : Int) : Int := ends (itx (irF (fun r => yW M K G 0 mis r e) (fun r => yW M K G 1 mis r w) (yW M K G 0 mis w e) (yW M K G 1 mis e w)) (M 147 1).toNat 0 ())
theorem l_106 (y : Cy h t E S K G) (d : Nat) {we ea mis : Int} (w0 : 0 ≤ we) (w1 : we < h_mi h 147 1) (e0 : 0 ≤ ea) (e1 : ea < h_mi h 147 1) (m0 : 0 ≤ mis) (m1 : mis ≤ 99) (p q : Int) : ∀ (n : Nat) (i : Int), (h_mi h 147 1 - i).toNat = n → 0 ≤ i → i ≤ h_mi h 147 1 → run (d + 3) md_106 23 [vr 134, vi we, vi ea, vi mis, vi p, vi q, vi i] [] h = some (vi (ends (itx (irF (fun r => yW (h_mi h) K G 0 mis r ea) (fun r => yW (h_mi h) K G 1 mis r we) p q) n i ())), h)
  | 0, i, h1, h2, h3 => by
    rw [q_106_23 (w := y.cs) (f := y.fj) (hy := y.hy), y.1.dr, dt (by omega)]; rfl
  | n + 1, i, h1, h2, h3 => by
    have rr := y.vm.r
    rw [q_106_23 (w := y.cs) (f := y.fj) (hy := y.hy), y.1.dr, df (by omega), c_105 y d h2 (by omega) e0 e1 m0 m1]
    simp only [cond_false, bI_s]
    rw [q_106_44 (w := y.cs)]
    by_cases c1 : yW (h_mi h) K G 0 mis i ea < p
    · rw [dt c1, itx_l (b := 0) (if_pos (Or.inl c1))]; rfl
    · rw [df c1, c_105 y d h2 (by omega) w0 w1 m0 m1]
      simp only [cond_false, bI_s]
      rw [q_106_58]
      by_cases c2 : yW (h_mi h) K G 1 mis i we < q
      · rw [df (by omega), itx_l (b := 0) (if_pos (Or.inr c2))]; rfl
      · rw [dt (by omega), itx_r (a2 := ()) (if_neg (fun z => z.elim c1 c2)), ia (by omega) (by omega)]
        exact l_106 y d w0 w1 e0 e1 m0 m1 p q n (i + 1) (by omega) (by omega) (by omega)
theorem c_106 (y : Cy h t E S K G) (d : Nat) {we ea mis : Int} (w0 : 0 ≤ we) (w1 : we < h_mi h 147 1) (e0 : 0 ≤ ea) (e1 : ea < h_mi h 147 1) (m0 : 0 ≤ mis) (m1 : mis ≤ 99) : ev (d + 3) 106 [vr 134, vi we, vi ea, vi mis] h = some (vi (yR (h_mi h) K G mis we ea), h) := by
  rw [v_106, q_106_0 (w := y.cs), c_105 y d w0 w1 e0 e1 m0 m1, bI_s, q_106_8 (w := y.cs), c_105 y d e0 e1 w0 w1 m0 m1, bI_s, q_106_18, l_106 y d w0 w1 e0 e1 m0 m1 _ _ _ 0 rfl (by omega) (by omega), Int.sub_zero]
  rfl
def yO (M : MM) (K G : Int → Int → Int) (side r set mis : Int) : Int := yH M K G side r + woS M set mis r
theorem bits_ck : ((List.range 7).all fun n => (List.range (2 ^ n)).all fun s => decide (s = 0) || (List.range n).any fun i => decide (bit (s : Int) (i : Int) = 1)) = true := by decide +kernel
theorem bits_ex {s n : Int} (s1 : 1 ≤ s) (n0 : 0 ≤ n) (n6 : n ≤ 6) (s2 : s < 2 ^ n.toNat) : ∃ i : Int, 0 ≤ i ∧ i < n ∧ bit s i = 1 := by
  have h1 := List.all_eq_true.mp bits_ck n.toNat (List.mem_range.mpr (by omega))
  have c : ((2 ^ n.toNat : Nat) : Int) = (2 : Int) ^ n.toNat := by rw [Int.natCast_pow]; rfl
  have h2 := List.all_eq_true.mp h1 s.toNat (List.mem_range.mpr (by omega))
  rw [df (show ¬ s.toNat = 0 by omega), Bool.false_or] at h2
  obtain ⟨i, hi, hb⟩ := List.any_eq_true.mp h2
  have hi := List.mem_range.mp hi
  have hb := of_decide_eq_true hb
  rw [show ((s.toNat : Nat) : Int) = s by omega] at hb
  exact ⟨i, by omega, by omega, hb⟩
def exB (set i n : Int) : Prop := ∃ j, i ≤ j ∧ j < n ∧ bit set j = 1
theorem l_107 (y : Cy h t E S K G) (d : Nat) {side r set mis : Int} (r0 : 0 ≤ r) (r1 : r < h_mi h 147 1) (s0 : 0 ≤ set) (s1 : set < 128) (m0 : 0 ≤ mis) (m1 : mis ≤ 99) : ∀ (n : Nat) (i a b : Int), (h_mi h 147 1 - i).toNat = n → 0 ≤ i → i ≤ h_mi h 147 1 → ((a = 0 ∧ b = 0 ∧ exB set i (h_mi h 147 1)) ∨ (a = yH (h_mi h) K G side r + b ∧ 0 ≤ b)) → run (d + 3) md_107 6 [vr 134, vi side, vi r, vi set, vi mis, vi a, vi i] [] h = some (vi (yH (h_mi h) K G side r + itr (woF set mis r) n i b), h)
  | 0, i, a, b, h1, h2, h3, hab => by
    rw [q_107_6 (w := y.cs) (f := y.fj) (hy := y.hy), y.1.dr, dt (by omega)]
    rcases hab with ⟨_, _, j, j0, j1, _⟩ | ⟨e, _⟩
    · omega
    · rw [e]; rfl
  | n + 1, i, a, b, h1, h2, h3, hab => by
    have rr := y.vm.r
    have hb := yH_b y (side := side) r0 r1
    have ab := ap_b (n := 6) r0 (by omega) h2 (show i < 6 by omega)
    have mb := mulb m0 m1 ab.1 (show ap r i ≤ 6 by omega)
    rw [q_107_6 (w := y.cs) (f := y.fj) (hy := y.hy), y.1.dr, df (by omega), bitI s0 s1 h2 (by omega)]
    show _ = some (vi (yH (h_mi h) K G side r + itr (woF set mis r) n (i + 1) (woF set mis r i b)), h)
    rcases bit01 set i with z | z
    · have e : woF set mis r i b = b := if_neg (by omega)
      rw [dt z, e, ia (by omega) (by omega)]
      refine l_107 y d r0 r1 s0 s1 m0 m1 n (i + 1) a b (by omega) (by omega) (by omega) ?_
      rcases hab with ⟨x1, x2, j, j0, j1, j2⟩ | q
      · refine Or.inl ⟨x1, x2, j, ?_, j1, j2⟩
        have : j ≠ i := fun q => by rw [q] at j2; omega
        omega
      · exact Or.inr q
    · have e : woF set mis r i b = max b (mis * ap r i) := if_pos z
      rw [df (by omega), e, c_105 y d r0 r1 h2 (by omega) m0 m1]
      simp only [cond_false, bI_s]
      rw [q_107_39, ia (by omega) (by omega)]
      refine l_107 y d r0 r1 s0 s1 m0 m1 n (i + 1) _ _ (by omega) (by omega) (by omega) (Or.inr ?_)
      unfold yW
      rcases hab with ⟨x1, x2, _⟩ | ⟨q1, q2⟩
      · rw [x1, x2]; omega
      · rw [q1]; omega
theorem c_107 (y : Cy h t E S K G) (d : Nat) {side r set mis : Int} (r0 : 0 ≤ r) (r1 : r < h_mi h 147 1) (s0 : 1 ≤ set) (s1 : set < 2 ^ (h_mi h 147 1).toNat) (m0 : 0 ≤ mis) (m1 : mis ≤ 99) : ev (d + 3) 107 [vr 134, vi side, vi r, vi set, vi mis] h = some (vi (yO (h_mi h) K G side r set mis), h) := by
  have rr := y.vm.r
  have pb := p2_6 (i := h_mi h 147 1) (by omega) (by omega)
  obtain ⟨i, i0, i1, i2⟩ := bits_ex s0 (by omega) rr.2 s1
  rw [v_107, q_107_0, l_107 y d r0 r1 (by omega) (by omega) m0 m1 _ 0 0 0 rfl (by omega) (by omega) (Or.inl ⟨rfl, rfl, i, i0, i1, i2⟩), Int.sub_zero]
  rfl
def yU (M : MM) (K G : Int → Int → Int) (side set mis : Int) : Int := itr (fun r b => if yO M K G side r set mis < yO M K G side b set mis then r else b) (M 147 1 - 1).toNat 1 0
theorem l_108 (y : Cy h t E S K G) (d : Nat) {side set mis : Int} (s0 : 1 ≤ set) (s1 : set < 2 ^ (h_mi h 147 1).toNat) (m0 : 0 ≤ mis) (m1 : mis ≤ 99) : ∀ (n : Nat) (i b : Int), (h_mi h 147 1 - i).toNat = n → 0 ≤ i → i ≤ h_mi h 147 1 → 0 ≤ b → b < h_mi h 147 1 → run (d + 4) md_108 6 [vr 134, vi side, vi set, vi mis, vi b, vi i] [] h = some (vi (itr (fun r b => if yO (h_mi h) K G side r set mis < yO (h_mi h) K G side b set mis then r else b) n i b), h) ∧ 0 ≤ itr (fun r b => if yO (h_mi h) K G side r set mis < yO (h_mi h) K G side b set mis then r else b) n i b ∧ itr (fun r b => if yO (h_mi h) K G side r set mis < yO (h_mi h) K G side b set mis then r else b) n i b < h_mi h 147 1
  | 0, i, b, h1, h2, h3, b0, b1 => by
    rw [q_108_6 (w := y.cs) (f := y.fj) (hy := y.hy), y.1.dr, dt (by omega)]
    exact ⟨rfl, b0, b1⟩
  | n + 1, i, b, h1, h2, h3, b0, b1 => by
    have rr := y.vm.r
    rw [q_108_6 (w := y.cs) (f := y.fj) (hy := y.hy), y.1.dr, df (by omega), c_107 y d h2 (by omega) s0 s1 m0 m1]
    simp only [cond_false, bI_s]
    rw [q_108_27 (w := y.cs), c_107 y d b0 b1 s0 s1 m0 m1, bI_s, q_108_36]
    show _ = some (vi (itr (fun r b => if yO (h_mi h) K G side r set mis < yO (h_mi h) K G side b set mis then r else b) n (i + 1) (if yO (h_mi h) K G side i set mis < yO (h_mi h) K G side b set mis then i else b)), h) ∧ 0 ≤ itr (fun r b => if yO (h_mi h) K G side r set mis < yO (h_mi h) K G side b set mis then r else b) n (i + 1) (if yO (h_mi h) K G side i set mis < yO (h_mi h) K G side b set mis then i else b) ∧ itr (fun r b => if yO (h_mi h) K G side r set mis < yO (h_mi h) K G side b set mis then r else b) n (i + 1) (if yO (h_mi h) K G side i set mis < yO (h_mi h) K G side b set mis then i else b) < h_mi h 147 1
    by_cases z : yO (h_mi h) K G side i set mis < yO (h_mi h) K G side b set mis
    · rw [if_pos z, df (by omega), ia (by omega) (by omega)]
      exact l_108 y d s0 s1 m0 m1 n (i + 1) i (by omega) (by omega) (by omega) h2 (by omega)
    · rw [if_neg z, dt (by omega), ia (by omega) (by omega)]
      exact l_108 y d s0 s1 m0 m1 n (i + 1) b (by omega) (by omega) (by omega) b0 b1
theorem c_108 (y : Cy h t E S K G) (d : Nat) {side set mis : Int} (s0 : 1 ≤ set) (s1 : set < 2 ^ (h_mi h 147 1).toNat) (m0 : 0 ≤ mis) (m1 : mis ≤ 99) : ev (d + 4) 108 [vr 134, vi side, vi set, vi mis] h = some (vi (yU (h_mi h) K G side set mis), h) ∧ 0 ≤ yU (h_mi h) K G side set mis ∧ yU (h_mi h) K G side set mis < h_mi h 147 1 := by
  have rr := y.vm.r
  have := l_108 y d (side := side) s0 s1 m0 m1 _ 1 0 rfl (by omega) (by omega) (by omega) (by omega)
  rw [v_108, q_108_0]
  exact this
theorem l_104 (y : Cy h t E S K G) (d : Nat) {r we : Int} (r0 : 0 ≤ r) (r1 : r < h_mi h 147 1) (w0 : 0 ≤ we) (w1 : we ≤ 3) : ∀ (n : Nat) (i a : Int) (v5 : AV), (h_mi h 147 0 - i).toNat = n → 0 ≤ i → i ≤ h_mi h 147 0 → 0 ≤ a → a ≤ i * 100000 → run (d + 1) md_104 5 [vr 134, vi r, vi we, vi a, vi i, v5] [] h = some (vi (if itr (fun k a => a + pnV (G r k) (min we (K r k))) n i a < 100000 then itr (fun k a => a + pnV (G r k) (min we (K r k))) n i a else 99), h)
  | 0, i, a, v5, h1, h2, h3, a0, a1 => by
    rw [q_104_5 (w := y.cs) (f := y.fj) (hy := y.hy), y.1.dc, dt (by omega)]
    show _ = some (vi (if a < 100000 then a else 99), h)
    by_cases z : 100000 ≤ a
    · rw [dt z, if_neg (by omega)]; rfl
    · rw [df z, if_pos (by omega)]; rfl
  | n + 1, i, a, v5, h1, h2, h3, a0, a1 => by
    have cc := y.vm.c
    have rr := y.vm.r
    obtain ⟨⟨b1, b2⟩, b3, b4⟩ := y.2.2 r i r0 r1 h2 (by omega)
    have pb : 0 ≤ pnV (G r i) (min we (K r i)) ∧ pnV (G r i) (min we (K r i)) ≤ 100000 := by
      have := tlV_b (x := min we (K r i)) (g := G r i) (by omega) (by omega) b4.1
      have e : pnV (G r i) (min we (K r i)) = tlV (min we (K r i)) (G r i) := by
        unfold pnV tlV
        by_cases z : min we (K r i) = 0
        · rw [if_pos (by omega), if_pos z]
        · rw [if_neg (by omega), if_neg z]
      rw [e]; exact this
    rw [q_104_5 (w := y.cs) (f := y.fj) (hy := y.hy), y.1.dc, df (by omega), c_141 _ _ _ _ (by omega) (by omega) (by omega) (by omega)]
    simp only [cond_false, bI_s]
    rw [q_104_23 (w := y.cs), b1, c_98 y _ r0 r1 h2 (by omega) (by omega) (by omega)]
    simp (disch := omega) only [dt, df, zb, bI_s]
    rw [q_104_43, ia (by omega) (by omega), ia (by omega) (by omega)]
    exact l_104 y d r0 r1 w0 w1 n (i + 1) _ _ (by omega) (by omega) (by omega) (by omega) (by omega)
theorem c_104 (y : Cy h t E S K G) (d : Nat) {r we : Int} (r0 : 0 ≤ r) (r1 : r < h_mi h 147 1) (w0 : 0 ≤ we) (w1 : we ≤ 3) : ev (d + 1) 104 [vr 134, vi r, vi we] h = some (vi (if sm (fun k => pnV (G r k) (min we (K r k))) (h_mi h 147 0) < 100000 then sm (fun k => pnV (G r k) (min we (K r k))) (h_mi h 147 0) else 99), h) := by
  have cc := y.vm.c
  rw [v_104, q_104_0, l_104 y d r0 r1 w0 w1 _ 0 0 _ rfl (by omega) (by omega) (by omega) (by omega), Int.sub_zero]
  rfl
end
