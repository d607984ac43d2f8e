/-! pairs of calls as the law makes them -/
section
variable {h : HP} {t : Nat} {E : EE} {B : Int} {L : Nat} {xs : Nat → Int}
theorem Lw1.sm {N : MM} (e : N 40 = h_mi h 40) : Lw1 h (sM h N) := ⟨rfl, rfl, e, rfl⟩
theorem nCA (lt : t = 107 ∨ 182 ≤ t) : ¬ CA t 40 := by unfold CA; omega
theorem Lw1.rf (h : HP) : Lw1 h h := ⟨rfl, rfl, rfl, rfl⟩
theorem Lw1.sq {h1 : HP} (f : t = 107 ∨ 182 ≤ t) (s : Sq t h h1) : Lw1 h h1 := by
  obtain ⟨N, y, rfl, g, _⟩ := s
  exact ⟨rfl, rfl, g 40 (by unfold SqA; omega), rfl⟩
theorem ev_i {kc : Nat} {as : List AV} {v v' : AV} {h1 h1' : HP} (e : ev 199 kc as h = some (v, h1)) (e' : ev 199 kc as h = some (v', h1')) : h1' = h1 := by
  rw [e] at e'
  injection e' with e'
  injection e' with _ e'
  exact e'.symm
theorem Pa.b {kc kr : Nat} {ac ar : List AV} {P : HP → Prop} {v : AV} {h1 : HP} (p : Pa h kc kr ac ar P) (e : ev 199 kc (vr 100 :: ac) h = some (v, h1)) (l : Lw1 h h1) : Pb h kc kr ac ar P := by
  obtain ⟨v', h1', h2, a, b, c⟩ := p
  have := ev_i e a
  subst this
  exact ⟨v', h1', h2, a, l, b, c⟩
theorem Pa.bq {kc kr : Nat} {ac ar : List AV} {P : HP → Prop} {v : AV} (f : t = 107 ∨ 182 ≤ t) (p : Pa h kc kr ac ar P) (c : ∃ h1, ev 199 kc (vr 100 :: ac) h = some (v, h1) ∧ Sq t h h1) : Pb h kc kr ac ar P := by
  obtain ⟨h1, e, s⟩ := c
  exact p.b e (Lw1.sq f s)
theorem b_cell (i : Inv h t E B L xs) (x y what : Int) : Pb h 112 194 [vi x, vi y, vi what] [vi x, vi y, vi what] (Nx h B L xs) := (p_cell i x y what).bq i.1.fj.lt (k_cell i.1 195 x y what)
theorem b_pourer (i : Inv h t E B L xs) (p what : Int) : Pb h 113 195 [vi p, vi what] [vi p, vi what] (Nx h B L xs) := (p_pourer i p what).bq i.1.fj.lt (k_pourer i.1 198 p what)
theorem b_load (i : Inv h t E B L xs) (p what : Int) : Pb h 114 198 [vi p, vi what] [vi p, vi what] (Nx h B L xs) := (p_load i p what).bq i.1.fj.lt (k_load i.1 198 p what)
theorem b_thin (i : Inv h t E B L xs) (r : Int) : Pb h 119 211 [vi r] [vi r] (Nx h B L xs) := (p_thin i r).bq i.1.fj.lt (k_thin i.1 197 r)
theorem b_until (i : Inv h t E B L xs) (l r : Int) (hB : B + 1000 ≤ 1000000) : Pb h 120 212 [vi l, vi r] [vi l, vi r] (Nx h B L xs) := (p_until i l r hB).bq i.1.fj.lt (k_until i.1 195 l r (by have := i.2.2.2.2.2.1.2; omega))
theorem b_carried (i : Inv h t E B L xs) (r w : Int) (wr : w < 2147483648) : Pb h 121 216 [vi r, vi w] [vi r, vi w] (Nx h B L xs) := (p_carried i r w wr).bq i.1.fj.lt (k_carried i.1 194 r w wr)
theorem b_built (i : Inv h t E B L xs) (r m w : Int) : Pb h 122 223 [vi r, vi m, vi w] [vi r, vi m, vi w] (Nx h B L xs) := (p_built i r m w).bq i.1.fj.lt (k_built i.1 193 r m w)
theorem b_best (i : Inv h t E B L xs) (m : Int) : Pb h 123 224 [vi m] [vi m] (Nx h B L xs) := (p_best i m).bq i.1.fj.lt (k_best i.1 193 m)
theorem b_half (i : Inv h t E B L xs) (s r : Int) : Pb h 124 226 [vi s, vi r] [vi s, vi r] (Nx h B L xs) := (p_half i s r).bq i.1.fj.lt (k_half i.1 193 s r)
theorem b_rests (i : Inv h t E B L xs) (m w : Int) : Pb h 125 229 [vi m, vi w] [vi m, vi w] (Nx h B L xs) := (p_rests i m w).bq i.1.fj.lt (k_rests i.1 193 m w)
theorem b_guess (i : Inv h t E B L xs) (s u m w : Int) : Pb h 126 234 [vi s, vi u, vi m, vi w] [vi s, vi u, vi m, vi w] (Nx h B L xs) := (p_guess i s u m w).bq i.1.fj.lt (k_guess i.1 193 s u m w)
theorem b_queue (i : Inv h t E B L xs) (r w : Int) (wr : w < 2147483648) : Pb h 127 231 [vi r, vi w] [vi r, vi w] (Nx h B L xs) := (p_queue i r w wr).bq i.1.fj.lt (k_queue i.1 194 r w wr)
theorem b_sound (i : Inv h t E B L xs) (x y : Int) : Pb h 129 236 [vi x, vi y] [vi x, vi y] (Nx h B L xs) := (p_sound i x y).bq i.1.fj.lt (k_sound i.1 195 x y)
theorem b_heard (i : Inv h t E B L xs) (r s w : Int) : Pb h 130 237 [vi r, vi s, vi w] [vi r, vi s, vi w] (Nx h B L xs) := (p_heard i r s w).bq i.1.fj.lt (k_heard i.1 195 r s w)
theorem b_value (i : Inv h t E B L xs) (s : Int) : Pb h 131 239 [vi s] [vi s] (Nx h B L xs) := (p_value i s).bq i.1.fj.lt (k_value i.1 193 s)
theorem b_leaves (i : Inv h t E B L xs) : Pb h 133 241 [] [] (Nx h B L xs) := (p_leaves i).bq i.1.fj.lt (k_leaves i.1 193)
theorem b_fits (i : Inv h t E B L xs) (x y p s w : Int) : Pb h 135 245 [vi x, vi y, vi p, vi s, vi w] [vi x, vi y, vi p, vi s, vi w] (Nx h B L xs) := (p_fits i x y p s w).bq i.1.fj.lt (k_fits i.1 194 x y p s w)
theorem b_salted (i : Inv h t E B L xs) (r p s : Int) : Pb h 136 246 [vi r, vi p, vi s] [vi r, vi p, vi s] (Nx h B L xs) := (p_salted i r p s).bq i.1.fj.lt (k_salted i.1 194 r p s)
theorem b_count (i : Inv h t E B L xs) (w : Int) : Pb h 139 252 [vi w] [vi w] (Nx h B L xs) := (p_count i w).bq i.1.fj.lt (k_count i.1 198 w i.2.2.2.1.1 i.2.2.1.1)
theorem b_feed (i : Inv h t E B L xs) (a b c : Int) : Pb h 110 150 [vl a, vl b, vl c] [vl a, vl b, vl c] (Nx h B L xs) := by
  obtain ⟨tp1, tp2, _⟩ := i.2.2.1
  exact (p_feed i a b c).b (k_feed i.1.cs 198 a b c (by omega) (by omega)) (Lw1.sm (by unfold gM; simp (disch := omega) only [up_ne, u2_ne]))
theorem b_share (i : Inv h t E B L xs) (p x : Int) : Pb h 132 240 [vi p, vi x] [vi p, vi x] (Nx h B L xs) := by
  have kk := k_share i.1 198 p x
  by_cases ok : shareOk (h_mi h) p x
  · exact (p_share i p x).b (kk.1 ok).1 (Lw1.sm (u2_ne _ _ _ (by omega)))
  · exact (p_share i p x).b (kk.2 ok) (Lw1.rf h)
theorem b_stump (i : Inv h t E B L xs) (x y v : Int) : Pb h 134 242 [vi x, vi y, vi v] [vi x, vi y, vi v] (Nx h B L xs) := by
  have kk := k_stump i.1 197 x y v
  by_cases ok : stumpOk (h_mi h) x y v
  · exact (p_stump i x y v).b (kk.1 ok).1 (Lw1.sm (u2_ne _ _ _ (by omega)))
  · exact (p_stump i x y v).b (kk.2 ok) (Lw1.rf h)
theorem b_hours (i : Inv h t E B L xs) (many : Int) (hB : B + 1000 ≤ 1000000) : Pb h 118 210 [vi many] [vi many] (Nx h B L xs) := by
  have lt := i.1.fj.lt
  have kk := k_hours i.1 194 many (by have := i.2.2.2.2.2.1.2; omega)
  by_cases ok : 1 ≤ many ∧ many ≤ 1000
  · obtain ⟨N, e, g, _⟩ := kk.1 ok
    exact (p_hours i many hB).b e (Lw1.sm (by rw [u2_ne _ _ _ (by omega), u2_ne _ _ _ (by omega)]; exact g 40 (by unfold IcA CqA; omega)))
  · exact (p_hours i many hB).b (kk.2 ok) (Lw1.rf h)
theorem b_pour (i : Inv h t E B L xs) (bb : DdB (h_mi h)) (p x y : Int) : Pb h 115 201 [vi p, vi x, vi y] [vi p, vi x, vi y] (Nx h B L xs) := by
  have lt := i.1.fj.lt
  have kk := k_pour i.1 bb 194 p x y
  by_cases ok : pourOk (h_mi h) p x y
  · obtain ⟨N, e, g, _⟩ := kk.1 ok
    exact (p_pour i p x y).b e (Lw1.sm (g 40 (nCA lt)))
  · exact (p_pour i p x y).b (kk.2 ok) (Lw1.rf h)
theorem b_over (i : Inv h t E B L xs) (bb : DdB (h_mi h)) (l r : Int) : Pb h 116 206 [vi l, vi r] [vi l, vi r] (Nx h B L xs) := by
  have lt := i.1.fj.lt
  have kk := k_over i.1 bb i.2.2.2.2.2.1.1.2.2 194 l r
  by_cases ok : tollOk (h_mi h) l r
  · obtain ⟨N, e, g, _⟩ := kk.1 ok
    exact (p_over i l r).b e (Lw1.sm (g 40 (nCA lt)))
  · exact (p_over i l r).b (kk.2 ok) (Lw1.rf h)
theorem b_undo (i : Inv h t E B L xs) : Pb h 117 207 [] [] (Nx h B L xs) := by
  have lt := i.1.fj.lt
  have kk := k_undo i.1 i.2.2.2.1 196
  by_cases ok : h_mi h 145 44 ≠ 0
  · obtain ⟨N, e, g, _⟩ := kk.1 ok
    exact (p_undo i).b e (Lw1.sm (g 40 (nCA lt)))
  · exact (p_undo i).b (kk.2 ok) (Lw1.rf h)
end
