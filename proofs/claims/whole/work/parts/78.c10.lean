/-! the class: what is built, where two meet -/
section
variable {h : HP} {t : Nat} {E : EE} {S : Nat → Int} {K G : Int → Int → Int}
theorem yI_rr {M N : MM} (h8 : N 148 = M 148) (K : Int → Int → Int) : yI N K = yI M K := by funext r j; unfold yI; rw [h8]
theorem yT_rr {M N : MM} (h8 : N 148 = M 148) (h7 : N 147 = M 147) (K G : Int → Int → Int) : yT N K G = yT M K G := by funext m r; unfold yT; rw [yI_rr h8, h7]
theorem yP_rr {M N : MM} (h8 : N 148 = M 148) (h7 : N 147 = M 147) (K G : Int → Int → Int) : yP N K G = yP M K G := by funext m r; unfold yP; rw [yT_rr h8 h7, yI_rr h8, h7]
theorem yH_rr {M N : MM} (h8 : N 148 = M 148) (h7 : N 147 = M 147) (K G : Int → Int → Int) : yH N K G = yH M K G := by funext m r; unfold yH; rw [yI_rr h8, h7]
theorem yW_rr {M N : MM} (h8 : N 148 = M 148) (h7 : N 147 = M 147) (K G : Int → Int → Int) : yW N K G = yW M K G := by funext a b c d; unfold yW; rw [yH_rr h8 h7]
theorem yR_rr {M N : MM} (h8 : N 148 = M 148) (h7 : N 147 = M 147) (K G : Int → Int → Int) : yR N K G = yR M K G := by funext a b c; unfold yR; rw [yW_rr h8 h7, h7]
theorem yO_rr {M N : MM} (h8 : N 148 = M 148) (h7 : N 147 = M 147) (K G : Int → Int → Int) : yO N K G = yO M K G := by funext a b c d; unfold yO woS; rw [yH_rr h8 h7, h7]
theorem yU_rr {M N : MM} (h8 : N 148 = M 148) (h7 : N 147 = M 147) (K G : Int → Int → Int) : yU N K G = yU M K G := by funext a b c; unfold yU; rw [yO_rr h8 h7, h7]
/-- measured: what the yard answers then -/
theorem measured (k : Cu h t E) (d : Nat) : ∃ h1, ev (d + 5) 94 [vr 134, vr 106] h = some (vr 0, h1) ∧ Sq t h h1 ∧ Cy h1 t E (h_mi h 172) (ydK (h_mi h)) (nwG (h_mi h) E) ∧ Cu h1 t E ∧ h_mi h1 147 = h_mi h 147 ∧ h_mi h1 148 = h_mi h 148 ∧ h_mi h1 154 = h_mi h 154 := by
  obtain ⟨N, e, g, y⟩ := c_94 k d
  refine ⟨_, e, Sq.ofy g t, y, ?_, k.rr g _ (by omega) (by omega), k.rr g _ (by omega) (by omega), k.rr g _ (by omega) (by omega)⟩
  have e2 : h_mi (sM (sR h 134 2 t) N) 172 = h_mi h 172 := k.rr g _ (by omega) (by omega)
  unfold Cu
  rw [e2]
  exact y.1
theorem k_built (k : Cu h t E) (d : Nat) (row m what : Int) : ∃ h1, ev (d + 6) 122 [vr 100, vi row, vi m, vi what] h = some (vi (builtV (h_mi h) E row m what), h1) ∧ Sq t h h1 := by
  rw [v_122, q_122_0 (w := k.cs) (f := k.fj) (ht := k.ht), c_22 _ _ k.fj k.dr, bI_s, q_122_11 (w := k.cs)]
  unfold builtV
  by_cases c1 : 0 ≤ row ∧ row < h_mi h 147 1
  · rw [bb_dt c1]
    by_cases c2 : m < 0
    · rw [dt c2, if_neg (by omega)]
      exact ⟨h, rfl, Sq.rf t h⟩
    · rw [df c2]
      by_cases c3 : m ≤ 999
      · obtain ⟨h1, e, sq, y, _, h7, h8, _⟩ := measured k d
        have r1 : row < h_mi h1 147 1 := by rw [h7]; exact c1.2
        have eT : thV (yI (h_mi h1) (ydK (h_mi h)) row) (nwG (h_mi h) E row) (h_mi h1 147 0) m = rT (h_mi h) E m row := by rw [yI_rr h8, h7]; rfl
        have tb := thV_b (yI (h_mi h1) (ydK (h_mi h)) row) (nwG (h_mi h) E row) (h_mi h1 147 0) m
        have eP : paV (yI (h_mi h1) (ydK (h_mi h)) row) (nwG (h_mi h) E row) (h_mi h1 147 0) (rT (h_mi h) E m row) = rP (h_mi h) E m row := by rw [yI_rr h8, h7]; rfl
        have c100 := c_100 y (d + 3) (m := m) c1.1 r1
        rw [eT] at c100 tb
        rw [dt c3, e]
        simp only [cond_true, cond_false, bV_s]
        refine ⟨h1, ?_, sq⟩
        rw [q_122_38 (w := y.cs), c100, bI_s, q_122_47 (w := y.cs)]
        by_cases w0 : what = 0
        · rw [dt w0, if_pos ⟨c1, by omega, by omega⟩, if_pos w0]; rfl
        · rw [df w0]
          by_cases w1 : what = 1
          · rw [dt w1, if_pos ⟨c1, by omega, by omega⟩, if_neg w0, c_99 y _ c1.1 r1 tb.1 tb.2, eP]
            simp only [cond_true, cond_false, bI_s]
            rw [q_122_89]
          · rw [df w1, if_neg (by omega)]; rfl
      · rw [df c3, if_neg (by omega)]
        exact ⟨h, rfl, Sq.rf t h⟩
  · rw [bb_df c1, if_neg (fun z => c1 z.1)]
    exact ⟨h, rfl, Sq.rf t h⟩
theorem k_best (k : Cu h t E) (d : Nat) (m : Int) : ∃ h1, ev (d + 6) 123 [vr 100, vi m] h = some (vi (bestV (h_mi h) E m), h1) ∧ Sq t h h1 := by
  rw [v_123, q_123_0 (w := k.cs)]
  unfold bestV
  by_cases c2 : m < 0
  · rw [dt c2, if_neg (by omega)]
    exact ⟨h, rfl, Sq.rf t h⟩
  · rw [df c2]
    by_cases c3 : m ≤ 999
    · obtain ⟨h1, e, sq, y, _, h7, h8, _⟩ := measured k d
      rw [dt c3, if_pos (by omega), e]
      simp only [cond_true, cond_false, bV_s]
      refine ⟨h1, ?_, sq⟩
      rw [q_123_24 (w := y.cs), c_101 y (d + 2), bI_s, q_123_32, yT_rr h8 h7, yP_rr h8 h7, h7]
      rfl
    · rw [df c3, if_neg (by omega)]
      exact ⟨h, rfl, Sq.rf t h⟩
theorem c_142 (d : Nat) (x : Int) (h : HP) : ev d 142 [vi x] h = some (vi (bb (0 ≤ x ∧ x ≤ 1)), h) := by
  rw [v_142, q_142_0]
  by_cases h1 : x = 0
  · rw [dt h1, bb_t (by omega)]; rfl
  · rw [df h1]
    by_cases h2 : x = 1
    · rw [df (by omega), bb_t (by omega)]; rfl
    · rw [dt h2, bb_f (by omega)]; rfl
theorem c_143 (d : Nat) (x : Int) (h : HP) : ev d 143 [vi x] h = some (vi (bb (0 ≤ x ∧ x ≤ 99)), h) := by
  rw [v_143, q_143_0]
  by_cases h1 : x < 0
  · rw [dt h1, bb_f (by omega)]; rfl
  · rw [df h1]
    by_cases h2 : 99 < x
    · rw [dt h2, bb_f (by omega)]; rfl
    · rw [df h2, bb_t (by omega)]; rfl
theorem k_half (k : Cu h t E) (d : Nat) (side row : Int) : ∃ h1, ev (d + 6) 124 [vr 100, vi side, vi row] h = some (vi (halfV (h_mi h) E side row), h1) ∧ Sq t h h1 := by
  rw [v_124, q_124_0, c_142, bI_s, q_124_4 (w := k.cs) (f := k.fj) (ht := k.ht)]
  unfold halfV
  by_cases c1 : 0 ≤ side ∧ side ≤ 1
  · rw [bb_dt c1, c_22 _ _ k.fj k.dr]
    simp only [cond_false, bI_s]
    rw [q_124_18 (w := k.cs)]
    by_cases c2 : 0 ≤ row ∧ row < h_mi h 147 1
    · obtain ⟨h1, e, sq, y, _, h7, h8, _⟩ := measured k d
      rw [bb_nt c2, if_pos ⟨c1, c2⟩, e]
      simp only [cond_true, bV_s]
      refine ⟨h1, ?_, sq⟩
      rw [q_124_34 (w := y.cs), c_103 y (d + 4) c2.1 (by rw [h7]; exact c2.2), bI_s, q_124_43, yH_rr h8 h7]
      rfl
    · rw [bb_nf c2, if_neg (fun z => c2 z.2)]
      exact ⟨h, rfl, Sq.rf t h⟩
  · rw [bb_df c1, if_neg (fun z => c1 z.1)]
    exact ⟨h, rfl, Sq.rf t h⟩
theorem l_125b (y : Cy h t E S K G) (d : Nat) {mis what we : Int} (m0 : 0 ≤ mis) (m1 : mis ≤ 99) (w0 : 0 ≤ we) (w1 : we < h_mi h 147 1) : ∀ (n : Nat) (i c : Int), (h_mi h 147 1 - i).toNat = n → 0 ≤ i → i ≤ h_mi h 147 1 → 0 ≤ c → c ≤ 6 * we + i → run (d + 4) md_125 48 [vr 100, vi mis, vi what, vi c, vi we, vi i] [] h = cs (itx (rsE (yR (h_mi h) K G mis) what we) n i c) (fun x => some (vi x, h)) (fun c' => run (d + 4) md_125 30 [vr 100, vi mis, vi what, vi c', vi (we + 1), vi (h_mi h 147 1)] [] h)
  | 0, i, c, h1, h2, h3, c0, c1 => by
    have rr := y.vm.r
    have ei : i = h_mi h 147 1 := by omega
    rw [q_125_48 (w := y.cs) (f := y.fj) (ht := y.ht), y.1.dr, dt (by omega), ia (by omega) (by omega), ei]; rfl
  | n + 1, i, c, h1, h2, h3, c0, c1 => by
    have rr := y.vm.r
    rw [q_125_48 (w := y.cs) (f := y.fj) (ht := y.ht), y.1.dr, df (by omega), c_106 y d w0 w1 h2 (by omega) m0 m1]
    simp only [cond_false, bI_s]
    rw [q_125_75]
    by_cases z : yR (h_mi h) K G mis we i = 0
    · rw [df (by omega), itx_r (a2 := c) (if_pos z), ia (x := i) (by omega) (by omega)]
      simp only [cond_false]
      exact l_125b y d m0 m1 w0 w1 n (i + 1) c (by omega) (by omega) (by omega) c0 (by omega)
    · rw [dt z]
      by_cases z2 : c = what
      · rw [df (by omega), itx_l (b := 8 * we + i) (by unfold rsE; rw [if_neg z, if_pos z2]), im (by omega) (by omega), ia (x := 8 * we) (by omega) (by omega)]; rfl
      · rw [dt z2, itx_r (a2 := c + 1) (by unfold rsE; rw [if_neg z, if_neg z2]), ia (x := c) (by omega) (by omega), ia (x := i) (by omega) (by omega)]
        simp only [cond_true]
        exact l_125b y d m0 m1 w0 w1 n (i + 1) (c + 1) (by omega) (by omega) (by omega) (by omega) (by omega)
theorem l_125 (y : Cy h t E S K G) (d : Nat) {mis what : Int} (m0 : 0 ≤ mis) (m1 : mis ≤ 99) : ∀ (n : Nat) (i c : Int) (v5 : AV), (h_mi h 147 1 - i).toNat = n → 0 ≤ i → i ≤ h_mi h 147 1 → 0 ≤ c → c ≤ 6 * i → run (d + 4) md_125 30 [vr 100, vi mis, vi what, vi c, vi i, v5] [] h = some (vi (cs (itx (fun w n => itx (rsE (yR (h_mi h) K G mis) what w) (h_mi h 147 1).toNat 0 n) n i c) (fun x => x) (fun n' => if what = -1 then n' else -1)), h)
  | 0, i, c, v5, h1, h2, h3, c0, c1 => by
    rw [q_125_30 (w := y.cs) (f := y.fj) (ht := y.ht), y.1.dr, dt (by omega)]
    show _ = some (vi (if what = -1 then c else -1), h)
    by_cases z : what = -1
    · rw [df (by omega), if_pos z]; rfl
    · rw [dt z, if_neg z]; rfl
  | n + 1, i, c, v5, h1, h2, h3, c0, c1 => by
    have rr := y.vm.r
    rw [q_125_30 (w := y.cs) (f := y.fj) (ht := y.ht), y.1.dr, df (by omega)]
    simp only [cond_false]
    rw [l_125b y d m0 m1 h2 (by omega) _ 0 c rfl (by omega) (by omega) c0 (by omega), Int.sub_zero]
    cases hx : itx (rsE (yR (h_mi h) K G mis) what i) (h_mi h 147 1).toNat 0 c with
    | inl x => rw [itx_l (f := fun w n => itx (rsE (yR (h_mi h) K G mis) what w) (h_mi h 147 1).toNat 0 n) (b := x) hx]; rfl
    | inr c' =>
      have cb := itx_b (fun a b c hh => rsE_b (yR (h_mi h) K G mis) what i a b c hh) _ _ _ _ hx
      rw [itx_r (f := fun w n => itx (rsE (yR (h_mi h) K G mis) what w) (h_mi h 147 1).toNat 0 n) (a2 := c') hx, cs_r]
      exact l_125 y d m0 m1 n (i + 1) c' _ (by omega) (by omega) (by omega) (by omega) (by omega)
theorem k_rests (k : Cu h t E) (d : Nat) (mis what : Int) : ∃ h1, ev (d + 6) 125 [vr 100, vi mis, vi what] h = some (vi (restsV (h_mi h) E mis what), h1) ∧ Sq t h h1 := by
  have rr := k.vm.r
  rw [v_125, q_125_0, c_143, bI_s, q_125_4 (w := k.cs)]
  unfold restsV
  by_cases c1 : 0 ≤ mis ∧ mis ≤ 99
  · rw [bb_dt c1]
    by_cases c2 : -1 ≤ what
    · obtain ⟨h1, e, sq, y, _, h7, h8, _⟩ := measured k d
      rw [dt c2, if_pos ⟨c1, c2⟩, e]
      simp only [cond_true, cond_false, bV_s]
      refine ⟨h1, ?_, sq⟩
      rw [q_125_25, l_125 y (d + 2) c1.1 c1.2 _ 0 0 _ rfl (by omega) (by rw [h7]; omega) (by omega) (by omega), Int.sub_zero, yR_rr h8 h7, h7]
      rfl
    · rw [df c2, if_neg (fun z => c2 z.2)]
      exact ⟨h, rfl, Sq.rf t h⟩
  · rw [bb_df c1, if_neg (fun z => c1 z.1)]
    exact ⟨h, rfl, Sq.rf t h⟩
theorem k_guess (k : Cu h t E) (d : Nat) (side set mis what : Int) : ∃ h1, ev (d + 6) 126 [vr 100, vi side, vi set, vi mis, vi what] h = some (vi (guessV (h_mi h) E side set mis what), h1) ∧ Sq t h h1 := by
  have rr := k.vm.r
  have st : ∀ b : Int, run (d + 6) md_126 32 [vr 100, vi side, vi set, vi mis, vi what, vi b, vu] [vi (bb (0 ≤ side ∧ side ≤ 1))] h = bif decide (bb (0 ≤ side ∧ side ≤ 1) = 0) then some (vi (-1), h) else bif decide (b = 0) then some (vi (-1), h) else bI (ev (d + 5) 143 [vi mis] h) fun r1 h1 => run (d + 6) md_126 44 [vr 100, vi side, vi set, vi mis, vi what, vi b, vu] [vi r1] h1 := fun b => q_126_32 _ _ _ _ _ _ _ _
  rw [v_126, q_126_0 (w := k.cs) (f := k.fj) (ht := k.ht), k.dr, shlI (by omega) (by omega), c_142]
  simp only [bI_s]
  unfold guessV
  by_cases c1 : 0 ≤ side ∧ side ≤ 1
  · by_cases c2 : 1 ≤ set ∧ set < 2 ^ (h_mi h 147 1).toNat
    · rw [df (by omega), df (by omega)]
      simp only [cond_false]
      rw [st, bb_dt c1, df (by omega), c_143]
      simp only [cond_false, bI_s]
      rw [q_126_44 (w := k.cs)]
      by_cases c3 : 0 ≤ mis ∧ mis ≤ 99
      · obtain ⟨h1, e, sq, y, _, h7, h8, _⟩ := measured k d
        have s2 : set < 2 ^ (h_mi h1 147 1).toNat := by rw [h7]; exact c2.2
        obtain ⟨e8, u0, u1⟩ := c_108 y (d + 1) (side := side) c2.1 s2 c3.1 c3.2
        have e7 := c_107 y (d + 2) (side := side) u0 u1 c2.1 s2 c3.1 c3.2
        rw [yU_rr h8 h7] at e8 e7
        rw [yO_rr h8 h7] at e7
        rw [bb_nt c3, e]
        simp only [cond_true, bV_s]
        refine ⟨h1, ?_, sq⟩
        rw [q_126_60 (w := y.cs), e8, bI_s, q_126_70 (w := y.cs)]
        by_cases w0 : what = 0
        · rw [dt w0, if_pos ⟨c1, c2, c3, by omega⟩, if_pos w0]; rfl
        · rw [df w0]
          by_cases w1 : what = 1
          · rw [dt w1, if_pos ⟨c1, c2, c3, by omega⟩, if_neg w0, e7]
            simp only [cond_true, cond_false, bI_s]
            rw [q_126_115]; rfl
          · rw [df w1, if_neg (by omega)]; rfl
      · rw [bb_nf c3, if_neg (fun z => c3 z.2.2.1)]
        exact ⟨h, rfl, Sq.rf t h⟩
    · refine ⟨h, ?_, Sq.rf t h⟩
      rw [if_neg (fun z => c2 z.2.1), st, st]
      by_cases z : set < 1
      · rw [dt z, bb_dt c1]; rfl
      · rw [df z, dt (show (2 : Int) ^ (h_mi h 147 1).toNat ≤ set by omega), bb_dt c1]; rfl
  · refine ⟨h, ?_, Sq.rf t h⟩
    rw [if_neg (fun z => c1 z.1), st, st, bb_df c1]
    by_cases z : set < 1
    · rw [dt z]; rfl
    · rw [df z]
      by_cases z2 : (2 : Int) ^ (h_mi h 147 1).toNat ≤ set
      · rw [dt z2]; rfl
      · rw [df z2]; rfl
theorem k_toll (k : Cu h t E) (d : Nat) (l row : Int) : (tollOk (h_mi h) l row → ∃ h1, ev (d + 6) 128 [vr 100, vi l, vi row] h = some (vi (tollV (h_mi h) E l row), h1) ∧ Sq t h h1) ∧ (¬ tollOk (h_mi h) l row → ev (d + 6) 128 [vr 100, vi l, vi row] h = some (vu, exH h)) := by
  obtain ⟨a, b⟩ := c_46 k (d + 3) l row
  refine ⟨fun ok => ?_, fun ok => ?_⟩
  · obtain ⟨h1, e, sq, y, k1, h7, h8, h4⟩ := measured k d
    refine ⟨h1, ?_, sq⟩
    have aok := a ok
    obtain ⟨⟨l0, l1⟩, ⟨r0, r1⟩, _, _⟩ := ok
    rw [v_128, q_128_0 (w := k.cs), aok, bI_s, q_128_9 (w := k.cs), dt (by omega), e]
    simp only [cond_true, bV_s]
    have we : weV (h_mi h1) l = weV (h_mi h) l := by unfold weV; rw [h4]
    have wb := weV_b (h_mi h) l
    rw [q_128_31 (w := y.cs) (f := y.fj) (ht := y.ht), c_26 k1 _ l0 (by rw [h7]; exact l1), bI_s, q_128_47 (w := y.cs), we, c_104 y (d + 4) r0 (by rw [h7]; exact r1) wb.1 wb.2, bI_s, q_128_50, h7]
    have cc := k.vm.c
    have rr := k.vm.r
    have es : sm (fun j => pnV (nwG (h_mi h) E row j) (min (weV (h_mi h) l) (ydK (h_mi h) row j))) (h_mi h 147 0) = sm (tlP (h_mi h) E l row) (h_mi h 147 0) := sm_congr (fun j j0 j1 => by
      have sb := k.vm.s (c := (10 * row + j).toNat) (by omega)
      have eg : nwG (h_mi h) E row j = grV (h_mi h) E (10 * row + j) (h_mi h 172 133) (h_mi h 172 134) := rfl
      have ew : min (weV (h_mi h) l) (ydK (h_mi h) row j) = tlW (h_mi h) l row j := by
        unfold tlW ydK seeG
        by_cases z : h_mi h 148 (10 * row + j).toNat = 1
        · rw [if_pos z, if_pos (by omega), (sb.2.2 z).1]; omega
        · rw [if_neg z, if_neg (by omega)]; omega
      have wn : 0 ≤ tlW (h_mi h) l row j := by rw [← ew]; unfold ydK; omega
      show pnV _ _ = tlV _ _
      rw [ew, eg]
      unfold pnV tlV
      by_cases z : tlW (h_mi h) l row j = 0
      · rw [if_pos (by omega), if_pos z]
      · rw [if_neg (by omega), if_neg z])
    rw [es]
    rfl
  · rw [v_128, q_128_0 (w := k.cs), b ok, bI_s, q_128_9 (w := k.cs), df (by omega)]
    rfl
end
