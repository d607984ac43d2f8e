/-! the class: the order; carried -/
def bq (q : Nat → Int) : Nat → Int
  | 0 => 0
  | j + 1 => bq q j + 2 ^ (q j).toNat
theorem bq_cg {q p : Nat → Int} : ∀ j : Nat, (∀ i, i < j → q i = p i) → bq q j = bq p j
  | 0, _ => rfl
  | j + 1, h => by
    show bq q j + 2 ^ (q j).toNat = bq p j + 2 ^ (p j).toNat
    rw [bq_cg j (fun i hi => h i (by omega)), h j (by omega)]
section
variable {h : HP} {t : Nat} {E : EE} {S : Nat → Int}
/-- goes on from u with l -/
def gO (M : MM) (th : Int) (N : MM) (u l : Int) : Prop := my M th u l ∧ N 141 (u + 2 ^ l.toNat).toNat = 1
theorem l_8b (k : Cu h t E) (d : Nat) {th P : Int} (t0 : -1000 ≤ th) (t1 : th ≤ 1000) (hP : P = 2 ^ (h_mi h 147 3).toNat) (p1 : P ≤ 128) {N : MM} (g : Ag (CrA t) (h_mi h) N) (I : I5 (h_mi h) th P P 0 N) (hL : ∀ v : Int, 0 ≤ v → v < P → N 141 v.toNat = 0 ∨ N 141 v.toNat = 1) {u : Int} (u0 : 0 ≤ u) (u1 : u < P) (hu : N 140 u.toNat = 1) (h8 : N 137 8 = u) (x3 : Int) (x30 : 0 ≤ x3) (x31 : x3 < 7) : ∀ (n : Nat) (c : Int), (n : Int) ≤ h_mi h 147 3 → ((n : Int) ≤ c → gO (h_mi h) th N u c ∧ c < h_mi h 147 3 ∧ ∀ i, (n : Int) ≤ i → i < c → ¬ gO (h_mi h) th N u i) → (¬ (n : Int) ≤ c → c = 0 ∧ ∀ i, (n : Int) ≤ i → i < h_mi h 147 3 → ¬ gO (h_mi h) th N u i) → (∃ l, 0 ≤ l ∧ l < h_mi h 147 3 ∧ gO (h_mi h) th N u l) → 0 ≤ c → ∃ c' x5, run (d + 2) md_8 29 [vr 137, vr 106, vi th, vi x3, vi c, vi ((n : Int) - 1)] [] (sM h N) = run (d + 2) md_8 7 [vr 137, vr 106, vi th, vi (x3 + 1), vi c', vi x5] [] (sM h (up2 (up2 N 142 x3.toNat c') 137 8 (u + 2 ^ c'.toNat))) ∧ 0 ≤ c' ∧ c' < h_mi h 147 3 ∧ gO (h_mi h) th N u c' ∧ ∀ i, 0 ≤ i → i < c' → ¬ gO (h_mi h) th N u i
  | 0, c, h1, ha, hb, hx, c0 => by
    have l7 := k.vm.l
    have k1 := k.c g I.1
    obtain ⟨a1, a2, a3⟩ := ha c0
    have hbt : bit u c ≠ 1 := by have := a1.1.1; omega
    obtain ⟨_, _, p3, _⟩ := pcI u0 (by omega) c0 (by omega) hbt
    refine ⟨c, -1, ?_, c0, a2, a1, fun i i0 i1 => a3 i (by omega) i1⟩
    rw [q_8_29 (w := k1.cs), dt (by omega), mi_sM, h8, p3]
    simp (disch := omega) only [dt, df, zb, ia, sI_sM]
    rfl
  | n + 1, c, h1, ha, hb, hx, c0 => by
    have l7 := k.vm.l
    have k1 := k.c g I.1
    have ei : (((n + 1 : Nat) : Int) - 1) = (n : Int) := by omega
    obtain ⟨w8, _⟩ := I.2.2.2.2.2 u u0 u1 hu
    obtain ⟨my1, my0⟩ := c_4 k g I.1 d (th := th) (s := u) (l := (n : Int)) t0 t1 u0 (by omega) (by omega) (by omega) w8
    rw [ei, q_8_29 (w := k1.cs), df (by omega), mi_sM, h8]
    simp only [cond_false]
    have go : ∀ c2, ((n : Int) ≤ c2 → gO (h_mi h) th N u c2 ∧ c2 < h_mi h 147 3 ∧ ∀ i, (n : Int) ≤ i → i < c2 → ¬ gO (h_mi h) th N u i) → (¬ (n : Int) ≤ c2 → c2 = 0 ∧ ∀ i, (n : Int) ≤ i → i < h_mi h 147 3 → ¬ gO (h_mi h) th N u i) → 0 ≤ c2 → ∃ c' x5, run (d + 2) md_8 29 [vr 137, vr 106, vi th, vi x3, vi c2, vi (i_add (n : Int) (-1))] [] (sM h N) = run (d + 2) md_8 7 [vr 137, vr 106, vi th, vi (x3 + 1), vi c', vi x5] [] (sM h (up2 (up2 N 142 x3.toNat c') 137 8 (u + 2 ^ c'.toNat))) ∧ 0 ≤ c' ∧ c' < h_mi h 147 3 ∧ gO (h_mi h) th N u c' ∧ ∀ i, 0 ≤ i → i < c' → ¬ gO (h_mi h) th N u i := fun c2 q1 q2 q3 => by
      rw [ia (by omega) (by omega), show (n : Int) + -1 = (n : Int) - 1 by omega]
      exact l_8b k d t0 t1 hP p1 g I hL u0 u1 hu h8 x3 x30 x31 n c2 (by omega) q1 q2 hx q3
    have skip : ¬ gO (h_mi h) th N u n → ∃ c' x5, run (d + 2) md_8 29 [vr 137, vr 106, vi th, vi x3, vi c, vi (i_add (n : Int) (-1))] [] (sM h N) = run (d + 2) md_8 7 [vr 137, vr 106, vi th, vi (x3 + 1), vi c', vi x5] [] (sM h (up2 (up2 N 142 x3.toNat c') 137 8 (u + 2 ^ c'.toNat))) ∧ 0 ≤ c' ∧ c' < h_mi h 147 3 ∧ gO (h_mi h) th N u c' ∧ ∀ i, 0 ≤ i → i < c' → ¬ gO (h_mi h) th N u i := fun hn => by
      refine go c (fun q => ?_) (fun q => ?_) c0
      · by_cases z : ((n + 1 : Nat) : Int) ≤ c
        · obtain ⟨a1, a2, a3⟩ := ha z
          refine ⟨a1, a2, fun i i0 i1 => ?_⟩
          by_cases y : i = n
          · rw [y]; exact hn
          · exact a3 i (by omega) i1
        · obtain ⟨b1, b2⟩ := hb z
          exfalso
          have n0 : (n : Int) = 0 := by omega
          obtain ⟨l, l0, l1, l2⟩ := hx
          by_cases y : l = n
          · rw [y] at l2; exact hn l2
          · exact b2 l (by omega) l1 l2
      · obtain ⟨b1, b2⟩ := hb (by omega)
        refine ⟨b1, fun i i0 i1 => ?_⟩
        by_cases y : i = n
        · rw [y]; exact hn
        · exact b2 i (by omega) i1
    by_cases hm : my (h_mi h) th u n
    · have hbt : bit u n ≠ 1 := by have := hm.1; omega
      obtain ⟨_, _, p3, _⟩ := pcI u0 (by omega) (show 0 ≤ (n : Int) by omega) (by omega) hbt
      have ltP := lt_p l7.1 l7.2 u0 (by rw [← hP]; exact u1) (show 0 ≤ (n : Int) by omega) (by omega) hbt
      rw [← hP] at ltP
      have pp := p2p ((n : Int)).toNat
      rw [my1 hm, bI_s, q_8_46 (w := k1.cs), mi_sM, h8, p3]
      simp (disch := omega) only [dt, df, zb]
      rcases hL _ (show 0 ≤ u + 2 ^ ((n : Int)).toNat by omega) ltP with z | z
      · rw [dt z]
        exact skip (fun q => by have := q.2; omega)
      · rw [df (by omega)]
        exact go n (fun _ => ⟨⟨hm, z⟩, by omega, fun i i0 i1 => by omega⟩) (fun q => absurd (Int.le_refl _) q) (by omega)
    · rw [my0 hm, bI_s, q_8_46 (w := k1.cs), dt (by omega)]
      exact skip (fun q => hm q.1)
theorem l_8 (k : Cu h t E) (d : Nat) {th P W m : Int} (t0 : -1000 ≤ th) (t1 : th ≤ 1000) (hP : P = 2 ^ (h_mi h 147 3).toNat) (p1 : P ≤ 128) {N0 : MM} (g0 : Ag (CrA t) (h_mi h) N0) (I : I5 (h_mi h) th P P 0 N0) (hLd : ∀ v : Int, 0 ≤ v → v < P → (N0 141 v.toNat = 0 ∨ N0 141 v.toNat = 1) ∧ (N0 141 v.toNat = 1 ↔ ldS (h_mi h) th W m N0 v)) (m7 : m ≤ 7) : ∀ (n i : Nat) (v4 v5 : AV) (N : MM), (m - i).toNat = n → (i : Int) ≤ m → Ag (fun a => a = 137 ∨ a = 142) N0 N → N 137 6 = m → N 137 7 = W → N 137 8 = bq (N 142) i → (pc (bq (N 142) i) = i ∧ 0 ≤ bq (N 142) i ∧ bq (N 142) i < P ∧ N0 140 (bq (N 142) i).toNat = 1 ∧ N0 141 (bq (N 142) i).toNat = 1) → (∀ j : Nat, j < i → (0 ≤ N 142 j ∧ N 142 j < h_mi h 147 3) ∧ gO (h_mi h) th N0 (bq (N 142) j) (N 142 j) ∧ ∀ x, 0 ≤ x → x < N 142 j → ¬ gO (h_mi h) th N0 (bq (N 142) j) x) → ∃ N', run (d + 2) md_8 7 [vr 137, vr 106, vi th, vi (i : Int), v4, v5] [] (sM h N) = some (vr 0, sM h N') ∧ Ag (fun a => a = 137 ∨ a = 142) N0 N' ∧ N' 137 6 = m ∧ N' 137 7 = W ∧ N' 137 8 = bq (N' 142) m.toNat ∧ ∀ j : Nat, (j : Int) < m → (0 ≤ N' 142 j ∧ N' 142 j < h_mi h 147 3) ∧ gO (h_mi h) th N0 (bq (N' 142) j) (N' 142 j) ∧ ∀ x, 0 ≤ x → x < N' 142 j → ¬ gO (h_mi h) th N0 (bq (N' 142) j) x
  | 0, i, v4, v5, N, h1, h2, g, w6, w7, w8, hb, hj => by
    have ga : Ag (CrA t) (h_mi h) N := g0.tr (g.up (fun a ha => by unfold CrA; omega))
    have n8 : N 138 = N0 138 := g _ (by omega)
    have n9 : N 139 = N0 139 := g _ (by omega)
    have k1 := k.c ga (by rw [n8, n9]; exact I.1)
    have ei : m.toNat = i := by omega
    refine ⟨N, ?_, g, w6, w7, by rw [ei]; exact w8, fun j jm => hj j (by omega)⟩
    rw [q_8_7 (w := k1.cs) (f := k1.fj) (ht := k1.ht), mi_sM, w6, dt (by omega)]; rfl
  | n + 1, i, v4, v5, N, h1, h2, g, w6, w7, w8, hb, hj => by
    have l7 := k.vm.l
    have ga : Ag (CrA t) (h_mi h) N := g0.tr (g.up (fun a ha => by unfold CrA; omega))
    have n8 : N 138 = N0 138 := g _ (by omega)
    have n9 : N 139 = N0 139 := g _ (by omega)
    have n10 : N 140 = N0 140 := g _ (by omega)
    have n11 : N 141 = N0 141 := g _ (by omega)
    have IN' : I5 (h_mi h) th P P 0 N := by unfold I5 at I ⊢; rw [n8, n9, n10]; exact I
    have k1 := k.c ga IN'.1
    obtain ⟨b1, b2, b3, b4, b5⟩ := hb
    have gOe : ∀ u l, gO (h_mi h) th N u l ↔ gO (h_mi h) th N0 u l := fun u l => by unfold gO; rw [n11]
    -- it leads, so there is a way on
    have ld := ((hLd _ b2 b3).2.mp b5).2
    have ex : ∃ l, 0 ≤ l ∧ l < h_mi h 147 3 ∧ gO (h_mi h) th N (bq (N 142) i) l := by
      rcases ld with z | ⟨l, l0, l1, l2, l3⟩
      · have := z.2; omega
      · exact ⟨l, l0, l1, (gOe _ _).mpr ⟨l2, l3⟩⟩
    have en : ((h_mi h 147 3).toNat : Int) = h_mi h 147 3 := by omega
    obtain ⟨c, x5, e, c0, c1, c2, c3⟩ := l_8b k d t0 t1 hP p1 ga IN' (fun v v0 v1 => by rw [n11]; exact (hLd v v0 v1).1) b2 b3 (by rw [n10]; exact b4) w8 (i : Int) (by omega) (by omega) (h_mi h 147 3).toNat 0 (by omega) (fun q => by
      exfalso
      obtain ⟨l, l0, l1, _⟩ := ex
      omega) (fun q => ⟨rfl, fun x x0 x1 => by omega⟩) ex (by omega)
    rw [en] at e
    have hb2 : bit (bq (N 142) i) c ≠ 1 := by have := c2.1.1; omega
    obtain ⟨pc1, pc2, _, _⟩ := pcI b2 (by omega) c0 (by omega) hb2
    have ltP := lt_p l7.1 l7.2 b2 (by rw [← hP]; exact b3) c0 c1 hb2
    rw [← hP] at ltP
    have pp := p2p c.toNat
    have it : ((i : Int)).toNat = i := by omega
    rw [it] at e
    generalize hN : up2 (up2 N 142 i c) 137 8 (bq (N 142) i + 2 ^ c.toNat) = N1 at e
    have m142 : N1 142 = va_up (N 142) i c := by rw [← hN, u2_ne _ _ _ (by omega), u2_eq]
    have m137 : N1 137 = va_up (N 137) 8 (bq (N 142) i + 2 ^ c.toNat) := by rw [← hN, u2_eq, u2_ne _ _ _ (by omega)]
    have g1 : Ag (fun a => a = 137 ∨ a = 142) N0 N1 := by
      rw [← hN]
      exact (g.u2 _ _ (Or.inr rfl)).u2 _ _ (Or.inl rfl)
    have bqe : ∀ j, j ≤ i → bq (N1 142) j = bq (N 142) j := fun j hj => bq_cg j (fun x hx => by rw [m142, up_ne _ _ (by omega)])
    have bqs : bq (N1 142) (i + 1) = bq (N 142) i + 2 ^ c.toNat := by
      show bq (N1 142) i + 2 ^ (N1 142 i).toNat = _
      rw [bqe i (by omega), m142, up_eq]
    have cm : gO (h_mi h) th N0 (bq (N 142) i) c := (gOe _ _).mp c2
    have r140 : N0 140 (bq (N 142) i + 2 ^ c.toNat).toNat = 1 := I.2.2.2.2.1 _ c b2 b3 c0 c1 (Or.inl b3) b4 cm.1
    obtain ⟨N2, e2, g2, y6, y7, y8, yj⟩ := l_8 k d t0 t1 hP p1 g0 I hLd m7 n (i + 1) (vi c) (vi x5) N1 (by omega) (by omega) g1 (by rw [m137, up_ne _ _ (by omega)]; exact w6) (by rw [m137, up_ne _ _ (by omega)]; exact w7) (by rw [m137, up_eq, bqs]) (by rw [bqs]; exact ⟨by omega, by omega, ltP, r140, cm.2⟩) (fun j hj2 => by
      by_cases z : j = i
      · rw [z, bqe i (by omega), m142, up_eq]
        exact ⟨⟨c0, c1⟩, cm, fun x x0 x1 q => c3 x x0 x1 ((gOe _ _).mpr q)⟩
      · rw [bqe j (by omega), m142, up_ne _ _ z]
        exact hj j (by omega))
    refine ⟨N2, ?_, g2, y6, y7, y8, yj⟩
    rw [q_8_7 (w := k1.cs) (f := k1.fj) (ht := k1.ht), mi_sM, w6, (k.dd ga).1, df (by omega), is_ (by omega) (by omega)]
    simp only [cond_false]
    rw [e]
    have : ((i + 1 : Nat) : Int) = (i : Int) + 1 := by omega
    rw [← this]
    exact e2
/-- from a set that leads, back to the first -/
theorem ld0 {M : MM} {th P W m : Int} (hP : P = 2 ^ (M 147 3).toNat) (l70 : 0 ≤ M 147 3) (l7 : M 147 3 ≤ 7) (p1 : P ≤ 128) {N0 : MM} (I : I5 M th P P 0 N0) {L : Int → Prop} (hL : ∀ v : Int, 0 ≤ v → v < P → N0 140 v.toNat = 1 → (opS M W m v ∨ ∃ l, 0 ≤ l ∧ l < M 147 3 ∧ my M th v l ∧ L (v + 2 ^ l.toNat)) → L v) : ∀ (n : Nat) (u : Int), u.toNat ≤ n → 0 ≤ u → u < P → N0 140 u.toNat = 1 → L u → L 0
  | 0, u, h1, h2, h3, h4, h5 => by
    have : u = 0 := by omega
    rw [← this]; exact h5
  | n + 1, u, h1, h2, h3, h4, h5 => by
    by_cases z : u = 0
    · rw [← z]; exact h5
    · obtain ⟨l, p, a1, a2, a3, a4, a5, a6⟩ := I.2.2.2.1 u (by omega) h3 h4
      have pp := p2p l.toNat
      exact ld0 hP l70 l7 p1 I hL n p (by omega) a3 (by omega) a5 (hL p a3 (by omega) a5 (Or.inr ⟨l, a1, a2, a6, by rw [← a4]; exact h5⟩))
theorem caH_of {M : MM} {th P W m : Int} (hP : P = 2 ^ (M 147 3).toNat) (l70 : 0 ≤ M 147 3) (l7 : M 147 3 ≤ 7) (p1 : P ≤ 128) {N0 : MM} (I : I5 M th P P 0 N0) (J : I6 M P P W m N0) {L : Int → Prop} (hL : ∀ v : Int, 0 ≤ v → v < P → N0 140 v.toNat = 1 → (L v ↔ (opS M W m v ∨ ∃ l, 0 ≤ l ∧ l < M 147 3 ∧ my M th v l ∧ L (v + 2 ^ l.toNat)))) : CaH M th (fun s => 0 ≤ s ∧ s < P ∧ N0 140 s.toNat = 1) L W m := by
  refine ⟨fun s hs => ⟨hs.1, by omega⟩, fun s l hs l0 l1 hm => ?_, fun s hs => J.1 s hs.1 hs.2.1 hs.2.2, fun s hs => hL s hs.1 hs.2.1 hs.2.2⟩
  have pp := p2p l.toNat
  have lt := lt_p l70 l7 hs.1 (by rw [← hP]; exact hs.2.1) l0 l1 (by have := hm.1; omega)
  rw [← hP] at lt
  exact ⟨by omega, lt, I.2.2.2.2.1 s l hs.1 hs.2.1 l0 l1 (Or.inl hs.2.1) hs.2.2 hm⟩
theorem I6.b {M : MM} {E : EE} (v : VM M E) {P W m : Int} (hP : P = 2 ^ (M 147 3).toNat) {N : MM} (J : I6 M P P W m N) : 0 ≤ W ∧ 0 ≤ m ∧ m ≤ 7 := by
  obtain ⟨u, u0, u1, _, u3, u4⟩ := J.2
  have a := wt_b v u0 (by rw [← hP]; exact u1)
  have b := pc_b u
  omega
theorem c_2 (k : Cu h t E) (d : Nat) {th : Int} (t0 : -1000 ≤ th) (t1 : th ≤ 1000) : ∃ N, ev (d + 4) 2 [vr 137, vr 106, vi th] h = some (vr 0, sM h N) ∧ Ag (CrA t) (h_mi h) N ∧ (N 138 0 = 0 ∧ N 139 0 = 0) ∧ N 137 7 = (crT (h_mi h) th).1 ∧ N 137 6 = (crT (h_mi h) th).2.1 ∧ N 137 8 = bq (N 142) (N 137 6).toNat ∧ (∀ j : Nat, (j : Int) < N 137 6 → N 142 j = (crT (h_mi h) th).2.2.1 j ∧ (0 ≤ N 142 j ∧ N 142 j < h_mi h 147 3) ∧ bit (bq (N 142) j) (N 142 j) ≠ 1 ∧ 0 ≤ bq (N 142) j ∧ bq (N 142) j < 128) ∧ N 137 6 ≤ 7 ∧ 0 ≤ N 137 6 := by
  have l7 := k.vm.l
  have pb := P_b k
  generalize hP : (2 : Int) ^ (h_mi h 147 3).toNat = P at pb
  obtain ⟨N0, W, m, e0, g0, I, w7, w6, J⟩ := c_3 k d t0 t1
  rw [hP] at I J
  have Jb := J.b k.vm hP.symm
  have k0 := k.c g0 I.1
  -- leading
  have et : ((P.toNat : Int)) = P := by omega
  obtain ⟨N1, e1, g1, L1⟩ := l_7 k (d + 1) t0 t1 hP.symm pb.2 g0 I w7 w6 P.toNat vu vu N0 (by omega) (Ag.rf _) (fun v v0 v1 => by omega)
  rw [et] at e1
  have ga1 : Ag (CrA t) (h_mi h) N1 := g0.tr (g1.up (fun a ha => by unfold CrA; omega))
  have a8 : N1 138 = N0 138 := g1 _ (by omega)
  have a9 : N1 139 = N0 139 := g1 _ (by omega)
  have a10 : N1 140 = N0 140 := g1 _ (by omega)
  have a7 : N1 137 = N0 137 := g1 _ (by omega)
  have I1 : I5 (h_mi h) th P P 0 N1 := by unfold I5 at I ⊢; rw [a8, a9, a10]; exact I
  have J1 : I6 (h_mi h) P P W m N1 := by unfold I6 at J ⊢; rw [a10]; exact J
  have k1 := k.c ga1 I1.1
  have LL : ∀ v : Int, 0 ≤ v → v < P → N1 140 v.toNat = 1 → (N1 141 v.toNat = 1 ↔ (opS (h_mi h) W m v ∨ ∃ l, 0 ≤ l ∧ l < h_mi h 147 3 ∧ my (h_mi h) th v l ∧ N1 141 (v + 2 ^ l.toNat).toNat = 1)) := fun v v0 v1 hv => by
    rw [(L1 v v0 v1).2]
    exact ⟨fun q => q.2, fun q => ⟨hv, q⟩⟩
  have H := caH_of (L := fun s => N1 141 s.toNat = 1) hP.symm l7.1 l7.2 pb.2 I1 J1 LL
  obtain ⟨us, us0, us1, us2, us3, us4⟩ := J1.2
  have L0 : N1 141 ((0 : Int)).toNat = 1 := ld0 (L := fun s => N1 141 s.toNat = 1) hP.symm l7.1 l7.2 pb.2 I1 (fun v v0 v1 hv q => (LL v v0 v1 hv).mpr q) us.toNat us (Nat.le_refl _) us0 us1 us2 ((LL us us0 us1 us2).mpr (Or.inl ⟨us3, us4⟩))
  have pc0 : pc 0 = 0 := by decide +kernel
  -- following
  have gs : Ag (fun a => a = 137 ∨ a = 142) N1 (up2 N1 137 8 0) := Ag.u2 (Ag.rf (A := fun a => a = 137 ∨ a = 142) N1) 8 0 (Or.inl rfl)
  obtain ⟨N2, e2, g2, y6, y7, y8, yj⟩ := l_8 k (d + 1) (W := W) (m := m) t0 t1 hP.symm pb.2 ga1 I1 L1 Jb.2.2 _ 0 vu vu (up2 N1 137 8 0) rfl (by omega) gs (by rw [u2_no _ _ _ (by omega), a7]; exact w6) (by rw [u2_no _ _ _ (by omega), a7]; exact w7) (by rw [u2_at]; rfl) ⟨pc0, by show (0 : Int) ≤ 0; omega, by show (0 : Int) < P; omega, I1.2.1, L0⟩ (fun j hj => by omega)
  have ga2 : Ag (CrA t) (h_mi h) N2 := ga1.tr (g2.up (fun a ha => by unfold CrA; omega))
  -- the sets on the way
  have R : ∀ j : Nat, (j : Int) ≤ m → (0 ≤ bq (N2 142) j ∧ bq (N2 142) j < P ∧ N1 140 (bq (N2 142) j).toNat = 1) := by
    intro j
    induction j with
    | zero => intro _; exact ⟨by show (0 : Int) ≤ 0; omega, by show (0 : Int) < P; omega, I1.2.1⟩
    | succ j ih =>
      intro hj
      obtain ⟨r1, r2, r3⟩ := ih (by omega)
      obtain ⟨⟨q0, q1⟩, q2, _⟩ := yj j (by omega)
      exact H.2.1 _ _ ⟨r1, r2, r3⟩ q0 q1 q2.1
  have wy : Way (h_mi h) th (fun s => 0 ≤ s ∧ s < P ∧ N1 140 s.toNat = 1) (fun s => N1 141 s.toNat = 1) m (N2 142) (bq (N2 142)) := fun j hj => by
    obtain ⟨q1, q2, q3⟩ := yj j hj
    exact ⟨q1, q2.1, q2.2, rfl, q3⟩
  obtain ⟨c1, c2, c3⟩ := crT_is k.vm H Jb.2.1 Jb.1 ⟨by omega, by omega, I1.2.1⟩ L0 (b := bq (N2 142)) rfl wy
  have z8 : N2 138 = N1 138 := g2 _ (by omega)
  have z9 : N2 139 = N1 139 := g2 _ (by omega)
  refine ⟨N2, ?_, ga2, by rw [z8, z9]; exact I1.1, by rw [y7, c1], by rw [y6, c2], by rw [y6]; exact y8, fun j hj => ?_, by omega, by omega⟩
  · rw [v_2, q_2_0 (w := k.cs), e0, bV_s, q_2_6 (w := k0.cs), v_7, q_7_0 (w := k0.cs) (f := k0.fj) (ht := k0.ht), mi_sM, (k.dd g0).1, shlI (by omega) (by omega), hP, is_ (by omega) (by omega), e1, bV_s, q_2_12 (w := k1.cs), v_8, q_8_0 (w := k1.cs), sI_sM]
    have e2' : run (d + 3) md_8 7 [vr 137, vr 106, vi th, vi 0, vu, vu] [] (sM h (up2 N1 137 8 0)) = some (vr 0, sM h N2) := e2
    rw [e2', bV_s, q_2_18]
  · rw [y6] at hj
    obtain ⟨q1, q2, _⟩ := yj j hj
    obtain ⟨r1, r2, _⟩ := R j (by omega)
    exact ⟨(c3 j hj).symm, q1, by have := q2.1.1; omega, r1, by omega⟩
theorem bits_or {q : Nat → Int} {L : Int} (L7 : L ≤ 7) : ∀ (n i : Nat), (∀ j : Nat, i ≤ j → j < i + n → (0 ≤ q j ∧ q j < L) ∧ bit (bq q j) (q j) ≠ 1 ∧ 0 ≤ bq q j ∧ bq q j < 128) → itr (fun k a => i_or a (i_shl 1 (q k.toNat))) n (i : Int) (bq q i) = bq q (i + n)
  | 0, i, _ => rfl
  | n + 1, i, h => by
    obtain ⟨⟨a1, a2⟩, a3, a4, a5⟩ := h i (by omega) (by omega)
    obtain ⟨_, _, p3, _⟩ := pcI a4 a5 a1 (by omega) a3
    show itr (fun k a => i_or a (i_shl 1 (q k.toNat))) n ((i : Int) + 1) (i_or (bq q i) (i_shl 1 (q ((i : Int)).toNat))) = _
    rw [show ((i : Int)).toNat = i by omega, p3, show (i : Int) + 1 = ((i + 1 : Nat) : Int) by omega]
    have := bits_or L7 n (i + 1) (fun j j0 j1 => h j (by omega) (by omega))
    rw [show bq q (i + 1) = bq q i + 2 ^ (q i).toNat from rfl] at this
    rw [this, show i + 1 + n = i + (n + 1) by omega]
theorem k_carried (k : Cu h t E) (d : Nat) (row what : Int) (wr : what < 2147483648) : ∃ h1, ev (d + 5) 121 [vr 100, vi row, vi what] h = some (vi (carriedV (h_mi h) row what), h1) ∧ Sq t h h1 := by
  have rr := k.vm.r
  have l7 := k.vm.l
  rw [v_121, q_121_0 (w := k.cs) (f := k.fj) (ht := k.ht), c_22 _ _ k.fj k.dr, bI_s, q_121_11 (w := k.cs)]
  unfold carriedV
  by_cases c1 : 0 ≤ row ∧ row < h_mi h 147 1
  · have tb := tnV_b k.vm c1.1 (show row < 6 by omega)
    obtain ⟨N, e, g, z, n7, n6, n8, nj, m7, m0⟩ := c_2 k d (th := tnV (h_mi h) row) (by omega) (by omega)
    have k1 := k.c g z
    have sq : Sq t h (sM h N) := ⟨N, h_mr h 134 2, by rw [sR_self], g.up SqA_c, fun _ => by rw [z.1, z.2, k.z0.1, k.z0.2]; exact ⟨rfl, rfl⟩⟩
    refine ⟨sM h N, ?_, sq⟩
    rw [bb_nt c1, c_50 k _ c1.1 (by omega)]
    simp only [cond_true, bI_s]
    rw [q_121_32 (w := k.cs), e, bV_s, q_121_35 (w := k1.cs), v_1, q_1_0 (w := k1.cs), mi_sM]
    by_cases w0 : what = 0
    · rw [df (by omega)]
      simp only [cond_false, bI_s]
      rw [q_121_43, if_pos ⟨c1, by omega, by omega⟩, n7]
      unfold caO
      rw [if_pos w0]
    · rw [dt w0]
      by_cases w1 : what = 1
      · rw [df (by omega)]
        simp only [cond_true, cond_false, bI_s]
        rw [q_121_43, if_pos ⟨c1, by omega, by omega⟩, n8]
        unfold caO
        rw [if_neg w0, if_pos w1]
        have bo := bits_or (q := N 142) (L := h_mi h 147 3) l7.2 (N 137 6).toNat 0 (fun j _ j1 => (nj j (by omega)).2)
        have ec : itr (fun k a => i_or a (i_shl 1 ((crT (h_mi h) (tnV (h_mi h) row)).2.2.1 k.toNat))) (crT (h_mi h) (tnV (h_mi h) row)).2.1.toNat 0 0 = itr (fun k a => i_or a (i_shl 1 (N 142 k.toNat))) (N 137 6).toNat 0 0 := by
          rw [← n6]
          exact itr_congr (lo := 0) (n := N 137 6) (fun i a i0 i1 => by
            show i_or a (i_shl 1 ((crT (h_mi h) (tnV (h_mi h) row)).2.2.1 i.toNat)) = i_or a (i_shl 1 (N 142 i.toNat))
            rw [(nj i.toNat (by omega)).1]) _ 0 0 (by omega) (by omega)
        rw [ec]
        have bo' : itr (fun k a => i_or a (i_shl 1 (N 142 k.toNat))) (N 137 6).toNat 0 0 = bq (N 142) (0 + (N 137 6).toNat) := bo
        rw [bo', Nat.zero_add]
      · rw [dt w1]
        by_cases w2 : what < 2
        · rw [dt w2, if_neg (by omega)]
          simp only [cond_true, bI_s]
          rw [q_121_43]
        · rw [df w2]
          by_cases w9 : what ≤ 8
          · rw [if_pos ⟨c1, by omega, w9⟩, is_ (by omega) (by omega)]
            unfold caO
            rw [if_neg w0, if_neg w1, ← n6]
            by_cases w3 : what - 2 < N 137 6
            · rw [df (by omega), if_pos w3]
              simp (disch := omega) only [dt, df, zb, bI_s]
              rw [q_121_43, (nj (what - 2).toNat (by omega)).1]
            · rw [dt (by omega), if_neg w3]
              simp only [cond_true, cond_false, bI_s]
              rw [q_121_43]
          · rw [if_neg (fun q => w9 q.2.2)]
            rw [is_ (by omega) (by omega), dt (show N 137 6 ≤ what - 2 by omega)]
            simp only [cond_true, cond_false, bI_s]
            rw [q_121_43]
  · rw [bb_nf c1, if_neg (fun q => c1 q.1)]
    exact ⟨h, rfl, Sq.rf t h⟩
end
