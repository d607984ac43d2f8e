/-! the class: sets of loads reached, the most worth -/
theorem sB_b {f : Int → Int} {B : Int} (hf : ∀ l, 0 ≤ l → l < 7 → 0 ≤ f l ∧ f l ≤ B) (s : Int) : 0 ≤ sB f s ∧ sB f s ≤ 7 * B := by
  have one : ∀ l, 0 ≤ l → l < 7 → 0 ≤ bit s l * f l ∧ bit s l * f l ≤ B := fun l l0 l1 => by
    have := hf l l0 l1
    rcases bit01 s l with z | z <;> rw [z] <;> omega
  have a0 := one 0 (by omega) (by omega)
  have a1 := one 1 (by omega) (by omega)
  have a2 := one 2 (by omega) (by omega)
  have a3 := one 3 (by omega) (by omega)
  have a4 := one 4 (by omega) (by omega)
  have a5 := one 5 (by omega) (by omega)
  have a6 := one 6 (by omega) (by omega)
  unfold sB
  omega
theorem lt_ck : ((List.range 8).all fun n => (List.range (2 ^ n)).all fun s => (List.range n).all fun l => decide (bit (s : Int) (l : Int) = 1) || decide (s + 2 ^ l < 2 ^ n)) = true := by decide +kernel
theorem lt_p {n s l : Int} (n0 : 0 ≤ n) (n7 : n ≤ 7) (s0 : 0 ≤ s) (s1 : s < 2 ^ n.toNat) (l0 : 0 ≤ l) (l1 : l < n) (hb : bit s l ≠ 1) : s + 2 ^ l.toNat < 2 ^ n.toNat := by
  have h1 := List.all_eq_true.mp lt_ck n.toNat (List.mem_range.mpr (by omega))
  have c : ((2 ^ n.toNat : Nat) : Int) = (2 : Int) ^ n.toNat := by rw [Int.natCast_pow]; rfl
  have c2 : ((2 ^ l.toNat : Nat) : Int) = (2 : Int) ^ l.toNat := by rw [Int.natCast_pow]; rfl
  have h2 := List.all_eq_true.mp h1 s.toNat (List.mem_range.mpr (by omega))
  have h3 := List.all_eq_true.mp h2 l.toNat (List.mem_range.mpr (by omega))
  rw [show ((s.toNat : Nat) : Int) = s by omega, show ((l.toNat : Nat) : Int) = l by omega, df hb, Bool.false_or] at h3
  have h4 := of_decide_eq_true h3
  omega
theorem bit_hi {n s l : Int} (n0 : 0 ≤ n) (s0 : 0 ≤ s) (s1 : s < 2 ^ n.toNat) (l0 : n ≤ l) : bit s l = 0 := by
  have c1 : ((2 ^ n.toNat : Nat) : Int) = (2 : Int) ^ n.toNat := by rw [Int.natCast_pow]; rfl
  have c2 : ((2 ^ l.toNat : Nat) : Int) = (2 : Int) ^ l.toNat := by rw [Int.natCast_pow]; rfl
  have m := Nat.pow_le_pow_right (show 0 < 2 by omega) (show n.toNat ≤ l.toNat by omega)
  unfold bit
  rw [Int.ediv_eq_zero_of_lt s0 (by omega)]
  rfl
theorem wt_b {M : MM} {E : EE} (v : VM M E) {s : Int} (s0 : 0 ≤ s) (s1 : s < 2 ^ (M 147 3).toNat) : 0 ≤ wt M s ∧ wt M s ≤ 693 := by
  have l7 := v.l
  have one : ∀ l, 0 ≤ l → l < 7 → 0 ≤ bit s l * M 156 l.toNat ∧ bit s l * M 156 l.toNat ≤ 99 := fun l l0 l1 => by
    by_cases z : l < M 147 3
    · have := (v.ld (l := l.toNat) (by omega)).2.2
      rcases bit01 s l with z | z <;> rw [z] <;> omega
    · rw [bit_hi l7.1 s0 s1 (by omega), Int.zero_mul]; omega
  have a0 := one 0 (by omega) (by omega)
  have a1 := one 1 (by omega) (by omega)
  have a2 := one 2 (by omega) (by omega)
  have a3 := one 3 (by omega) (by omega)
  have a4 := one 4 (by omega) (by omega)
  have a5 := one 5 (by omega) (by omega)
  have a6 := one 6 (by omega) (by omega)
  show 0 ≤ bit s 0 * M 156 (Int.toNat 0) + bit s 1 * M 156 (Int.toNat 1) + bit s 2 * M 156 (Int.toNat 2) + bit s 3 * M 156 (Int.toNat 3) + bit s 4 * M 156 (Int.toNat 4) + bit s 5 * M 156 (Int.toNat 5) + bit s 6 * M 156 (Int.toNat 6) ∧ bit s 0 * M 156 (Int.toNat 0) + bit s 1 * M 156 (Int.toNat 1) + bit s 2 * M 156 (Int.toNat 2) + bit s 3 * M 156 (Int.toNat 3) + bit s 4 * M 156 (Int.toNat 4) + bit s 5 * M 156 (Int.toNat 5) + bit s 6 * M 156 (Int.toNat 6) ≤ 693
  omega
def bcV (x : Int) : Int := (i_and (i_add (i_add (i_and (i_add (i_add (i_and (i_sub x (i_and (i_ushr x 1) 1431655765)) 858993459) (i_and (i_ushr (i_sub x (i_and (i_ushr x 1) 1431655765)) 2) 858993459)) (i_ushr (i_add (i_and (i_sub x (i_and (i_ushr x 1) 1431655765)) 858993459) (i_and (i_ushr (i_sub x (i_and (i_ushr x 1) 1431655765)) 2) 858993459)) 4)) 252645135) (i_ushr (i_and (i_add (i_add (i_and (i_sub x (i_and (i_ushr x 1) 1431655765)) 858993459) (i_and (i_ushr (i_sub x (i_and (i_ushr x 1) 1431655765)) 2) 858993459)) (i_ushr (i_add (i_and (i_sub x (i_and (i_ushr x 1) 1431655765)) 858993459) (i_and (i_ushr (i_sub x (i_and (i_ushr x 1) 1431655765)) 2) 858993459)) 4)) 252645135) 8)) (i_ushr (i_add (i_and (i_add (i_add (i_and (i_sub x (i_and (i_ushr x 1) 1431655765)) 858993459) (i_and (i_ushr (i_sub x (i_and (i_ushr x 1) 1431655765)) 2) 858993459)) (i_ushr (i_add (i_and (i_sub x (i_and (i_ushr x 1) 1431655765)) 858993459) (i_and (i_ushr (i_sub x (i_and (i_ushr x 1) 1431655765)) 2) 858993459)) 4)) 252645135) (i_ushr (i_and (i_add (i_add (i_and (i_sub x (i_and (i_ushr x 1) 1431655765)) 858993459) (i_and (i_ushr (i_sub x (i_and (i_ushr x 1) 1431655765)) 2) 858993459)) (i_ushr (i_add (i_and (i_sub x (i_and (i_ushr x 1) 1431655765)) 858993459) (i_and (i_ushr (i_sub x (i_and (i_ushr x 1) 1431655765)) 2) 858993459)) 4)) 252645135) 8)) 16)) 63)
theorem bc_ck : ((List.range 128).all fun s => decide (bcV (s : Int) = pc s)) = true := by decide +kernel
theorem c_253 (d : Nat) {x : Int} (h : HP) (x0 : 0 ≤ x) (x1 : x < 128) : ev d 253 [vi x] h = some (vi (pc x), h) := by
  have h1 := of_decide_eq_true (List.all_eq_true.mp bc_ck x.toNat (List.mem_range.mpr (by omega)))
  rw [show ((x.toNat : Nat) : Int) = x by omega] at h1
  rw [v_253, q_253_0, ← h1]
  rfl
section
variable {h : HP} {t : Nat} {E : EE} {S : Nat → Int}
theorem Cg.r2 (k : Cg h t E S) {N : MM} (g : Ag (CrA t) (h_mi h) N) : ∀ a, 145 ≤ a → a ≤ 181 → N a = h_mi h a := fun a h1 h2 => g a (by
  have lt := k.fj.lt
  unfold CrA; omega)
theorem Cg.c (k : Cg h t E S) {N : MM} (g : Ag (CrA t) (h_mi h) N) (z : N 138 0 = 0 ∧ N 139 0 = 0) : Cg (sM h N) t E S := by
  have lt := k.fj.lt
  refine ⟨⟨k.rs, k.cs, ?_, z⟩, k.fj, k.ht, k.vm.cg (fun a h1 h2 => k.r2 g a h1 (by omega)), k.fn.cg (fun i hi => g _ (by unfold CrA; omega)) (fun a h1 h2 => k.r2 g a h1 (by omega)), fun l hl => ?_, ?_⟩
  · have := k.st.sc (A := CrA t) (h1 := sM h N) ⟨rfl, rfl, rfl, rfl, rfl, fun a ha => ⟨g a ha, rfl⟩⟩ (fun a ha => by unfold CrA at ha; omega)
    exact this
  · have c := k.lc l hl
    refine LC.cg (h := h) c rfl (g (h_mr h t (l + 15) + 1) ?_)
    have kd := (k.fj.2.2.2.2 l hl).1
    have n := k.fj.lk kd
    have r := c.1
    unfold CrA; omega
  · have := k.ic.cg (N := N) (g _ (by unfold CrA; omega)) (fun j hj => g _ (by unfold CrA; omega))
    rw [mi_sM, k.r2 g 147 (by omega) (by omega)]
    exact this
theorem Cu.c (k : Cu h t E) {N : MM} (g : Ag (CrA t) (h_mi h) N) (z : N 138 0 = 0 ∧ N 139 0 = 0) : Cu (sM h N) t E := by
  have := Cg.c k g z
  unfold Cu
  rw [mi_sM, Cg.r2 k g 172 (by omega) (by omega)]
  exact this
theorem Cg.dd (k : Cg h t E S) {N : MM} (g : Ag (CrA t) (h_mi h) N) : N t 13 = h_mi h 147 3 ∧ (∀ x : Int, 0 ≤ x → x < h_mi h 147 3 → N (t + 7) x.toNat = ndV (h_mi h) x) ∧ (∀ x : Int, 0 ≤ x → x < h_mi h 147 3 → N (t + 8) x.toNat = h_mi h 156 x.toNat) := by
  have lt := k.fj.lt
  rw [g t (by unfold CrA; omega), g (t + 7) (by unfold CrA; omega), g (t + 8) (by unfold CrA; omega)]
  exact ⟨(k.dat (Ag.rf _)).2.2.2.1, (k.dat (Ag.rf _)).2.2.2.2.2.2.2.2.2.2.2.1, (k.dat (Ag.rf _)).2.2.2.2.2.2.2.2.2.2.2.2.1⟩
theorem weS_b (M : MM) (s : Int) : 0 ≤ sB (weV M) s ∧ sB (weV M) s ≤ 21 := by
  have := sB_b (f := weV M) (B := 3) (fun l _ _ => weV_b M l) s
  omega
theorem c_4 (k : Cu h t E) {N : MM} (g : Ag (CrA t) (h_mi h) N) (z : N 138 0 = 0 ∧ N 139 0 = 0) (d : Nat) {th s l : Int} (t0 : -1000 ≤ th) (t1 : th ≤ 1000) (s0 : 0 ≤ s) (s1 : s < 128) (l0 : 0 ≤ l) (l1 : l < h_mi h 147 3) (hw : N 138 s.toNat = sB (weV (h_mi h)) s) : (my (h_mi h) th s l → ev (d + 1) 4 [vr 137, vr 106, vi th, vi s, vi l] (sM h N) = some (vi 1, sM h N)) ∧ (¬ my (h_mi h) th s l → ev (d + 1) 4 [vr 137, vr 106, vi th, vi s, vi l] (sM h N) = some (vi 0, sM h N)) := by
  have l7 := k.vm.l
  have k1 := k.c g z
  have wb := weS_b (h_mi h) s
  have c42 := c_42 k1 d (x := l) l0 (by omega)
  rw [mi_sM, k.r2 g 172 (by omega) (by omega)] at c42
  have dd := (k.dd g).2.1 l l0 l1
  have fin : ∀ b : Int, run (d + 1) md_4 23 [vr 137, vr 106, vi th, vi s, vi l, vu] [vi b] (sM h N) = bif decide (b = 0) then some (vi 0, sM h N) else bif decide (th - sB (weV (h_mi h)) s < ndV (h_mi h) l) then some (vi 0, sM h N) else some (vi 1, sM h N) := fun b => by
    rw [q_4_23 (w := k1.cs) (f := k1.fj) (ht := k1.ht), mi_sM, hw, dd]
    simp (disch := omega) only [dt, df, zb, is_]
  rw [v_4, q_4_0 (w := k1.cs), bitI s0 s1 l0 (by omega)]
  unfold my
  rcases bit01 s l with y | y
  · rw [df (by omega), c42]
    simp only [cond_false, bI_s]
    rw [q_4_15]
    rcases bit01 (h_mi h 172 132) l with x | x
    · rw [df (by omega)]
      simp only [cond_false]
      rw [fin, df (show ¬ (1 : Int) = 0 by omega)]
      by_cases w : th - sB (weV (h_mi h)) s < ndV (h_mi h) l
      · rw [dt w]
        exact ⟨fun q => absurd q.2.2 (by omega), fun _ => rfl⟩
      · rw [df w]
        exact ⟨fun _ => rfl, fun q => absurd ⟨y, x, by omega⟩ q⟩
    · rw [dt (by omega)]
      simp only [cond_true]
      rw [fin]
      exact ⟨fun q => absurd q.2.1 (by omega), fun _ => rfl⟩
  · rw [dt (by omega)]
    simp only [cond_true]
    rw [fin]
    exact ⟨fun q => absurd q.1 (by omega), fun _ => rfl⟩
def I5 (M : MM) (th P s0 l0 : Int) (N : MM) : Prop := (N 138 0 = 0 ∧ N 139 0 = 0) ∧ N 140 0 = 1 ∧ (∀ u : Int, 0 ≤ u → u < P → N 140 u.toNat = 0 ∨ N 140 u.toNat = 1) ∧
  (∀ u : Int, 0 < u → u < P → N 140 u.toNat = 1 → ∃ l p : Int, 0 ≤ l ∧ l < M 147 3 ∧ 0 ≤ p ∧ u = p + 2 ^ l.toNat ∧ N 140 p.toNat = 1 ∧ my M th p l) ∧
  (∀ p l : Int, 0 ≤ p → p < P → 0 ≤ l → l < M 147 3 → (p < s0 ∨ (p = s0 ∧ l < l0)) → N 140 p.toNat = 1 → my M th p l → N 140 (p + 2 ^ l.toNat).toNat = 1) ∧
  (∀ u : Int, 0 ≤ u → u < P → N 140 u.toNat = 1 → N 138 u.toNat = sB (weV M) u ∧ N 139 u.toNat = wt M u)
theorem l_5a (k : Cu h t E) (d : Nat) {th P : Int} (p0 : 1 ≤ P) (p1 : P ≤ 128) : ∀ (n : Nat) (i : Int) (N : MM), (P - i).toNat = n → 0 ≤ i → i ≤ P → Ag (CrA t) (h_mi h) N → (N 138 0 = 0 ∧ N 139 0 = 0) → (∀ u : Int, 0 ≤ u → u < i → N 140 u.toNat = if u = 0 then 1 else 0) → ∃ N', run (d + 1) md_5 16 [vr 137, vr 106, vi th, vr t, vi P, vi i, vu, vu] [] (sM h N) = run (d + 1) md_5 49 [vr 137, vr 106, vi th, vr t, vi P, vi 0, vu, vu] [] (sM h N') ∧ Ag (CrA t) (h_mi h) N' ∧ (N' 138 0 = 0 ∧ N' 139 0 = 0) ∧ ∀ u : Int, 0 ≤ u → u < P → N' 140 u.toNat = if u = 0 then 1 else 0
  | 0, i, N, h1, h2, h3, g, z, hu => by
    have k1 := k.c g z
    refine ⟨N, ?_, g, z, fun u u0 u1 => hu u u0 (by omega)⟩
    rw [q_5_16 (w := k1.cs), dt (by omega)]; rfl
  | n + 1, i, N, h1, h2, h3, g, z, hu => by
    have k1 := k.c g z
    have step : ∀ v, v = (if i = 0 then 1 else 0) → ∃ N', run (d + 1) md_5 16 [vr 137, vr 106, vi th, vr t, vi P, vi (i + 1), vu, vu] [] (sM h (up2 N 140 i.toNat v)) = run (d + 1) md_5 49 [vr 137, vr 106, vi th, vr t, vi P, vi 0, vu, vu] [] (sM h N') ∧ Ag (CrA t) (h_mi h) N' ∧ (N' 138 0 = 0 ∧ N' 139 0 = 0) ∧ ∀ u : Int, 0 ≤ u → u < P → N' 140 u.toNat = if u = 0 then 1 else 0 := fun v hv => by
      refine l_5a k d p0 p1 n (i + 1) _ (by omega) (by omega) (by omega) (g.u2 _ _ (by unfold CrA; omega)) ?_ (fun u u0 u1 => ?_)
      · rw [u2_ne _ _ _ (by omega), u2_ne _ _ _ (by omega)]; exact z
      · by_cases w : u = i
        · rw [w, u2_at, hv]
        · rw [u2_no _ _ _ (by omega)]; exact hu u u0 (by omega)
    rw [q_5_16 (w := k1.cs), df (by omega)]
    simp (disch := omega) only [dt, df, zb, ia, sI_sM]
    by_cases w : i = 0
    · rw [df (by omega)]
      exact step 1 (by rw [if_pos w])
    · rw [dt w]
      exact step 0 (by rw [if_neg w])
theorem l_5b (k : Cu h t E) (d : Nat) {th P s : Int} (t0 : -1000 ≤ th) (t1 : th ≤ 1000) (hP : P = 2 ^ (h_mi h 147 3).toNat) (p1 : P ≤ 128) (s0 : 0 ≤ s) (s1 : s < P) : ∀ (n : Nat) (i : Int) (v7 : AV) (N : MM), (h_mi h 147 3 - i).toNat = n → 0 ≤ i → i ≤ h_mi h 147 3 → Ag (CrA t) (h_mi h) N → I5 (h_mi h) th P s i N → ∃ N' i' v7', run (d + 2) md_5 59 [vr 137, vr 106, vi th, vr t, vi P, vi s, vi i, v7] [] (sM h N) = run (d + 2) md_5 49 [vr 137, vr 106, vi th, vr t, vi P, vi (s + 1), vi i', v7'] [] (sM h N') ∧ Ag (CrA t) (h_mi h) N' ∧ I5 (h_mi h) th P (s + 1) 0 N'
  | 0, i, v7, N, h1, h2, h3, g, I => by
    have k1 := k.c g I.1
    refine ⟨N, i, v7, ?_, g, I.1, I.2.1, I.2.2.1, I.2.2.2.1, fun p l p0 p1 l0 l1 q => I.2.2.2.2.1 p l p0 p1 l0 l1 (by omega), I.2.2.2.2.2⟩
    rw [q_5_59 (w := k1.cs) (f := k1.fj), mi_sM, (k.dd g).1, dt (by omega), ia (by omega) (by omega)]; rfl
  | n + 1, i, v7, N, h1, h2, h3, g, I => by
    have l7 := k.vm.l
    have k1 := k.c g I.1
    obtain ⟨i1, i2, i3, i4, i5, i6⟩ := I
    rw [q_5_59 (w := k1.cs) (f := k1.fj), mi_sM, (k.dd g).1, df (by omega)]
    simp (disch := omega) only [dt, df, zb]
    rcases i3 s s0 s1 with w | w
    · refine ⟨N, i, v7, ?_, g, i1, i2, i3, i4, fun p l p0 p1 l0 l1 q hp => i5 p l p0 p1 l0 l1 ?_ hp, i6⟩
      · rw [dt w, ia (by omega) (by omega)]; rfl
      · have : p ≠ s := fun e => by rw [e, w] at hp; omega
        omega
    · obtain ⟨w8, w9⟩ := i6 s s0 s1 w
      obtain ⟨my1, my0⟩ := c_4 k g i1 d (th := th) (s := s) (l := i) t0 t1 s0 (by omega) h2 (by omega) w8
      rw [df (by omega)]
      simp only [cond_false]
      by_cases hm : my (h_mi h) th s i
      · have hb : bit s i ≠ 1 := by have := hm.1; omega
        obtain ⟨_, _, p3, _⟩ := pcI s0 (by omega) h2 (by omega) hb
        have ltP := lt_p l7.1 l7.2 s0 (by rw [← hP]; exact s1) h2 (by omega) hb
        rw [← hP] at ltP
        have pp := p2p i.toNat
        have wl := weV_b (h_mi h) i
        have wb := weS_b (h_mi h) s
        have wtb := wt_b k.vm s0 (by rw [← hP]; exact s1)
        have wq := (k.vm.ld (l := i.toNat) (by omega)).2.2
        have ga : Ag (CrA t) (h_mi h) (up2 N 140 (s + 2 ^ i.toNat).toNat 1) := g.u2 _ _ (by unfold CrA; omega)
        have za : up2 N 140 (s + 2 ^ i.toNat).toNat 1 138 0 = 0 ∧ up2 N 140 (s + 2 ^ i.toNat).toNat 1 139 0 = 0 := by rw [u2_ne _ _ _ (by omega), u2_ne _ _ _ (by omega)]; exact i1
        have ka := k.c ga za
        have c26 := c_26 ka (d + 1) (x := i) h2 (by rw [mi_sM, k.r2 ga 147 (by omega) (by omega)]; omega)
        have ew : weV (h_mi (sM h (up2 N 140 (s + 2 ^ i.toNat).toNat 1))) i = weV (h_mi h) i := by unfold weV; rw [mi_sM, k.r2 ga 154 (by omega) (by omega)]
        rw [ew] at c26
        rw [my1 hm, bI_s, q_5_88 (w := k1.cs) (f := k1.fj), p3, mi_sM, w8, sI_sM, c26]
        simp (disch := omega) only [dt, df, zb, bI_s]
        rw [q_5_127 (w := ka.cs) (f := ka.fj), mi_sM, u2_ne _ _ _ (show 139 ≠ 140 by omega), w9, (k.dd ga).2.2 i h2 (by omega)]
        simp (disch := omega) only [dt, df, zb, bI_s, sI_sM, ia]
        have wn : wt (h_mi h) (s + 2 ^ i.toNat) = wt (h_mi h) s + h_mi h 156 i.toNat := sB_add s0 (by omega) h2 (by omega) hb
        have bn : sB (weV (h_mi h)) (s + 2 ^ i.toNat) = sB (weV (h_mi h)) s + weV (h_mi h) i := sB_add s0 (by omega) h2 (by omega) hb
        rw [← wn, ← bn]
        generalize hx : (s + 2 ^ i.toNat : Int) = x at *
        generalize hN : up2 (up2 (up2 N 140 x.toNat 1) 138 x.toNat (sB (weV (h_mi h)) x)) 139 x.toNat (wt (h_mi h) x) = N'
        have g' : Ag (CrA t) (h_mi h) N' := by
          rw [← hN]
          exact (ga.u2 _ _ (by unfold CrA; omega)).u2 _ _ (by unfold CrA; omega)
        have n140 : N' 140 = va_up (N 140) x.toNat 1 := by rw [← hN, u2_ne _ _ _ (by omega), u2_ne _ _ _ (by omega), u2_eq]
        have n138 : N' 138 = va_up (N 138) x.toNat (sB (weV (h_mi h)) x) := by rw [← hN, u2_ne _ _ _ (by omega), u2_eq, u2_ne _ _ _ (by omega)]
        have n139 : N' 139 = va_up (N 139) x.toNat (wt (h_mi h) x) := by rw [← hN, u2_eq, u2_ne _ _ _ (by omega), u2_ne _ _ _ (by omega)]
        have up1 : ∀ u : Int, N 140 u.toNat = 1 → N' 140 u.toNat = 1 := fun u hu => by
          rw [n140, up_if]
          split
          · rfl
          · exact hu
        refine l_5b k d t0 t1 hP p1 s0 s1 n (i + 1) _ N' (by omega) (by omega) (by omega) g' ⟨?_, ?_, fun u u0 u1 => ?_, fun u u0 u1 hu => ?_, fun p l p0 p1 l0 l1 q hp hq => ?_, fun u u0 u1 hu => ?_⟩
        · rw [n138, n139, up_ne _ _ (by omega), up_ne _ _ (by omega)]; exact i1
        · rw [n140, up_ne _ _ (by omega)]; exact i2
        · rw [n140, up_if]
          split
          · exact Or.inr rfl
          · exact i3 u u0 u1
        · by_cases e : u = x
          · exact ⟨i, s, h2, by omega, s0, by rw [e, hx], up1 s w, hm⟩
          · rw [n140, up_ne _ _ (by omega)] at hu
            obtain ⟨l, p, a1, a2, a3, a4, a5, a6⟩ := i4 u u0 u1 hu
            exact ⟨l, p, a1, a2, a3, a4, up1 p a5, a6⟩
        · rw [n140, up_ne _ _ (by omega)] at hp
          by_cases e : p = s ∧ l = i
          · rw [e.1, e.2, hx, n140, up_eq]
          · exact up1 _ (i5 p l p0 p1 l0 l1 (by omega) hp hq)
        · by_cases e : u = x
          · rw [e, n138, n139, up_eq, up_eq]; exact ⟨rfl, rfl⟩
          · rw [n140, up_ne _ _ (by omega)] at hu
            rw [n138, n139, up_ne _ _ (by omega), up_ne _ _ (by omega)]
            exact i6 u u0 u1 hu
      · rw [my0 hm, bI_s, q_5_88 (w := k1.cs) (f := k1.fj), dt (by omega)]
        simp only [cond_true]
        rw [ia (by omega) (by omega)]
        exact l_5b k d t0 t1 hP p1 s0 s1 n (i + 1) v7 N (by omega) (by omega) (by omega) g ⟨i1, i2, i3, i4, fun p l p0 p1 l0 l1 q hp hq => i5 p l p0 p1 l0 l1 (by
          have : ¬ (p = s ∧ l = i) := fun e => hm (by rw [← e.1, ← e.2]; exact hq)
          omega) hp hq, i6⟩
theorem l_5 (k : Cu h t E) (d : Nat) {th P : Int} (t0 : -1000 ≤ th) (t1 : th ≤ 1000) (hP : P = 2 ^ (h_mi h 147 3).toNat) (p1 : P ≤ 128) : ∀ (n : Nat) (s : Int) (v6 v7 : AV) (N : MM), (P - s).toNat = n → 0 ≤ s → s ≤ P → Ag (CrA t) (h_mi h) N → I5 (h_mi h) th P s 0 N → ∃ N', run (d + 2) md_5 49 [vr 137, vr 106, vi th, vr t, vi P, vi s, v6, v7] [] (sM h N) = some (vr 0, sM h N') ∧ Ag (CrA t) (h_mi h) N' ∧ I5 (h_mi h) th P P 0 N'
  | 0, s, v6, v7, N, h1, h2, h3, g, I => by
    have : s = P := by omega
    subst this
    refine ⟨N, ?_, g, I⟩
    rw [q_5_49, dt (by omega)]; rfl
  | n + 1, s, v6, v7, N, h1, h2, h3, g, I => by
    have l7 := k.vm.l
    obtain ⟨N1, i', v7', e1, g1, I1⟩ := l_5b k d t0 t1 hP p1 h2 (by omega) _ 0 v7 N rfl (by omega) (by omega) g I
    obtain ⟨N2, e2, g2, I2⟩ := l_5 k d t0 t1 hP p1 n (s + 1) (vi i') v7' N1 (by omega) (by omega) (by omega) g1 I1
    refine ⟨N2, ?_, g2, I2⟩
    rw [q_5_49, df (by omega)]
    simp only [cond_false]
    rw [e1, e2]
theorem P_b (k : Cu h t E) : (1 : Int) ≤ 2 ^ (h_mi h 147 3).toNat ∧ (2 : Int) ^ (h_mi h 147 3).toNat ≤ 128 := by
  have l7 := k.vm.l
  exact p2_b (by omega)
theorem c_5 (k : Cu h t E) (d : Nat) {th : Int} (t0 : -1000 ≤ th) (t1 : th ≤ 1000) : ∃ N, ev (d + 2) 5 [vr 137, vr 106, vi th] h = some (vr 0, sM h N) ∧ Ag (CrA t) (h_mi h) N ∧ I5 (h_mi h) th (2 ^ (h_mi h 147 3).toNat) (2 ^ (h_mi h 147 3).toNat) 0 N := by
  have l7 := k.vm.l
  have pb := P_b k
  rw [v_5, q_5_0 (w := k.cs) (f := k.fj) (ht := k.ht), k.dl, shlI (by omega) (by omega)]
  obtain ⟨N1, e1, g1, z1, u1⟩ := l_5a k (d + 1) (th := th) pb.1 pb.2 _ 0 (h_mi h) rfl (by omega) (by omega) (Ag.rf _) k.z0 (fun u u0 u1 => by omega)
  rw [sM_self] at e1
  obtain ⟨N2, e2, g2, I2⟩ := l_5 k d t0 t1 rfl pb.2 _ 0 vu vu N1 rfl (by omega) (by omega) g1 ⟨z1, by have := u1 0 (by omega) (by omega); rw [if_pos rfl] at this; exact this, fun u u0 ub => by rw [u1 u u0 ub]; split <;> omega, fun u u0 ub hu => by rw [u1 u (by omega) ub, if_neg (by omega)] at hu; omega, fun p l p0 _ _ _ q => by omega, fun u u0 ub hu => by
    by_cases e : u = 0
    · rw [e]
      have z8 : sB (weV (h_mi h)) 0 = 0 := sB_0 _
      have z9 : wt (h_mi h) 0 = 0 := sB_0 _
      rw [z8, z9]; exact z1
    · rw [u1 u u0 ub, if_neg e] at hu; omega⟩
  exact ⟨N2, e1.trans e2, g2, I2⟩
/-- W is the most worth of the sets below i, m the fewest loads of those -/
def I6 (M : MM) (P i : Int) (W m : Int) (N : MM) : Prop := (∀ u : Int, 0 ≤ u → u < i → N 140 u.toNat = 1 → wt M u < W ∨ (wt M u = W ∧ m ≤ pc u)) ∧ ∃ u : Int, 0 ≤ u ∧ u < P ∧ N 140 u.toNat = 1 ∧ wt M u = W ∧ pc u = m
theorem l_6 (k : Cu h t E) (d : Nat) {th P : Int} (hP : P = 2 ^ (h_mi h 147 3).toNat) (p1 : P ≤ 128) {N0 : MM} (I : I5 (h_mi h) th P P 0 N0) (g0 : Ag (CrA t) (h_mi h) N0) : ∀ (n : Nat) (i W m : Int) (v3 : AV) (N : MM), (P - i).toNat = n → 0 ≤ i → i ≤ P → Ag (fun a => a = 137) N0 N → N 137 7 = W → N 137 6 = m → I6 (h_mi h) P i W m N0 → ∃ N' W' m', run (d + 1) md_6 12 [vr 137, vr 106, vi i, v3] [] (sM h N) = some (vr 0, sM h N') ∧ Ag (fun a => a = 137) N0 N' ∧ N' 137 7 = W' ∧ N' 137 6 = m' ∧ I6 (h_mi h) P P W' m' N0
  | 0, i, W, m, v3, N, h1, h2, h3, g, w7, w6, J => by
    have l7 := k.vm.l
    have ga : Ag (CrA t) (h_mi h) N := g0.tr (g.up (fun a ha => by unfold CrA; omega))
    have n8 : N 138 = N0 138 := g _ (by omega)
    have n9 : N 139 = N0 139 := g _ (by omega)
    have k1 := k.c ga (by rw [n8, n9]; exact I.1)
    have : i = P := by omega
    subst this
    refine ⟨N, W, m, ?_, g, w7, w6, J⟩
    rw [q_6_12 (w := k1.cs) (f := k1.fj) (ht := k1.ht), mi_sM, (k.dd ga).1, shlI (by omega) (by omega), ← hP, dt (by omega)]; rfl
  | n + 1, i, W, m, v3, N, h1, h2, h3, g, w7, w6, J => by
    have l7 := k.vm.l
    have ga : Ag (CrA t) (h_mi h) N := g0.tr (g.up (fun a ha => by unfold CrA; omega))
    have n8 : N 138 = N0 138 := g _ (by omega)
    have n9 : N 139 = N0 139 := g _ (by omega)
    have n10 : N 140 = N0 140 := g _ (by omega)
    have k1 := k.c ga (by rw [n8, n9]; exact I.1)
    obtain ⟨j1, j2⟩ := J
    rw [q_6_12 (w := k1.cs) (f := k1.fj) (ht := k1.ht), mi_sM, (k.dd ga).1, shlI (by omega) (by omega), ← hP, df (by omega), c_253 _ _ h2 (by omega)]
    simp only [cond_false, bI_s]
    rw [q_6_29 (w := k1.cs), mi_sM, n10, n9, w7, w6]
    simp (disch := omega) only [dt, df, zb, ia, sI_sM]
    rcases I.2.2.1 i h2 (by omega) with w | w
    · rw [dt w]
      exact l_6 k d hP p1 I g0 n (i + 1) W m _ N (by omega) (by omega) (by omega) g w7 w6 ⟨fun u u0 ub hu => by
        have : u ≠ i := fun e => by rw [e, w] at hu; omega
        exact j1 u u0 (by omega) hu, j2⟩
    · obtain ⟨w8, w9⟩ := I.2.2.2.2.2 i h2 (by omega) w
      rw [df (by omega), w9]
      have better : (W < wt (h_mi h) i ∨ (wt (h_mi h) i = W ∧ pc i < m)) → ∀ v3, ∃ N' W' m', run (d + 1) md_6 12 [vr 137, vr 106, vi (i + 1), v3] [] (sM h (up2 (up2 N 137 7 (wt (h_mi h) i)) 137 6 (pc i))) = some (vr 0, sM h N') ∧ Ag (fun a => a = 137) N0 N' ∧ N' 137 7 = W' ∧ N' 137 6 = m' ∧ I6 (h_mi h) P P W' m' N0 := fun hb v3 => by
        refine l_6 k d hP p1 I g0 n (i + 1) (wt (h_mi h) i) (pc i) v3 _ (by omega) (by omega) (by omega) ((g.u2 _ _ rfl).u2 _ _ rfl) ?_ ?_ ⟨fun u u0 ub hu => ?_, i, h2, by omega, w, rfl, rfl⟩
        · rw [u2_no _ _ _ (by omega), u2_at]
        · rw [u2_at]
        · by_cases e : u = i
          · rw [e]; omega
          · have := j1 u u0 (by omega) hu
            omega
      have same : ¬ (W < wt (h_mi h) i ∨ (wt (h_mi h) i = W ∧ pc i < m)) → ∀ v3, ∃ N' W' m', run (d + 1) md_6 12 [vr 137, vr 106, vi (i + 1), v3] [] (sM h N) = some (vr 0, sM h N') ∧ Ag (fun a => a = 137) N0 N' ∧ N' 137 7 = W' ∧ N' 137 6 = m' ∧ I6 (h_mi h) P P W' m' N0 := fun hb v3 => by
        refine l_6 k d hP p1 I g0 n (i + 1) W m v3 N (by omega) (by omega) (by omega) g w7 w6 ⟨fun u u0 ub hu => ?_, j2⟩
        by_cases e : u = i
        · rw [e]; omega
        · exact j1 u u0 (by omega) hu
      by_cases c1 : W < wt (h_mi h) i
      · rw [dt c1]; exact better (Or.inl c1) _
      · rw [df c1]
        by_cases c2 : wt (h_mi h) i = W
        · rw [df (by omega)]
          by_cases c3 : m ≤ pc i
          · rw [dt c3]; exact same (by omega) _
          · rw [df c3]; exact better (Or.inr ⟨c2, by omega⟩) _
        · rw [dt c2]; exact same (by omega) _
theorem c_3 (k : Cu h t E) (d : Nat) {th : Int} (t0 : -1000 ≤ th) (t1 : th ≤ 1000) : ∃ N W m, ev (d + 3) 3 [vr 137, vr 106, vi th] h = some (vr 0, sM h N) ∧ Ag (CrA t) (h_mi h) N ∧ I5 (h_mi h) th (2 ^ (h_mi h 147 3).toNat) (2 ^ (h_mi h 147 3).toNat) 0 N ∧ N 137 7 = W ∧ N 137 6 = m ∧ I6 (h_mi h) (2 ^ (h_mi h 147 3).toNat) (2 ^ (h_mi h 147 3).toNat) W m N := by
  have pb := P_b k
  obtain ⟨N0, e0, g0, I⟩ := c_5 k d t0 t1
  have k0 := k.c g0 I.1
  have ga : Ag (fun a => a = 137) N0 (up2 (up2 N0 137 7 0) 137 6 0) := Ag.u2 (Ag.u2 (Ag.rf (A := fun a => a = 137) N0) 7 0 rfl) 6 0 rfl
  have pc0 : pc 0 = 0 := by decide +kernel
  obtain ⟨N, W, m, e1, g1, w7, w6, J⟩ := l_6 k (d + 1) (th := th) rfl pb.2 I g0 _ 0 0 0 vu (up2 (up2 N0 137 7 0) 137 6 0) rfl (by omega) (by omega) ga (by rw [u2_no _ _ _ (by omega), u2_at]) (by rw [u2_at]) ⟨fun u u0 ub => by omega, 0, by omega, by omega, I.2.1, sB_0 _, pc0⟩
  have n8 : N 138 = N0 138 := g1 _ (by omega)
  have n9 : N 139 = N0 139 := g1 _ (by omega)
  have n10 : N 140 = N0 140 := g1 _ (by omega)
  refine ⟨N, W, m, ?_, g0.tr (g1.up (fun a ha => by unfold CrA; omega)), ?_, w7, w6, ?_⟩
  · rw [v_3, q_3_0 (w := k.cs), e0, bV_s, q_3_6 (w := k0.cs), v_6, q_6_0 (w := k0.cs)]
    simp only [sI_sM]
    rw [e1, bV_s, q_3_11]
  · unfold I5 at I ⊢; rw [n8, n9, n10]; exact I
  · unfold I6 at J ⊢; rw [n10]; exact J
end
