/-! the class: share, stump, hours, feed -/
theorem IN.sh {M : MM} {n : Int} {S : Nat → Int} (i : IN M 106 126 n S) {p : Nat} (hp : p < 6) (v : Int) : IN (up2 M 129 p v) 106 126 n (va_up S (126 + p) v) := by
  obtain ⟨a, b, e1, e2, e3, e4, e5, e6⟩ := i
  refine ⟨fun x hx => ?_, fun q hq => ?_, ?_⟩
  · rw [u2_ne _ _ _ (show 126 ≠ 129 by omega), u2_ne _ _ _ (show 126 + 1 ≠ 129 by omega), up_ne _ _ (by omega), up_ne _ _ (by omega)]
    exact a x hx
  · rw [u2_ne _ _ _ (show 126 + 2 ≠ 129 by omega), show 126 + 3 = 129 from rfl, u2_eq, up_ne (j := 120 + q) _ _ (by omega)]
    refine ⟨(b q hq).1, ?_⟩
    by_cases z : q = p
    · rw [z, up_eq, up_eq]
    · rw [up_ne _ _ z, up_ne _ _ (by omega)]; exact (b q hq).2
  · rw [u2_ne _ _ _ (show 106 ≠ 129 by omega), up_ne _ _ (by omega), up_ne _ _ (by omega), up_ne _ _ (by omega), up_ne _ _ (by omega), up_ne _ _ (by omega), up_ne _ _ (by omega)]
    exact ⟨e1, e2, e3, e4, e5, e6⟩
theorem IN.sp {M : MM} {n : Int} {S : Nat → Int} (i : IN M 106 126 n S) {c : Nat} (hc : c < 60) (v : Int) : IN (up2 M 127 c v) 106 126 n (va_up S (60 + c) (1 + v)) := by
  obtain ⟨a, b, e1, e2, e3, e4, e5, e6⟩ := i
  refine ⟨fun x hx => ?_, fun q hq => ?_, ?_⟩
  · rw [u2_ne _ _ _ (show 126 ≠ 127 by omega), show 126 + 1 = 127 from rfl, u2_eq, up_ne (j := x) _ _ (by omega)]
    refine ⟨(a x hx).1, ?_⟩
    by_cases z : x = c
    · rw [z, up_eq, up_eq]; omega
    · rw [up_ne _ _ z, up_ne _ _ (by omega)]; exact (a x hx).2
  · rw [u2_ne _ _ _ (show 126 + 2 ≠ 127 by omega), u2_ne _ _ _ (show 126 + 3 ≠ 127 by omega), up_ne (j := 120 + q) _ _ (by omega), up_ne (j := 126 + q) _ _ (by omega)]
    exact b q hq
  · rw [u2_ne _ _ _ (show 106 ≠ 127 by omega), up_ne _ _ (by omega), up_ne _ _ (by omega), up_ne _ _ (by omega), up_ne _ _ (by omega), up_ne _ _ (by omega), up_ne _ _ (by omega)]
    exact ⟨e1, e2, e3, e4, e5, e6⟩
section
variable {h : HP} {t : Nat} {E : EE} {S : Nat → Int}
theorem k_share (k : Cu h t E) (d : Nat) (p x : Int) : (shareOk (h_mi h) p x → ev (d + 1) 132 [vr 100, vi p, vi x] h = some (vi 1, sM h (up2 (h_mi h) 129 p.toNat x)) ∧ Cg (sM h (up2 (h_mi h) 129 p.toNat x)) t E (va_up (h_mi h 172) (126 + p).toNat x)) ∧ (¬ shareOk (h_mi h) p x → ev (d + 1) 132 [vr 100, vi p, vi x] h = some (vi 0, h)) := by
  have pp := k.vm.p
  rw [v_132, q_132_0 (w := k.cs) (f := k.fj) (ht := k.ht), c_24 _ _ k.fj k.dp, bI_s, q_132_11 (w := k.cs)]
  unfold shareOk
  by_cases c1 : 0 ≤ p ∧ p < h_mi h 147 2
  · by_cases c2 : x < 0
    · rw [bb_dt c1, dt c2]
      exact ⟨fun q => absurd q.2.1 (by omega), fun _ => rfl⟩
    · by_cases c3 : x ≤ 999
      · refine ⟨fun _ => ⟨?_, ?_⟩, fun q => absurd ⟨c1, by omega, c3⟩ q⟩
        · rw [bb_dt c1, df c2, dt c3, dt (show 0 ≤ p by omega), dt (show p < 6 by omega)]; rfl
        · have g : Ag (IcA t) (h_mi h) (up2 (h_mi h) 129 p.toNat x) := (Ag.rf _).u2 _ _ (by unfold IcA; omega)
          refine k.ice g ?_
          have := k.ic.sh (p := p.toNat) (by omega) x
          rw [show 126 + p.toNat = (126 + p).toNat by omega] at this
          exact this
      · rw [bb_dt c1, df c2, df c3]
        exact ⟨fun q => absurd q.2.2 c3, fun _ => rfl⟩
  · rw [bb_df c1]
    exact ⟨fun q => absurd q.1 c1, fun _ => rfl⟩
theorem k_stump (k : Cu h t E) (d : Nat) (x y v : Int) : (stumpOk (h_mi h) x y v → ev (d + 2) 134 [vr 100, vi x, vi y, vi v] h = some (vi 1, sM h (up2 (h_mi h) 127 (10 * y + x).toNat v)) ∧ Cg (sM h (up2 (h_mi h) 127 (10 * y + x).toNat v)) t E (va_up (h_mi h 172) (60 + (10 * y + x)).toNat (1 + v))) ∧ (¬ stumpOk (h_mi h) x y v → ev (d + 2) 134 [vr 100, vi x, vi y, vi v] h = some (vi 0, h)) := by
  have cc := k.vm.c
  have rr := k.vm.r
  rw [v_134, q_134_0 (w := k.cs) (f := k.fj) (ht := k.ht), c_23 _ _ _ k.fj k.dc k.dr, bI_s, q_134_12]
  unfold stumpOk
  by_cases c1 : 0 ≤ x ∧ x < h_mi h 147 0 ∧ 0 ≤ y ∧ y < h_mi h 147 1
  · by_cases c2 : v < -1
    · rw [bb_dt c1, dt c2]
      exact ⟨fun q => absurd q.2.2.1 (by omega), fun _ => rfl⟩
    · by_cases c3 : v ≤ 99
      · rw [bb_dt c1, df c2, dt c3, c_141 _ _ _ _ (by omega) (by omega) (by omega) (by omega)]
        simp only [cond_true, cond_false, bI_s]
        rw [q_134_33 (w := k.cs) (f := k.fj) (ht := k.ht)]
        simp (disch := omega) only [k.dat (Ag.rf _), dt, df, zb]
        by_cases c4 : h_mi h 148 (10 * y + x).toNat = 1
        · rw [df (show ¬ h_mi h 148 (10 * y + x).toNat ≠ 1 by omega)]
          exact ⟨fun q => absurd c4 q.2.1, fun _ => rfl⟩
        · rw [dt c4]
          refine ⟨fun _ => ⟨rfl, ?_⟩, fun q => absurd ⟨c1, c4, by omega, c3⟩ q⟩
          have g : Ag (IcA t) (h_mi h) (up2 (h_mi h) 127 (10 * y + x).toNat v) := (Ag.rf _).u2 _ _ (by unfold IcA; omega)
          refine k.ice g ?_
          have := k.ic.sp (c := (10 * y + x).toNat) (by omega) v
          rw [show 60 + (10 * y + x).toNat = (60 + (10 * y + x)).toNat by omega] at this
          exact this
      · rw [bb_dt c1, df c2, df c3]
        exact ⟨fun q => absurd q.2.2.2 c3, fun _ => rfl⟩
  · rw [bb_df c1]
    exact ⟨fun q => absurd q.1 c1, fun _ => rfl⟩
theorem k_hours (k : Cu h t E) (d : Nat) (many : Int) (hn : h_mi h 172 134 + 1000 ≤ 1000000) : ((1 ≤ many ∧ many ≤ 1000) → ∃ N, ev (d + 5) 118 [vr 100, vi many] h = some (vi (hoursV (h_mi h) E many), sM h (up2 (up2 N 130 3 0) 130 4 0)) ∧ Ag (IcA t) (h_mi h) N ∧ Cg (sM h (up2 (up2 N 130 3 0) 130 4 0)) t E (psN (h_mi h) E many.toNat (h_mi h 172))) ∧ (¬ (1 ≤ many ∧ many ≤ 1000) → ev (d + 5) 118 [vr 100, vi many] h = some (vi (hoursV (h_mi h) E many), h)) := by
  rw [v_118, q_118_0]
  unfold hoursV
  refine ⟨fun q => ?_, fun q => ?_⟩
  · obtain ⟨N, e, g, kk⟩ := l_118 k d (many := many) q.2 _ 0 (h_mi h 172) (h_mi h) rfl (by omega) (by omega) k.vm.2.1 (by omega) (Ag.rf _) (by rw [sM_self]; exact k)
    rw [sM_self, Int.sub_zero] at e
    rw [Int.sub_zero] at kk
    refine ⟨N, ?_, g, ?_⟩
    · rw [df (by omega), dt q.2, if_pos q]
      exact e
    · have g2 : Ag (fun a => 130 ≤ a ∧ a ≤ 133) (h_mi (sM h N)) (up2 (up2 N 130 3 0) 130 4 0) := by
        rw [mi_sM]
        exact ((Ag.rf _).u2 _ _ (by omega)).u2 _ _ (by omega)
      have := kk.kp g2
      rw [sM_sM] at this
      exact this
  · rw [if_neg q]
    by_cases c1 : many < 1
    · rw [dt c1]; rfl
    · rw [df c1, df (by omega)]; rfl
end
/-! feed -/
theorem chr_ck : ((List.range 127).all fun k => decide (i_chr (k : Int) = (k : Int))) = true := by decide +kernel
theorem chr_i {k : Int} (k0 : 0 ≤ k) (k1 : k < 127) : i_chr k = k := by
  have := List.all_eq_true.mp chr_ck k.toNat (List.mem_range.mpr (by omega))
  have h := of_decide_eq_true this
  have e : ((k.toNat : Nat) : Int) = k := by omega
  rw [e] at h; exact h
def gM (M : MM) (s : (Nat → Int) × Int) : MM := up2 (va_up M 102 s.1) 101 1 s.2
theorem gM_1 (M : MM) (s : (Nat → Int) × Int) : gM M s 101 1 = s.2 := by unfold gM; rw [u2_at]
theorem gM_102 (M : MM) (s : (Nat → Int) × Int) : gM M s 102 = s.1 := by unfold gM; rw [u2_ne _ _ _ (by omega), up_eq]
theorem gM_st (M : MM) (s : (Nat → Int) × Int) (k : Nat) (x m : Int) : up2 (up2 (gM M s) 102 k x) 101 1 m = gM M (va_up s.1 k x, m) := by
  unfold gM
  funext a
  by_cases a1 : a = 101
  · subst a1
    rw [u2_eq, u2_ne _ _ _ (by omega), u2_eq, u2_eq, up_ne _ _ (by omega), up_ne _ _ (by omega), up_up]
  · rw [u2_ne _ _ _ a1, u2_ne _ _ _ a1]
    by_cases a2 : a = 102
    · subst a2; rw [u2_eq, u2_ne _ _ _ (by omega), up_eq, up_eq]
    · rw [u2_ne _ _ _ a2, u2_ne _ _ _ a1, up_ne _ _ a2, up_ne _ _ a2]
theorem gM_self (M : MM) : gM M (M 102, M 101 1) = M := by
  unfold gM
  rw [up_self, up2_def, up_self, up_self]
theorem gM_gM (M : MM) (s s' : (Nat → Int) × Int) : gM (gM M s) s' = gM M s' := by
  unfold gM
  funext a
  by_cases a1 : a = 101
  · subst a1
    rw [u2_eq, u2_eq, up_ne _ _ (by omega), u2_eq, up_ne _ _ (by omega), up_up, up_ne _ _ (by omega)]
  · rw [u2_ne _ _ _ a1, u2_ne _ _ _ a1]
    by_cases a2 : a = 102
    · subst a2; rw [up_eq, up_eq]
    · rw [up_ne _ _ a2, u2_ne _ _ _ a1, up_ne _ _ a2, up_ne _ _ a2]
theorem fdF_b (x : Int) {s : (Nat → Int) × Int} (s0 : 0 ≤ s.2) (s1 : s.2 ≤ 1000) : 0 ≤ (fdF x s).2 ∧ (fdF x s).2 ≤ 1000 := by
  unfold fdF
  split
  · show 0 ≤ s.2 + 1 ∧ s.2 + 1 ≤ 1000; omega
  · exact ⟨s0, s1⟩
theorem l_86 {h : HP} {M : MM} (w : CSk h) (y : Int) (d : Nat) : ∀ (k : Nat) (j : Int) (s : (Nat → Int) × Int) (v4 v5 : AV), (8 - j).toNat = k → 0 ≤ j → j ≤ 8 → 0 ≤ s.2 → s.2 ≤ 1000 → run d md_86 3 [vr 101, vl y, vu, vi (56 - 8 * j), v4, v5] [] (sM h (gM M s)) = some (vr 0, sM h (gM M (itr (fun j s => fdF (fdB y j) s) k j s)))
  | 0, j, s, v4, v5, h1, h2, h3, s0, s1 => by
    rw [q_86_3, dt (by omega)]; rfl
  | k + 1, j, s, v4, v5, h1, h2, h3, s0, s1 => by
    rw [q_86_3, fdB_c, df (by omega)]
    show _ = some (vr 0, sM h (gM M (itr (fun j s => fdF (fdB y j) s) k (j + 1) (fdF (fdB y j) s))))
    generalize fdB y j = x
    have sb := fdF_b x s0 s1
    have key := fun v4 v5 => l_86 (M := M) w y d k (j + 1) (fdF x s) v4 v5 (by omega) (by omega) (by omega) sb.1 sb.2
    rw [show 56 - 8 * (j + 1) = 56 - 8 * j + -8 by omega] at key
    have nay : ¬ (x = 10 ∨ (32 ≤ x ∧ x ≤ 126)) → run d md_86 43 [vr 101, vl y, vu, vi (56 - 8 * j), vi x, v5] [vi 0] (sM h (gM M s)) = some (vr 0, sM h (gM M (itr (fun j s => fdF (fdB y j) s) k (j + 1) (fdF x s)))) := fun hx => by
      have e : fdF x s = s := if_neg (fun z => hx z.2)
      rw [← key (vi x) (vi 0), e, q_86_43 (w := w.m _), dt rfl, ia (by omega) (by omega)]; rfl
    have yes : (x = 10 ∨ (32 ≤ x ∧ x ≤ 126)) → run d md_86 43 [vr 101, vl y, vu, vi (56 - 8 * j), vi x, v5] [vi 1] (sM h (gM M s)) = some (vr 0, sM h (gM M (itr (fun j s => fdF (fdB y j) s) k (j + 1) (fdF x s)))) := fun hx => by
      rw [← key (vi x) (vi 1), q_86_43 (w := w.m _), mi_sM, gM_1, chr_i (by omega) (by omega), df (show ¬ (1 : Int) = 0 by omega), ia (x := 56 - 8 * j) (by omega) (by omega)]
      by_cases c1 : 1000 ≤ s.2
      · have e : fdF x s = s := if_neg (by omega)
        rw [dt c1, e]; rfl
      · have e : fdF x s = (va_up s.1 s.2.toNat x, s.2 + 1) := if_pos ⟨by omega, hx⟩
        rw [df c1, e, ia (by omega) (by omega)]
        simp (disch := omega) only [dt, df, zb]
        simp only [sI_sM, gM_st]
    by_cases c2 : x = 10
    · rw [dt c2]; exact yes (Or.inl c2)
    · rw [df c2]
      by_cases c3 : x < 32
      · rw [dt c3]; exact nay (by omega)
      · rw [df c3]
        by_cases c4 : 126 < x
        · rw [dt c4]; exact nay (by omega)
        · rw [df c4]; exact yes (by omega)
theorem fdW_b (y : Int) {s : (Nat → Int) × Int} (s0 : 0 ≤ s.2) (s1 : s.2 ≤ 1000) : 0 ≤ (fdW y s).2 ∧ (fdW y s).2 ≤ 1000 := by
  have key : ∀ (k : Nat) (i : Int) (s : (Nat → Int) × Int), 0 ≤ s.2 → s.2 ≤ 1000 → 0 ≤ (itr (fun j s => fdF (fdB y j) s) k i s).2 ∧ (itr (fun j s => fdF (fdB y j) s) k i s).2 ≤ 1000 := by
    intro k
    induction k with
    | zero => intro i s a b; exact ⟨a, b⟩
    | succ k ih => intro i s a b; exact ih (i + 1) _ (fdF_b _ a b).1 (fdF_b _ a b).2
  exact key 8 0 s s0 s1
theorem c_86 {h : HP} {M : MM} (w : CSk h) (y : Int) (d : Nat) (s : (Nat → Int) × Int) (s0 : 0 ≤ s.2) (s1 : s.2 ≤ 1000) : ev d 86 [vr 101, vl y] (sM h (gM M s)) = some (vr 0, sM h (gM M (fdW y s))) := by
  rw [v_86, q_86_0]
  exact l_86 (M := M) w y d _ 0 s vu vu rfl (by omega) (by omega) s0 s1
theorem k_feed {h : HP} (w : CSk h) (d : Nat) (a b c : Int) (t0 : 0 ≤ h_mi h 101 1) (t1 : h_mi h 101 1 ≤ 1000) : ev (d + 1) 110 [vr 100, vl a, vl b, vl c] h = some (vi (fdS a b c (h_mi h 102, h_mi h 101 1)).2, sM h (gM (h_mi h) (fdS a b c (h_mi h 102, h_mi h 101 1)))) := by
  have f1 := fdW_b a (s := (h_mi h 102, h_mi h 101 1)) t0 t1
  have f2 := fdW_b b f1.1 f1.2
  have c1 := c_86 (h := h) (M := h_mi h) w a d (h_mi h 102, h_mi h 101 1) t0 t1
  rw [gM_self, sM_self] at c1
  rw [v_110, q_110_0 (w := w), c1, bV_s, q_110_8 (w := w.m _), c_86 w b d _ f1.1 f1.2, bV_s, q_110_16 (w := w.m _), c_86 w c d _ f2.1 f2.2, bV_s, q_110_25 (w := w.m _), mi_sM, gM_1]
  rfl
/-- two tapes that are alike as far as they go -/
def TpR (s s' : (Nat → Int) × Int) : Prop := s.2 = s'.2 ∧ ∀ j : Nat, (j : Int) < s'.2 → s.1 j = s'.1 j ∧ (s'.1 j = 10 ∨ (32 ≤ s'.1 j ∧ s'.1 j ≤ 126))
theorem TpR.f {s s' : (Nat → Int) × Int} (r : TpR s s') (s0 : 0 ≤ s'.2) (x : Int) : TpR (fdF x s) (fdF x s') := by
  unfold fdF
  by_cases c : s'.2 < 1000 ∧ (x = 10 ∨ (32 ≤ x ∧ x ≤ 126))
  · rw [if_pos c, if_pos (by rw [r.1]; exact c)]
    refine ⟨by show s.2 + 1 = s'.2 + 1; rw [r.1], fun j hj => ?_⟩
    have hj : (j : Int) < s'.2 + 1 := hj
    show va_up s.1 s.2.toNat x j = va_up s'.1 s'.2.toNat x j ∧ _
    rw [r.1]
    by_cases z : j = s'.2.toNat
    · show _ ∧ (va_up s'.1 s'.2.toNat x j = 10 ∨ (32 ≤ va_up s'.1 s'.2.toNat x j ∧ va_up s'.1 s'.2.toNat x j ≤ 126))
      rw [z, up_eq, up_eq]; exact ⟨rfl, c.2⟩
    · show _ ∧ (va_up s'.1 s'.2.toNat x j = 10 ∨ (32 ≤ va_up s'.1 s'.2.toNat x j ∧ va_up s'.1 s'.2.toNat x j ≤ 126))
      rw [up_ne _ _ z, up_ne _ _ z]; exact r.2 j (by omega)
  · rw [if_neg c, if_neg (by rw [r.1]; exact c)]; exact r
theorem TpR.w {s s' : (Nat → Int) × Int} (r : TpR s s') (s0 : 0 ≤ s'.2) (s1 : s'.2 ≤ 1000) (y : Int) : TpR (fdW y s) (fdW y s') := by
  have key : ∀ (k : Nat) (i : Int) (s s' : (Nat → Int) × Int), TpR s s' → 0 ≤ s'.2 → s'.2 ≤ 1000 → TpR (itr (fun j s => fdF (fdB y j) s) k i s) (itr (fun j s => fdF (fdB y j) s) k i s') := by
    intro k
    induction k with
    | zero => intro i s s' r _ _; exact r
    | succ k ih => intro i s s' r a b; exact ih (i + 1) _ _ (r.f a _) (fdF_b _ a b).1 (fdF_b _ a b).2
  exact key 8 0 s s' r s0 s1
theorem TpR.s {s s' : (Nat → Int) × Int} (r : TpR s s') (s0 : 0 ≤ s'.2) (s1 : s'.2 ≤ 1000) (a b c : Int) : TpR (fdS a b c s) (fdS a b c s') := by
  have f1 := fdW_b a s0 s1
  have f2 := fdW_b b f1.1 f1.2
  exact ((r.w s0 s1 a).w f1.1 f1.2 b).w f2.1 f2.2 c
