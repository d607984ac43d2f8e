/-! lines are read: how a line ends; current; pourers -/
section
variable {hc hr : HP} {f : Nat → Int} {n l p t b : Nat} {e : Nat → (Nat → Int) → Int}
theorem ln_f {D K d K' : Nat} {as bs : List AV} {hA h2 : HP} {q : Int} {p' : Nat} (x : TX f n l) (q0 : q ≠ 0) (hD : 5 ≤ D) (e1 : ev D K as hc = some (vr 0, hA)) (cl : CL hA f n p' q) (pp : p' ≤ n) (wb : Wb b hc hA) (z1 : h_sz hA = h_sz hc) (z2 : h_sl hA = h_sl hc) (e2 : ev d K' bs hr = some (vi 0, h2)) (rd : Rd hr h2) (m9 : h_mi h2 145 9 = q) : LOx f n t b D K as d K' bs hc hr p := by
  obtain ⟨h3, p6, pp6, ca, g3, q3⟩ := c2_w x q0 e1 hD pp cl
  have s3 := g3.sh
  exact Or.inl ⟨q, h3, h2, p6, q0, pp6, ca, wb.tr (Wb.of g3), q3, ⟨by rw [s3.2.2.1, z1]; omega, by rw [s3.2.2.2.1, z2]; omega⟩, e2, rd, m9⟩
theorem ln_end {D K d d' K' : Nat} {as bs : List AV} {hA hB : HP} {pz c m : Nat} {nm : Nat → Int} (x : TX f n l) (hD : 5 ≤ D) (pz1 : pz ≤ n) (pl : p + 1 ≤ pz) (e1 : ev D K as hc = some (vr 0, hA)) (cl : CL hA f n pz 0) (wb : Wb b hc hA) (z1 : h_sz hA = h_sz hc) (z2 : h_sl hA = h_sl hc) (rl : RL hB f n pz) (e2 : ∀ r h1, (r = 0 ∨ r = 1) → ev (d + 2) 168 [vr 145] hB = some (vi r, h1) → ev d' K' bs hr = some (vi r, h1)) (rd : Rd hr hB) (y : YY hA hB t c e) (c1 : h_mi hB 145 24 = (c : Int)) (c2 : 1000 ≤ c) (c3 : c ≤ 1000 + pz) (mm : (m : Int) = h_mi hB 147 7 + h_mi hB 147 8) (nc : NmC hA m nm) (nr : NmR hB m nm) : LOx f n t b D K as d' K' bs hc hr p := by
  have p5 := (tk_n (f := f) pz1).2.1
  obtain ⟨h3, e3, g3, q3⟩ := k_79 cl x pz1 (D := D + 1) (by omega) 59
  have s3 := g3.sh
  have w3 := wb.tr (Wb.of (b := b) g3)
  by_cases sm : smP f n pz
  · obtain ⟨h2, r2, g2, l2⟩ := s_168y rl x pz1 d sm
    rw [if_pos (show tkK f n pz = 3 ∧ f (tB f n pz) = 59 from sm)] at q3
    have l5 := ((tk_n (f := f) pz1).2.2 (by rw [sm.1]; omega)).1
    have m7 := g2.sh.2.2.2.2.2.2 147 (by omega)
    refine Or.inr ⟨h3, h2, _, e, ⟨by omega, p5⟩, ⟨_, e1, e3, cl.1⟩, w3, ⟨by rw [s3.2.2.1, z1]; omega, by rw [s3.2.2.2.1, z2]; omega⟩, e2 1 h2 (Or.inr rfl) r2, rd.tr g2.rd, q3, l2, c, m, nm, (y.kc cl.1 g3.kp).kr (g2.kr c), ⟨?_, c2, by omega⟩, by rw [m7]; exact mm, nc.qt g3, nr.rq g2⟩
    rw [g2.f (by omega) (by omega) (by omega) (by omega) (by omega) (by omega)]; exact c1
  · obtain ⟨h2, r2, f2⟩ := s_168n rl x pz1 d sm
    rw [if_neg (show ¬ (tkK f n pz = 3 ∧ f (tB f n pz) = 59) from sm), show fq 0 1 (tB f n pz) = 1 + 16 * ((tB f n pz : Nat) : Int) from if_pos rfl] at q3
    exact Or.inl ⟨_, h3, h2, _, by omega, p5, ⟨_, e1, e3, cl.1⟩, w3, q3, ⟨by rw [s3.2.2.1, z1]; omega, by rw [s3.2.2.2.1, z2]; omega⟩, e2 0 h2 (Or.inl rfl) r2, rd.tr f2.1.rd, f2.2⟩
theorem vF_0 {W H q : Int} {row : Nat → Int} (h : vF f n p W H row q) : q ≠ 0 := by
  have k1 := kdN_b f n p
  rcases h with ⟨_, z⟩ | ⟨_, ⟨_, z⟩ | ⟨_, z⟩⟩
  · omega
  · omega
  · exact plF_0 z
theorem tk_l (p1 : p ≤ n) (k : tkK f n p ≠ 0) : p + 1 ≤ tkE f n p := ((tk_n (f := f) p1).2.2 k).1
theorem ln_66 (X : XX hc hr f n p t e) (x : TX f n l) (p1 : p ≤ n) (hb : b ≤ t) (tk : tkK f n p ≠ 0) {D : Nat} (hD : 8 ≤ D) (d : Nat) : LOx f n t b D 66 [vr 103, vr t] (d + 4) 173 [vr 145] hc hr p := by
  have gd := X.gd (a2 := t + 2) (Or.inr rfl)
  have gr := X.gr
  obtain ⟨cl, rl, c, m, nm, y, ⟨c1, c2, c3⟩, mm, nc, nr⟩ := X
  have p2 := (tk_n (f := f) p1).2.1
  have p3 := (tk_n (f := f) p2).2.1
  have p4 := (tk_n (f := f) p3).2.1
  have p5 := (tk_n (f := f) p4).2.1
  have p6 := (tk_n (f := f) p5).2.1
  have t2 := gd.2.1
  have fb := y.2.2.1
  have k6 := k_66 cl x p1 hD gd
  have s7 := s_173 (row := h_mi hc (t + 2)) rl x p1 d gr (fun j hj => by rw [(y.2.1.2.1 j hj).2]; exact ⟨rfl, (fb.cc hj).2.1⟩)
  rcases v_cs f n (tkE f n p) (h_mi hr 147 5) (h_mi hr 147 6) (h_mi hc (t + 2)) with ⟨q, pf⟩ | po
  · obtain ⟨p', z, v, h1, e1, pp, g1, q1⟩ := k6.1 q pf
    obtain ⟨h2, e2, f2⟩ := s7.1 q pf
    have s1 := g1.sh
    exact ln_f x (vF_0 pf) (by omega) e1 q1 pp ((Wb.of g1).si (by omega) z v) s1.2.2.1 s1.2.2.2.1 e2 f2.1.rd f2.2
  · obtain ⟨h1, e1, g1, q1⟩ := k6.2 po
    obtain ⟨h0, g0, r0, e0⟩ := s7.2 po
    obtain ⟨v1, v2, v3⟩ := po
    have zz : (plZ f n (tkE f n (tkE f n (tkE f n p)))).toNat < 60 := by
      have a := v3.1.2; have b := v3.2.1.2; have := fb.b; unfold plZ; omega
    have l1 := tk_l p1 tk
    have l2 := (tk_n (f := f) p2).1
    have l3 := (tk_n (f := f) p3).1
    have l4 := (tk_n (f := f) p4).1
    have l5 := (tk_n (f := f) p5).1
    have s1 := g1.sh
    have v1' := v1.2
    have y1 : YY h1 h0 t c e := (y.kc cl.1 g1.kp).kr (g0.kr c)
    have y2 := y1.cu zz (v := tkN f n (tkE f n p)) (by omega) (by omega)
    have n1 := nc.qt g1
    have n3 := nr.rq g0
    refine ln_end (hB := sI h0 149 (60 + (plZ f n (tkE f n (tkE f n (tkE f n p)))).toNat) (tkN f n (tkE f n p))) (d := d + 1) x (by omega) p6 (by omega) e1 q1 ((Wb.of g1).si (by omega) _ _) s1.2.2.1 s1.2.2.2.1 (r0.sn (by omega) (by omega) _) (fun r h2 hr2 er => ?_) (g0.rd.si (by omega) (by omega) (by show 60 ≤ _; omega) (by show _ < 2 * 60; omega) _) y2 ?_ c2 (by omega) (m := m) (nm := nm) ?_ ⟨by rw [miI_ne _ _ _ (by omega)]; exact n1.1, n1.2⟩ ⟨by rw [miI_ne _ _ _ (by omega)]; exact n3.1, n3.2⟩
    · rw [e0, er, bI_s, q_173_55]
      rcases hr2 with z | z <;> subst z <;> rfl
    · rw [miI_ne _ _ _ (by omega), g0.f (by omega) (by omega) (by omega) (by omega) (by omega) (by omega)]; exact c1
    · rw [miI_ne _ _ _ (by omega), g0.sh.2.2.2.2.2.2 147 (by omega)]; exact mm
/-- what stands behind the last one counts for nothing -/
theorem YY.pz {c : Nat} (y : YY hc hr t c e) {a k : Nat} (ha : a = 151 ∨ a = 152 ∨ a = 153) (hk : h_mi hr 147 7 = (k : Int)) (v : Int) : YY hc (sI hr a (6 + k) v) t c e := by
  have fx := y.2.1
  have fb := y.2.2.1
  have sl : YY (sM hc (h_mi hc)) (sM hr (up2 (h_mi hr) a (6 + k) v)) t c e := y.wr (fun _ _ => rfl) (fun a ha => u2_ne _ _ _ (by omega)) (by
    have ne : ∀ p : Nat, (p : Int) < h_mi hr 147 7 → 6 + p ≠ 6 + k := fun p hp => by omega
    unfold FX at fx ⊢
    rcases ha with z | z | z <;> subst z <;> simp (disch := omega) only [u2_ne] <;> refine ⟨fx.1, fx.2.1, fun p hp => ?_, fx.2.2.2⟩ <;> rw [u2_no _ _ _ (ne p hp)] <;> exact fx.2.2.1 p hp) (by
    have ne : ∀ p : Nat, (p : Int) < h_mi hr 147 7 → 6 * 1 + p ≠ 6 + k := fun p hp => by omega
    unfold FB at fb ⊢
    obtain ⟨f1, f2, f3, f4, f5, f6, f7, f8⟩ := fb
    rcases ha with z | z | z <;> subst z <;> simp (disch := omega) only [u2_ne] <;> refine ⟨f1, f2, f3, f4, f5, f6, fun p hp => ?_, f8⟩ <;> rw [u2_no _ _ _ (ne p hp)] <;> exact f7 p hp)
  rw [sM_self] at sl
  exact sl
theorem YY.lz {c : Nat} (y : YY hc hr t c e) {a k : Nat} (ha : a = 154 ∨ a = 155 ∨ a = 156) (hk : h_mi hr 147 8 = (k : Int)) (v : Int) : YY hc (sI hr a (7 + k) v) t c e := by
  have fx := y.2.1
  have fb := y.2.2.1
  have sl : YY (sM hc (h_mi hc)) (sM hr (up2 (h_mi hr) a (7 + k) v)) t c e := y.wr (fun _ _ => rfl) (fun a ha => u2_ne _ _ _ (by omega)) (by
    have ne : ∀ p : Nat, (p : Int) < h_mi hr 147 8 → 7 + p ≠ 7 + k := fun p hp => by omega
    unfold FX at fx ⊢
    rcases ha with z | z | z <;> subst z <;> simp (disch := omega) only [u2_ne] <;> refine ⟨fx.1, fx.2.1, fx.2.2.1, fun p hp => ?_⟩ <;> rw [u2_no _ _ _ (ne p hp)] <;> exact fx.2.2.2 p hp) (by
    have ne : ∀ p : Nat, (p : Int) < h_mi hr 147 8 → 7 * 1 + p ≠ 7 + k := fun p hp => by omega
    unfold FB at fb ⊢
    obtain ⟨f1, f2, f3, f4, f5, f6, f7, f8⟩ := fb
    rcases ha with z | z | z <;> subst z <;> simp (disch := omega) only [u2_ne] <;> refine ⟨f1, f2, f3, f4, f5, f6, f7, fun p hp => ?_⟩ <;> rw [u2_no _ _ _ (ne p hp)] <;> exact f8 p hp)
  rw [sM_self] at sl
  exact sl
theorem YY.pr {c k : Nat} (y : YY hc hr t c e) (hk : h_mi hr 147 7 = (k : Int)) (k6 : k < 6) {u v w : Int} (e1 : h_mi hr 151 (6 + k) = u) (e2 : h_mi hr 152 (6 + k) = v) (e3 : h_mi hr 153 (6 + k) = w) (u1 : 0 ≤ u ∧ u ≤ 1) (v1 : 0 ≤ v ∧ v ≤ 3) (w1 : 0 ≤ w ∧ w ≤ 99) : YY (pr4 hc t k u v w) (sI hr 147 7 ((k + 1 : Nat) : Int)) t c e := by
  have fx := y.2.1
  have fb := y.2.2.1
  have t2 := y.1.2
  show YY (sM hc (up2 (up2 (up2 (up2 (h_mi hc) (t + 3) k u) (t + 4) k v) (t + 5) k w) t 12 ((k + 1 : Nat) : Int))) (sM hr (up2 (h_mi hr) 147 7 ((k + 1 : Nat) : Int))) t c e
  refine y.wr (fun a ha => by simp (disch := omega) only [u2_ne]) (fun a ha => u2_ne _ _ _ (by omega)) ?_ ?_
  · obtain ⟨⟨x1, x2, x3, x4, x5⟩, x6, x7, x8⟩ := fx
    unfold FX
    simp (disch := omega) only [u2_ne, u2_no, u2_at]
    refine ⟨⟨x1, x2, trivial, x4, x5⟩, x6, fun p hp => ?_, x8⟩
    by_cases q : p = k
    · subst q
      rw [u2_at, u2_at, u2_at, e1, e2, e3]; exact ⟨rfl, rfl, rfl⟩
    · rw [u2_no _ _ _ q, u2_no _ _ _ q, u2_no _ _ _ q]
      simp (disch := omega) only [u2_ne]
      exact x7 p (by omega)
  · obtain ⟨f1, f2, f3, f4, f5, f6, f7, f8⟩ := fb
    unfold FB
    simp (disch := omega) only [u2_ne, u2_no, u2_at, show 5 * 1 + 2 = 7 from rfl]
    refine ⟨f1, f2, by omega, f4, f5, f6, fun p hp => ?_, f8⟩
    by_cases q : p = k
    · subst q
      rw [show 6 * 1 + p = 6 + p by omega, e1, e2, e3]; exact ⟨u1, v1, w1⟩
    · exact f7 p (by show (p : Int) < h_mi hr 147 7; omega)
end
