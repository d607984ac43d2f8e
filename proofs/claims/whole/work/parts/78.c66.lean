/-! lines are read: both sides at once; ground, current -/
section
variable {hc hr : HP} {t c : Nat} {e : Nat → (Nat → Int) → Int}
/-- the place is written, both sides alike -/
theorem YY.wr (y : YY hc hr t c e) {A B : MM} (ga : ∀ a, a < t ∨ t + 8 < a → A a = h_mi hc a) (gb : ∀ a, a < 147 ∨ 156 < a → B a = h_mi hr a) (fx : FX A B t) (fb : FB B 1) : YY (sM hc A) (sM hr B) t c e := by
  obtain ⟨⟨⟨j, z1, z2⟩, t2⟩, _, _, lk, ⟨o1, o2, o3⟩⟩ := y
  have g3 : A 103 = h_mi hc 103 := ga 103 (by omega)
  have g7 : B 157 = h_mi hr 157 := gb 157 (by omega)
  have g8 : B 158 = h_mi hr 158 := gb 158 (by omega)
  have g9 : B 159 = h_mi hr 159 := gb 159 (by omega)
  refine ⟨⟨⟨j, z1, z2⟩, t2⟩, fx, fb, fun l hl => ?_, ⟨by rw [mi_sM, g3]; exact o1, fun l hl => by rw [mi_sM, mi_sM, g3, g7, g8]; exact o2 l hl, by rw [mi_sM, mi_sM, g3, gb 145 (by omega)]; exact o3⟩⟩
  obtain ⟨l1, l2, l3, l4, l5, l6⟩ := lk l hl
  refine ⟨LC.cg (h := hc) l1 rfl (ga _ ?_), l2.ag g7 g8 g9, l3, by rw [mi_sM, g7]; exact l4, by rw [mi_sM, g7, g8]; exact l5, by rw [mi_sM, g8]; exact l6⟩
  obtain ⟨u1, _, u3⟩ := j.2.2.2.2 l hl
  have k2 := j.2.1
  rw [mr_sM]
  generalize hL : h_mr hc t (l + 15) = L at *
  by_cases q : t ≤ L + 1 ∧ L + 1 ≤ t + 8
  · exfalso
    by_cases q0 : L + 1 = t
    · rw [q0, k2] at u3; omega
    · by_cases q1 : L = t
      · rw [q1, k2] at u1; omega
      · have := (j.2.2.1 (L - t - 1) (by omega)).1
        rw [show t + (L - t - 1 + 1) = L by omega, u1] at this; omega
  · omega
theorem FB.b (f : FB (h_mi hr) 1) : (2 ≤ h_mi hr 147 5 ∧ h_mi hr 147 5 ≤ 10) ∧ (1 ≤ h_mi hr 147 6 ∧ h_mi hr 147 6 ≤ 6) ∧ (0 ≤ h_mi hr 147 7 ∧ h_mi hr 147 7 ≤ 6) ∧ (0 ≤ h_mi hr 147 8 ∧ h_mi hr 147 8 ≤ 7) ∧ (0 ≤ h_mi hr 147 9 ∧ h_mi hr 147 9 ≤ 10) := ⟨f.1, f.2.1, f.2.2.1, f.2.2.2.1, f.2.2.2.2.1⟩
theorem FB.cc (f : FB (h_mi hr) 1) {z : Nat} (hz : z < 60) : (0 ≤ h_mi hr 148 (60 + z) ∧ h_mi hr 148 (60 + z) ≤ 2) ∧ 0 ≤ h_mi hr 149 (60 + z) ∧ h_mi hr 149 (60 + z) ≤ 9 := f.2.2.2.2.2.1 z hz
theorem YY.gr (y : YY hc hr t c e) {z : Nat} (z6 : z < 60) {v : Int} (v0 : 0 ≤ v) (v2 : v ≤ 2) : YY (sI hc (t + 1) z v) (sI hr 148 (60 + z) v) t c e := by
  have fx := y.2.1
  have fb := y.2.2.1
  rw [sI_h, sI_h]
  refine y.wr (fun a ha => u2_ne _ _ _ (by omega)) (fun a ha => u2_ne _ _ _ (by omega)) ?_ ?_
  · unfold FX at fx ⊢
    simp (disch := omega) only [u2_ne]
    refine ⟨fx.1, fun k hk => ?_, fx.2.2⟩
    rw [u2_eq, u2_eq]
    by_cases q : k = z
    · subst q; rw [up_eq, up_eq]; exact ⟨rfl, (fx.2.1 k hk).2⟩
    · rw [up_ne _ _ q, up_ne _ _ (by omega)]; exact fx.2.1 k hk
  · unfold FB at fb ⊢
    simp (disch := omega) only [u2_ne]
    obtain ⟨f1, f2, f3, f4, f5, f6, f7⟩ := fb
    refine ⟨f1, f2, f3, f4, f5, fun k hk => ?_, f7⟩
    rw [u2_eq]
    by_cases q : k = z
    · subst q
      rw [show 60 * 1 + k = 60 + k by omega, up_eq]; exact ⟨⟨v0, v2⟩, (f6 k hk).2⟩
    · rw [up_ne _ _ (by omega)]; exact f6 k hk
theorem YY.cu (y : YY hc hr t c e) {z : Nat} (z6 : z < 60) {v : Int} (v0 : 0 ≤ v) (v2 : v ≤ 9) : YY (sI hc (t + 2) z v) (sI hr 149 (60 + z) v) t c e := by
  have fx := y.2.1
  have fb := y.2.2.1
  rw [sI_h, sI_h]
  refine y.wr (fun a ha => u2_ne _ _ _ (by omega)) (fun a ha => u2_ne _ _ _ (by omega)) ?_ ?_
  · unfold FX at fx ⊢
    simp (disch := omega) only [u2_ne]
    refine ⟨fx.1, fun k hk => ?_, fx.2.2⟩
    rw [u2_eq, u2_eq]
    by_cases q : k = z
    · subst q; rw [up_eq, up_eq]; exact ⟨(fx.2.1 k hk).1, rfl⟩
    · rw [up_ne _ _ q, up_ne _ _ (by omega)]; exact fx.2.1 k hk
  · unfold FB at fb ⊢
    simp (disch := omega) only [u2_ne]
    obtain ⟨f1, f2, f3, f4, f5, f6, f7⟩ := fb
    refine ⟨f1, f2, f3, f4, f5, fun k hk => ?_, f7⟩
    rw [u2_eq]
    by_cases q : k = z
    · subst q
      rw [show 60 * 1 + k = 60 + k by omega, up_eq]; exact ⟨(f6 k hk).1, v0, v2⟩
    · rw [up_ne _ _ (by omega)]; exact f6 k hk
end
def XX (hc hr : HP) (f : Nat → Int) (n p t : Nat) (e : Nat → (Nat → Int) → Int) : Prop := CL hc f n p 0 ∧ RL hr f n p ∧ ∃ (c m : Nat) (nm : Nat → Int), YY hc hr t c e ∧ (h_mi hr 145 24 = (c : Int) ∧ 1000 ≤ c ∧ c ≤ 1000 + p) ∧ (m : Int) = h_mi hr 147 7 + h_mi hr 147 8 ∧ NmC hc m nm ∧ NmR hr m nm
def C2 (D K : Nat) (as : List AV) (h h1 : HP) : Prop := ∃ h0, ev D K as h = some (vr 0, h0) ∧ ev (D + 1) 79 [vr 103, vi 59] h0 = some (vr 0, h1) ∧ CSk h0
/-- a line on both sides: one fault, or both go on -/
def LOx (f : Nat → Int) (n t b D K : Nat) (as : List AV) (d K' : Nat) (bs : List AV) (hc hr : HP) (p : Nat) : Prop :=
  (∃ q h1 h2 p', q ≠ 0 ∧ p' ≤ n ∧ C2 D K as hc h1 ∧ Wb b hc h1 ∧ CL h1 f n p' q ∧ (h_sz h1 ≤ h_sz hc + 2 ∧ h_sl h1 ≤ h_sl hc + 1001) ∧ ev d K' bs hr = some (vi 0, h2) ∧ Rd hr h2 ∧ h_mi h2 145 9 = q) ∨
  (∃ h1 h2 p' e', (p + 2 ≤ p' ∧ p' ≤ n) ∧ C2 D K as hc h1 ∧ Wb b hc h1 ∧ (h_sz h1 + p ≤ h_sz hc + p' ∧ h_sl h1 + 2 * p ≤ h_sl hc + 2 * p') ∧ ev d K' bs hr = some (vi 1, h2) ∧ Rd hr h2 ∧ XX h1 h2 f n p' t e')
section
variable {hc hr : HP} {f : Nat → Int} {n l p t b : Nat} {e : Nat → (Nat → Int) → Int}
theorem XX.gd (X : XX hc hr f n p t e) {a2 : Nat} (ha : a2 = t + 1 ∨ a2 = t + 2) : Gd hc t a2 (h_mi hr 147 5) (h_mi hr 147 6) := by
  obtain ⟨_, _, c, m, nm, y, _⟩ := X
  have fx := y.2.1.1
  have fb := y.2.2.1.b
  exact ⟨y.1.1.1, y.1.2, ⟨fx.1, fx.2.1⟩, ⟨by omega, by omega, by omega, by omega⟩, ha⟩
theorem XX.gr (X : XX hc hr f n p t e) : GdR hr (h_mi hr 147 5) (h_mi hr 147 6) := by
  obtain ⟨_, _, c, m, nm, y, _⟩ := X
  have fb := y.2.2.1.b
  exact ⟨⟨rfl, rfl⟩, by omega, by omega, by omega, by omega⟩
theorem Wb.of {h h1 : HP} (g : Qt h h1) : Wb b h h1 := g.kp.wb b
theorem plF_0 {W H q : Int} {row : Nat → Int} (h : plF f n p W H row q) : q ≠ 0 := by
  have k1 := kdN_b f n p
  have k2 := kdN_b f n (tkE f n p)
  rcases h with ⟨_, z⟩ | ⟨_, ⟨_, z⟩ | ⟨_, _, z⟩⟩ <;> omega
/-- a fault on the class's side, then the semicolon -/
theorem c2_w {D K : Nat} {as : List AV} {h h0 : HP} {p' : Nat} {q : Int} (x : TX f n l) (q0 : q ≠ 0) (e1 : ev D K as h = some (vr 0, h0)) (hD : 5 ≤ D) (p1 : p' ≤ n) (c : CL h0 f n p' q) : ∃ h1 p2, p2 ≤ n ∧ C2 D K as h h1 ∧ Qt h0 h1 ∧ CL h1 f n p2 q := by
  obtain ⟨h1, e2, g2, c2⟩ := k_79w c q0 x p1 (D := D + 1) (by omega) 59
  exact ⟨h1, _, (tk_n p1).2.1, ⟨h0, e1, e2, c.1⟩, g2, c2⟩
def smP (f : Nat → Int) (n p : Nat) : Prop := tkK f n p = 3 ∧ f (tB f n p) = 59
theorem ln_65 (X : XX hc hr f n p t e) (x : TX f n l) (p1 : p ≤ n) (hb : b ≤ t) (tk : tkK f n p ≠ 0) {v : Int} (v1 : 1 ≤ v) (v2 : v ≤ 2) {D : Nat} (hD : 8 ≤ D) (d : Nat) : LOx f n t b D 65 [vr 103, vr t, vi v] (d + 4) 172 [vr 145, vi v] hc hr p := by
  have gd := X.gd (a2 := t + 1) (Or.inl rfl)
  have gr := X.gr
  obtain ⟨cl, rl, c, m, nm, y, ⟨c1, c2, c3⟩, mm, nc, nr⟩ := X
  have p2 := (tk_n (f := f) p1).2.1
  have p3 := (tk_n (f := f) p2).2.1
  have p4 := (tk_n (f := f) p3).2.1
  have p5 := (tk_n (f := f) p4).2.1
  have t2 := gd.2.1
  have fb := y.2.2.1
  have k6 := k_65 cl x p1 hD gd v
  have s7 := s_172 (row := h_mi hc (t + 1)) rl x p1 d v gr (fun j hj => by rw [(y.2.1.2.1 j hj).1]; exact ⟨rfl, (fb.cc hj).1.1⟩)
  rcases pl_c f n (tkE f n p) (h_mi hr 147 5) (h_mi hr 147 6) (h_mi hc (t + 1)) with ⟨q, pf⟩ | po
  · obtain ⟨p', z, h1, e1, pp, g1, q1⟩ := k6.1 q pf
    obtain ⟨h2, e2, f2⟩ := s7.1 q pf
    obtain ⟨h3, p6, pp6, ca, g3, q3⟩ := c2_w x (plF_0 pf) e1 (by omega) pp q1
    left
    refine ⟨q, h3, h2, p6, plF_0 pf, pp6, ca, ((Wb.of g1).si (by omega) z v).tr (Wb.of g3), q3, ?_, e2, f2.1.rd, f2.2⟩
    have s1 := g1.sh; have s3 := g3.sh
    have z1 : h_sz h3 = h_sz hc := s3.2.2.1.trans s1.2.2.1
    have z2 : h_sl h3 = h_sl hc := s3.2.2.2.1.trans s1.2.2.2.1
    omega
  · obtain ⟨h1, e1, g1, q1⟩ := k6.2 po
    obtain ⟨h0, g0, sy, sn⟩ := s7.2 po
    have zz : (10 * tkN f n (tkE f n (tkE f n p)) + tkN f n (tkE f n p)).toNat < 60 := by
      have a := po.1.2; have b := po.2.1.2; have := fb.b; omega
    have kk2 : tkK f n (tkE f n p) ≠ 0 := by rw [po.1.1]; omega
    have kk3 : tkK f n (tkE f n (tkE f n p)) ≠ 0 := by rw [po.2.1.1]; omega
    have l1 := ((tk_n (f := f) p1).2.2 tk).1
    have l2 := ((tk_n (f := f) p2).2.2 kk2).1
    have l3 := ((tk_n (f := f) p3).2.2 kk3).1
    have l4 := (tk_n (f := f) p4).1
    obtain ⟨h3, e3, g3, q3⟩ := k_79 q1 x p4 (D := D + 1) (by omega) 59
    have wb : Wb b hc h3 := ((Wb.of g1).si (by omega) _ v).tr (Wb.of g3)
    have s1 := g1.sh; have s3 := g3.sh
    have z1 : h_sz h3 = h_sz hc := s3.2.2.1.trans s1.2.2.1
    have z2 : h_sl h3 = h_sl hc := s3.2.2.2.1.trans s1.2.2.2.1
    by_cases sm : smP f n (tkE f n (tkE f n (tkE f n p)))
    · obtain ⟨h2, e2, g2, r2⟩ := sy sm
      rw [if_pos (show tkK f n (tkE f n (tkE f n (tkE f n p))) = 3 ∧ f (tB f n (tkE f n (tkE f n (tkE f n p)))) = 59 from sm)] at q3
      have kk4 : tkK f n (tkE f n (tkE f n (tkE f n p))) ≠ 0 := by rw [sm.1]; omega
      have l5 := ((tk_n (f := f) p4).2.2 kk4).1
      right
      have y1 : YY h1 h0 t c e := (y.kc cl.1 g1.kp).kr (g0.kr c)
      have y2 := y1.gr zz (v := v) (by omega) v2
      have y3 := (y2.kc q1.1 g3.kp).kr (g2.kr c)
      have m7 : h_mi h2 147 = h_mi hr 147 := by rw [g2.sh.2.2.2.2.2.2 147 (by omega), miI_ne _ _ _ (by omega), g0.sh.2.2.2.2.2.2 147 (by omega)]
      refine ⟨h3, h2, _, e, ⟨by omega, p5⟩, ⟨_, e1, e3, q1.1⟩, wb, by omega, e2, (g0.rd.si (by omega) (by omega) (by show 60 ≤ _; omega) (by show _ < 2 * 60; omega) v).tr g2.rd, q3, r2, c, m, nm, y3, ⟨?_, c2, by omega⟩, by rw [m7]; exact mm, ?_, ?_⟩
      · rw [g2.f (by omega) (by omega) (by omega) (by omega) (by omega) (by omega), miI_ne _ _ _ (by omega), g0.f (by omega) (by omega) (by omega) (by omega) (by omega) (by omega)]; exact c1
      · have n1 := nc.qt g1
        have n2 : NmC (sI h1 (t + 1) (10 * tkN f n (tkE f n (tkE f n p)) + tkN f n (tkE f n p)).toNat v) m nm := ⟨by rw [miI_ne _ _ _ (by omega)]; exact n1.1, n1.2⟩
        exact n2.qt g3
      · have n1 := nr.rq g0
        have n2 : NmR (sI h0 148 (60 + (10 * tkN f n (tkE f n (tkE f n p)) + tkN f n (tkE f n p)).toNat) v) m nm := ⟨by rw [miI_ne _ _ _ (by omega)]; exact n1.1, n1.2⟩
        exact n2.rq g2
    · obtain ⟨h2, e2, f2⟩ := sn sm
      rw [if_neg (show ¬ (tkK f n (tkE f n (tkE f n (tkE f n p))) = 3 ∧ f (tB f n (tkE f n (tkE f n (tkE f n p)))) = 59) from sm), show fq 0 1 (tB f n (tkE f n (tkE f n (tkE f n p)))) = 1 + 16 * ((tB f n (tkE f n (tkE f n (tkE f n p))) : Nat) : Int) from if_pos rfl] at q3
      left
      exact ⟨_, h3, h2, _, by omega, p5, ⟨_, e1, e3, q1.1⟩, wb, q3, by omega, e2, (g0.rd.si (by omega) (by omega) (by show 60 ≤ _; omega) (by show _ < 2 * 60; omega) v).tr f2.1.rd, f2.2⟩
end
