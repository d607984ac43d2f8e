/-! laws: what the reference works out of a line; the state's bounds -/
abbrev EE : Type := Nat → Nat → (Nat → Int) → Int
def WkA : Nat → Prop := fun a => 162 ≤ a ∧ a ≤ 170
def LwA : Nat → Prop := fun a => 162 ≤ a ∧ a ≤ 171
/-- a line of n codes c is worked out to e of the facts -/
def WkL (c : Nat → Int) (n : Int) (e : (Nat → Int) → Int) : Prop := ∀ (h : HP) (N : MM) (d : Nat) (i : Int), RSk h → 0 ≤ i → i < 24 → 0 ≤ N 157 i.toNat → N 158 i.toNat = N 157 i.toNat + n → N 157 i.toNat + n ≤ 6000 → (∀ j : Int, 0 ≤ j → j < n → N 159 (N 157 i.toNat + j).toNat = c j.toNat) →
  ∃ N', ev (d + 2) 163 [vr 145, vi i] (sM h N) = some (vi (e (fun k => N 171 (k + 1))), sM h N') ∧ Ag WkA N N'
def al (l k : Nat) : Prop := (l ≤ 1 ∧ k ≤ 4) ∨ (l = 2 ∧ k ≤ 5) ∨ (l = 3 ∧ (k ≤ 1 ∨ (6 ≤ k ∧ k ≤ 8)))
def AlE (l : Nat) (e : (Nat → Int) → Int) : Prop := ∀ f g : Nat → Int, (∀ k, al l k → f k = g k) → e f = e g
def dfl (l : Nat) : (Nat → Int) → Int := fun f => if l = 0 then 2 else if l = 1 then 1 else if l = 2 then f 5 else f 7
/-- law l of place r in the reference's rows -/
def LR (M : MM) (e : (Nat → Int) → Int) (r l : Nat) : Prop :=
  (M 158 (4 * r + l) = M 157 (4 * r + l) ∧ e = dfl l) ∨ (0 ≤ M 157 (4 * r + l) ∧ M 157 (4 * r + l) < M 158 (4 * r + l) ∧ M 158 (4 * r + l) ≤ 6000 ∧ ∃ c, WkL c (M 158 (4 * r + l) - M 157 (4 * r + l)) e ∧ ∀ j : Int, 0 ≤ j → j < M 158 (4 * r + l) - M 157 (4 * r + l) → M 159 (M 157 (4 * r + l) + j).toNat = c j.toNat)
theorem LR.ag {M N : MM} {e : (Nat → Int) → Int} {r l : Nat} (h : LR M e r l) (h1 : N 157 = M 157) (h2 : N 158 = M 158) (h3 : N 159 = M 159) : LR N e r l := by
  unfold LR at h ⊢; rw [h1, h2, h3]; exact h
/-- a fjord's numbers -/
def FB (M : MM) (r : Nat) : Prop := (2 ≤ M 147 (5 * r) ∧ M 147 (5 * r) ≤ 10) ∧ (1 ≤ M 147 (5 * r + 1) ∧ M 147 (5 * r + 1) ≤ 6) ∧ (0 ≤ M 147 (5 * r + 2) ∧ M 147 (5 * r + 2) ≤ 6) ∧ (0 ≤ M 147 (5 * r + 3) ∧ M 147 (5 * r + 3) ≤ 7) ∧ (0 ≤ M 147 (5 * r + 4) ∧ M 147 (5 * r + 4) ≤ 10) ∧
  (∀ c, c < 60 → (0 ≤ M 148 (60 * r + c) ∧ M 148 (60 * r + c) ≤ 2) ∧ 0 ≤ M 149 (60 * r + c) ∧ M 149 (60 * r + c) ≤ 9) ∧
  (∀ p : Nat, (p : Int) < M 147 (5 * r + 2) → (0 ≤ M 151 (6 * r + p) ∧ M 151 (6 * r + p) ≤ 1) ∧ (0 ≤ M 152 (6 * r + p) ∧ M 152 (6 * r + p) ≤ 3) ∧ 0 ≤ M 153 (6 * r + p) ∧ M 153 (6 * r + p) ≤ 99) ∧
  ∀ l : Nat, (l : Int) < M 147 (5 * r + 3) → (0 ≤ M 154 (7 * r + l) ∧ M 154 (7 * r + l) ≤ 4) ∧ (1 ≤ M 155 (7 * r + l) ∧ M 155 (7 * r + l) ≤ 50) ∧ 0 ≤ M 156 (7 * r + l) ∧ M 156 (7 * r + l) ≤ 99
/-- a row s of what changes, on the fjord of place r -/
def SB (M : MM) (r : Nat) (S : Nat → Int) : Prop := (∀ c, c < 60 → (0 ≤ S c ∧ S c ≤ 99) ∧ (0 ≤ S (60 + c) ∧ S (60 + c) ≤ 100) ∧ (M 148 (60 * r + c) = 1 → S c = 0 ∧ S (60 + c) = 0)) ∧
  (∀ p : Nat, p < 6 → (0 ≤ S (120 + p) ∧ S (120 + p) ≤ 99) ∧ 0 ≤ S (126 + p) ∧ S (126 + p) ≤ 999) ∧ (0 ≤ S 132 ∧ S 132 ≤ 127) ∧ (0 ≤ S 133 ∧ S 133 ≤ 23) ∧ (0 ≤ S 134 ∧ S 134 ≤ 1000000) ∧ ∀ k, 138 ≤ k → k < 144 → S k = 0
/-- the current state is a good one -/
def VM (M : MM) (E : EE) : Prop := FB M 0 ∧ SB M 0 (M 172) ∧ ∀ l, l < 4 → LR M (E 0 l) 0 l ∧ AlE l (E 0 l)
theorem VM.c {M : MM} {E : EE} (v : VM M E) : 2 ≤ M 147 0 ∧ M 147 0 ≤ 10 := v.1.1
theorem VM.r {M : MM} {E : EE} (v : VM M E) : 1 ≤ M 147 1 ∧ M 147 1 ≤ 6 := v.1.2.1
theorem VM.p {M : MM} {E : EE} (v : VM M E) : 0 ≤ M 147 2 ∧ M 147 2 ≤ 6 := v.1.2.2.1
theorem VM.l {M : MM} {E : EE} (v : VM M E) : 0 ≤ M 147 3 ∧ M 147 3 ≤ 7 := v.1.2.2.2.1
theorem VM.md {M : MM} {E : EE} (v : VM M E) : 0 ≤ M 147 4 ∧ M 147 4 ≤ 10 := v.1.2.2.2.2.1
theorem VM.g {M : MM} {E : EE} (v : VM M E) {c : Nat} (h : c < 60) : (0 ≤ M 148 c ∧ M 148 c ≤ 2) ∧ 0 ≤ M 149 c ∧ M 149 c ≤ 9 := by
  have := v.1.2.2.2.2.2.1 c h
  rw [Nat.mul_zero, Nat.zero_add] at this
  exact this
theorem VM.pr {M : MM} {E : EE} (v : VM M E) {p : Nat} (h : (p : Int) < M 147 2) : (0 ≤ M 151 p ∧ M 151 p ≤ 1) ∧ (0 ≤ M 152 p ∧ M 152 p ≤ 3) ∧ 0 ≤ M 153 p ∧ M 153 p ≤ 99 := by
  have := v.1.2.2.2.2.2.2.1 p h
  rw [Nat.mul_zero, Nat.zero_add] at this
  exact this
theorem VM.ld {M : MM} {E : EE} (v : VM M E) {l : Nat} (h : (l : Int) < M 147 3) : (0 ≤ M 154 l ∧ M 154 l ≤ 4) ∧ (1 ≤ M 155 l ∧ M 155 l ≤ 50) ∧ 0 ≤ M 156 l ∧ M 156 l ≤ 99 := by
  have := v.1.2.2.2.2.2.2.2 l h
  rw [Nat.mul_zero, Nat.zero_add] at this
  exact this
theorem VM.s {M : MM} {E : EE} (v : VM M E) {c : Nat} (h : c < 60) : (0 ≤ M 172 c ∧ M 172 c ≤ 99) ∧ (0 ≤ M 172 (60 + c) ∧ M 172 (60 + c) ≤ 100) ∧ (M 148 c = 1 → M 172 c = 0 ∧ M 172 (60 + c) = 0) := by
  have := v.2.1.1 c h
  rw [Nat.mul_zero, Nat.zero_add] at this
  exact this
theorem VM.lf {M : MM} {E : EE} (v : VM M E) {p : Nat} (h : p < 6) : (0 ≤ M 172 (120 + p) ∧ M 172 (120 + p) ≤ 99) ∧ 0 ≤ M 172 (126 + p) ∧ M 172 (126 + p) ≤ 999 := v.2.1.2.1 p h
theorem VM.ov {M : MM} {E : EE} (v : VM M E) : 0 ≤ M 172 132 ∧ M 172 132 ≤ 127 := v.2.1.2.2.1
theorem VM.hr {M : MM} {E : EE} (v : VM M E) : 0 ≤ M 172 133 ∧ M 172 133 ≤ 23 := v.2.1.2.2.2.1
theorem VM.nt {M : MM} {E : EE} (v : VM M E) : 0 ≤ M 172 134 ∧ M 172 134 ≤ 1000000 := v.2.1.2.2.2.2.1
/-- the reference's rows that a question leaves as they are -/
def RsA : Nat → Prop := fun a => a = 145 ∨ (160 ≤ a ∧ a ≤ 171) ∨ a = 173 ∨ (176 ≤ a ∧ a ≤ 179)
theorem FB.ag {M N : MM} {r : Nat} (h : FB M r) (g : Ag RsA M N) : FB N r := by
  unfold FB at h ⊢
  rw [g 147 (by unfold RsA; omega), g 148 (by unfold RsA; omega), g 149 (by unfold RsA; omega), g 151 (by unfold RsA; omega), g 152 (by unfold RsA; omega), g 153 (by unfold RsA; omega), g 154 (by unfold RsA; omega), g 155 (by unfold RsA; omega), g 156 (by unfold RsA; omega)]
  exact h
theorem VM.ag {M N : MM} {E : EE} (h : VM M E) (g : Ag RsA M N) : VM N E := by
  refine ⟨h.1.ag g, ?_, fun l hl => ⟨(h.2.2 l hl).1.ag (g _ (by unfold RsA; omega)) (g _ (by unfold RsA; omega)) (g _ (by unfold RsA; omega)), (h.2.2 l hl).2⟩⟩
  have h2 := h.2.1
  unfold SB at h2 ⊢
  rw [g 148 (by unfold RsA; omega), g 172 (by unfold RsA; omega)]
  exact h2
/-- the facts of a cell -/
def fcl (M : MM) (c hr nt : Int) : Nat → Int := fun k => if k = 0 then hr else if k = 1 then nt else if k = 2 then c % 10 else if k = 3 then c / 10 else if k = 4 then M 149 c.toNat else 0
def frV (M : MM) (E : EE) (c hr nt : Int) : Int := c9 (E 0 0 (fcl M c hr nt))
def meV (M : MM) (E : EE) (c hr nt : Int) : Int := c9 (E 0 1 (fcl M c hr nt))
def grV (M : MM) (E : EE) (c hr nt : Int) : Int := if M 148 c.toNat = 2 then frV M E c hr nt / 2 else frV M E c hr nt
theorem frV_b (M : MM) (E : EE) (c hr nt : Int) : 0 ≤ frV M E c hr nt ∧ frV M E c hr nt ≤ 9 := c9_b _
theorem meV_b (M : MM) (E : EE) (c hr nt : Int) : 0 ≤ meV M E c hr nt ∧ meV M E c hr nt ≤ 9 := c9_b _
theorem grV_b (M : MM) (E : EE) (c hr nt : Int) : 0 ≤ grV M E c hr nt ∧ grV M E c hr nt ≤ 9 := by
  have := frV_b M E c hr nt
  unfold grV; split <;> omega
theorem fcl_ag {M N : MM} (h : N 149 = M 149) (c hr nt : Int) : fcl N c hr nt = fcl M c hr nt := by unfold fcl; rw [h]
theorem frV_ag {M N : MM} (h : N 149 = M 149) (E : EE) (c hr nt : Int) : frV N E c hr nt = frV M E c hr nt := by unfold frV; rw [fcl_ag h]
theorem meV_ag {M N : MM} (h : N 149 = M 149) (E : EE) (c hr nt : Int) : meV N E c hr nt = meV M E c hr nt := by unfold meV; rw [fcl_ag h]
theorem grV_ag {M N : MM} (h : N 149 = M 149) (h2 : N 148 = M 148) (E : EE) (c hr nt : Int) : grV N E c hr nt = grV M E c hr nt := by unfold grV; rw [frV_ag h, h2]
/-- lawOf: frost (l = 0), melt (l = 1) -/
theorem m_190 {E : EE} (d : Nat) (l : Nat) (c hr nt wo : Int) (h : HP) (w : RSk h) (v : VM (h_mi h) E) (hl : l ≤ 1) (hwo : wo = dfl l (fun _ => 0)) (c0 : 0 ≤ c) (c1 : c < 60) : ∃ N, ev (d + 3) 190 [vr 145, vi l, vi c, vi hr, vi nt, vi wo] h = some (vi (c9 (E 0 l (fcl (h_mi h) c hr nt))), sM h N) ∧ Ag LwA (h_mi h) N := by
  obtain ⟨lr, ale⟩ := v.2.2 l (by omega)
  have el : ((l : Int)).toNat = l := by omega
  rw [v_190, q_190_0 (d + 2) l c hr nt wo h w, el]
  simp (disch := first | assumption | omega) only [mi_sM, sI_sM, sRi_sM, isK_sM, inb_sM, ln_sM, mr_sM, ml_sM, dt, df, ia, is_, zb, bI_s, bV_s, bR_s]
  have e4 : 4 * 0 + l = l := by omega
  unfold LR at lr
  rw [e4] at lr
  rcases lr with ⟨l1, l2⟩ | ⟨l1, l2, l3, cc, l4, l5⟩
  · rw [df (by omega)]
    refine ⟨h_mi h, ?_, Ag.rf _⟩
    rw [l2]
    have : c9 (dfl l (fcl (h_mi h) c hr nt)) = wo := by
      subst hwo
      have : l = 0 ∨ l = 1 := by omega
      rcases this with rfl | rfl <;> rfl
    rw [this]; rfl
  · rw [dt (by omega), v_189, q_189_0 (d + 2) c hr nt h w]
    simp (disch := first | assumption | omega) only [mi_sM, sI_sM, sRi_sM, isK_sM, inb_sM, ln_sM, mr_sM, ml_sM, dt, df, ia, is_, zb, bI_s, bV_s, bR_s, ir, id_]
    simp only [sI_h, sM_sM, mi_sM]
    generalize hN : up2 (up2 (up2 (up2 (up2 (h_mi h) 171 1 hr) 171 2 nt) 171 3 (c % 10)) 171 4 (c / 10)) 171 5 (h_mi h 149 c.toNat) = N
    have gN : Ag (fun a => a = 171) (h_mi h) N := by
      intro b hb
      have hb : b ≠ 171 := hb
      rw [← hN, u2_ne _ _ _ hb, u2_ne _ _ _ hb, u2_ne _ _ _ hb, u2_ne _ _ _ hb, u2_ne _ _ _ hb]
    rw [q_190_26 (d + 2) _ _ _ _ _ (sM h N) w]
    obtain ⟨N', e1, g1⟩ := l4 h N d l w (by omega) (by omega) (by rw [el, gN 157 (by omega)]; omega) (by rw [el, gN 157 (by omega), gN 158 (by omega)]; omega) (by rw [el, gN 157 (by omega)]; omega) (fun j j0 j1 => by rw [el, gN 157 (by omega), gN 159 (by omega)]; exact l5 j j0 j1)
    rw [e1, bI_s, q_190_31, m_149 _ _ _ _ (by omega), bI_s, q_190_37]
    have e5 : E 0 l (fun k => N 171 (k + 1)) = E 0 l (fcl (h_mi h) c hr nt) := by
      refine ale _ _ (fun k hk => ?_)
      have hk : k ≤ 4 := by unfold al at hk; omega
      rw [← hN]
      unfold fcl
      have : k = 0 ∨ k = 1 ∨ k = 2 ∨ k = 3 ∨ k = 4 := by omega
      rcases this with rfl | rfl | rfl | rfl | rfl
      · rw [u2_no _ _ _ (by omega), u2_no _ _ _ (by omega), u2_no _ _ _ (by omega), u2_no _ _ _ (by omega), u2_at]; rfl
      · rw [u2_no _ _ _ (by omega), u2_no _ _ _ (by omega), u2_no _ _ _ (by omega), u2_at]; rfl
      · rw [u2_no _ _ _ (by omega), u2_no _ _ _ (by omega), u2_at]; rfl
      · rw [u2_no _ _ _ (by omega), u2_at]; rfl
      · rw [u2_at]; rfl
    rw [e5]
    exact ⟨N', rfl, (gN.up (fun a ha => by unfold LwA; omega)).tr (g1.up (fun a ha => by unfold WkA at ha; unfold LwA; omega))⟩
theorem m_191 {E : EE} (d : Nat) (c hr nt b : Int) (h : HP) (w : RSk h) (v : VM (h_mi h) E) (c0 : 0 ≤ c) (c1 : c < 60) : ∃ N, ev (d + 4) 191 [vr 145, vi c, vi hr, vi nt, vi b] h = some (vi (if b = 0 then frV (h_mi h) E c hr nt else frV (h_mi h) E c hr nt / 2), sM h N) ∧ Ag LwA (h_mi h) N := by
  rw [v_191, q_191_0 (d + 3) c hr nt b h w]
  obtain ⟨N, e1, g1⟩ := m_190 (E := E) d 0 c hr nt 2 h w v (by omega) rfl c0 c1
  have e1 : ev (d + 3) 190 [vr 145, vi 0, vi c, vi hr, vi nt, vi 2] h = some (vi (frV (h_mi h) E c hr nt), sM h N) := e1
  have b9 := frV_b (h_mi h) E c hr nt
  refine ⟨N, ?_, g1⟩
  rw [e1, bI_s, q_191_9]
  by_cases hb : b = 0
  · rw [dt hb, if_pos hb]; rfl
  · rw [df hb, if_neg hb, id_ (by omega) (by omega) (by omega) (by omega)]; rfl
theorem m_192 {E : EE} (d : Nat) (c hr nt : Int) (h : HP) (w : RSk h) (v : VM (h_mi h) E) (c0 : 0 ≤ c) (c1 : c < 60) : ∃ N, ev (d + 5) 192 [vr 145, vi c, vi hr, vi nt] h = some (vi (grV (h_mi h) E c hr nt), sM h N) ∧ Ag LwA (h_mi h) N := by
  rw [v_192, q_192_0 (d + 4) c hr nt h w]
  simp (disch := first | assumption | omega) only [mi_sM, sI_sM, sRi_sM, isK_sM, inb_sM, ln_sM, mr_sM, ml_sM, dt, df, ia, is_, zb, bI_s, bV_s, bR_s]
  unfold grV
  by_cases hk : h_mi h 148 c.toNat = 2
  · obtain ⟨N, e1, g1⟩ := m_191 (E := E) d c hr nt 1 h w v c0 c1
    refine ⟨N, ?_, g1⟩
    rw [df (by omega), if_pos hk, e1]
    simp only [zb, bI_s]
    rw [q_192_22]; rfl
  · obtain ⟨N, e1, g1⟩ := m_191 (E := E) d c hr nt 0 h w v c0 c1
    refine ⟨N, ?_, g1⟩
    rw [dt hk, if_neg hk, e1]
    simp only [zb, bI_s]
    rw [q_192_22]; rfl
theorem m_193 {E : EE} (d : Nat) (c : Int) (h : HP) (w : RSk h) (v : VM (h_mi h) E) (c0 : 0 ≤ c) (c1 : c < 60) : ∃ N, ev (d + 6) 193 [vr 145, vi c] h = some (vi (grV (h_mi h) E c (h_mi h 172 133) (h_mi h 172 134)), sM h N) ∧ Ag LwA (h_mi h) N := by
  rw [v_193, q_193_0 (d + 5) c h w]
  obtain ⟨N, e1, g1⟩ := m_192 (E := E) d c (h_mi h 172 133) (h_mi h 172 134) h w v c0 c1
  refine ⟨N, ?_, g1⟩
  rw [e1, bI_s, q_193_21]
