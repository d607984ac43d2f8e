/-! the reference: single numbers, sounds -/
def cellV (M : MM) (E : EE) (x y what : Int) : Int := if (0 ≤ x ∧ x < M 147 0 ∧ 0 ≤ y ∧ y < M 147 1) ∧ 0 ≤ what ∧ what ≤ 3 then (if what = 0 then M 172 (10 * y + x).toNat else if what = 1 then M 148 (10 * y + x).toNat else if what = 2 then M 149 (10 * y + x).toNat else grV M E (10 * y + x) (M 172 133) (M 172 134)) else -1
theorem r_cell {E : EE} (d : Nat) (x y what : Int) (h : HP) (w : RSk h) (v : VM (h_mi h) E) : ∃ N, ev (d + 7) 194 [vr 145, vi x, vi y, vi what] h = some (vi (cellV (h_mi h) E x y what), sM h N) ∧ QA (h_mi h) N := by
  have q0 : QA (h_mi h) (up2 (h_mi h) 145 0 0) := QA.f 0 0 (by omega) (by omega)
  have e0 : ∀ a, a ≠ 145 → (up2 (h_mi h) 145 0 0) a = h_mi h a := fun a ha => u2_ne _ _ _ ha
  have hc := v.c
  have hr := v.r
  rw [v_194, q_194_0 (d + 6) x y what h w, sI_h, m_186 _ _ _ _ (w.m _), mi_sM, e0 147 (by omega), bI_s, q_194_11, m_148]
  unfold cellV
  by_cases c1 : 0 ≤ x ∧ x < h_mi h 147 0 ∧ 0 ≤ y ∧ y < h_mi h 147 1
  · rw [bb_dt c1]
    simp only [zb, bI_s]
    rw [q_194_20 (d + 6) x y what _ _ (w.m _), mi_sM, e0 148 (by omega), e0 149 (by omega), e0 172 (by omega)]
    by_cases c2 : 0 ≤ what ∧ what ≤ 3
    · rw [bb_nt c2, if_pos ⟨c1, c2⟩]
      simp (disch := omega) only [mi_sM, sI_sM, sRi_sM, isK_sM, inb_sM, ln_sM, mr_sM, ml_sM, dt, df, ia, is_, zb, bI_s, bV_s, bR_s, im]
      by_cases k0 : what = 0
      · refine ⟨_, ?_, q0⟩
        rw [df (by omega), if_pos k0]; exact q_194_83 _ _ _ _ _ _ _
      · rw [dt k0, if_neg k0]
        by_cases k1 : what = 1
        · refine ⟨_, ?_, q0⟩
          rw [df (by omega), if_pos k1]; exact q_194_83 _ _ _ _ _ _ _
        · rw [dt k1, if_neg k1]
          by_cases k2 : what = 2
          · refine ⟨_, ?_, q0⟩
            rw [df (by omega), if_pos k2]; exact q_194_83 _ _ _ _ _ _ _
          · rw [dt k2, if_neg k2]
            obtain ⟨N, e1, g1⟩ := m_193 (E := E) d (10 * y + x) (sM h (up2 (h_mi h) 145 0 0)) w (q0.vm v) (by omega) (by omega)
            rw [mi_sM, grV_ag (e0 149 (by omega)) (e0 148 (by omega)), e0 172 (by omega), sM_sM] at e1
            rw [mi_sM] at g1
            refine ⟨N, ?_, q0.tr (QA.of g1 LwA_q)⟩
            rw [e1]
            simp only [zb, bI_s]
            rw [q_194_83]
    · refine ⟨_, ?_, q0⟩
      rw [bb_nf c2, if_neg (by omega)]; rfl
  · refine ⟨_, ?_, q0⟩
    rw [bb_df c1, if_neg (fun z => c1 z.1)]; rfl
def pourerV (M : MM) (p what : Int) : Int := if (0 ≤ p ∧ p < M 147 2) ∧ 0 ≤ what ∧ what ≤ 3 then (if what = 0 then M 151 p.toNat else if what = 1 then M 152 p.toNat else if what = 2 then M 172 (120 + p).toNat else M 172 (126 + p).toNat) else -1
theorem r_pourer {E : EE} (d : Nat) (p what : Int) (h : HP) (w : RSk h) (v : VM (h_mi h) E) : ∃ N, ev (d + 1) 195 [vr 145, vi p, vi what] h = some (vi (pourerV (h_mi h) p what), sM h N) ∧ QA (h_mi h) N := by
  have q0 : QA (h_mi h) (up2 (h_mi h) 145 0 0) := QA.f 0 0 (by omega) (by omega)
  have e0 : ∀ a, a ≠ 145 → (up2 (h_mi h) 145 0 0) a = h_mi h a := fun a ha => u2_ne _ _ _ ha
  have hp := v.p
  refine ⟨_, ?_, q0⟩
  rw [v_195, q_195_0 d p what h w, sI_h, m_187 _ _ _ (w.m _), mi_sM, e0 147 (by omega), bI_s, q_195_10, m_148]
  unfold pourerV
  by_cases c1 : 0 ≤ p ∧ p < h_mi h 147 2
  · rw [bb_dt c1]
    simp only [zb, bI_s]
    rw [q_195_19 d p what _ _ (w.m _), mi_sM, e0 151 (by omega), e0 152 (by omega), e0 172 (by omega)]
    by_cases c2 : 0 ≤ what ∧ what ≤ 3
    · rw [bb_nt c2, if_pos ⟨c1, c2⟩]
      simp (disch := omega) only [mi_sM, sI_sM, sRi_sM, isK_sM, inb_sM, ln_sM, mr_sM, ml_sM, dt, df, ia, is_, zb, bI_s, bV_s, bR_s]
      by_cases k0 : what = 0
      · rw [df (by omega), if_pos k0]; rfl
      · rw [dt k0, if_neg k0]
        by_cases k1 : what = 1
        · rw [df (by omega), if_pos k1]; rfl
        · rw [dt k1, if_neg k1]
          by_cases k2 : what = 2
          · rw [df (by omega), if_pos k2]; rfl
          · rw [dt k2, if_neg k2]; rfl
    · rw [bb_nf c2, if_neg (by omega)]; rfl
  · rw [bb_df c1, if_neg (fun z => c1 z.1)]; rfl
/-- what load l needs, how it wears -/
def ndV (M : MM) (l : Int) : Int := needK (M 154 l.toNat) (M 155 l.toNat)
def weV (M : MM) (l : Int) : Int := wearK (M 154 l.toNat)
theorem ndV_b {M : MM} {E : EE} (v : VM M E) {l : Int} (l0 : 0 ≤ l) (l1 : l < M 147 3) : 1 ≤ ndV M l ∧ ndV M l ≤ 51 := by
  have := (v.ld (l := l.toNat) (by omega)).2.1
  unfold ndV needK; split
  · omega
  · split <;> omega
theorem weV_b (M : MM) (l : Int) : 0 ≤ weV M l ∧ weV M l ≤ 3 := by unfold weV wearK; split; omega; split; omega; split <;> omega
def loadV (M : MM) (l what : Int) : Int := if (0 ≤ l ∧ l < M 147 3) ∧ 0 ≤ what ∧ what ≤ 3 then (if what = 0 then M 154 l.toNat else if what = 1 then ndV M l else if what = 2 then M 156 l.toNat else bit (M 172 132) l) else -1
theorem r_load {E : EE} (d : Nat) (l what : Int) (h : HP) (w : RSk h) (v : VM (h_mi h) E) : ∃ N, ev (d + 1) 198 [vr 145, vi l, vi what] h = some (vi (loadV (h_mi h) l what), sM h N) ∧ QA (h_mi h) N := by
  have q0 : QA (h_mi h) (up2 (h_mi h) 145 0 0) := QA.f 0 0 (by omega) (by omega)
  have e0 : ∀ a, a ≠ 145 → (up2 (h_mi h) 145 0 0) a = h_mi h a := fun a ha => u2_ne _ _ _ ha
  have hl := v.l
  have ho := v.ov
  refine ⟨_, ?_, q0⟩
  rw [v_198, q_198_0 d l what h w, sI_h, m_188 _ _ _ (w.m _), mi_sM, e0 147 (by omega), bI_s, q_198_10, m_148]
  unfold loadV
  by_cases c1 : 0 ≤ l ∧ l < h_mi h 147 3
  · rw [bb_dt c1]
    have b := (v.ld (l := l.toNat) (by omega)).2.1
    simp only [zb, bI_s]
    rw [q_198_19 d l what _ _ (w.m _), m_196 d l _ (w.m _) c1.1 (by omega) (by rw [mi_sM, e0 155 (by omega)]; omega) (by rw [mi_sM, e0 155 (by omega)]; omega), mi_sM, e0 154 (by omega), e0 155 (by omega), e0 156 (by omega), e0 172 (by omega), bitI ho.1 (by omega) c1.1 (by omega)]
    by_cases c2 : 0 ≤ what ∧ what ≤ 3
    · rw [bb_nt c2, if_pos ⟨c1, c2⟩]
      simp (disch := omega) only [mi_sM, sI_sM, sRi_sM, isK_sM, inb_sM, ln_sM, mr_sM, ml_sM, dt, df, ia, is_, zb, bI_s, bV_s, bR_s]
      by_cases k0 : what = 0
      · rw [df (by omega), if_pos k0]; rfl
      · rw [dt k0, if_neg k0]
        by_cases k1 : what = 1
        · rw [df (by omega), if_pos k1, q_198_47]; rfl
        · rw [dt k1, if_neg k1]
          by_cases k2 : what = 2
          · rw [df (by omega), if_pos k2]; rfl
          · rw [dt k2, if_neg k2]; rfl
    · rw [bb_nf c2, if_neg (by omega)]; rfl
  · rw [bb_df c1, if_neg (fun z => c1 z.1)]; rfl
/-- the thinnest of a row -/
def tnV (M : MM) (row : Int) : Int := lo (fun k => seeG M row k) (M 147 0)
theorem lo_congr {I J : Nat → Int} {n : Int} (h : ∀ i : Int, 0 ≤ i → i < n → I i.toNat = J i.toNat) : lo I n = lo J n := lo_ext (fun x _ => ⟨fun k i i0 i1 => by rw [← h i i0 i1]; exact k i i0 i1, fun k i i0 i1 => by rw [h i i0 i1]; exact k i i0 i1⟩)
theorem lo_see (M : MM) (row : Int) : lo (seeR M row) (M 147 0) = tnV M row := lo_congr (fun i i0 i1 => by
  rw [seeR_at i0 i1]
  show _ = seeG M row ((i.toNat : Nat) : Int)
  have : ((i.toNat : Nat) : Int) = i := by omega
  rw [this])
theorem tnV_b {M : MM} {E : EE} (v : VM M E) {row : Int} (r0 : 0 ≤ row) (r1 : row < 6) : 0 ≤ tnV M row ∧ tnV M row ≤ 99 := by
  have hc := v.c
  refine ⟨(lo_ge_iff _ _ _).mpr ⟨by omega, fun i i0 i1 => ?_⟩, lo_le _ _⟩
  exact (seeG_b v r0 r1 (by omega) (by omega)).1
def thinV (M : MM) (row : Int) : Int := if 0 ≤ row ∧ row < M 147 1 then tnV M row else -1
theorem r_thin {E : EE} (d : Nat) (row : Int) (h : HP) (w : RSk h) (v : VM (h_mi h) E) : ∃ N, ev (d + 1) 211 [vr 145, vi row] h = some (vi (thinV (h_mi h) row), sM h N) ∧ QA (h_mi h) N := by
  have q0 : QA (h_mi h) (up2 (h_mi h) 145 0 0) := QA.f 0 0 (by omega) (by omega)
  have e0 : ∀ a, a ≠ 145 → (up2 (h_mi h) 145 0 0) a = h_mi h a := fun a ha => u2_ne _ _ _ ha
  have hc := v.c
  have hr := v.r
  rw [v_211, q_211_0 d row h w, sI_h, m_185 _ _ _ (w.m _), mi_sM, e0 147 (by omega), bI_s, q_211_10 d row _ _ (w.m _)]
  unfold thinV
  by_cases c1 : 0 ≤ row ∧ row < h_mi h 147 1
  · refine ⟨_, ?_, q0.tr (QA.row (a := 176) (seeR (up2 (h_mi h) 145 0 0) row) (by unfold RsA; omega) (by omega))⟩
    have e3 : (va_up (up2 (h_mi h) 145 0 0) 176 (seeR (up2 (h_mi h) 145 0 0) row)) 147 = h_mi h 147 := by rw [up_ne _ _ (by omega), e0 147 (by omega)]
    rw [bb_nt c1, if_pos c1, m_202 _ row _ (w.m _) (by rw [mi_sM, e0 147 (by omega)]; omega) (by rw [mi_sM, e0 147 (by omega)]; omega) c1.1 (by omega)]
    simp only [zb, bV_s, mi_sM, sM_sM]
    rw [q_211_20 d row _ (w.m _), m_203 d _ (w.m _) (by rw [mi_sM, e3]; omega) (by rw [mi_sM, e3]; omega), bI_s, q_211_24, mi_sM, e3, up_eq]
    have e4 := lo_see (up2 (h_mi h) 145 0 0) row
    rw [e0 147 (by omega)] at e4
    rw [e4]
    unfold tnV
    rw [e0 147 (by omega)]
    congr 3
  · refine ⟨_, ?_, q0⟩
    rw [bb_nf c1, if_neg c1]; rfl
/-- a sound: what comes of the law, modulo 10 -/
def sm10 (x : Int) : Int := i_rem (i_add (i_rem x 10) 10) 10
def fso (M : MM) (c hr nt th : Int) : Nat → Int := fun k => if k = 5 then th else fcl M c hr nt k
def soV (M : MM) (E : EE) (c : Int) : Int := sm10 (E 0 2 (fso M c (M 172 133) (M 172 134) (M 172 c.toNat)))
theorem soV_q {M N : MM} (q : QA M N) (E : EE) (c : Int) : soV N E c = soV M E c := by unfold soV fso; rw [q.e (a := 172) (nR (by omega) (by omega)), fcl_ag (q.e (nR (by omega) (by omega)))]
theorem m_235 {E : EE} (d : Nat) (c : Int) (h : HP) (w : RSk h) (v : VM (h_mi h) E) (c0 : 0 ≤ c) (c1 : c < 60) : ∃ N, ev (d + 3) 235 [vr 145, vi c] h = some (vi (soV (h_mi h) E c), sM h N) ∧ Ag LwA (h_mi h) N := by
  obtain ⟨lr, ale⟩ := v.2.2 2 (by omega)
  rw [v_235, q_235_0 (d + 2) c h w]
  simp (disch := omega) only [mi_sM, sI_sM, sRi_sM, isK_sM, inb_sM, ln_sM, mr_sM, ml_sM, dt, df, ia, is_, zb, bI_s, bV_s, bR_s]
  unfold LR at lr
  have e4 : 4 * 0 + 2 = 2 := rfl
  rw [e4] at lr
  rcases lr with ⟨l1, l2⟩ | ⟨l1, l2, l3, cc, l4, l5⟩
  · refine ⟨h_mi h, ?_, Ag.rf _⟩
    rw [dt (by omega)]
    unfold soV
    rw [l2]; rfl
  · rw [df (by omega), v_189, q_189_0 (d + 2) c _ _ h w]
    simp (disch := omega) only [mi_sM, sI_sM, sRi_sM, isK_sM, inb_sM, ln_sM, mr_sM, ml_sM, dt, df, ia, is_, zb, bI_s, bV_s, bR_s, ir, id_]
    simp only [sI_h, sM_sM, mi_sM]
    generalize hN : up2 (up2 (up2 (up2 (up2 (h_mi h) 171 1 (h_mi h 172 133)) 171 2 (h_mi h 172 134)) 171 3 (c % 10)) 171 4 (c / 10)) 171 5 (h_mi h 149 c.toNat) = N
    have gN : Ag (fun a => a = 171) (h_mi h) N := by
      intro b hb
      have hb : b ≠ 171 := hb
      rw [← hN, u2_ne _ _ _ hb, u2_ne _ _ _ hb, u2_ne _ _ _ hb, u2_ne _ _ _ hb, u2_ne _ _ _ hb]
    rw [q_235_43 (d + 2) c _ _ (w.m N)]
    simp (disch := omega) only [mi_sM, sI_sM, sRi_sM, isK_sM, inb_sM, ln_sM, mr_sM, ml_sM, dt, df, ia, is_, zb, bI_s, bV_s, bR_s]
    rw [gN 172 (by omega)]
    have gP : Ag (fun a => a = 171) (h_mi h) (up2 N 171 6 (h_mi h 172 c.toNat)) := fun b hb => by rw [u2_ne _ _ _ hb]; exact gN b hb
    obtain ⟨N', e1, g1⟩ := l4 h (up2 N 171 6 (h_mi h 172 c.toNat)) d 2 w (by omega) (by omega) (by rw [gP 157 (by omega)]; exact l1) (by rw [gP 157 (by omega), gP 158 (by omega)]; show h_mi h 158 2 = h_mi h 157 2 + _; omega) (by rw [gP 157 (by omega)]; show h_mi h 157 2 + _ ≤ _; omega) (fun j j0 j1 => by rw [gP 157 (by omega), gP 159 (by omega)]; exact l5 j j0 j1)
    refine ⟨N', ?_, (gP.up (fun a ha => by have ha : a = 171 := ha; unfold LwA; omega)).tr (g1.up (fun a ha => by unfold WkA at ha; unfold LwA; omega))⟩
    have e1 : ev (d + 2) 163 [vr 145, vi 2] (sM h (up2 N 171 6 (h_mi h 172 c.toNat))) = _ := e1
    rw [e1, bI_s, q_235_61]
    have e5 : E 0 2 (fun k => (up2 N 171 6 (h_mi h 172 c.toNat)) 171 (k + 1)) = E 0 2 (fso (h_mi h) c (h_mi h 172 133) (h_mi h 172 134) (h_mi h 172 c.toNat)) := by
      refine ale _ _ (fun k hk => ?_)
      have hk : k ≤ 5 := by unfold al at hk; omega
      rw [← hN]
      unfold fso fcl
      have : k = 0 ∨ k = 1 ∨ k = 2 ∨ k = 3 ∨ k = 4 ∨ k = 5 := by omega
      rcases this with rfl | rfl | rfl | rfl | rfl | rfl
      · rw [u2_no _ _ _ (by omega), u2_no _ _ _ (by omega), u2_no _ _ _ (by omega), u2_no _ _ _ (by omega), u2_no _ _ _ (by omega), u2_at]; rfl
      · rw [u2_no _ _ _ (by omega), u2_no _ _ _ (by omega), u2_no _ _ _ (by omega), u2_no _ _ _ (by omega), u2_at]; rfl
      · rw [u2_no _ _ _ (by omega), u2_no _ _ _ (by omega), u2_no _ _ _ (by omega), u2_at]; rfl
      · rw [u2_no _ _ _ (by omega), u2_no _ _ _ (by omega), u2_at]; rfl
      · rw [u2_no _ _ _ (by omega), u2_at]; rfl
      · rw [u2_at]; rfl
    rw [e5]; rfl
def soundV (M : MM) (E : EE) (x y : Int) : Int := if (0 ≤ x ∧ x < M 147 0 ∧ 0 ≤ y ∧ y < M 147 1) ∧ M 148 (10 * y + x).toNat ≠ 1 then soV M E (10 * y + x) else -1
theorem r_sound {E : EE} (d : Nat) (x y : Int) (h : HP) (w : RSk h) (v : VM (h_mi h) E) : ∃ N, ev (d + 4) 236 [vr 145, vi x, vi y] h = some (vi (soundV (h_mi h) E x y), sM h N) ∧ QA (h_mi h) N := by
  have q0 : QA (h_mi h) (up2 (h_mi h) 145 0 0) := QA.f 0 0 (by omega) (by omega)
  have e0 : ∀ a, a ≠ 145 → (up2 (h_mi h) 145 0 0) a = h_mi h a := fun a ha => u2_ne _ _ _ ha
  have hc := v.c
  have hr := v.r
  rw [v_236, q_236_0 (d + 3) x y h w, sI_h, m_186 _ _ _ _ (w.m _), mi_sM, e0 147 (by omega), bI_s, q_236_11 (d + 3) x y _ _ (w.m _), mi_sM, e0 148 (by omega)]
  unfold soundV
  by_cases c1 : 0 ≤ x ∧ x < h_mi h 147 0 ∧ 0 ≤ y ∧ y < h_mi h 147 1
  · rw [bb_dt c1]
    simp (disch := omega) only [mi_sM, sI_sM, sRi_sM, isK_sM, inb_sM, ln_sM, mr_sM, ml_sM, dt, df, ia, is_, zb, bI_s, bV_s, bR_s, im]
    by_cases c2 : h_mi h 148 (10 * y + x).toNat = 1
    · refine ⟨_, ?_, q0⟩
      rw [dt c2, if_neg (fun z => z.2 c2)]; rfl
    · obtain ⟨N, e1, g1⟩ := m_235 (E := E) d (10 * y + x) (sM h (up2 (h_mi h) 145 0 0)) w (q0.vm v) (by omega) (by omega)
      rw [mi_sM, soV_q q0, sM_sM] at e1
      rw [mi_sM] at g1
      refine ⟨N, ?_, q0.tr (QA.of g1 LwA_q)⟩
      rw [df c2, if_pos ⟨c1, c2⟩, e1]
      simp only [zb, bI_s]
      rw [q_236_39]
  · refine ⟨_, ?_, q0⟩
    rw [bb_df c1, if_neg (fun z => c1 z.1)]; rfl
