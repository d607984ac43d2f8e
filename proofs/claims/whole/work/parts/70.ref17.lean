/-! the reference: carried, value, leaves -/
theorem cM_self (M : MM) (x y : Int) : cM M (x, y, M 178, M 177) = up2 (up2 M 145 48 x) 145 49 y := by
  unfold cM
  have e1 : (up2 (up2 M 145 48 x) 145 49 y) 178 = M 178 := by rw [u2_ne _ _ _ (by omega), u2_ne _ _ _ (by omega)]
  have e2 : (up2 (up2 M 145 48 x) 145 49 y) 177 = M 177 := by rw [u2_ne _ _ _ (by omega), u2_ne _ _ _ (by omega)]
  show va_up (va_up (up2 (up2 M 145 48 x) 145 49 y) 178 (M 178)) 177 (M 177) = _
  rw [← e1, up_self, ← e2, up_self]
theorem cM_q (M : MM) (s : CS) : QA M (cM M s) := ⟨fun a ha => by
  have ha' : ¬ (a = 145 ∨ (160 ≤ a ∧ a ≤ 171) ∨ a = 173 ∨ (176 ≤ a ∧ a ≤ 179)) := ha
  exact cM_ne M s (by omega) (by omega) (by omega), cM_f M s (by omega) (by omega), cM_f M s (by omega) (by omega)⟩
/-- many, worth stay in their bounds -/
theorem dfs_b {M : MM} {E : EE} (v : VM M E) {T : Int → Int} : ∀ (k : Nat) (at_ used sum by_ : Int) (s : CS), 0 ≤ at_ → at_ ≤ pc used → 0 ≤ used → used < 128 → 0 ≤ sum → sum ≤ at_ * 99 → (-1 ≤ s.1 ∧ s.1 ≤ 693) → (0 ≤ s.2.1 ∧ s.2.1 ≤ 7) → (-1 ≤ (dfs M T k at_ used sum by_ s).1 ∧ (dfs M T k at_ used sum by_ s).1 ≤ 693) ∧ 0 ≤ (dfs M T k at_ used sum by_ s).2.1 ∧ (dfs M T k at_ used sum by_ s).2.1 ≤ 7
  | 0, at_, used, sum, by_, s, a0, a1, u0, u1, s0, s1, b1, b2 => ⟨b1, b2⟩
  | k + 1, at_, used, sum, by_, s, a0, a1, u0, u1, s0, s1, b1, b2 => by
    have pb := pc_b used
    have hl := v.l
    have loop : ∀ (j : Nat) (i : Int) (s : CS), (M 147 3 - i).toNat = j → 0 ≤ i → i ≤ M 147 3 → (-1 ≤ s.1 ∧ s.1 ≤ 693) → (0 ≤ s.2.1 ∧ s.2.1 ≤ 7) → (-1 ≤ (itr (fun l s => if bit used l = 1 ∨ T by_ < ndV M l then s else dfs M T k (at_ + 1) (used + 2 ^ l.toNat) (sum + M 156 l.toNat) (by_ + weV M l) (s.1, s.2.1, s.2.2.1, va_up s.2.2.2 at_.toNat l)) j i s).1 ∧ (itr (fun l s => if bit used l = 1 ∨ T by_ < ndV M l then s else dfs M T k (at_ + 1) (used + 2 ^ l.toNat) (sum + M 156 l.toNat) (by_ + weV M l) (s.1, s.2.1, s.2.2.1, va_up s.2.2.2 at_.toNat l)) j i s).1 ≤ 693) ∧ 0 ≤ (itr (fun l s => if bit used l = 1 ∨ T by_ < ndV M l then s else dfs M T k (at_ + 1) (used + 2 ^ l.toNat) (sum + M 156 l.toNat) (by_ + weV M l) (s.1, s.2.1, s.2.2.1, va_up s.2.2.2 at_.toNat l)) j i s).2.1 ∧ (itr (fun l s => if bit used l = 1 ∨ T by_ < ndV M l then s else dfs M T k (at_ + 1) (used + 2 ^ l.toNat) (sum + M 156 l.toNat) (by_ + weV M l) (s.1, s.2.1, s.2.2.1, va_up s.2.2.2 at_.toNat l)) j i s).2.1 ≤ 7 := by
      intro j
      induction j with
      | zero => intro i s h1 h2 h3 b1 b2; exact ⟨b1, b2⟩
      | succ j ih =>
        intro i s h1 h2 h3 b1 b2
        have lb := v.ld (l := i.toNat) (by omega)
        have pp := p2p i.toNat
        have nb : (-1 ≤ (if bit used i = 1 ∨ T by_ < ndV M i then s else dfs M T k (at_ + 1) (used + 2 ^ i.toNat) (sum + M 156 i.toNat) (by_ + weV M i) (s.1, s.2.1, s.2.2.1, va_up s.2.2.2 at_.toNat i)).1 ∧ (if bit used i = 1 ∨ T by_ < ndV M i then s else dfs M T k (at_ + 1) (used + 2 ^ i.toNat) (sum + M 156 i.toNat) (by_ + weV M i) (s.1, s.2.1, s.2.2.1, va_up s.2.2.2 at_.toNat i)).1 ≤ 693) ∧ 0 ≤ (if bit used i = 1 ∨ T by_ < ndV M i then s else dfs M T k (at_ + 1) (used + 2 ^ i.toNat) (sum + M 156 i.toNat) (by_ + weV M i) (s.1, s.2.1, s.2.2.1, va_up s.2.2.2 at_.toNat i)).2.1 ∧ (if bit used i = 1 ∨ T by_ < ndV M i then s else dfs M T k (at_ + 1) (used + 2 ^ i.toNat) (sum + M 156 i.toNat) (by_ + weV M i) (s.1, s.2.1, s.2.2.1, va_up s.2.2.2 at_.toNat i)).2.1 ≤ 7 := by
          by_cases c : bit used i = 1 ∨ T by_ < ndV M i
          · rw [if_pos c]; exact ⟨b1, b2⟩
          · rw [if_neg c]
            have c1 : bit used i ≠ 1 := fun z => c (Or.inl z)
            have pI := pcI u0 u1 h2 (show i < 7 by omega) c1
            have p7 := pc_7 h2 (show i < 7 by omega) c1
            exact dfs_b v k _ _ _ _ _ (by omega) (by omega) (by omega) pI.2.1 (by omega) (by omega) b1 b2
        exact ih (i + 1) _ (by omega) (by omega) (by omega) nb.1 nb.2
    refine loop _ 0 _ (by omega) (by omega) (by omega) ?_ ?_
    · unfold updC; split
      · show -1 ≤ sum ∧ sum ≤ 693; omega
      · exact b1
    · unfold updC; split
      · show 0 ≤ at_ ∧ at_ ≤ 7; omega
      · exact b2
/-- what is carried on ice as row 176 has it -/
def crS (M : MM) (T : Int → Int) : CS := dfs M T 8 0 (M 172 132) 0 0 (-1, 0, M 178, M 177)
theorem crS_b {M : MM} {E : EE} (v : VM M E) (T : Int → Int) : (-1 ≤ (crS M T).1 ∧ (crS M T).1 ≤ 693) ∧ 0 ≤ (crS M T).2.1 ∧ (crS M T).2.1 ≤ 7 := by
  have ho := v.ov
  exact dfs_b v 8 0 _ 0 0 _ (by omega) (pc_b _).1 ho.1 (by omega) (by omega) (by omega) (by show (-1 : Int) ≤ -1 ∧ (-1 : Int) ≤ 693; omega) (by show (0 : Int) ≤ 0 ∧ (0 : Int) ≤ 7; omega)
theorem m_215 {E : EE} (d : Nat) (h : HP) (w : RSk h) (v : VM (h_mi h) E) (hb : ∀ j : Int, 0 ≤ j → j < h_mi h 147 0 → -1000 ≤ h_mi h 176 j.toNat ∧ h_mi h 176 j.toNat ≤ 1000) : ev (d + 10) 215 [vr 145] h = some (vr 0, sM h (cM (h_mi h) (crS (h_mi h) (fun b => lob (h_mi h 176) b (h_mi h 147 0))))) := by
  have hc := v.c
  have ho := v.ov
  rw [v_215, q_215_0 (d + 9) h w, show sI (sI h 145 48 (-1)) 145 49 0 = sM h (up2 (up2 (h_mi h) 145 48 (-1)) 145 49 0) from rfl, ← cM_self]
  have hT : ∀ (d : Nat) (by_ : Int) (s : CS), 0 ≤ by_ → by_ ≤ 100 → ev d 214 [vr 145, vi by_] (sM h (cM (h_mi h) s)) = some (vi (lob (h_mi h 176) by_ (h_mi h 147 0)), sM h (cM (h_mi h) s)) := fun d by_ s y0 y1 => by
    rw [m_214 d by_ _ (w.m _) (by rw [mi_sM, cM_ne _ _ (by omega) (by omega) (by omega)]; omega) (by rw [mi_sM, cM_ne _ _ (by omega) (by omega) (by omega)]; omega) y0 (by omega) (by rw [mi_sM, cM_ne _ _ (show 147 ≠ 145 by omega) (by omega) (by omega), cM_ne _ _ (show 176 ≠ 145 by omega) (by omega) (by omega)]; exact hb), mi_sM, cM_ne _ _ (show 147 ≠ 145 by omega) (by omega) (by omega), cM_ne _ _ (show 176 ≠ 145 by omega) (by omega) (by omega)]
  have e := c_213 (h := h) w v (T := fun b => lob (h_mi h 176) b (h_mi h 147 0)) hT d 8 0 (h_mi h 172 132) 0 0 (-1, 0, h_mi h 178, h_mi h 177) (by omega) (pc_b _).1 (by omega) ho.1 (by omega) (by omega) (by omega) (by omega) (by omega)
  rw [show d + 9 = d + 1 + 8 by omega, e, bV_s, q_215_25]
  rfl
/-- only how thin it is counts -/
theorem dfs_congr {M : MM} {E : EE} (v : VM M E) {T T' : Int → Int} (hT : ∀ b l, 0 ≤ b → b ≤ 21 → 0 ≤ l → l < M 147 3 → (T b < ndV M l ↔ T' b < ndV M l)) : ∀ (k : Nat) (at_ used sum by_ : Int) (s : CS), 0 ≤ at_ → at_ ≤ pc used → 0 ≤ used → used < 128 → 0 ≤ by_ → by_ ≤ at_ * 3 → dfs M T k at_ used sum by_ s = dfs M T' k at_ used sum by_ s
  | 0, _, _, _, _, _, _, _, _, _, _, _ => rfl
  | k + 1, at_, used, sum, by_, s, a0, a1, u0, u1, b0, b1 => by
    have pb := pc_b used
    have hl := v.l
    show itr _ _ 0 _ = itr _ _ 0 _
    refine itr_congr (lo := 0) (n := M 147 3) (fun i s h2 h3 => ?_) _ 0 _ (by omega) (by omega)
    have wb := weV_b M i
    have pp := p2p i.toNat
    by_cases c : bit used i = 1 ∨ T by_ < ndV M i
    · rw [if_pos c, if_pos (c.imp id (hT by_ i b0 (by omega) h2 h3).mp)]
    · have c' : ¬ (bit used i = 1 ∨ T' by_ < ndV M i) := fun z => c (z.imp id (hT by_ i b0 (by omega) h2 h3).mpr)
      rw [if_neg c, if_neg c']
      have c1 : bit used i ≠ 1 := fun z => c (Or.inl z)
      have pI := pcI u0 u1 h2 (show i < 7 by omega) c1
      have p7 := pc_7 h2 (show i < 7 by omega) c1
      exact dfs_congr v hT k _ _ _ _ _ (by omega) (by omega) (by omega) pI.2.1 (by omega) (by omega)
theorem lob_lo (I : Nat → Int) (b n : Int) : lob I b n = lo (fun k => if 99 < I k then 1000 else max 0 (I k - b)) n := rfl
theorem lob_iff {I : Nat → Int} {n b x : Int} (hI : ∀ j : Int, 0 ≤ j → j < n → I j.toNat ≤ 99 ∨ I j.toNat = 1000) (b0 : 0 ≤ b) (b1 : b ≤ 21) (x0 : 1 ≤ x) (x1 : x ≤ 51) : lob I b n < x ↔ lo I n - b < x := by
  have h1 := lo_ge_iff (fun k => if 99 < I k then 1000 else max 0 (I k - b)) n x
  have h2 := lo_ge_iff I n (x + b)
  rw [lob_lo]
  have key : x ≤ lo (fun k => if 99 < I k then 1000 else max 0 (I k - b)) n ↔ x + b ≤ lo I n := by
    rw [h1, h2]
    constructor
    · rintro ⟨a, c⟩
      refine ⟨by omega, fun i i0 i1 => ?_⟩
      have h3 := c i i0 i1
      have h4 := hI i i0 i1
      split at h3 <;> omega
    · rintro ⟨a, c⟩
      refine ⟨by omega, fun i i0 i1 => ?_⟩
      have := c i i0 i1
      have := hI i i0 i1
      split <;> omega
  omega
theorem crS_lo {M : MM} {E : EE} (v : VM M E) {I : Nat → Int} (hI : ∀ j : Int, 0 ≤ j → j < M 147 0 → I j.toNat ≤ 99 ∨ I j.toNat = 1000) : crS M (fun b => lob I b (M 147 0)) = crS M (fun b => lo I (M 147 0) - b) := by
  have ho := v.ov
  exact dfs_congr v (fun b l b0 b1 l0 l1 => lob_iff hI b0 b1 (ndV_b v l0 l1).1 (ndV_b v l0 l1).2) 8 0 _ 0 0 _ (by omega) (pc_b _).1 ho.1 (by omega) (by omega) (by omega)
def caO (what : Int) (s : CS) : Int := if what = 0 then s.1 else if what = 1 then itr (fun k a => i_or a (i_shl 1 (s.2.2.1 k.toNat))) s.2.1.toNat 0 0 else if what - 2 < s.2.1 then s.2.2.1 (what - 2).toNat else -1
theorem l_216 {h : HP} (w : RSk h) (b7 : h_mi h 145 49 ≤ 7) (d : Nat) (row what : Int) : ∀ (k : Nat) (i a : Int), (h_mi h 145 49 - i).toNat = k → 0 ≤ i → i ≤ h_mi h 145 49 → run (d + 1) md_216 76 [vr 145, vi row, vi what, vi a, vi i] [] h = some (vi (itr (fun k a => i_or a (i_shl 1 (h_mi h 178 k.toNat))) k i a), h)
  | 0, i, a, h1, h2, h3 => by
    rw [q_216_76 d row what a i h w, dt (by omega)]; rfl
  | k + 1, i, a, h1, h2, h3 => by
    rw [q_216_76 d row what a i h w]
    simp (disch := omega) only [mi_sM, sI_sM, sRi_sM, isK_sM, inb_sM, ln_sM, mr_sM, ml_sM, dt, df, ia, is_, zb, bI_s, bV_s, bR_s]
    exact l_216 w b7 d row what k (i + 1) _ (by omega) (by omega) (by omega)
/-- what a thickness t carries -/
def crT (M : MM) (t : Int) : CS := crS M (fun b => t - b)
def carriedV (M : MM) (row what : Int) : Int := if (0 ≤ row ∧ row < M 147 1) ∧ 0 ≤ what ∧ what ≤ 8 then caO what (crT M (tnV M row)) else -1
theorem crS_ag {M N : MM} (h1 : ∀ a, a = 147 ∨ a = 154 ∨ a = 155 ∨ a = 156 ∨ a = 172 ∨ a = 177 ∨ a = 178 → N a = M a) (T : Int → Int) : crS N T = crS M T := by
  have key : ∀ k at_ used sum by_ s, dfs N T k at_ used sum by_ s = dfs M T k at_ used sum by_ s := by
    intro k
    induction k with
    | zero => intros; rfl
    | succ k ih =>
      intro at_ used sum by_ s
      have e : ∀ l, ndV N l = ndV M l := fun l => by unfold ndV; rw [h1 154 (by omega), h1 155 (by omega)]
      have e2 : ∀ l, weV N l = weV M l := fun l => by unfold weV; rw [h1 154 (by omega)]
      show itr _ (N 147 3).toNat 0 _ = itr _ (M 147 3).toNat 0 _
      simp only [ih, e, e2, h1 156 (by omega), h1 147 (by omega)]
  unfold crS
  rw [key, h1 172 (by omega), h1 177 (by omega), h1 178 (by omega)]
theorem r_carried {E : EE} (d : Nat) (row what : Int) (h : HP) (w : RSk h) (v : VM (h_mi h) E) : ∃ N, ev (d + 11) 216 [vr 145, vi row, vi what] h = some (vi (carriedV (h_mi h) row what), sM h N) ∧ QA (h_mi h) N := by
  have q0 : QA (h_mi h) (up2 (h_mi h) 145 0 0) := QA.f 0 0 (by omega) (by omega)
  have e0 : ∀ a, a ≠ 145 → (up2 (h_mi h) 145 0 0) a = h_mi h a := fun a ha => u2_ne _ _ _ ha
  have hc := v.c
  have hr := v.r
  rw [v_216, q_216_0 (d + 10) row what h w, sI_h, m_185 _ _ _ (w.m _), mi_sM, e0 147 (by omega), bI_s, q_216_10, m_148]
  unfold carriedV
  by_cases c1 : 0 ≤ row ∧ row < h_mi h 147 1
  · rw [bb_dt c1]
    simp only [zb, bI_s]
    rw [q_216_20 (d + 10) row what _ _ (w.m _)]
    by_cases c2 : 0 ≤ what ∧ what ≤ 8
    · have q1 : QA (h_mi h) (va_up (up2 (h_mi h) 145 0 0) 176 (seeR (up2 (h_mi h) 145 0 0) row)) := q0.tr (QA.row _ (by unfold RsA; omega) (by omega))
      have e1 : ∀ a, a ≠ 145 → a ≠ 176 → (va_up (up2 (h_mi h) 145 0 0) 176 (seeR (up2 (h_mi h) 145 0 0) row)) a = h_mi h a := fun a h1 h2 => by rw [up_ne _ _ h2, e0 a h1]
      have es : ∀ j : Int, 0 ≤ j → j < h_mi h 147 0 → (seeR (up2 (h_mi h) 145 0 0) row) j.toNat = seeG (h_mi h) row j := fun j j0 j1 => by
        rw [seeR_at j0 (by rw [e0 147 (by omega)]; exact j1)]; exact seeG_ag (e0 148 (by omega)) (e0 172 (by omega)) row j
      have hs : ∀ j : Int, 0 ≤ j → j < h_mi h 147 0 → seeG (h_mi h) row j ≤ 99 ∨ seeG (h_mi h) row j = 1000 := fun j j0 j1 => by
        have := (v.s (c := (10 * row + j).toNat) (by omega)).1
        unfold seeG; split <;> omega
      rw [bb_nt c2, if_pos ⟨c1, c2⟩, m_202 _ row _ (w.m _) (by rw [mi_sM, e0 147 (by omega)]; omega) (by rw [mi_sM, e0 147 (by omega)]; omega) c1.1 (by omega)]
      simp only [zb, bV_s, mi_sM, sM_sM]
      rw [q_216_30 (d + 10) row what _ (w.m _), m_215 (E := E) d (sM h (va_up (up2 (h_mi h) 145 0 0) 176 (seeR (up2 (h_mi h) 145 0 0) row))) w (q1.vm v) (by
        rw [mi_sM, up_eq, e1 147 (by omega) (by omega)]
        intro j j0 j1
        have sb := seeG_b v c1.1 (show row < 6 by omega) j0 (by omega)
        rw [es j j0 j1]; omega), bV_s, mi_sM, up_eq, e1 147 (by omega) (by omega), sM_sM]
      have cb := crS_b (q1.vm v) (fun b => lob (seeR (up2 (h_mi h) 145 0 0) row) b (h_mi h 147 0))
      have ec : crS (va_up (up2 (h_mi h) 145 0 0) 176 (seeR (up2 (h_mi h) 145 0 0) row)) (fun b => lob (seeR (up2 (h_mi h) 145 0 0) row) b (h_mi h 147 0)) = crT (h_mi h) (tnV (h_mi h) row) := by
        rw [crS_ag (M := h_mi h) (fun a ha => e1 a (by omega) (by omega)), crS_lo v (fun j j0 j1 => by rw [es j j0 j1]; exact hs j j0 j1)]
        have : lo (seeR (up2 (h_mi h) 145 0 0) row) (h_mi h 147 0) = tnV (h_mi h) row := lo_congr (fun j j0 j1 => by
          rw [es j j0 j1]
          have : ((j.toNat : Nat) : Int) = j := by omega
          simp only [this])
        rw [this]; rfl
      rw [ec] at cb ⊢
      refine ⟨_, ?_, q1.tr (cM_q _ (crT (h_mi h) (tnV (h_mi h) row)))⟩
      generalize crT (h_mi h) (tnV (h_mi h) row) = s at cb ⊢
      rw [q_216_34 (d + 10) row what _ (w.m _), mi_sM, cM_48, cM_49, cM_178, is_ (by omega) (by omega)]
      unfold caO
      by_cases k0 : what = 0
      · rw [df (by omega), if_pos k0]; rfl
      · rw [dt k0, if_neg k0]
        by_cases k1 : what = 1
        · rw [dt (by omega), if_pos k1]
          have l := l_216 (h := sM h (cM (va_up (up2 (h_mi h) 145 0 0) 176 (seeR (up2 (h_mi h) 145 0 0) row)) s)) w (by rw [mi_sM, cM_49]; omega) (d + 10) row what _ 0 0 rfl (by omega) (by rw [mi_sM, cM_49]; omega)
          rw [mi_sM, cM_49, cM_178, Int.sub_zero] at l
          exact l
        · rw [df (p := what ≤ 1) (by omega), if_neg k1]
          by_cases k2 : what - 2 < s.2.1
          · rw [df (by omega), if_pos k2]
            simp (disch := omega) only [mi_sM, sI_sM, sRi_sM, isK_sM, inb_sM, ln_sM, mr_sM, ml_sM, dt, df, ia, is_, zb, bI_s, bV_s, bR_s]
          · rw [dt (by omega), if_neg k2]; rfl
    · refine ⟨_, ?_, q0⟩
      rw [bb_nf c2, if_neg (fun z => c2 z.2)]; rfl
  · refine ⟨_, ?_, q0⟩
    rw [bb_df c1, if_neg (fun z => c1 z.1)]; rfl
