/-! the reference: carried, a search -/
abbrev CS : Type := Int × Int × (Nat → Int) × (Nat → Int)
def cM (M : MM) (s : CS) : MM := va_up (va_up (up2 (up2 M 145 48 s.1) 145 49 s.2.1) 178 s.2.2.1) 177 s.2.2.2
theorem cM_48 (M : MM) (s : CS) : cM M s 145 48 = s.1 := by unfold cM; rw [up_ne _ _ (by omega), up_ne _ _ (by omega), u2_no _ _ _ (by omega), u2_at]
theorem cM_49 (M : MM) (s : CS) : cM M s 145 49 = s.2.1 := by unfold cM; rw [up_ne _ _ (by omega), up_ne _ _ (by omega), u2_at]
theorem cM_f (M : MM) (s : CS) {k : Nat} (h1 : k ≠ 48) (h2 : k ≠ 49) : cM M s 145 k = M 145 k := by unfold cM; rw [up_ne _ _ (by omega), up_ne _ _ (by omega), u2_no _ _ _ h2, u2_no _ _ _ h1]
theorem cM_178 (M : MM) (s : CS) : cM M s 178 = s.2.2.1 := by unfold cM; rw [up_ne _ _ (by omega), up_eq]
theorem cM_177 (M : MM) (s : CS) : cM M s 177 = s.2.2.2 := by unfold cM; rw [up_eq]
theorem cM_ne (M : MM) (s : CS) {a : Nat} (h1 : a ≠ 145) (h2 : a ≠ 177) (h3 : a ≠ 178) : cM M s a = M a := by unfold cM; rw [up_ne _ _ h2, up_ne _ _ h3, u2_ne _ _ _ h1, u2_ne _ _ _ h1]
theorem up2_comm (M : MM) (a : Nat) {j k : Nat} (v u : Int) (h : j ≠ k) : up2 (up2 M a j v) a k u = up2 (up2 M a k u) a j v := by
  unfold up2; rw [up_eq, up_eq, up_up, up_up, up_comm _ _ _ h]
theorem cM_w (M : MM) (s : CS) (x y : Int) : up2 (up2 (cM M s) 145 48 x) 145 49 y = cM M (x, y, s.2.2.1, s.2.2.2) := by
  unfold cM
  rw [up2_out _ _ _ _ (show 145 ≠ 177 by omega), up2_out _ _ _ _ (show 145 ≠ 178 by omega), up2_out _ _ _ _ (show 145 ≠ 177 by omega), up2_out _ _ _ _ (show 145 ≠ 178 by omega)]
  congr 2
  show up2 (up2 (up2 (up2 M 145 48 s.1) 145 49 s.2.1) 145 48 x) 145 49 y = up2 (up2 M 145 48 x) 145 49 y
  rw [up2_comm _ _ _ _ (show 49 ≠ 48 by omega), u2_u2, u2_u2]
theorem cM_l (M : MM) (s : CS) (k : Nat) (v : Int) : up2 (cM M s) 177 k v = cM M (s.1, s.2.1, s.2.2.1, va_up s.2.2.2 k v) := by
  unfold cM; rw [up2_row]
theorem cM_b (M : MM) (s : CS) (k : Nat) (v : Int) : up2 (cM M s) 178 k v = cM M (s.1, s.2.1, va_up s.2.2.1 k v, s.2.2.2) := by
  unfold cM; rw [up2_out _ _ _ _ (show 178 ≠ 177 by omega), up2_row]
/-- how many of seven bits -/
def pc (s : Int) : Int := bit s 0 + bit s 1 + bit s 2 + bit s 3 + bit s 4 + bit s 5 + bit s 6
theorem pc_ck : ((List.range 128).all fun s => (List.range 7).all fun l => decide (bit (s : Int) (l : Int) = 1) || (decide (pc ((s : Int) + 2 ^ l) = pc s + 1) && decide ((s : Int) + 2 ^ l < 128) && decide (i_or (s : Int) (i_shl 1 (l : Int)) = (s : Int) + 2 ^ l) && (List.range 7).all fun j => decide (bit ((s : Int) + 2 ^ l) (j : Int) = if j = l then 1 else bit s j))) = true := by decide +kernel
theorem pcI {s l : Int} (s0 : 0 ≤ s) (s1 : s < 128) (l0 : 0 ≤ l) (l1 : l < 7) (hb : bit s l ≠ 1) : pc (s + 2 ^ l.toNat) = pc s + 1 ∧ s + 2 ^ l.toNat < 128 ∧ i_or s (i_shl 1 l) = s + 2 ^ l.toNat ∧ ∀ j : Int, 0 ≤ j → j < 7 → bit (s + 2 ^ l.toNat) j = if j = l then 1 else bit s j := by
  have := rng_of (rng_of pc_ck (show s.toNat < 128 by omega)) (show l.toNat < 7 by omega)
  have e1 : ((s.toNat : Nat) : Int) = s := by omega
  have e2 : ((l.toNat : Nat) : Int) = l := by omega
  simp only [Bool.or_eq_true, Bool.and_eq_true, decide_eq_true_eq] at this
  rw [e1, e2] at this
  obtain ⟨⟨⟨h1, h2⟩, h3⟩, h4⟩ := this.resolve_left hb
  refine ⟨h1, h2, h3, fun j j0 j1 => ?_⟩
  have h5 := rng_of h4 (show j.toNat < 7 by omega)
  rw [decide_eq_true_eq] at h5
  have e3 : ((j.toNat : Nat) : Int) = j := by omega
  rw [e3] at h5
  rw [h5]
  by_cases c : j = l
  · rw [if_pos c, if_pos (by omega)]
  · rw [if_neg c, if_neg (by omega)]
theorem pc_b (s : Int) : 0 ≤ pc s ∧ pc s ≤ 7 := by
  unfold pc
  have h0 := bit01 s 0
  have h1 := bit01 s 1
  have h2 := bit01 s 2
  have h3 := bit01 s 3
  have h4 := bit01 s 4
  have h5 := bit01 s 5
  have h6 := bit01 s 6
  omega
theorem pc_7 {s l : Int} (l0 : 0 ≤ l) (l1 : l < 7) (hb : bit s l ≠ 1) : pc s ≤ 6 := by
  unfold pc
  have h0 := bit01 s 0
  have h1 := bit01 s 1
  have h2 := bit01 s 2
  have h3 := bit01 s 3
  have h4 := bit01 s 4
  have h5 := bit01 s 5
  have h6 := bit01 s 6
  have : l = 0 ∨ l = 1 ∨ l = 2 ∨ l = 3 ∨ l = 4 ∨ l = 5 ∨ l = 6 := by omega
  rcases this with rfl | rfl | rfl | rfl | rfl | rfl | rfl <;> omega
def cpL (at_ : Int) (LN BL : Nat → Int) : Nat → Int := itr (fun k f => va_up f k.toNat (LN k.toNat)) at_.toNat 0 BL
def updC (at_ sum : Int) (s : CS) : CS := if s.1 < sum ∨ (sum = s.1 ∧ at_ < s.2.1) then (sum, at_, cpL at_ s.2.2.2 s.2.2.1, s.2.2.2) else s
/-- the search; T: how thin it is once it is worn so much -/
def dfs (M : MM) (T : Int → Int) : Nat → Int → Int → Int → Int → CS → CS
  | 0, _, _, _, _, s => s
  | k + 1, at_, used, sum, by_, s => itr (fun l s => if bit used l = 1 ∨ T by_ < ndV M l then s else dfs M T k (at_ + 1) (used + 2 ^ l.toNat) (sum + M 156 l.toNat) (by_ + weV M l) (s.1, s.2.1, s.2.2.1, va_up s.2.2.2 at_.toNat l)) (M 147 3).toNat 0 (updC at_ sum s)
theorem l_213c {h : HP} {M : MM} (w : RSk h) {at_ : Int} (a1 : at_ ≤ 7) (d : Nat) (used sum by_ : Int) {W : Int} (s : CS) (hv : ∀ B, ev d 214 [vr 145, vi by_] (sM h (cM M (s.1, s.2.1, B, s.2.2.2))) = some (vi W, sM h (cM M (s.1, s.2.1, B, s.2.2.2)))) : ∀ (k : Nat) (i : Int) (B : Nat → Int), (at_ - i).toNat = k → 0 ≤ i → i ≤ at_ → run (d + 1) md_213 37 [vr 145, vi at_, vi used, vi sum, vi by_, vi i, vu] [] (sM h (cM M (s.1, s.2.1, B, s.2.2.2))) = run (d + 1) md_213 74 [vr 145, vi at_, vi used, vi sum, vi by_, vi W, vi 0] [] (sM h (cM M (s.1, s.2.1, itr (fun k f => va_up f k.toNat (s.2.2.2 k.toNat)) k i B, s.2.2.2)))
  | 0, i, B, h1, h2, h3 => by
    rw [q_213_37 d at_ used sum by_ i _ (w.m _), dt (by omega), hv B]
    simp only [zb, bI_s]
    rw [q_213_69]; rfl
  | k + 1, i, B, h1, h2, h3 => by
    rw [q_213_37 d at_ used sum by_ i _ (w.m _)]
    simp (disch := omega) only [mi_sM, sI_sM, sRi_sM, isK_sM, inb_sM, ln_sM, mr_sM, ml_sM, dt, df, ia, is_, zb, bI_s, bV_s, bR_s]
    rw [cM_177, cM_b]
    exact l_213c w a1 d used sum by_ s hv k (i + 1) _ (by omega) (by omega) (by omega)
theorem c_213 {h : HP} {M : MM} {E : EE} (w : RSk h) (v : VM M E) {T : Int → Int} (hT : ∀ (d : Nat) (by_ : Int) (s : CS), 0 ≤ by_ → by_ ≤ 100 → ev d 214 [vr 145, vi by_] (sM h (cM M s)) = some (vi (T by_), sM h (cM M s))) (d : Nat) : ∀ (k : Nat) (at_ used sum by_ : Int) (s : CS), 0 ≤ at_ → at_ ≤ pc used → 8 ≤ at_ + k → 0 ≤ used → used < 128 → 0 ≤ sum → sum ≤ at_ * 99 → 0 ≤ by_ → by_ ≤ at_ * 3 → ev (d + 1 + k) 213 [vr 145, vi at_, vi used, vi sum, vi by_] (sM h (cM M s)) = some (vr 0, sM h (cM M (dfs M T k at_ used sum by_ s)))
  | 0, at_, used, sum, by_, s, a0, a1, ak, u0, u1, s0, s1, b0, b1 => by
    have := pc_b used
    omega
  | k + 1, at_, used, sum, by_, s, a0, a1, ak, u0, u1, s0, s1, b0, b1 => by
    have pb := pc_b used
    have hl := v.l
    -- the loads in turn
    have loop : ∀ (j : Nat) (i : Int) (s : CS), (M 147 3 - i).toNat = j → 0 ≤ i → i ≤ M 147 3 → run (d + 1 + k + 1) md_213 74 [vr 145, vi at_, vi used, vi sum, vi by_, vi (T by_), vi i] [] (sM h (cM M s)) = some (vr 0, sM h (cM M (itr (fun l s => if bit used l = 1 ∨ T by_ < ndV M l then s else dfs M T k (at_ + 1) (used + 2 ^ l.toNat) (sum + M 156 l.toNat) (by_ + weV M l) (s.1, s.2.1, s.2.2.1, va_up s.2.2.2 at_.toNat l)) j i s))) := by
      intro j
      induction j with
      | zero =>
        intro i s h1 h2 h3
        rw [q_213_74 (d + 1 + k) at_ used sum by_ _ i _ (w.m _), mi_sM, cM_ne _ _ (by omega) (by omega) (by omega), dt (by omega)]; rfl
      | succ j ih =>
        intro i s h1 h2 h3
        have lb := v.ld (l := i.toNat) (by omega)
        have wb := weV_b M i
        have e1 : ∀ s : CS, ev (d + 1 + k) 196 [vr 145, vi i] (sM h (cM M s)) = some (vi (ndV M i), sM h (cM M s)) := fun s => by
          rw [m_196 _ i _ (w.m _) h2 (by omega) (by rw [mi_sM, cM_ne _ _ (by omega) (by omega) (by omega)]; omega) (by rw [mi_sM, cM_ne _ _ (by omega) (by omega) (by omega)]; omega), mi_sM, cM_ne _ _ (by omega) (by omega) (by omega), cM_ne _ _ (by omega) (by omega) (by omega)]; rfl
        have e2 : ∀ s : CS, ev (d + 1 + k) 197 [vr 145, vi i] (sM h (cM M s)) = some (vi (weV M i), sM h (cM M s)) := fun s => by
          rw [m_197 _ i _ (w.m _) h2 (by omega), mi_sM, cM_ne _ _ (by omega) (by omega) (by omega)]; rfl
        have nxt : ∀ s : CS, run (d + 1 + k + 1) md_213 148 [vr 145, vi at_, vi used, vi sum, vi by_, vi (T by_), vi i] [] (sM h (cM M s)) = some (vr 0, sM h (cM M (itr (fun l s => if bit used l = 1 ∨ T by_ < ndV M l then s else dfs M T k (at_ + 1) (used + 2 ^ l.toNat) (sum + M 156 l.toNat) (by_ + weV M l) (s.1, s.2.1, s.2.2.1, va_up s.2.2.2 at_.toNat l)) j (i + 1) s))) := fun s => by
          rw [q_213_148, ia (by omega) (by omega)]
          exact ih (i + 1) s (by omega) (by omega) (by omega)
        rw [q_213_74 (d + 1 + k) at_ used sum by_ _ i _ (w.m _), mi_sM, cM_ne _ _ (by omega) (by omega) (by omega), df (by omega), bitI u0 u1 h2 (by omega), e1]
        simp only [zb, bI_s]
        show _ = some (vr 0, sM h (cM M (itr _ j (i + 1) (if bit used i = 1 ∨ T by_ < ndV M i then s else _))))
        by_cases c1 : bit used i = 1
        · rw [dt c1, if_pos (Or.inl c1)]
          exact nxt s
        · rw [df c1]
          simp only [zb]
          rw [q_213_103 (d + 1 + k) at_ used sum by_ _ i _ _ _ (w.m _), mi_sM, cM_ne _ _ (show 156 ≠ 145 by omega) (by omega) (by omega)]
          have p7 := pc_7 h2 (show i < 7 by omega) c1
          have pI := pcI u0 u1 h2 (show i < 7 by omega) c1
          by_cases c2 : ndV M i ≤ T by_
          · rw [dt c2, if_neg (by omega), pI.2.2.1]
            simp (disch := omega) only [mi_sM, sI_sM, sRi_sM, isK_sM, inb_sM, ln_sM, mr_sM, ml_sM, dt, df, ia, is_, zb, bI_s, bV_s, bR_s]
            rw [cM_l, e2, bI_s, q_213_144 (d + 1 + k) at_ used sum by_ _ i _ _ _ _ _ _ (w.m _), ia (by omega) (by omega)]
            have pp := p2p i.toNat
            rw [c_213 w v hT d k (at_ + 1) (used + 2 ^ i.toNat) (sum + M 156 i.toNat) (by_ + weV M i) _ (by omega) (by omega) (by omega) (by omega) pI.2.1 (by omega) (by omega) (by omega) (by omega), bV_s]
            exact nxt _
          · rw [df c2, if_pos (Or.inr (by omega))]
            exact nxt s
    have hv := hT (d + 1 + k) by_ s b0 (by omega)
    show ev (d + 1 + k + 1) 213 _ _ = _
    rw [v_213, q_213_0 (d + 1 + k) at_ used sum by_ _ (w.m _), mi_sM, cM_48, cM_49, hv]
    simp only [bI_s, sI_sM]
    rw [q_213_69, cM_w]
    have cpy := l_213c (h := h) (M := M) w (show at_ ≤ 7 by omega) (d + 1 + k) used sum by_ (W := T by_) (sum, at_, s.2.2.1, s.2.2.2) (fun B => hT _ by_ _ b0 (by omega)) _ 0 s.2.2.1 rfl (by omega) a0
    rw [Int.sub_zero] at cpy
    have cpy : run (d + 1 + k + 1) md_213 37 [vr 145, vi at_, vi used, vi sum, vi by_, vi 0, vu] [] (sM h (cM M (sum, at_, s.2.2.1, s.2.2.2))) = _ := cpy
    have fin := fun s => loop _ 0 s rfl (by omega) (by omega)
    rw [Int.sub_zero] at fin
    rw [cpy, fin, fin]
    show _ = some (vr 0, sM h (cM M (itr _ _ 0 (updC at_ sum s))))
    unfold updC
    by_cases c1 : s.1 < sum
    · rw [dt c1, if_pos (Or.inl c1)]; rfl
    · rw [df c1]
      by_cases c2 : sum = s.1
      · rw [df (p := sum ≠ s.1) (by omega)]
        by_cases c3 : s.2.1 ≤ at_
        · rw [dt c3, if_neg (by omega)]; rfl
        · rw [df c3, if_pos (by omega)]; rfl
      · rw [dt c2, if_neg (by omega)]; rfl
