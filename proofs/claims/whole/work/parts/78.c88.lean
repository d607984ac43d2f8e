/-! the law answers 1 -/
section
variable {h : HP} {t : Nat} {E : EE} {B : Int} {L : Nat} {xs : Nat → Int} {x4 : Int} {v5 v6 : AV}
theorem Inv.lf (i : Inv h t E B L xs) (l1 : L ≤ 3584) (x0 : 0 ≤ x4) (x7 : x4 + 7 ≤ (L : Int)) : Lfx h L x4 := by
  have lw := i.2.2.2.2.2.2
  exact ⟨by rw [lw.1]; rfl, lw.2.1, (i.1.cs.1 _ (List.mem_of_getElem? (i := 0) rfl)).1, (i.1.rs.1 _ (List.mem_of_getElem? (i := 0) rfl)).1, l1, x0, x7⟩
theorem lw_st (i : Inv h t E B L xs) (f : Lfx h L x4) (hB : B + 1000 ≤ 1000000) (r : ∀ j, r32 (xs j)) : ∃ w5 w6 h2, run (199 + 1) md_268 23 [vr 40, vr 100, vr 145, vr 181, vi x4, v5, v6] [] h = run (199 + 1) md_268 23 [vr 40, vr 100, vr 145, vr 181, vi (i_add x4 7), w5, w6] [] h2 ∧ Nx h B L xs h2 := by
  have e40 : h_mi h 40 = xs := i.2.2.2.2.2.2.2.2.1
  have rr : ∀ j, h_mi h 40 j < 2147483648 := fun j => by rw [e40]; exact (r j).2
  have dd := i.2.2.2.1
  have db : DdB (h_mi h) := ⟨dd.2.2.1, by rw [dd.1]; exact dd.2.1⟩
  obtain ⟨c, hc⟩ : ∃ c, i_and (h_mi h 40 x4.toNat) 31 = c := ⟨_, rfl⟩
  by_cases cn : 0 ≤ c ∧ c ≤ 29
  · have : c = 0 ∨ c = 1 ∨ c = 2 ∨ c = 3 ∨ c = 4 ∨ c = 5 ∨ c = 6 ∨ c = 7 ∨ c = 8 ∨ c = 9 ∨ c = 10 ∨ c = 11 ∨ c = 12 ∨ c = 13 ∨ c = 14 ∨ c = 15 ∨ c = 16 ∨ c = 17 ∨ c = 18 ∨ c = 19 ∨ c = 20 ∨ c = 21 ∨ c = 22 ∨ c = 23 ∨ c = 24 ∨ c = 25 ∨ c = 26 ∨ c = 27 ∨ c = 28 ∨ c = 29 := by omega
    rcases this with q | q | q | q | q | q | q | q | q | q | q | q | q | q | q | q | q | q | q | q | q | q | q | q | q | q | q | q | q | q <;> rw [q] at hc
    · exact lw_0 f hc (b_feed i _ _ _)
    · exact lw_1 f hc (p_fjord i)
    · exact lw_2 f hc (b_cell i _ _ _)
    · exact lw_3 f hc (b_pourer i _ _)
    · exact lw_4 f hc (b_load i _ _)
    · exact lw_5 f hc (b_pour i db _ _ _)
    · exact lw_6 f hc (b_over i db _ _)
    · exact lw_7 f hc (b_undo i )
    · exact lw_8 f hc (b_hours i _ hB)
    · exact lw_9 f hc (b_thin i _)
    · exact lw_10 f hc (b_until i _ _ hB)
    · exact lw_11 f hc (b_carried i _ _ (rr _))
    · exact lw_12 f hc (b_built i _ _ _)
    · exact lw_13 f hc (b_best i _)
    · exact lw_14 f hc (b_half i _ _)
    · exact lw_15 f hc (b_rests i _ _)
    · exact lw_16 f hc (b_guess i _ _ _ _)
    · exact lw_17 f hc (b_queue i _ _ (rr _))
    · exact lw_18 f hc (b_toll i _ _)
    · exact lw_19 f hc (b_sound i _ _)
    · exact lw_20 f hc (b_heard i _ _ _)
    · exact lw_21 f hc (b_value i _)
    · exact lw_22 f hc (b_share i _ _)
    · exact lw_23 f hc (b_leaves i )
    · exact lw_24 f hc (b_stump i _ _ _)
    · exact lw_25 f hc (b_fits i _ _ _ _ _)
    · exact lw_26 f hc (b_salted i _ _ _)
    · exact lw_27 f hc (b_winter i _ _ _ _)
    · by_cases y : (h_mi h 40 ((i_add x4 2 : Int).toNat)) = 0
      · exact lw_28_0 f hc y (b_mark i _ _)
      · exact lw_28_1 f hc y (b_mark i _ _)
    · exact lw_29 f hc (b_count i _)
  · exact ⟨v5, v6, h, lw_e f hc cn, ⟨t, E, i.up (by omega)⟩, by omega, by omega⟩
theorem lw_lp (l1 : L ≤ 3584) (r : ∀ j, r32 (xs j)) : ∀ (k n : Nat) (h : HP) (t : Nat) (E : EE) (v5 v6 : AV), L ≤ 7 * (n + k) + 6 → 7 * n ≤ L → Inv h t E (1000 * (n : Int)) L xs → ∃ hE, run (199 + 1) md_268 23 [vr 40, vr 100, vr 145, vr 181, vi ((7 * n : Nat) : Int), v5, v6] [] h = some (vi 1, hE) ∧ h_sz hE ≤ h_sz h + 1100 * k ∧ h_sl hE ≤ h_sl h + 10000 * k
  | 0, n, h, t, E, v5, v6, hk, hn, i => by
    refine ⟨h, ?_, by omega, by omega⟩
    have lw := i.2.2.2.2.2.2
    have a1 : (isK h 40 11 || isK h 40 22 || isK h 40 21 || isK h 40 24 || isK h 40 10 || isK h 40 12) = true := by unfold isK; rw [lw.1]; rfl
    have a2 : decide (i_sub (h_ln h 40 : Int) 7 < ((7 * n : Nat) : Int)) = true := by rw [lw.2.1, is_ (by omega) (by omega)]; exact dt (by omega)
    rw [q_268_23, a1, a2]; rfl
  | k + 1, n, h, t, E, v5, v6, hk, hn, i => by
    by_cases z : 7 * n + 7 ≤ L
    · obtain ⟨w5, w6, h2, e, ⟨⟨t2, E2, i2⟩, s1, s2⟩⟩ := lw_st (v5 := v5) (v6 := v6) i (i.lf l1 (x4 := ((7 * n : Nat) : Int)) (by omega) (by omega)) (by omega) r
      have i2' : Inv h2 t2 E2 (1000 * ((n + 1 : Nat) : Int)) L xs := by
        rw [show 1000 * ((n + 1 : Nat) : Int) = 1000 * (n : Int) + 1000 by omega]; exact i2
      obtain ⟨hE, e2, q1, q2⟩ := lw_lp l1 r k (n + 1) h2 t2 E2 w5 w6 (by omega) (by omega) i2'
      refine ⟨hE, ?_, by omega, by omega⟩
      rw [e, ia (by omega) (by omega), show ((7 * n : Nat) : Int) + 7 = ((7 * (n + 1) : Nat) : Int) by omega, e2]
    · refine ⟨h, ?_, by omega, by omega⟩
      have lw := i.2.2.2.2.2.2
      have a1 : (isK h 40 11 || isK h 40 22 || isK h 40 21 || isK h 40 24 || isK h 40 10 || isK h 40 12) = true := by unfold isK; rw [lw.1]; rfl
      have a2 : decide (i_sub (h_ln h 40 : Int) 7 < ((7 * n : Nat) : Int)) = true := by rw [lw.2.1, is_ (by omega) (by omega)]; exact dt (by omega)
      rw [q_268_23, a1, a2]; rfl
end
theorem pure_goal : PureGoal := by
  intro w l1 r
  obtain ⟨H, e, i, z1, z2⟩ := inv_0 w
  obtain ⟨hE, e2, q1, q2⟩ := lw_lp (L := w_L w) (xs := w_xs w) l1 r 512 0 H 107 (fun _ l => dfl l) vu vu (by omega) (by omega) i
  refine ⟨hE, ?_, by omega, by omega⟩
  have ok : okA 268 [vr 40] = true := by decide +kernel
  have ee : ev (199 + 1) 268 [vr 40] (h00 w) = run 200 (meth 268) 0 (fil (meth 268).2.2.1 (ent [vr 40])) [] (h00 w) := by
    unfold ev
    rw [ok]
    rfl
  rw [← ee, v_268, e]
  exact e2
