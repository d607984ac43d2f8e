/-! the reference takes a token -/
section
variable {h : HP} {N : MM} {f : Nat → Int} {n : Nat}
theorem l_152d (w : RSk h) (d : Nat) (h3 : N 145 3 = (n : Int)) (h6 : N 146 = f) (n1 : n ≤ 1000) {b : Nat} (h5 : N 145 5 = (b : Int)) (x1 : Int) : ∀ (k p : Nat) (v : Int), p + k = n → b ≤ p → ∃ v', run (d + 1) md_152 224 [vr 145, vi x1] [] (sM h (up2 (up2 N 145 8 v) 145 4 (p : Int))) = run (d + 1) md_152 299 [vr 145, vi x1] [] (sM h (up2 (up2 N 145 8 v') 145 4 ((spn (qD f n) k p : Nat) : Int))) ∧ (spn (qD f n) k p ≤ b + 4 → v' = nuA f (spn (qD f n) k p - p) p v)
  | 0, p, v, hp, hb => by
    have e3 : up2 (up2 N 145 8 v) 145 4 (p : Int) 145 3 = (n : Int) := by rw [u2_no _ _ _ (by omega), u2_no _ _ _ (by omega)]; exact h3
    have e6 : up2 (up2 N 145 8 v) 145 4 (p : Int) 146 = f := by rw [u2_ne _ _ _ (by omega), u2_ne _ _ _ (by omega)]; exact h6
    refine ⟨v, ?_, fun _ => by show v = nuA f (p - p) p v; rw [Nat.sub_self]; rfl⟩
    rw [q_152_224 (w := w.m _), mi_sM, u2_at, m_151 w d (n := n) e3 e6 n1, bI_s, q_152_232 (w := w.m _), if_neg (by omega), dt (by omega)]
    rfl
  | k + 1, p, v, hp, hb => by
    have e3 : up2 (up2 N 145 8 v) 145 4 (p : Int) 145 3 = (n : Int) := by rw [u2_no _ _ _ (by omega), u2_no _ _ _ (by omega)]; exact h3
    have e5 : up2 (up2 N 145 8 v) 145 4 (p : Int) 145 5 = (b : Int) := by rw [u2_no _ _ _ (by omega), u2_no _ _ _ (by omega)]; exact h5
    have e6 : up2 (up2 N 145 8 v) 145 4 (p : Int) 146 = f := by rw [u2_ne _ _ _ (by omega), u2_ne _ _ _ (by omega)]; exact h6
    have e8 : up2 (up2 N 145 8 v) 145 4 (p : Int) 145 8 = v := by rw [u2_no _ _ _ (by omega), u2_at]
    have m := m_151 (N := up2 (up2 N 145 8 v) 145 4 (p : Int)) w d (n := n) (p := p) e3 e6 n1
    rw [if_pos (by omega)] at m
    rw [q_152_224 (w := w.m _), mi_sM, u2_at, m, bI_s, q_152_232 (w := w.m _), mi_sM, u2_at, m]
    show ∃ v', _ = run (d + 1) md_152 299 [vr 145, vi x1] [] (sM h (up2 (up2 N 145 8 v') 145 4 (((bif qD f n p then spn (qD f n) k (p + 1) else p) : Nat) : Int))) ∧ ((bif qD f n p then spn (qD f n) k (p + 1) else p) ≤ b + 4 → v' = nuA f ((bif qD f n p then spn (qD f n) k (p + 1) else p) - p) p v)
    cases e : qD f n p with
    | false =>
      refine ⟨v, ?_, fun _ => by show v = nuA f (p - p) p v; rw [Nat.sub_self]; rfl⟩
      have hn : ¬ (48 ≤ f p ∧ f p ≤ 57) := fun q => by rw [qD_t.mpr ⟨by omega, q⟩] at e; cases e
      by_cases z : f p < 48
      · rw [dt z]; rfl
      · rw [df z]
        simp only [zb, bI_s]
        rw [q_152_245 (w := w.m _), dt (by omega)]; rfl
    | true =>
      have hq := (qD_t.mp e).2
      have sb := spn_b (qD f n) k (p + 1)
      rw [df (by omega)]
      simp only [zb, bI_s]
      rw [q_152_245 (w := w.m _), df (by omega), mi_sM, u2_at, e5, e8, is_ (by omega) (by omega), ia (by omega) (by omega), show (p : Int) + 1 = ((p + 1 : Nat) : Int) by omega, sI_sM, u2_u2, m]
      by_cases z : p - b < 4
      · rw [df (show ¬ 4 ≤ (p : Int) - (b : Int) by omega)]
        simp only [zb, bI_s]
        have ec : up2 (up2 (up2 (up2 N 145 8 v) 145 4 (p : Int)) 145 8 (i_add (i_mul v 10) (f p - 48))) 145 4 ((p + 1 : Nat) : Int) = up2 (up2 N 145 8 (i_add (i_mul v 10) (f p - 48))) 145 4 ((p + 1 : Nat) : Int) := by
          rw [up2_comm _ _ _ _ (show (8 : Nat) ≠ 4 by omega), u2_u2, up2_comm _ _ _ _ (show (8 : Nat) ≠ 4 by omega), u2_u2, up2_comm _ _ _ _ (show (8 : Nat) ≠ 4 by omega)]
        rw [q_152_279 (w := w.m _), i_sa, sI_sM, mi_sM, u2_at, ia (x := (p : Int)) (by omega) (by omega), show (p : Int) + 1 = ((p + 1 : Nat) : Int) by omega, sI_sM, ec]
        obtain ⟨v', r, hg⟩ := l_152d w d h3 h6 n1 h5 x1 k (p + 1) (i_add (i_mul v 10) (f p - 48)) (by omega) (by omega)
        refine ⟨v', r, fun q => ?_⟩
        have q : spn (qD f n) k (p + 1) ≤ b + 4 := q
        rw [hg q]
        show nuA f _ (p + 1) _ = nuA f (spn (qD f n) k (p + 1) - p) p v
        rw [show spn (qD f n) k (p + 1) - p = spn (qD f n) k (p + 1) - (p + 1) + 1 by omega]
        rfl
      · rw [dt (show 4 ≤ (p : Int) - (b : Int) by omega)]
        obtain ⟨v', r, hg⟩ := l_152d w d h3 h6 n1 h5 x1 k (p + 1) v (by omega) (by omega)
        refine ⟨v', r, fun q => ?_⟩
        have q : spn (qD f n) k (p + 1) ≤ b + 4 := q
        omega
end
/-- the reference is at the token from p on -/
def RTk (h : HP) (f : Nat → Int) (n p : Nat) : Prop := h_mi h 145 3 = (n : Int) ∧ h_mi h 145 4 = ((tkE f n p : Nat) : Int) ∧ h_mi h 145 5 = ((tB f n p : Nat) : Int) ∧ h_mi h 145 6 = tkK f n p ∧ (tkK f n p = 1 → h_ml h 145 7 = tkW f n p) ∧ (tkK f n p = 2 → h_mi h 145 8 = tkN f n p) ∧ h_mi h 146 = f
theorem m_152 {h : HP} {f : Nat → Int} {n p : Nat} (w : RSk h) (d : Nat) (h3 : h_mi h 145 3 = (n : Int)) (h4 : h_mi h 145 4 = (p : Int)) (h6 : h_mi h 146 = f) (n1 : n ≤ 1000) (p1 : p ≤ n) : ∃ N g, ev (d + 1) 152 [vr 145] h = some (vr 0, sM (sL h 145 7 g) N) ∧ (∀ a, a ≠ 145 → N a = h_mi h a) ∧ (∀ j, j ≠ 4 → j ≠ 5 → j ≠ 6 → j ≠ 8 → N 145 j = h_mi h 145 j) ∧ RTk (sM (sL h 145 7 g) N) f n p := by
  have bb := tB_b (f := f) p1
  have s1 := l_152s (h := h) (N := h_mi h) (f := f) (n := n) w d h3 h6 n1 (n - p) p (by omega)
  have e0 : up2 (h_mi h) 145 4 (p : Int) = h_mi h := by rw [up2_def, ← h4, up_self, up_self]
  rw [e0, sM_self] at s1
  have s1 : run (d + 1) md_152 0 [vr 145, vu] [] h = run (d + 1) md_152 52 [vr 145, vu] [] (sM h (up2 (h_mi h) 145 4 ((tB f n p : Nat) : Int))) := s1
  generalize hb : tB f n p = b at *
  have a3 : up2 (h_mi h) 145 4 (b : Int) 145 3 = (n : Int) := by rw [u2_no _ _ _ (by omega)]; exact h3
  have a6 : up2 (h_mi h) 145 4 (b : Int) 146 = f := by rw [u2_ne _ _ _ (by omega)]; exact h6
  -- what stands once begin, word, number are laid
  generalize hP : up2 (up2 (up2 (h_mi h) 145 4 (b : Int)) 145 5 (b : Int)) 145 8 0 = P
  have p4 : P 145 4 = (b : Int) := by rw [← hP, u2_no _ _ _ (by omega), u2_no _ _ _ (by omega), u2_at]
  have p5 : P 145 5 = (b : Int) := by rw [← hP, u2_no _ _ _ (by omega), u2_at]
  have p8 : P 145 8 = 0 := by rw [← hP, u2_at]
  have pn : ∀ a, a ≠ 145 → P a = h_mi h a := fun a ha => by rw [← hP, u2_ne _ _ _ ha, u2_ne _ _ _ ha, u2_ne _ _ _ ha]
  have pj : ∀ j, j ≠ 4 → j ≠ 5 → j ≠ 8 → P 145 j = h_mi h 145 j := fun j j4 j5 j8 => by rw [← hP, u2_no _ _ _ j8, u2_no _ _ _ j5, u2_no _ _ _ j4]
  have p3 : P 145 3 = (n : Int) := by rw [pj 3 (by omega) (by omega) (by omega)]; exact h3
  have p6 : P 146 = f := by rw [pn 146 (by omega)]; exact h6
  have eP4 : up2 P 145 4 (b : Int) = P := by rw [up2_def, ← p4, up_self, up_self]
  have eP8 : up2 (up2 P 145 8 0) 145 4 (b : Int) = P := by
    have : up2 P 145 8 0 = P := by rw [up2_def, ← p8, up_self, up_self]
    rw [this, eP4]
  rw [v_152, s1, q_152_52 (w := w.m _), mi_sM, a3, a6, u2_at, Int.toNat_natCast]
  simp only [sI_sM, sL_sM, hP]
  -- how it ends
  have fin : ∀ (Q : MM) (g : Int) (e : Nat) (k : Int), (∀ a, a ≠ 145 → Q a = h_mi h a) → (∀ j, j ≠ 4 → j ≠ 5 → j ≠ 6 → j ≠ 8 → Q 145 j = h_mi h 145 j) → Q 145 4 = ((tkE f n p : Nat) : Int) → Q 145 5 = (b : Int) → Q 145 6 = tkK f n p → (tkK f n p = 1 → g = tkW f n p) → (tkK f n p = 2 → Q 145 8 = tkN f n p) → RTk (sM (sL h 145 7 g) Q) f n p := fun Q g e k q1 q2 q3 q4 q5 q6 q7 => ⟨by rw [mi_sM, q2 3 (by omega) (by omega) (by omega) (by omega)]; exact h3, q3, by rw [mi_sM, q4, hb], q5, fun z => by rw [mlLL]; exact q6 z, q7, by rw [mi_sM, q1 146 (by omega)]; exact h6⟩
  by_cases c0 : b = n
  · have ek : tkK f n p = 0 := by unfold tkK; rw [hb, if_pos c0]
    have ee : tkE f n p = n := by unfold tkE; rw [hb, if_pos c0]
    rw [df (show ¬ (b : Int) ≠ (n : Int) by omega)]
    refine ⟨up2 P 145 6 0, 0, rfl, fun a ha => by rw [u2_ne _ _ _ ha]; exact pn a ha, fun j j4 j5 j6 j8 => by rw [u2_no _ _ _ j6]; exact pj j j4 j5 j8, fin _ _ 0 0 (fun a ha => by rw [u2_ne _ _ _ ha]; exact pn a ha) (fun j j4 j5 j6 j8 => by rw [u2_no _ _ _ j6]; exact pj j j4 j5 j8) (by rw [u2_no _ _ _ (by omega), p4, ee, c0]) (by rw [u2_no _ _ _ (by omega)]; exact p5) (by rw [u2_at, ek]) (fun z => by omega) (fun z => by omega)⟩
  · rw [dt (show (b : Int) ≠ (n : Int) by omega), dt (show 0 ≤ (b : Int) by omega), dt (show (b : Int) < 1000 by omega)]
    by_cases cl : lt_ (f b)
    · obtain ⟨l1, l2⟩ := id cl
      rw [df (show ¬ f b < 97 by omega), df (show ¬ 122 < f b by omega)]
      simp only [zb]
      obtain ⟨g, r, hg⟩ := l_152w (h := h) (N := P) (f := f) (n := n) w d p3 p6 n1 p5 (f b) (n - b) b 0 (by omega) (by omega)
      rw [eP4] at r
      have ee : tkE f n p = tL f n b := by unfold tkE; rw [hb, if_neg c0, if_pos cl]
      have lb := spn_b (qL f n) (n - b) b
      have ek : tkK f n p = if 8 < tL f n b - b then 4 else 1 := by unfold tkK; rw [hb, if_neg c0, if_pos cl]
      rw [r, q_152_188 (w := (w.l _ _ _).m _), mi_sM, u2_at, u2_no _ _ _ (by omega), p5, is_ (by omega) (by omega)]
      generalize hQ : up2 P 145 4 ((spn (qL f n) (n - b) b : Nat) : Int) = Q
      have q1 : ∀ a, a ≠ 145 → Q a = h_mi h a := fun a ha => by rw [← hQ, u2_ne _ _ _ ha]; exact pn a ha
      have q2 : ∀ j, j ≠ 4 → j ≠ 5 → j ≠ 8 → Q 145 j = h_mi h 145 j := fun j j4 j5 j8 => by rw [← hQ, u2_no _ _ _ j4]; exact pj j j4 j5 j8
      have q4 : Q 145 4 = ((tL f n b : Nat) : Int) := by rw [← hQ, u2_at]; rfl
      have q5 : Q 145 5 = (b : Int) := by rw [← hQ, u2_no _ _ _ (by omega)]; exact p5
      have fz : ∀ x : Int, x = tkK f n p → RTk (sM (sL h 145 7 g) (up2 Q 145 6 x)) f n p := fun x hx => fin _ _ 0 0 (fun a ha => by rw [u2_ne _ _ _ ha]; exact q1 a ha) (fun j j4 j5 j6 j8 => by rw [u2_no _ _ _ j6]; exact q2 j j4 j5 j8) (by rw [u2_no _ _ _ (by omega), q4, ee]) (by rw [u2_no _ _ _ (by omega)]; exact q5) (by rw [u2_at]; exact hx) (fun z => by
        rw [ek] at z
        by_cases y : 8 < tL f n b - b
        · rw [if_pos y] at z; omega
        · have : spn (qL f n) (n - b) b ≤ b + 8 := by have : tL f n b = spn (qL f n) (n - b) b := rfl; omega
          rw [hg this]
          unfold tkW; rw [hb]; rfl) (fun z => by
        rw [ek] at z
        by_cases y : 8 < tL f n b - b
        · rw [if_pos y] at z; omega
        · rw [if_neg y] at z; omega)
      have tl : tL f n b = spn (qL f n) (n - b) b := rfl
      by_cases y : 8 < tL f n b - b
      · rw [df (by omega)]
        exact ⟨up2 Q 145 6 4, g, rfl, fun a ha => by rw [u2_ne _ _ _ ha]; exact q1 a ha, fun j j4 j5 j6 j8 => by rw [u2_no _ _ _ j6]; exact q2 j j4 j5 j8, fz 4 (by rw [ek, if_pos y])⟩
      · rw [dt (by omega)]
        exact ⟨up2 Q 145 6 1, g, rfl, fun a ha => by rw [u2_ne _ _ _ ha]; exact q1 a ha, fun j j4 j5 j6 j8 => by rw [u2_no _ _ _ j6]; exact q2 j j4 j5 j8, fz 1 (by rw [ek, if_neg y])⟩
    · -- no letter: the two ways through are one
      have two : ∀ A B : RS, (bif decide (f b < 97) then A else bif decide (122 < f b) then A else B) = A := fun A B => by
        by_cases z : f b < 97
        · rw [dt z]; rfl
        · rw [df z]
          by_cases z2 : 122 < f b
          · rw [dt z2]; rfl
          · exact absurd ⟨by omega, by omega⟩ cl
      simp only [zb]
      rw [two]
      by_cases cd : dg (f b)
      · obtain ⟨l1, l2⟩ := id cd
        rw [df (show ¬ f b < 48 by omega), df (show ¬ 57 < f b by omega)]
        simp only [zb]
        obtain ⟨v, r, hg⟩ := l_152d (h := sL h 145 7 0) (N := P) (f := f) (n := n) (w.l _ _ _) d p3 p6 n1 p5 (f b) (n - b) b 0 (by omega) (by omega)
        rw [eP8] at r
        have ee : tkE f n p = tD f n b := by unfold tkE; rw [hb, if_neg c0, if_neg cl, if_pos cd]
        have lb := spn_b (qD f n) (n - b) b
        have ek : tkK f n p = if 4 < tD f n b - b then 4 else 2 := by unfold tkK; rw [hb, if_neg c0, if_neg cl, if_pos cd]
        rw [r, q_152_299 (w := (w.l _ _ _).m _), mi_sM, u2_at, u2_no _ _ _ (by omega), u2_no _ _ _ (by omega), p5, is_ (by omega) (by omega)]
        generalize hQ : up2 (up2 P 145 8 v) 145 4 ((spn (qD f n) (n - b) b : Nat) : Int) = Q
        have q1 : ∀ a, a ≠ 145 → Q a = h_mi h a := fun a ha => by rw [← hQ, u2_ne _ _ _ ha, u2_ne _ _ _ ha]; exact pn a ha
        have q2 : ∀ j, j ≠ 4 → j ≠ 5 → j ≠ 8 → Q 145 j = h_mi h 145 j := fun j j4 j5 j8 => by rw [← hQ, u2_no _ _ _ j4, u2_no _ _ _ j8]; exact pj j j4 j5 j8
        have q4 : Q 145 4 = ((tD f n b : Nat) : Int) := by rw [← hQ, u2_at]; rfl
        have q5 : Q 145 5 = (b : Int) := by rw [← hQ, u2_no _ _ _ (by omega), u2_no _ _ _ (by omega)]; exact p5
        have q8 : Q 145 8 = v := by rw [← hQ, u2_no _ _ _ (by omega), u2_at]
        have tl : tD f n b = spn (qD f n) (n - b) b := rfl
        have fz : ∀ x : Int, x = tkK f n p → RTk (sM (sL h 145 7 0) (up2 Q 145 6 x)) f n p := fun x hx => fin _ _ 0 0 (fun a ha => by rw [u2_ne _ _ _ ha]; exact q1 a ha) (fun j j4 j5 j6 j8 => by rw [u2_no _ _ _ j6]; exact q2 j j4 j5 j8) (by rw [u2_no _ _ _ (by omega), q4, ee]) (by rw [u2_no _ _ _ (by omega)]; exact q5) (by rw [u2_at]; exact hx) (fun z => by
          rw [ek] at z
          by_cases y : 4 < tD f n b - b
          · rw [if_pos y] at z; omega
          · rw [if_neg y] at z; omega) (fun z => by
          rw [ek] at z
          by_cases y : 4 < tD f n b - b
          · rw [if_pos y] at z; omega
          · rw [u2_no _ _ _ (by omega), q8, hg (by omega)]
            unfold tkN; rw [hb]; rfl)
        by_cases y : 4 < tD f n b - b
        · rw [df (by omega)]
          exact ⟨up2 Q 145 6 4, 0, rfl, fun a ha => by rw [u2_ne _ _ _ ha]; exact q1 a ha, fun j j4 j5 j6 j8 => by rw [u2_no _ _ _ j6]; exact q2 j j4 j5 j8, fz 4 (by rw [ek, if_pos y])⟩
        · rw [dt (by omega)]
          exact ⟨up2 Q 145 6 2, 0, rfl, fun a ha => by rw [u2_ne _ _ _ ha]; exact q1 a ha, fun j j4 j5 j6 j8 => by rw [u2_no _ _ _ j6]; exact q2 j j4 j5 j8, fz 2 (by rw [ek, if_neg y])⟩
      · have two2 : ∀ A B : RS, (bif decide (f b < 48) then A else bif decide (57 < f b) then A else B) = A := fun A B => by
          by_cases z : f b < 48
          · rw [dt z]; rfl
          · rw [df z]
            by_cases z2 : 57 < f b
            · rw [dt z2]; rfl
            · exact absurd ⟨by omega, by omega⟩ cd
        rw [two2]
        have ee : tkE f n p = b + 1 := by unfold tkE; rw [hb, if_neg c0, if_neg cl, if_neg cd]
        generalize hQ : up2 P 145 4 ((b + 1 : Nat) : Int) = Q
        have q1 : ∀ a, a ≠ 145 → Q a = h_mi h a := fun a ha => by rw [← hQ, u2_ne _ _ _ ha]; exact pn a ha
        have q2 : ∀ j, j ≠ 4 → j ≠ 5 → j ≠ 8 → Q 145 j = h_mi h 145 j := fun j j4 j5 j8 => by rw [← hQ, u2_no _ _ _ j4]; exact pj j j4 j5 j8
        have q4 : Q 145 4 = ((b + 1 : Nat) : Int) := by rw [← hQ, u2_at]
        have q5 : Q 145 5 = (b : Int) := by rw [← hQ, u2_no _ _ _ (by omega)]; exact p5
        have fz : ∀ x : Int, x = tkK f n p → (x = 3 ∨ x = 4) → RTk (sM (sL h 145 7 0) (up2 Q 145 6 x)) f n p := fun x hx h34 => fin _ _ 0 0 (fun a ha => by rw [u2_ne _ _ _ ha]; exact q1 a ha) (fun j j4 j5 j6 j8 => by rw [u2_no _ _ _ j6]; exact q2 j j4 j5 j8) (by rw [u2_no _ _ _ (by omega), q4, ee]) (by rw [u2_no _ _ _ (by omega)]; exact q5) (by rw [u2_at]; exact hx) (fun z => by omega) (fun z => by omega)
        have res : run (d + 1) md_152 322 [vr 145, vi (f b)] [] (sM (sL h 145 7 0) P) = some (vr 0, sM (sL h 145 7 0) (up2 Q 145 6 (tkK f n p))) := by
          have e4 : i_add (P 145 4) 1 = ((b + 1 : Nat) : Int) := by rw [p4, ia (by omega) (by omega)]; omega
          rw [q_152_322 (w := (w.l _ _ _).m _), mi_sM, e4, sI_L, hQ]
          have r345 : (f b < 40 ∨ 43 < f b) → run (d + 1) md_152 345 [vr 145, vi (f b)] [vr 145] (sM (sL h 145 7 0) Q) = some (vr 0, sM (sL h 145 7 0) (up2 Q 145 6 (tkK f n p))) := fun q => by
            rw [q_152_345 (w := (w.l _ _ _).m _)]
            simp only [sI_L]
            unfold tkK
            rw [hb, if_neg c0, if_neg cl, if_neg cd]
            by_cases z1 : f b = 45
            · rw [dt z1, if_pos (show sgn (f b) from Or.inr (Or.inl z1))]; rfl
            · rw [df z1]
              by_cases z2 : f b < 59
              · rw [dt z2, if_neg (by unfold sgn; omega)]; rfl
              · rw [df z2]
                by_cases z3 : 61 < f b
                · rw [dt z3, if_neg (by unfold sgn; omega)]; rfl
                · rw [df z3, if_pos (by unfold sgn; omega)]; rfl
          by_cases z1 : f b < 40
          · rw [dt z1]; exact r345 (Or.inl z1)
          · rw [df z1]
            by_cases z2 : f b ≤ 43
            · rw [dt z2]
              unfold tkK
              rw [hb, if_neg c0, if_neg cl, if_neg cd, if_pos (show sgn (f b) from Or.inl ⟨by omega, z2⟩)]; rfl
            · rw [df z2]; exact r345 (Or.inr (by omega))
        have h34 : tkK f n p = 3 ∨ tkK f n p = 4 := by
          unfold tkK
          rw [hb, if_neg c0, if_neg cl, if_neg cd]
          split
          · exact Or.inl rfl
          · exact Or.inr rfl
        exact ⟨_, _, res, fun a ha => by rw [u2_ne _ _ _ ha]; exact q1 a ha, fun j j4 j5 j6 j8 => by rw [u2_no _ _ _ j6]; exact q2 j j4 j5 j8, fz _ rfl h34⟩
