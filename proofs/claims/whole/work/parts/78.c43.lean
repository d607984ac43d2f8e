/-! the class takes a token -/
def srt (k : Int) : Int := if k = 0 then 0 else if k = 4 then 1 else k + 1
def enF (w : Int) : Nat → Nat → Nat → Nat
  | 0, _, a => a
  | k + 1, i, a => enF w k (i + 1) (if sml (i + 1) = w then i + 1 else a)
/-- the word of the language with code w, 0: none -/
def enW (w : Int) : Nat := enF w 35 0 0
theorem enF_b (w : Int) : ∀ k i a, a ≤ i → i + k = 35 → enF w k i a ≤ 35
  | 0, i, a, h1, h2 => by show a ≤ 35; omega
  | k + 1, i, a, h1, h2 => by
    show enF w k (i + 1) (if sml (i + 1) = w then i + 1 else a) ≤ 35
    exact enF_b w k (i + 1) _ (by split <;> omega) (by omega)
theorem enW_b (w : Int) : enW w ≤ 35 := enF_b w 35 0 0 (by omega) rfl
theorem sml_ck : ((List.range 35).all fun a => (List.range 35).all fun b => decide (a = b) || decide (sml (a + 1) ≠ sml (b + 1))) = true := by decide +kernel
theorem sml_i {a b : Nat} (ha : a < 35) (hb : b < 35) (h : sml (a + 1) = sml (b + 1)) : a = b := by
  have x := List.all_eq_true.mp sml_ck a (List.mem_range.mpr ha)
  have y := List.all_eq_true.mp x b (List.mem_range.mpr hb)
  rcases Bool.or_eq_true _ _ ▸ y with z | z
  · exact of_decide_eq_true z
  · exact absurd h (of_decide_eq_true z)
theorem enF_s (w : Int) : ∀ k i a, i + k = 35 → (∀ x, i ≤ x → x < 35 → sml (x + 1) ≠ w) → enF w k i a = a
  | 0, i, a, _, _ => rfl
  | k + 1, i, a, h, hn => by
    show enF w k (i + 1) (if sml (i + 1) = w then i + 1 else a) = a
    rw [if_neg (hn i (Nat.le_refl _) (by omega))]
    exact enF_s w k (i + 1) a (by omega) (fun x h1 h2 => hn x (by omega) h2)
theorem enF_h {w : Int} {c : Nat} (hc : sml (c + 1) = w) (c1 : c < 35) : ∀ k i a, i + k = 35 → i ≤ c → enF w k i a = c + 1
  | 0, i, a, h1, h2 => by omega
  | k + 1, i, a, h1, h2 => by
    show enF w k (i + 1) (if sml (i + 1) = w then i + 1 else a) = c + 1
    by_cases z : i = c
    · subst z
      rw [if_pos hc]
      exact enF_s w k (i + 1) _ (by omega) (fun x x1 x2 q => by
        have := sml_i x2 c1 (q.trans hc.symm)
        omega)
    · rw [if_neg (fun q => z (sml_i (by omega) c1 (q.trans hc.symm)))]
      exact enF_h hc c1 k (i + 1) a (by omega) (by omega)
/-- a word is known by its code -/
theorem enW_is {w : Int} {c : Nat} (c1 : c < 35) : enW w = c + 1 ↔ w = sml (c + 1) := by
  constructor
  · intro h
    by_cases q : ∃ x, x < 35 ∧ sml (x + 1) = w
    · obtain ⟨x, x1, x2⟩ := q
      have := enF_h x2 x1 35 0 0 rfl (by omega)
      have e : enW w = x + 1 := this
      have : x = c := by omega
      rw [← x2, this]
    · have : enW w = 0 := enF_s w 35 0 0 rfl (fun x _ x2 z => q ⟨x, x2, z⟩)
      omega
  · intro h
    exact enF_h h.symm c1 35 0 0 rfl (by omega)
theorem enW_0 {w : Int} : enW w = 0 ↔ ∀ x, x < 35 → sml (x + 1) ≠ w := by
  constructor
  · intro h x x1 x2
    have := (enW_is x1).mpr x2.symm
    omega
  · exact fun h => enF_s w 35 0 0 rfl (fun x _ x2 => h x x2)
theorem lcmp_e (x y : Int) : l_cmp x y = 0 ↔ x = y := by
  unfold l_cmp
  by_cases a : x > y
  · rw [if_pos a]; constructor <;> intro <;> omega
  · rw [if_neg a]
    by_cases b : x = y
    · rw [if_pos b]; exact ⟨fun _ => b, fun _ => rfl⟩
    · rw [if_neg b]; constructor <;> intro <;> omega
theorem sR_RR (h : HP) (a k v u : Nat) : sR (sR h a k v) a k u = sR h a k u := by
  unfold sR sRr
  show (h.1, h.2.1, h.2.2.1, h.2.2.2.1, va_up (va_up h.2.2.2.2.1 a (va_up (h_mr h a) k v)) a (va_up (va_up h.2.2.2.2.1 a (va_up (h_mr h a) k v) a) k u), h.2.2.2.2.2) = _
  rw [up_eq, up_up, up_up]
/-- a heap whose token word and code are r, g -/
def cH (h : HP) (r : Nat) (g : Int) (N : MM) : HP := sM (sL (sR h 101 7 r) 101 6 g) N
theorem cH_R (h : HP) (r r2 : Nat) (g : Int) (N : MM) : sR (cH h r g N) 101 7 r2 = cH h r2 g N := by
  show sM (sL (sR (sR h 101 7 r) 101 7 r2) 101 6 g) N = _
  rw [sR_RR]; rfl
theorem cH_L (h : HP) (r : Nat) (g g2 : Int) (N : MM) : sL (cH h r g N) 101 6 g2 = cH h r g2 N := by
  unfold cH
  rw [sL_sM]
  congr 1
  unfold sL sRl
  show ((sR h 101 7 r).1, (sR h 101 7 r).2.1, (sR h 101 7 r).2.2.1, va_up (va_up h.2.2.2.1 101 (va_up (h_ml h 101) 6 g)) 101 (va_up (va_up h.2.2.2.1 101 (va_up (h_ml h 101) 6 g) 101) 6 g2), (sR h 101 7 r).2.2.2.2) = _
  rw [up_eq, up_up, up_up]; rfl
theorem cH_I (h : HP) (r : Nat) (g : Int) (N : MM) (a k : Nat) (v : Int) : sI (cH h r g N) a k v = cH h r g (up2 N a k v) := rfl
theorem cH_mi (h : HP) (r : Nat) (g : Int) (N : MM) : h_mi (cH h r g N) = N := rfl
theorem cH_ml (h : HP) (r : Nat) (g : Int) (N : MM) : h_ml (cH h r g N) 101 6 = g := by
  show va_up h.2.2.2.1 101 (va_up (h_ml h 101) 6 g) 101 6 = g
  rw [up_eq, up_eq]
theorem cH_mln (h : HP) (r : Nat) (g : Int) (N : MM) {a : Nat} (ha : a ≠ 101) : h_ml (cH h r g N) a = h_ml h a := up_ne _ _ ha
theorem cH_mr (h : HP) (r : Nat) (g : Int) (N : MM) : h_mr (cH h r g N) 101 7 = r := by
  show va_up h.2.2.2.2.1 101 (va_up (h_mr h 101) 7 r) 101 7 = r
  rw [up_eq, up_eq]
theorem cH_mrn (h : HP) (r : Nat) (g : Int) (N : MM) {a : Nat} (ha : a ≠ 101) : h_mr (cH h r g N) a = h_mr h a := up_ne _ _ ha
theorem cH_self (h : HP) : cH h (h_mr h 101 7) (h_ml h 101 6) (h_mi h) = h := by
  unfold cH
  rw [sR_self]
  obtain ⟨x1, x2, x3, x4, x5, x6, x7⟩ := h
  show (x1, x2, x3, va_up x4 101 (va_up (x4 101) 6 (x4 101 6)), x5, x6, x7) = _
  rw [up_self, up_self]
theorem CSk.c {h : HP} (w : CSk h) (r : Nat) (g : Int) (N : MM) : CSk (cH h r g N) := (w.sr (x := 101) (j := 7) (v := r) (by omega))
theorem Stt.c {h : HP} (st : Stt h) (r : Nat) (g : Int) {N : MM} (hN : ∀ a, a < 43 → N a = h_mi h a) : Stt (cH h r g N) := fun a h1 h2 => by
  obtain ⟨a1, a2, a3, a4, a5⟩ := st a h1 h2
  refine ⟨a1, a2, fun k => by rw [cH_mi, hN a h1]; exact a3 k, by rw [cH_mln _ _ _ _ (by omega)]; exact a4, fun k => by rw [cH_mrn _ _ _ _ (by omega)]; exact a5 k⟩
section
variable {h : HP} {N : MM} {f : Nat → Int} {n : Nat}
theorem l_91e (w : CSk h) (st : Stt h) (hN : ∀ a, a < 43 → N a = h_mi h a) (d : Nat) (x1 : Int) {g : Int} (h3 : N 101 3 = 2) : ∀ (k i r : Nat), i + k = 35 → run d md_91 98 [vr 101, vi x1, vi (i : Int)] [] (cH h r g N) = some (vr 0, cH h (enF g k i r) g N)
  | 0, i, r, hi => by
    rw [q_91_98 (w := w.c _ _ _) (st := st.c r g hN), dt (by omega)]; rfl
  | k + 1, i, r, hi => by
    have s36 := st 36 (by omega) (by omega)
    have si := st (i + 1) (by omega) (by omega)
    have e36 : h_mr (cH h r g N) 36 i = i + 1 := by rw [cH_mrn _ _ _ _ (by omega), s36.2.2.2.2 i]; rfl
    have kd : isK (cH h r g N) (i + 1) 20 = true := isKc (show h_kd h (i + 1) = 20 by rw [si.1]; unfold skd; rw [if_neg (by omega), if_pos (by omega)])
    have ml : h_ml (cH h r g N) (i + 1) 0 = sml (i + 1) := by rw [cH_mln _ _ _ _ (by omega)]; exact si.2.2.2.1
    rw [q_91_98 (w := w.c _ _ _) (st := st.c r g hN), cH_mi, h3, Int.toNat_natCast, e36, kd, ml, cH_ml, cH_R, df (by omega), df (by omega), dt (show 0 ≤ (i : Int) by omega), dt (show (i : Int) < 35 by omega), ia (by omega) (by omega), show (i : Int) + 1 = ((i + 1 : Nat) : Int) by omega, l_91e w st hN d x1 h3 k (i + 1) r (by omega), l_91e w st hN d x1 h3 k (i + 1) (i + 1) (by omega)]
    show _ = some (vr 0, cH h (enF g k (i + 1) (if sml (i + 1) = g then i + 1 else r)) g N)
    by_cases z : sml (i + 1) = g
    · rw [df (fun q => q ((lcmp_e _ _).mpr z)), if_pos z]; rfl
    · rw [dt (show l_cmp (sml (i + 1)) g ≠ 0 from fun q => z ((lcmp_e _ _).mp q)), if_neg z]; rfl
theorem l_91 (w : CSk h) (d : Nat) (h1 : N 101 1 = (n : Int)) (hf : ∀ j, j < n → N 102 j = f j) (n1 : n ≤ 1000) (r : Nat) : ∀ (k p : Nat) (g : Int), p + k = n → run d md_91 10 [vr 101, vi (p : Int), vu] [] (cH h r g N) = run d md_91 71 [vr 101, vi ((spn (qL f n) k p : Nat) : Int), vu] [] (cH h r (wdA f (spn (qL f n) k p - p) p g) N)
  | 0, p, g, hp => by
    rw [q_91_10 (w := w.c _ _ _), cH_mi, h1, dt (by omega)]
    show _ = run d md_91 71 [vr 101, vi (p : Int), vu] [] (cH h r (wdA f (p - p) p g) N)
    rw [Nat.sub_self]; rfl
  | k + 1, p, g, hp => by
    rw [q_91_10 (w := w.c _ _ _), cH_mi, h1, Int.toNat_natCast, hf p (by omega), df (by omega), dt (show 0 ≤ (p : Int) by omega), dt (show (p : Int) < 1000 by omega), cH_ml, cH_L, ia (x := (p : Int)) (by omega) (by omega), show (p : Int) + 1 = ((p + 1 : Nat) : Int) by omega]
    show _ = run d md_91 71 [vr 101, vi (((bif qL f n p then spn (qL f n) k (p + 1) else p) : Nat) : Int), vu] [] (cH h r (wdA f ((bif qL f n p then spn (qL f n) k (p + 1) else p) - p) p g) N)
    cases e : qL f n p with
    | false =>
      have hn : ¬ (97 ≤ f p ∧ f p ≤ 122) := fun q => by rw [qL_t.mpr ⟨by omega, q⟩] at e; cases e
      show _ = run d md_91 71 [vr 101, vi (p : Int), vu] [] (cH h r (wdA f (p - p) p g) N)
      rw [Nat.sub_self]
      by_cases z : f p < 97
      · rw [dt z]; rfl
      · rw [df z, dt (show 122 < f p by omega)]; rfl
    | true =>
      have hq := (qL_t.mp e).2
      have sb := spn_b (qL f n) k (p + 1)
      rw [df (show ¬ f p < 97 by omega), df (show ¬ 122 < f p by omega), is_ (by omega) (by omega), ia (by omega) (by omega), show f p - 97 + 1 = f p - 96 by omega, l_91 w d h1 hf n1 r k (p + 1) _ (by omega)]
      show _ = run d md_91 71 [vr 101, vi ((spn (qL f n) k (p + 1) : Nat) : Int), vu] [] (cH h r (wdA f (spn (qL f n) k (p + 1) - p) p g) N)
      rw [show spn (qL f n) k (p + 1) - p = spn (qL f n) k (p + 1) - (p + 1) + 1 by omega]
      rfl
theorem c_91 (w : CSk h) (st : Stt h) (hN : ∀ a, a < 43 → N a = h_mi h a) (d : Nat) (h1 : N 101 1 = (n : Int)) (hf : ∀ j, j < n → N 102 j = f j) (n1 : n ≤ 1000) {b : Nat} (h4 : N 101 4 = (b : Int)) (b1 : b ≤ n) (g : Int) : ∃ r' g', ev d 91 [vr 101] (cH h 0 g N) = some (vr 0, cH h r' g' (up2 (up2 N 101 2 ((tL f n b : Nat) : Int)) 101 3 (if 8 < tL f n b - b then 1 else 2))) ∧ (¬ 8 < tL f n b - b → g' = wdA f (tL f n b - b) b 0 ∧ r' = enW g') ∧ (8 < tL f n b - b → r' = 0) := by
  have lb := spn_b (qL f n) (n - b) b
  have tl : tL f n b = spn (qL f n) (n - b) b := rfl
  have l := l_91 (h := h) (N := N) (f := f) (n := n) w d h1 hf n1 0 (n - b) b 0 (by omega)
  rw [← tl] at l
  rw [v_91, q_91_0 (w := w.c _ _ _), cH_mi, h4, cH_L, l, q_91_71 (w := w.c _ _ _), cH_mi, h4, is_ (by omega) (by omega), cH_I, cH_I, cH_I]
  have hN2 : ∀ (x y : Int) a, a < 43 → up2 (up2 N 101 2 x) 101 3 y a = h_mi h a := fun x y a ha => by rw [u2_ne _ _ _ (by omega), u2_ne _ _ _ (by omega)]; exact hN a ha
  by_cases z : 8 < tL f n b - b
  · refine ⟨0, wdA f (tL f n b - b) b 0, ?_, fun q => absurd z q, fun _ => rfl⟩
    rw [dt (show 8 < ((tL f n b : Nat) : Int) - (b : Int) by omega), if_pos z]
    show run d md_91 98 _ [] _ = _
    rw [q_91_98 (w := w.c _ _ _) (st := st.c _ _ (hN2 _ _)), cH_mi, u2_at, df (by omega), dt (by omega)]; rfl
  · refine ⟨_, _, ?_, fun _ => ⟨rfl, rfl⟩, fun q => absurd q z⟩
    rw [df (show ¬ 8 < ((tL f n b : Nat) : Int) - (b : Int) by omega), if_neg z]
    have := l_91e (h := h) (N := up2 (up2 N 101 2 ((tL f n b : Nat) : Int)) 101 3 2) w st (hN2 _ _) d ((tL f n b : Nat) : Int) (g := wdA f (tL f n b - b) b 0) (by rw [u2_at]) 35 0 0 rfl
    exact this
theorem l_92 (w : CSk h) (d : Nat) {r : Nat} {g : Int} (h1 : N 101 1 = (n : Int)) (hf : ∀ j, j < n → N 102 j = f j) (n1 : n ≤ 1000) : ∀ (k p : Nat) (v : Int), p + k = n → run d md_92 10 [vr 101, vi (p : Int)] [] (cH h r g (up2 N 101 5 v)) = run d md_92 67 [vr 101, vi ((spn (qD f n) k p : Nat) : Int)] [] (cH h r g (up2 N 101 5 (nuA f (spn (qD f n) k p - p) p v)))
  | 0, p, v, hp => by
    have e1 : up2 N 101 5 v 101 1 = (n : Int) := by rw [u2_no _ _ _ (by omega)]; exact h1
    rw [q_92_10 (w := w.c _ _ _), cH_mi, e1, dt (by omega)]
    show _ = run d md_92 67 [vr 101, vi (p : Int)] [] (cH h r g (up2 N 101 5 (nuA f (p - p) p v)))
    rw [Nat.sub_self]; rfl
  | k + 1, p, v, hp => by
    have e1 : up2 N 101 5 v 101 1 = (n : Int) := by rw [u2_no _ _ _ (by omega)]; exact h1
    have e2 : up2 N 101 5 v 102 p = f p := by rw [u2_ne _ _ _ (by omega)]; exact hf p (by omega)
    rw [q_92_10 (w := w.c _ _ _), cH_mi, e1, Int.toNat_natCast, e2, u2_at, df (by omega), dt (show 0 ≤ (p : Int) by omega), dt (show (p : Int) < 1000 by omega), cH_I, u2_u2, ia (x := (p : Int)) (by omega) (by omega), show (p : Int) + 1 = ((p + 1 : Nat) : Int) by omega]
    show _ = run d md_92 67 [vr 101, vi (((bif qD f n p then spn (qD f n) k (p + 1) else p) : Nat) : Int)] [] (cH h r g (up2 N 101 5 (nuA f ((bif qD f n p then spn (qD f n) k (p + 1) else p) - p) p v)))
    cases e : qD f n p with
    | false =>
      have hn : ¬ (48 ≤ f p ∧ f p ≤ 57) := fun q => by rw [qD_t.mpr ⟨by omega, q⟩] at e; cases e
      show _ = run d md_92 67 [vr 101, vi (p : Int)] [] (cH h r g (up2 N 101 5 (nuA f (p - p) p v)))
      rw [Nat.sub_self]
      by_cases z : f p < 48
      · rw [dt z]; rfl
      · rw [df z, dt (show 57 < f p by omega)]; rfl
    | true =>
      have hq := (qD_t.mp e).2
      have sb := spn_b (qD f n) k (p + 1)
      rw [df (show ¬ f p < 48 by omega), df (show ¬ 57 < f p by omega), is_ (x := f p) (by omega) (by omega), l_92 w d h1 hf n1 k (p + 1) _ (by omega)]
      show _ = run d md_92 67 [vr 101, vi ((spn (qD f n) k (p + 1) : Nat) : Int)] [] (cH h r g (up2 N 101 5 (nuA f (spn (qD f n) k (p + 1) - p) p v)))
      rw [show spn (qD f n) k (p + 1) - p = spn (qD f n) k (p + 1) - (p + 1) + 1 by omega]
      rfl
end
theorem byt_ck : ((List.range 127).all fun k => decide (i_byt (k : Int) = (k : Int))) = true := by decide +kernel
theorem byt_i {k : Int} (k0 : 0 ≤ k) (k1 : k < 127) : i_byt k = k := by
  have := List.all_eq_true.mp byt_ck k.toNat (List.mem_range.mpr (by omega))
  have h := of_decide_eq_true this
  have e : ((k.toNat : Nat) : Int) = k := by omega
  rw [e] at h; exact h
