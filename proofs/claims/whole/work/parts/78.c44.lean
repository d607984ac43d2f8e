/-! the class takes a token: signs, and all of it -/
theorem l_263 {h : HP} (st : Stt h) (d : Nat) (c : Int) (x2 x3 : Int) (h3 : x3 = 8) : ∀ (k j : Nat), j + k = 8 → ∃ r, run d md_263 7 [vr 42, vi c, vi x2, vi x3, vi c, vi (j : Int)] [] h = some (vi r, h) ∧ (r < 0 ↔ ∀ x, j ≤ x → x < 8 → st_bytes.getD x 0 ≠ c)
  | 0, j, hj => by
    refine ⟨-1, ?_, ⟨fun _ x h1 h2 => by omega, fun _ => by omega⟩⟩
    rw [q_263_7, dt (by omega)]; rfl
  | k + 1, j, hj => by
    obtain ⟨a1, a2, a3, _⟩ := st 42 (by omega) (by omega)
    have kd : isK h 42 24 = true := isKc a1
    have l8 : h_ln h 42 = 8 := a2
    have ib : inb h 42 (j : Int) = true := by unfold inb; rw [l8, dt (by omega), dt (show (j : Int) < ((8 : Nat) : Int) by omega)]; rfl
    have eb : h_mi h 42 j = st_bytes.getD j 0 := a3 j
    obtain ⟨r, e, hr⟩ := l_263 st d c x2 x3 h3 k (j + 1) (by omega)
    rw [q_263_7, df (by omega), kd, ib, Int.toNat_natCast, eb, ia (by omega) (by omega), show (j : Int) + 1 = ((j + 1 : Nat) : Int) by omega, e]
    simp only [zb]
    by_cases z : st_bytes.getD j 0 = c
    · refine ⟨j, ?_, ⟨fun q => by omega, fun q => absurd z (q j (Nat.le_refl _) (by omega))⟩⟩
      rw [df (fun q => q z)]; rfl
    · refine ⟨r, ?_, hr.trans ⟨fun q x h1 h2 => ?_, fun q x h1 h2 => q x (by omega) h2⟩⟩
      · rw [dt z]; rfl
      · by_cases y : x = j
        · rw [y]; exact z
        · exact q x (by omega) h2
theorem sgn_is {c : Int} : sgn c ↔ ∃ x, x < 8 ∧ st_bytes.getD x 0 = c := by
  constructor
  · intro h
    have : c = 40 ∨ c = 41 ∨ c = 60 ∨ c = 61 ∨ c = 43 ∨ c = 45 ∨ c = 42 ∨ c = 59 := by unfold sgn at h; omega
    rcases this with z | z | z | z | z | z | z | z <;> subst z
    · exact ⟨0, by omega, rfl⟩
    · exact ⟨1, by omega, rfl⟩
    · exact ⟨2, by omega, rfl⟩
    · exact ⟨3, by omega, rfl⟩
    · exact ⟨4, by omega, rfl⟩
    · exact ⟨5, by omega, rfl⟩
    · exact ⟨6, by omega, rfl⟩
    · exact ⟨7, by omega, rfl⟩
  · rintro ⟨x, hx, rfl⟩
    have : x = 0 ∨ x = 1 ∨ x = 2 ∨ x = 3 ∨ x = 4 ∨ x = 5 ∨ x = 6 ∨ x = 7 := by omega
    rcases this with rfl | rfl | rfl | rfl | rfl | rfl | rfl | rfl <;> (unfold sgn; decide)
theorem c_256 {h : HP} (st : Stt h) (d : Nat) {c : Int} (c0 : 0 ≤ c) (c1 : c < 127) : ∃ r, ev (d + 4) 256 [vr 41, vi c] h = some (vi r, h) ∧ (r < 0 ↔ ¬ sgn c) := by
  obtain ⟨a1, a2, a3, a4, a5⟩ := st 41 (by omega) (by omega)
  obtain ⟨b1, b2, b3, _⟩ := st 42 (by omega) (by omega)
  have k41 : isK h 41 23 = true := isKc a1
  have k42 : isK h 42 24 = true := isKc b1
  have r0 : h_mr h 41 0 = 42 := a5 0
  have m1 : h_mi h 41 1 = 0 := a3 1
  have l42 : h_ln h 42 = 8 := b2
  obtain ⟨r, e, hr⟩ := l_263 st (d + 1) c 0 8 rfl 8 0 rfl
  have e255 : ev (d + 2) 255 [vr 41] h = some (vi 8, h) := by
    rw [v_255, q_255_0, k41, r0, k42, v_258, q_258_0, k41, m1, l42]
    simp only [zb]
    rw [dt (show (-128 : Int) ≤ 0 by omega), dt (show (0 : Int) < 128 by omega)]
    simp only [zb, bI_s]
    rw [q_255_9]
    rfl
  have e259 : ev (d + 2) 259 [vr 41] h = some (vi 1, h) := by
    rw [v_259, q_259_0, k41, m1]; rfl
  have e261 : ev (d + 1) 261 [vi c] h = some (vi 1, h) := by
    rw [v_261, q_261_0, df (by omega), df (by omega)]; rfl
  have e263 : ev (d + 1) 263 [vr 42, vi c, vi 0, vi 8] h = some (vi r, h) := by
    rw [v_263, q_263_0, byt_i c0 c1]
    exact e
  have e262 : ev (d + 2) 262 [vr 42, vi c, vi 0, vi 8] h = some (vi r, h) := by
    have mx : max (0 : Int) 0 = 0 := by omega
    have mn : min (8 : Int) ((8 : Nat) : Int) = 8 := by omega
    rw [v_262, q_262_0, e261, bI_s, q_262_4, k42, l42, mx, mn, e263, dt (show (1 : Int) ≠ 0 by omega), dt (show (0 : Int) < 8 by omega)]
    simp only [zb, bI_s]
    rw [q_262_36]
  have e257 : ev (d + 3) 257 [vr 41, vi c, vi 0] h = some (vi r, h) := by
    rw [v_257, q_257_0, k41, e259]
    simp only [zb, bI_s]
    rw [q_257_4, k41, e255, df (by omega), r0]
    simp only [zb, bI_s]
    rw [q_257_17, e262, bI_s, q_257_20]
  refine ⟨r, ?_, hr.trans ⟨fun q z => ?_, fun q x h1 h2 z => q (sgn_is.mpr ⟨x, h2, z⟩)⟩⟩
  · rw [v_256, q_256_0, k41, e257]
    simp only [zb, bI_s]
    rw [q_256_6]
  · obtain ⟨x, x1, x2⟩ := sgn_is.mp z
    exact q x (by omega) x1 x2
/-- the class is at the token from p on -/
def CTk (h : HP) (f : Nat → Int) (n p : Nat) : Prop := h_mi h 101 1 = (n : Int) ∧ h_mi h 101 2 = ((tkE f n p : Nat) : Int) ∧ h_mi h 101 3 = srt (tkK f n p) ∧ h_mi h 101 4 = ((tB f n p : Nat) : Int) ∧ (tkK f n p = 1 → h_ml h 101 6 = tkW f n p ∧ h_mr h 101 7 = enW (tkW f n p)) ∧ (tkK f n p ≠ 1 → h_mr h 101 7 = 0) ∧ (tkK f n p = 2 → h_mi h 101 5 = tkN f n p) ∧ (tkK f n p = 3 → h_mi h 101 5 = f (tB f n p)) ∧ ∀ j, j < n → h_mi h 102 j = f j
theorem l_89 {h : HP} {f : Nat → Int} {n : Nat} (w : CSk h) (d : Nat) (h1 : h_mi h 101 1 = (n : Int)) (hf : ∀ j, j < n → h_mi h 102 j = f j) (n1 : n ≤ 1000) : ∀ (k p : Nat), p + k = n → run (d + 1) md_89 5 [vr 101, vi (p : Int)] [] h = run (d + 1) md_89 41 [vr 101, vi ((spn (qS f n) k p : Nat) : Int)] [] h
  | 0, p, hp => by
    rw [q_89_5 (w := w), h1, dt (by omega)]; rfl
  | k + 1, p, hp => by
    rw [q_89_5 (w := w), h1, Int.toNat_natCast, hf p (by omega), df (by omega), dt (show 0 ≤ (p : Int) by omega), dt (show (p : Int) < 1000 by omega), ia (by omega) (by omega), show (p : Int) + 1 = ((p + 1 : Nat) : Int) by omega, l_89 w d h1 hf n1 k (p + 1) (by omega)]
    show _ = run (d + 1) md_89 41 [vr 101, vi (((bif qS f n p then spn (qS f n) k (p + 1) else p) : Nat) : Int)] [] h
    cases e : qS f n p with
    | true =>
      have := (qS_t.mp e).2
      by_cases z : f p = 32
      · rw [dt z]; rfl
      · rw [df z, df (show ¬ f p ≠ 10 by omega)]; rfl
    | false =>
      have hn : ¬ (f p = 32 ∨ f p = 10) := fun q => by rw [qS_t.mpr ⟨by omega, q⟩] at e; cases e
      rw [df (fun z => hn (Or.inl z)), dt (show f p ≠ 10 from fun z => hn (Or.inr z))]; rfl
theorem c_89 {h : HP} {f : Nat → Int} {n p : Nat} (w : CSk h) (st : Stt h) (d : Nat) (h1 : h_mi h 101 1 = (n : Int)) (h2 : h_mi h 101 2 = (p : Int)) (hf : ∀ j, j < n → h_mi h 102 j = f j) (hc : ∀ j, j < n → 0 ≤ f j ∧ f j < 127) (n1 : n ≤ 1000) (p1 : p ≤ n) : ∃ N r g, ev (d + 5) 89 [vr 101] h = some (vr 0, cH h r g N) ∧ (∀ a, a ≠ 101 → N a = h_mi h a) ∧ N 101 1 = (n : Int) ∧ CTk (cH h r g N) f n p := by
  have bb := tB_b (f := f) p1
  have s1 := l_89 w (d + 4) h1 hf n1 (n - p) p (by omega)
  have s1 : run (d + 5) md_89 5 [vr 101, vi (p : Int)] [] h = run (d + 5) md_89 41 [vr 101, vi ((tB f n p : Nat) : Int)] [] h := s1
  generalize hb : tB f n p = b at *
  generalize hP : up2 (up2 (h_mi h) 101 4 (b : Int)) 101 2 (b : Int) = P
  have eH : sR (sI (sI h 101 4 (b : Int)) 101 2 (b : Int)) 101 7 0 = cH h 0 (h_ml h 101 6) P := by
    have e0 : sI (sI h 101 4 (b : Int)) 101 2 (b : Int) = cH h (h_mr h 101 7) (h_ml h 101 6) P := by
      have := cH_self h
      rw [← hP, ← cH_I, ← cH_I, this]
    rw [e0, cH_R]
  have p2 : P 101 2 = (b : Int) := by rw [← hP, u2_at]
  have p4 : P 101 4 = (b : Int) := by rw [← hP, u2_no _ _ _ (by omega), u2_at]
  have pj : ∀ j, j ≠ 2 → j ≠ 4 → P 101 j = h_mi h 101 j := fun j j2 j4 => by rw [← hP, u2_no _ _ _ j2, u2_no _ _ _ j4]
  have pn : ∀ a, a ≠ 101 → P a = h_mi h a := fun a ha => by rw [← hP, u2_ne _ _ _ ha, u2_ne _ _ _ ha]
  have pf : ∀ j, j < n → P 102 j = f j := fun j hj => by rw [pn 102 (by omega)]; exact hf j hj
  have pN : ∀ a, a < 43 → P a = h_mi h a := fun a ha => pn a (by omega)
  rw [v_89, q_89_0 (w := w), h2, s1, q_89_41 (w := w), h1, Int.toNat_natCast, eH]
  have fin : ∀ (Q : MM) (r : Nat) (g : Int), (∀ a, a ≠ 101 → Q a = h_mi h a) → Q 101 1 = (n : Int) → Q 101 2 = ((tkE f n p : Nat) : Int) → Q 101 3 = srt (tkK f n p) → Q 101 4 = (b : Int) → (tkK f n p = 1 → g = tkW f n p ∧ r = enW (tkW f n p)) → (tkK f n p ≠ 1 → r = 0) → (tkK f n p = 2 → Q 101 5 = tkN f n p) → (tkK f n p = 3 → Q 101 5 = f b) → CTk (cH h r g Q) f n p := fun Q r g q0 q1 q2 q3 q4 q5 q6 q7 q8 => ⟨q1, q2, q3, by rw [cH_mi, q4, hb], fun z => by rw [cH_ml, cH_mr]; exact q5 z, fun z => by rw [cH_mr]; exact q6 z, q7, fun z => by rw [cH_mi, hb]; exact q8 z, fun j hj => by rw [cH_mi, q0 102 (by omega)]; exact hf j hj⟩
  by_cases c0 : b = n
  · have ek : tkK f n p = 0 := by unfold tkK; rw [hb, if_pos c0]
    have ee : tkE f n p = n := by unfold tkE; rw [hb, if_pos c0]
    rw [df (show ¬ (b : Int) < (n : Int) by omega)]
    have q0 : ∀ a, a ≠ 101 → up2 P 101 3 0 a = h_mi h a := fun a ha => by rw [u2_ne _ _ _ ha]; exact pn a ha
    have q1 : up2 P 101 3 0 101 1 = (n : Int) := by rw [u2_no _ _ _ (by omega), pj 1 (by omega) (by omega)]; exact h1
    exact ⟨up2 P 101 3 0, 0, h_ml h 101 6, rfl, q0, q1, fin _ _ _ q0 q1 (by rw [u2_no _ _ _ (by omega), p2, ee, c0]) (by rw [u2_at, ek]; rfl) (by rw [u2_no _ _ _ (by omega)]; exact p4) (fun z => by omega) (fun _ => rfl) (fun z => by omega) (fun z => by omega)⟩
  · have fb := hc b (by omega)
    rw [dt (show (b : Int) < (n : Int) by omega), dt (show 0 ≤ (b : Int) by omega), dt (show (b : Int) < 1000 by omega), hf b (by omega)]
    by_cases cl : lt_ (f b)
    · obtain ⟨l1, l2⟩ := id cl
      rw [df (show ¬ f b < 97 by omega), df (show ¬ 122 < f b by omega)]
      simp only [zb]
      obtain ⟨r', g', e1, e2, e3⟩ := c_91 (h := h) (N := P) (f := f) (n := n) w st pN (d + 4) (by rw [pj 1 (by omega) (by omega)]; exact h1) pf n1 p4 (by omega) (h_ml h 101 6)
      have ee : tkE f n p = tL f n b := by unfold tkE; rw [hb, if_neg c0, if_pos cl]
      have ek : tkK f n p = if 8 < tL f n b - b then 4 else 1 := by unfold tkK; rw [hb, if_neg c0, if_pos cl]
      generalize hQ : up2 (up2 P 101 2 ((tL f n b : Nat) : Int)) 101 3 (if 8 < tL f n b - b then 1 else 2) = Q at e1
      have q0 : ∀ a, a ≠ 101 → Q a = h_mi h a := fun a ha => by rw [← hQ, u2_ne _ _ _ ha, u2_ne _ _ _ ha]; exact pn a ha
      have q1 : Q 101 1 = (n : Int) := by rw [← hQ, u2_no _ _ _ (by omega), u2_no _ _ _ (by omega), pj 1 (by omega) (by omega)]; exact h1
      refine ⟨Q, r', g', ?_, q0, q1, fin _ _ _ q0 q1 ?_ ?_ ?_ ?_ ?_ ?_ ?_⟩
      · rw [e1, bV_s, q_89_98]
      · rw [← hQ, u2_no _ _ _ (by omega), u2_at, ee]
      · rw [← hQ, u2_at, ek]
        by_cases y : 8 < tL f n b - b
        · rw [if_pos y, if_pos y]; rfl
        · rw [if_neg y, if_neg y]; rfl
      · rw [← hQ, u2_no _ _ _ (by omega), u2_no _ _ _ (by omega)]; exact p4
      · intro z
        rw [ek] at z
        by_cases y : 8 < tL f n b - b
        · rw [if_pos y] at z; omega
        · have := e2 y
          have ew : g' = tkW f n p := by rw [this.1]; unfold tkW; rw [hb]
          exact ⟨ew, by rw [this.2, ew]⟩
      · intro z
        by_cases y : 8 < tL f n b - b
        · exact e3 y
        · rw [ek, if_neg y] at z; exact absurd rfl z
      · intro z
        rw [ek] at z
        by_cases y : 8 < tL f n b - b
        · rw [if_pos y] at z; omega
        · rw [if_neg y] at z; omega
      · intro z
        rw [ek] at z
        by_cases y : 8 < tL f n b - b
        · rw [if_pos y] at z; omega
        · rw [if_neg y] at z; omega
    · have two : ∀ A B : RS, (bif decide (f b < 97) then A else bif decide (122 < f b) then A else B) = A := fun A B => by
        by_cases z : f b < 97
        · rw [dt z]; rfl
        · rw [df z]
          by_cases z2 : 122 < f b
          · rw [dt z2]; rfl
          · exact absurd ⟨by omega, by omega⟩ cl
      simp only [zb]
      rw [two, q_89_101 (w := w.c _ _ _), cH_mi, Int.toNat_natCast, pf b (by omega), dt (show 0 ≤ (b : Int) by omega), dt (show (b : Int) < 1000 by omega), isKc (h := cH h 0 (h_ml h 101 6) P) (show h_kd h 41 = 23 from (st 41 (by omega) (by omega)).1)]
      simp only [zb]
      by_cases cd : dg (f b)
      · obtain ⟨l1, l2⟩ := id cd
        rw [df (show ¬ f b < 48 by omega), df (show ¬ 57 < f b by omega)]
        simp only [zb]
        have lb := spn_b (qD f n) (n - b) b
        have tl : tD f n b = spn (qD f n) (n - b) b := rfl
        have l := l_92 (h := h) (N := P) (f := f) (n := n) w (d + 4) (r := 0) (g := h_ml h 101 6) (by rw [pj 1 (by omega) (by omega)]; exact h1) pf n1 (n - b) b 0 (by omega)
        rw [← tl] at l
        have ee : tkE f n p = tD f n b := by unfold tkE; rw [hb, if_neg c0, if_neg cl, if_pos cd]
        have ek : tkK f n p = if 4 < tD f n b - b then 4 else 2 := by unfold tkK; rw [hb, if_neg c0, if_neg cl, if_pos cd]
        have e92 : ∃ s, s = (if 4 < tD f n b - b then (1 : Int) else 3) ∧ ev (d + 4) 92 [vr 101] (cH h 0 (h_ml h 101 6) P) = some (vr 0, cH h 0 (h_ml h 101 6) (up2 (up2 (up2 P 101 5 (nuA f (tD f n b - b) b 0)) 101 2 ((tD f n b : Nat) : Int)) 101 3 s)) := by
          rw [v_92, q_92_0 (w := w.c _ _ _), cH_mi, p4, cH_I, l, q_92_67 (w := w.c _ _ _), cH_mi, u2_no _ _ _ (by omega), p4, is_ (by omega) (by omega), cH_I, cH_I, cH_I]
          by_cases y : 4 < tD f n b - b
          · rw [dt (show 4 < ((tD f n b : Nat) : Int) - (b : Int) by omega)]; exact ⟨1, by rw [if_pos y], rfl⟩
          · rw [df (show ¬ 4 < ((tD f n b : Nat) : Int) - (b : Int) by omega)]; exact ⟨3, by rw [if_neg y], rfl⟩
        obtain ⟨s, es, e92⟩ := e92
        generalize hQ : up2 (up2 (up2 P 101 5 (nuA f (tD f n b - b) b 0)) 101 2 ((tD f n b : Nat) : Int)) 101 3 s = Q at e92
        have q0 : ∀ a, a ≠ 101 → Q a = h_mi h a := fun a ha => by rw [← hQ, u2_ne _ _ _ ha, u2_ne _ _ _ ha, u2_ne _ _ _ ha]; exact pn a ha
        have q1 : Q 101 1 = (n : Int) := by rw [← hQ, u2_no _ _ _ (by omega), u2_no _ _ _ (by omega), u2_no _ _ _ (by omega), pj 1 (by omega) (by omega)]; exact h1
        refine ⟨Q, 0, h_ml h 101 6, ?_, q0, q1, fin _ _ _ q0 q1 ?_ ?_ ?_ ?_ (fun _ => rfl) ?_ ?_⟩
        · rw [e92, bV_s, q_89_127]
        · rw [← hQ, u2_no _ _ _ (by omega), u2_at, ee]
        · rw [← hQ, u2_at, ek, es]
          by_cases y : 4 < tD f n b - b
          · rw [if_pos y, if_pos y]; rfl
          · rw [if_neg y, if_neg y]; rfl
        · rw [← hQ, u2_no _ _ _ (by omega), u2_no _ _ _ (by omega), u2_no _ _ _ (by omega)]; exact p4
        · intro z
          rw [ek] at z
          by_cases y : 4 < tD f n b - b
          · rw [if_pos y] at z; omega
          · rw [if_neg y] at z; omega
        · intro z
          rw [← hQ, u2_no _ _ _ (by omega), u2_no _ _ _ (by omega), u2_at]
          unfold tkN; rw [hb]
        · intro z
          rw [ek] at z
          by_cases y : 4 < tD f n b - b
          · rw [if_pos y] at z; omega
          · rw [if_neg y] at z; omega
      · have two2 : ∀ A B : RS, (bif decide (f b < 48) then A else bif decide (57 < f b) then A else B) = A := fun A B => by
          by_cases z : f b < 48
          · rw [dt z]; rfl
          · rw [df z]
            by_cases z2 : 57 < f b
            · rw [dt z2]; rfl
            · exact absurd ⟨by omega, by omega⟩ cd
        rw [two2]
        have ee : tkE f n p = b + 1 := by unfold tkE; rw [hb, if_neg c0, if_neg cl, if_neg cd]
        obtain ⟨r, e1, e2⟩ := c_256 (st.c 0 (h_ml h 101 6) pN) d fb.1 fb.2
        have ek : tkK f n p = if r < 0 then 4 else 3 := by
          unfold tkK
          rw [hb, if_neg c0, if_neg cl, if_neg cd]
          by_cases z : sgn (f b)
          · rw [if_pos z, if_neg (fun q => (e2.mp q) z)]
          · rw [if_neg z, if_pos (e2.mpr z)]
        have fz : ∀ x : Int, x = srt (tkK f n p) → ∃ Q, up2 (up2 (up2 P 101 3 x) 101 5 (f b)) 101 2 ((b + 1 : Nat) : Int) = Q ∧ (∀ a, a ≠ 101 → Q a = h_mi h a) ∧ Q 101 1 = (n : Int) ∧ CTk (cH h 0 (h_ml h 101 6) Q) f n p := fun x hx => by
          have q0 : ∀ a, a ≠ 101 → up2 (up2 (up2 P 101 3 x) 101 5 (f b)) 101 2 ((b + 1 : Nat) : Int) a = h_mi h a := fun a ha => by rw [u2_ne _ _ _ ha, u2_ne _ _ _ ha, u2_ne _ _ _ ha]; exact pn a ha
          have q1 : up2 (up2 (up2 P 101 3 x) 101 5 (f b)) 101 2 ((b + 1 : Nat) : Int) 101 1 = (n : Int) := by rw [u2_no _ _ _ (by omega), u2_no _ _ _ (by omega), u2_no _ _ _ (by omega), pj 1 (by omega) (by omega)]; exact h1
          have n1 : tkK f n p ≠ 1 := by rw [ek]; split <;> omega
          have n2 : tkK f n p ≠ 2 := by rw [ek]; split <;> omega
          exact ⟨_, rfl, q0, q1, fin _ _ _ q0 q1 (by rw [u2_at, ee]) (by rw [u2_no _ _ _ (by omega), u2_no _ _ _ (by omega), u2_at]; exact hx) (by rw [u2_no _ _ _ (by omega), u2_no _ _ _ (by omega), u2_no _ _ _ (by omega)]; exact p4) (fun z => absurd z n1) (fun _ => rfl) (fun z => absurd z n2) (fun _ => by rw [u2_no _ _ _ (by omega), u2_at])⟩
        rw [e1, bI_s, q_89_142 (w := w.c _ _ _), cH_mi, Int.toNat_natCast, pf b (by omega), dt (show 0 ≤ (b : Int) by omega), dt (show (b : Int) < 1000 by omega), ia (by omega) (by omega), show (b : Int) + 1 = ((b + 1 : Nat) : Int) by omega]
        by_cases z : r < 0
        · obtain ⟨Q, eQ, q0, q1, q2⟩ := fz 1 (by rw [ek, if_pos z]; rfl)
          refine ⟨Q, 0, h_ml h 101 6, ?_, q0, q1, q2⟩
          rw [dt z, ← eQ]; rfl
        · obtain ⟨Q, eQ, q0, q1, q2⟩ := fz 4 (by rw [ek, if_neg z]; rfl)
          refine ⟨Q, 0, h_ml h 101 6, ?_, q0, q1, q2⟩
          rw [df z, ← eQ]; rfl
