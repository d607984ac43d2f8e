/-! the reference: stumps -/
/-- how many below k, and the least -/
def dfc (P : Int → Bool) : Nat → Int × Int → Int × Int
  | 0, s => s
  | k + 1, s => dfc P k (bif P (k : Int) then (s.1 + 1, (k : Int)) else s)
def cnt (P : Int → Bool) (k : Nat) : Int := itr (fun i a => bif P i then a + 1 else a) k 0 0
theorem cnt_s (P : Int → Bool) (k : Nat) : cnt P (k + 1) = bif P (k : Int) then cnt P k + 1 else cnt P k := by
  unfold cnt; rw [itr_last, Int.zero_add]
theorem cnt_b (P : Int → Bool) : ∀ k, 0 ≤ cnt P k ∧ cnt P k ≤ k
  | 0 => ⟨Int.le_refl _, Int.le_refl _⟩
  | k + 1 => by
    rw [cnt_s]
    have := cnt_b P k
    cases P (k : Int) <;> simp only [cond_true, cond_false] <;> omega
/-- the first below k, or f -/
def fst_ (P : Int → Bool) (k : Nat) (f : Int) : Int := cs (itx (fun i (_ : Unit) => bif P i then (.inl i : Int ⊕ Unit) else .inr ()) k 0 ()) (fun x => x) (fun _ => f)
theorem itx_app {P : Int → Bool} : ∀ (k : Nat) (i : Int), itx (fun i (_ : Unit) => bif P i then (.inl i : Int ⊕ Unit) else .inr ()) (k + 1) i () = cs (itx (fun i (_ : Unit) => bif P i then (.inl i : Int ⊕ Unit) else .inr ()) k i ()) (fun x => .inl x) (fun _ => bif P (i + k) then .inl (i + k) else .inr ())
  | 0, i => by
    cases h : P i with
    | true =>
      rw [itx_l (b := i) (by rw [h]; rfl)]
      show _ = (bif P (i + ((0 : Nat) : Int)) then _ else _)
      rw [show i + ((0 : Nat) : Int) = i by omega, h]; rfl
    | false =>
      rw [itx_r (a2 := ()) (by rw [h]; rfl)]
      show _ = (bif P (i + ((0 : Nat) : Int)) then _ else _)
      rw [show i + ((0 : Nat) : Int) = i by omega, h]; rfl
  | k + 1, i => by
    cases h : P i with
    | true =>
      rw [itx_l (b := i) (by rw [h]; rfl), itx_l (b := i) (by rw [h]; rfl)]; rfl
    | false =>
      rw [itx_r (a2 := ()) (by rw [h]; rfl), itx_app k (i + 1), itx_r (k := k) (i := i) (a2 := ()) (by rw [h]; rfl)]
      rw [show i + 1 + (k : Int) = i + ((k + 1 : Nat) : Int) by omega]
theorem fst_s (P : Int → Bool) (k : Nat) (f : Int) : fst_ P (k + 1) f = fst_ P k (bif P (k : Int) then (k : Int) else f) := by
  unfold fst_
  rw [itx_app, Int.zero_add]
  cases itx (fun i (_ : Unit) => bif P i then (.inl i : Int ⊕ Unit) else .inr ()) k 0 () with
  | inl x => rfl
  | inr u => cases P (k : Int) <;> rfl
theorem dfc_is (P : Int → Bool) : ∀ (k : Nat) (s : Int × Int), dfc P k s = (s.1 + cnt P k, fst_ P k s.2)
  | 0, s => by
    show s = (s.1 + 0, s.2)
    rw [Int.add_zero]
  | k + 1, s => by
    show dfc P k _ = _
    rw [dfc_is P k, cnt_s, fst_s]
    cases P (k : Int)
    · rfl
    · show (s.1 + 1 + cnt P k, _) = (s.1 + (cnt P k + 1), _)
      rw [show s.1 + 1 + cnt P k = s.1 + (cnt P k + 1) by omega]; rfl
/-- so many pails by grip g, melted by me, leave st -/
def fitP (g me st : Int) (k : Int) : Bool := decide (max 0 (min 99 (k * g) - me) = st)
def meS (M : MM) (E : EE) (c seen nt : Int) : Int := itr (fun i a => a + meV M E c i nt) (seen - 11).toNat 12 0
theorem meS_b {M : MM} {E : EE} {c seen nt : Int} (s1 : seen ≤ 23) : 0 ≤ meS M E c seen nt ∧ meS M E c seen nt ≤ 108 := by
  have := sm_bd (P := fun i => meV M E c i nt) (B := 9) (seen - 11).toNat 12 0 (fun j _ _ => meV_b M E c j nt)
  unfold meS
  have e : (((seen - 11).toNat : Nat) : Int) ≤ 12 := by omega
  omega
/-- fits: how many, the least -/
def fsV (M : MM) (E : EE) (c poured seen b : Int) : Int → Bool := fitP (if b = 0 then frV M E c poured (M 172 134) else frV M E c poured (M 172 134) / 2) (meS M E c seen (M 172 134)) (M 172 (60 + c).toNat - 1)
theorem l_243a {h : HP} {M : MM} {E : EE} (w : RSk h) (v : VM M E) {c seen : Int} (c0 : 0 ≤ c) (c1 : c < 60) (s1 : seen ≤ 23) (poured b what g : Int) (d : Nat) : ∀ (k : Nat) (i a : Int) (N : MM), (seen + 1 - i).toNat = k → 12 ≤ i → i ≤ seen + 1 → 0 ≤ a → a ≤ (i - 12) * 9 → QA M N → ∃ N', run (d + 4) md_243 25 [vr 145, vi c, vi poured, vi seen, vi b, vi what, vi g, vi a, vi i, vu, vu] [] (sM h N) = run (d + 4) md_243 69 [vr 145, vi c, vi poured, vi seen, vi b, vi what, vi g, vi (itr (fun i a => a + meV M E c i (M 172 134)) k i a), vi 0, vi (-1), vi 50] [] (sM h N') ∧ QA M N'
  | 0, i, a, N, h1, h2, h3, a0, a1, q => by
    refine ⟨N, ?_, q⟩
    rw [q_243_25 (d + 3) c poured seen b what g a i _ (w.m N), dt (by omega)]
    rfl
  | k + 1, i, a, N, h1, h2, h3, a0, a1, q => by
    obtain ⟨N1, e1, g1⟩ := m_190 (E := E) d 1 c i (M 172 134) 1 (sM h N) w (q.vm v) (by omega) rfl c0 c1
    rw [mi_sM, fcl_ag (q.e (nR (by omega) (by omega))), sM_sM] at e1
    rw [mi_sM] at g1
    have e1 : ev (d + 3) 190 [vr 145, vi 1, vi c, vi i, vi (M 172 134), vi 1] (sM h N) = some (vi (meV M E c i (M 172 134)), sM h N1) := e1
    have mb := meV_b M E c i (M 172 134)
    have q1 := q.tr (QA.of g1 LwA_q)
    obtain ⟨N2, e2, q2⟩ := l_243a w v c0 c1 s1 poured b what g d k (i + 1) (a + meV M E c i (M 172 134)) N1 (by omega) (by omega) (by omega) (by omega) (by omega) q1
    refine ⟨N2, ?_, q2⟩
    rw [q_243_25 (d + 3) c poured seen b what g a i _ (w.m N), df (by omega), mi_sM, q.e (a := 172) (nR (by omega) (by omega)), e1]
    simp only [zb, bI_s]
    rw [q_243_50, ia (by omega) (by omega), ia (by omega) (by omega)]
    exact e2
theorem l_243b {h : HP} (w : RSk h) {c g me : Int} (c0 : 0 ≤ c) (c1 : c < 60) (g0 : 0 ≤ g) (g1 : g ≤ 9) (m0 : 0 ≤ me) (m1 : me ≤ 1000) (s0 : 0 ≤ h_mi h 172 (60 + c).toNat) (s1 : h_mi h 172 (60 + c).toNat ≤ 1000) (poured seen b what : Int) (d : Nat) : ∀ (k : Nat) (s : Int × Int), k ≤ 51 → 0 ≤ s.1 → s.1 ≤ 51 - k → run (d + 1) md_243 69 [vr 145, vi c, vi poured, vi seen, vi b, vi what, vi g, vi me, vi s.1, vi s.2, vi ((k : Int) - 1)] [] h = some (vi (if what = 0 then (dfc (fitP g me (h_mi h 172 (60 + c).toNat - 1)) k s).1 else (dfc (fitP g me (h_mi h 172 (60 + c).toNat - 1)) k s).2), h)
  | 0, s, hk, n0, n1 => by
    rw [q_243_69 d c poured seen b what g me s.1 s.2 _ h w, dt (by omega)]
    by_cases cw : what = 0
    · rw [df (by omega), if_pos cw]; rfl
    · rw [dt cw, if_neg cw]; rfl
  | k + 1, s, hk, n0, n1 => by
    have e1 : ((k + 1 : Nat) : Int) - 1 = (k : Int) := by omega
    have mb := mulb (g := (k : Int)) (B := 50) (p := g) (C := 9) (by omega) (by omega) g0 g1
    rw [e1, q_243_69 d c poured seen b what g me s.1 s.2 _ h w]
    simp (disch := omega) only [mi_sM, sI_sM, sRi_sM, isK_sM, inb_sM, ln_sM, mr_sM, ml_sM, dt, df, ia, is_, zb, bI_s, bV_s, bR_s, im]
    show _ = some (vi (if what = 0 then (dfc (fitP g me (h_mi h 172 (60 + c).toNat - 1)) k (bif fitP g me (h_mi h 172 (60 + c).toNat - 1) (k : Int) then (s.1 + 1, (k : Int)) else s)).1 else (dfc (fitP g me (h_mi h 172 (60 + c).toNat - 1)) k (bif fitP g me (h_mi h 172 (60 + c).toNat - 1) (k : Int) then (s.1 + 1, (k : Int)) else s)).2), h)
    have e2 : (k : Int) + -1 = (k : Int) - 1 := by omega
    rw [e2]
    unfold fitP
    by_cases cf : max 0 (min 99 ((k : Int) * g) - me) = h_mi h 172 (60 + c).toNat - 1
    · rw [dt cf]
      exact l_243b w c0 c1 g0 g1 m0 m1 s0 s1 poured seen b what d k (s.1 + 1, (k : Int)) (by omega) (by show 0 ≤ s.1 + 1; omega) (by show s.1 + 1 ≤ _; omega)
    · rw [df cf]
      exact l_243b w c0 c1 g0 g1 m0 m1 s0 s1 poured seen b what d k s (by omega) n0 (by omega)
theorem m_243 {E : EE} (d : Nat) (c poured seen b what : Int) (h : HP) (w : RSk h) (v : VM (h_mi h) E) (c0 : 0 ≤ c) (c1 : c < 60) (s0 : 12 ≤ seen) (s1 : seen ≤ 23) : ∃ N, ev (d + 5) 243 [vr 145, vi c, vi poured, vi seen, vi b, vi what] h = some (vi (if what = 0 then cnt (fsV (h_mi h) E c poured seen b) 51 else fst_ (fsV (h_mi h) E c poured seen b) 51 (-1)), sM h N) ∧ QA (h_mi h) N := by
  obtain ⟨N1, e1, g1⟩ := m_191 (E := E) d c poured (h_mi h 172 134) b h w v c0 c1
  have q1 := QA.of g1 LwA_q
  obtain ⟨N2, e2, q2⟩ := l_243a (h := h) w v c0 c1 s1 poured b what (if b = 0 then frV (h_mi h) E c poured (h_mi h 172 134) else frV (h_mi h) E c poured (h_mi h 172 134) / 2) (d + 1) _ 12 0 N1 rfl (by omega) (by omega) (by omega) (by omega) q1
  rw [show seen + 1 - 12 = seen - 11 by omega] at e2
  have fb := frV_b (h_mi h) E c poured (h_mi h 172 134)
  have mb := meS_b (M := h_mi h) (E := E) (c := c) (nt := h_mi h 172 134) s1
  have sb := (v.s (c := c.toNat) (by omega)).2.1
  have e60 : (60 + c).toNat = 60 + c.toNat := by omega
  have e172 : N2 172 = h_mi h 172 := q2.e (nR (by omega) (by omega))
  have e3 := l_243b (h := sM h N2) w c0 c1 (g := if b = 0 then frV (h_mi h) E c poured (h_mi h 172 134) else frV (h_mi h) E c poured (h_mi h 172 134) / 2) (me := meS (h_mi h) E c seen (h_mi h 172 134)) (by split <;> omega) (by split <;> omega) mb.1 (by omega) (by rw [mi_sM, e172, e60]; omega) (by rw [mi_sM, e172, e60]; omega) poured seen b what (d + 4) 51 (0, -1) (by omega) (by omega) (by show (0 : Int) ≤ _; omega)
  rw [mi_sM, e172, dfc_is] at e3
  refine ⟨N2, ?_, q2⟩
  rw [v_243, q_243_0 (d + 4) c poured seen b what h w, e1, bI_s, q_243_16]
  refine e2.trans (e3.trans ?_)
  rw [Int.zero_add]; rfl
theorem m_244 (d : Nat) (x y : Int) (h : HP) : ev (d + 1) 244 [vi x, vi y] h = some (vi (bb ((0 ≤ x ∧ x ≤ 11) ∧ 12 ≤ y ∧ y ≤ 23)), h) := by
  rw [v_244, q_244_0, m_148, bI_s, q_244_7, m_148]
  by_cases c1 : 0 ≤ x ∧ x ≤ 11
  · rw [bb_dt c1]
    simp only [zb, bI_s]
    rw [q_244_18]
    by_cases c2 : 12 ≤ y ∧ y ≤ 23
    · rw [bb_dt c2, bb_t ⟨c1, c2⟩]; rfl
    · rw [bb_df c2, bb_f (fun z => c2 z.2)]; rfl
  · rw [bb_df c1, bb_f (p := (0 ≤ x ∧ x ≤ 11) ∧ 12 ≤ y ∧ y ≤ 23) (fun z => c1 z.1)]; rfl
def sltB (M : MM) (c : Int) : Int := if M 148 c.toNat = 2 then 1 else 0
def fitsV (M : MM) (E : EE) (x y poured seen what : Int) : Int := if (0 ≤ x ∧ x < M 147 0 ∧ 0 ≤ y ∧ y < M 147 1) ∧ ((0 ≤ poured ∧ poured ≤ 11) ∧ 12 ≤ seen ∧ seen ≤ 23) ∧ (0 ≤ what ∧ what ≤ 1) ∧ M 172 (60 + (10 * y + x)).toNat ≠ 0 ∧ cnt (fsV M E (10 * y + x) poured seen (sltB M (10 * y + x))) 51 ≠ 0 then (if what = 0 then cnt (fsV M E (10 * y + x) poured seen (sltB M (10 * y + x))) 51 else fst_ (fsV M E (10 * y + x) poured seen (sltB M (10 * y + x))) 51 (-1)) else -1
theorem fsV_q {M N : MM} (q : QA M N) (E : EE) (c poured seen b : Int) : fsV N E c poured seen b = fsV M E c poured seen b := by
  unfold fsV meS
  simp only [q.e (a := 172) (nR (by omega) (by omega)), frV_ag (q.e (a := 149) (nR (by omega) (by omega))), meV_ag (q.e (a := 149) (nR (by omega) (by omega)))]
theorem sltB_q {M N : MM} (q : QA M N) (c : Int) : sltB N c = sltB M c := by unfold sltB; rw [q.e (nR (by omega) (by omega))]
theorem r_fits {E : EE} (d : Nat) (x y poured seen what : Int) (h : HP) (w : RSk h) (v : VM (h_mi h) E) : ∃ N, ev (d + 6) 245 [vr 145, vi x, vi y, vi poured, vi seen, vi what] h = some (vi (fitsV (h_mi h) E x y poured seen what), sM h N) ∧ QA (h_mi h) N := by
  have q0 : QA (h_mi h) (up2 (h_mi h) 145 0 0) := QA.f 0 0 (by omega) (by omega)
  have e0 : ∀ a, a ≠ 145 → (up2 (h_mi h) 145 0 0) a = h_mi h a := fun a ha => u2_ne _ _ _ ha
  have hc := v.c
  have hr := v.r
  rw [v_245, q_245_0 (d + 5) x y poured seen what h w, sI_h, m_186 _ _ _ _ (w.m _), mi_sM, e0 147 (by omega), bI_s, q_245_11, m_244]
  unfold fitsV
  by_cases c1 : 0 ≤ x ∧ x < h_mi h 147 0 ∧ 0 ≤ y ∧ y < h_mi h 147 1
  · rw [bb_dt c1]
    simp only [zb, bI_s]
    rw [q_245_20, m_148]
    by_cases c2 : (0 ≤ poured ∧ poured ≤ 11) ∧ 12 ≤ seen ∧ seen ≤ 23
    · rw [bb_dt c2]
      simp only [zb, bI_s]
      rw [q_245_30 (d + 5) x y poured seen what _ _ (w.m _), mi_sM, e0 148 (by omega), e0 172 (by omega)]
      by_cases c3 : 0 ≤ what ∧ what ≤ 1
      · rw [bb_nt c3]
        simp (disch := omega) only [mi_sM, sI_sM, sRi_sM, isK_sM, inb_sM, ln_sM, mr_sM, ml_sM, dt, df, ia, is_, zb, bI_s, bV_s, bR_s, im]
        by_cases c4 : h_mi h 172 (60 + (10 * y + x)).toNat = 0
        · refine ⟨_, ?_, q0⟩
          rw [df (by omega), if_neg (fun z => z.2.2.2.1 c4)]; rfl
        · rw [dt c4]
          obtain ⟨N1, e1, q1⟩ := m_243 (E := E) d (10 * y + x) poured seen (sltB (h_mi h) (10 * y + x)) 0 (sM h (up2 (h_mi h) 145 0 0)) w (q0.vm v) (by omega) (by omega) c2.2.1 c2.2.2
          rw [mi_sM, fsV_q q0, sM_sM, if_pos rfl] at e1
          rw [mi_sM] at q1
          have q2 := q0.tr q1
          obtain ⟨N2, e2, q3⟩ := m_243 (E := E) d (10 * y + x) poured seen (sltB (h_mi h) (10 * y + x)) what (sM h N1) w (q2.vm v) (by omega) (by omega) c2.2.1 c2.2.2
          rw [mi_sM, fsV_q q2, sM_sM] at e2
          rw [mi_sM] at q3
          have hs : (bif decide (h_mi h 148 (10 * y + x).toNat ≠ 2) then bI (ev (d + 5) 243 [vr 145, vi (10 * y + x), vi poured, vi seen, vi 0, vi 0] (sM h (up2 (h_mi h) 145 0 0))) (fun r1 h1 => run (d + 5 + 1) md_245 84 [vr 145, vi x, vi y, vi poured, vi seen, vi what, vi (10 * y + x), vu] [vi r1] h1) else bI (ev (d + 5) 243 [vr 145, vi (10 * y + x), vi poured, vi seen, vi 1, vi 0] (sM h (up2 (h_mi h) 145 0 0))) (fun r1 h1 => run (d + 5 + 1) md_245 84 [vr 145, vi x, vi y, vi poured, vi seen, vi what, vi (10 * y + x), vu] [vi r1] h1)) = run (d + 5 + 1) md_245 84 [vr 145, vi x, vi y, vi poured, vi seen, vi what, vi (10 * y + x), vu] [vi (cnt (fsV (h_mi h) E (10 * y + x) poured seen (sltB (h_mi h) (10 * y + x))) 51)] (sM h N1) := by
            by_cases cz : h_mi h 148 (10 * y + x).toNat = 2
            · have : sltB (h_mi h) (10 * y + x) = 1 := if_pos cz
              rw [this] at e1 ⊢
              rw [df (by omega), e1]; rfl
            · have : sltB (h_mi h) (10 * y + x) = 0 := if_neg cz
              rw [this] at e1 ⊢
              rw [dt cz, e1]; rfl
          have hs2 : (bif decide (h_mi h 148 (10 * y + x).toNat ≠ 2) then bI (ev (d + 5) 243 [vr 145, vi (10 * y + x), vi poured, vi seen, vi 0, vi what] (sM h N1)) (fun r1 h1 => run (d + 5 + 1) md_245 122 [vr 145, vi x, vi y, vi poured, vi seen, vi what, vi (10 * y + x), vi (cnt (fsV (h_mi h) E (10 * y + x) poured seen (sltB (h_mi h) (10 * y + x))) 51)] [vi r1] h1) else bI (ev (d + 5) 243 [vr 145, vi (10 * y + x), vi poured, vi seen, vi 1, vi what] (sM h N1)) (fun r1 h1 => run (d + 5 + 1) md_245 122 [vr 145, vi x, vi y, vi poured, vi seen, vi what, vi (10 * y + x), vi (cnt (fsV (h_mi h) E (10 * y + x) poured seen (sltB (h_mi h) (10 * y + x))) 51)] [vi r1] h1)) = some (vi (if what = 0 then cnt (fsV (h_mi h) E (10 * y + x) poured seen (sltB (h_mi h) (10 * y + x))) 51 else fst_ (fsV (h_mi h) E (10 * y + x) poured seen (sltB (h_mi h) (10 * y + x))) 51 (-1)), sM h N2) := by
            by_cases cz : h_mi h 148 (10 * y + x).toNat = 2
            · have : sltB (h_mi h) (10 * y + x) = 1 := if_pos cz
              rw [this] at e2 ⊢
              rw [df (by omega), e2]
              simp only [zb, bI_s]
              rw [q_245_122]
            · have : sltB (h_mi h) (10 * y + x) = 0 := if_neg cz
              rw [this] at e2 ⊢
              rw [dt cz, e2]
              simp only [zb, bI_s]
              rw [q_245_122]
          simp only [zb]
          rw [hs, q_245_84 (d + 5) x y poured seen what _ _ _ (w.m N1), mi_sM, q2.e (a := 148) (nR (by omega) (by omega))]
          by_cases c5 : cnt (fsV (h_mi h) E (10 * y + x) poured seen (sltB (h_mi h) (10 * y + x))) 51 = 0
          · refine ⟨N1, ?_, q2⟩
            rw [df (by omega), if_neg (fun z => z.2.2.2.2 c5)]
            simp only [zb]
            rw [q_245_122]
          · refine ⟨N2, ?_, q2.tr q3⟩
            rw [dt c5, dt (p := 0 ≤ 10 * y + x) (by omega), dt (p := 10 * y + x < 360) (by omega), if_pos ⟨c1, c2, c3, c4, c5⟩]
            simp only [zb]
            exact hs2
      · refine ⟨_, ?_, q0⟩
        rw [bb_nf c3, if_neg (fun z => c3 z.2.2.1)]; rfl
    · refine ⟨_, ?_, q0⟩
      rw [bb_df c2, if_neg (fun z => c2 z.2.1)]; rfl
  · refine ⟨_, ?_, q0⟩
    rw [bb_df c1, if_neg (fun z => c1 z.1)]; rfl
