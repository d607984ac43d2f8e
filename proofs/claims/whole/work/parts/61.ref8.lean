/-! the reference: rests, guess, sounds, single numbers -/
def cs {α β γ : Type} (x : α ⊕ β) (f : α → γ) (g : β → γ) : γ := match x with
  | .inl a => f a
  | .inr b => g b
theorem cs_l {α β γ : Type} (a : α) (f : α → γ) (g : β → γ) : cs (.inl a : α ⊕ β) f g = f a := rfl
theorem cs_r {α β γ : Type} (b : β) (f : α → γ) (g : β → γ) : cs (.inr b : α ⊕ β) f g = g b := rfl
def rsE (R : Int → Int → Int) (what w e n : Int) : Int ⊕ Int := if R w e = 0 then .inr n else if n = what then .inl (8 * w + e) else .inr (n + 1)
theorem irV_q {M N : MM} (q : QA M N) (E : EE) (mis w e : Int) : irV N E mis w e = irV M E mis w e := by
  unfold irV; simp only [payV_q q]; rw [q.e (nR (by omega) (by omega))]
theorem itx_b {f : Int → Int → Int ⊕ Int} (st : ∀ i a b, f i a = .inr b → a ≤ b ∧ b ≤ a + 1) : ∀ (k : Nat) (i a b : Int), itx f k i a = .inr b → a ≤ b ∧ b ≤ a + k
  | 0, i, a, b, h => by
    have : a = b := by simpa [itx] using h
    omega
  | k + 1, i, a, b, h => by
    cases hf : f i a with
    | inl x => rw [itx_l hf] at h; cases h
    | inr a2 =>
      rw [itx_r hf] at h
      have h1 := itx_b st k (i + 1) a2 b h
      have h2 := st i a a2 hf
      omega
theorem rsE_b (R : Int → Int → Int) (what w : Int) (i a b : Int) (h : rsE R what w i a = .inr b) : a ≤ b ∧ b ≤ a + 1 := by
  unfold rsE at h
  split at h
  · cases h; omega
  · split at h
    · cases h
    · cases h; omega
theorem l_229b {h : HP} {M : MM} {E : EE} (w : RSk h) (v : VM M E) {mis : Int} (m0 : 0 ≤ mis) (m1 : mis ≤ 99) (what : Int) {we : Int} (w0 : 0 ≤ we) (w1 : we < 6) (d : Nat) : ∀ (k : Nat) (i n : Int) (N : MM), (M 147 1 - i).toNat = k → 0 ≤ i → i ≤ M 147 1 → 0 ≤ n → n ≤ 6 * we + i → QA M N → ∃ N', run (d + 10) md_229 41 [vr 145, vi mis, vi what, vi n, vi we, vi i] [] (sM h N) = cs (itx (rsE (irV M E mis) what we) k i n) (fun x => some (vi x, sM h N')) (fun n' => run (d + 10) md_229 27 [vr 145, vi mis, vi what, vi n', vi (we + 1), vi (M 147 1)] [] (sM h N')) ∧ QA M N'
  | 0, i, n, N, h1, h2, h3, n0, n1, q => by
    refine ⟨N, ?_, q⟩
    have : i = M 147 1 := by omega
    subst this
    rw [q_229_41 (d + 9) mis what n we _ _ (w.m N), mi_sM, q.e (a := 147) (nR (by omega) (by omega)), dt (by omega), ia (by omega) (by omega)]
    rfl
  | k + 1, i, n, N, h1, h2, h3, n0, n1, q => by
    have hr := v.r
    obtain ⟨N1, f1, q1⟩ := m_228 (E := E) d we i mis (sM h N) w (q.vm v) m0 m1 w0 w1 h2 (by omega)
    rw [mi_sM, irV_q q, sM_sM] at f1
    rw [mi_sM] at q1
    have q2 := q.tr q1
    rw [q_229_41 (d + 9) mis what n we i _ (w.m N), mi_sM, q.e (a := 147) (nR (by omega) (by omega)), df (by omega), f1]
    simp only [zb, bI_s]
    rw [q_229_61, ia (x := i) (by omega) (by omega), ia (x := n) (by omega) (by omega), im (by omega) (by omega), ia (by omega) (by omega)]
    by_cases c1 : irV M E mis we i = 0
    · obtain ⟨N2, f2, q3⟩ := l_229b w v m0 m1 what w0 w1 d k (i + 1) n N1 (by omega) (by omega) (by omega) n0 (by omega) q2
      refine ⟨N2, ?_, q3⟩
      rw [itx_r (a2 := n) (if_pos c1), df (by omega)]
      exact f2
    · rw [dt c1]
      by_cases c2 : n = what
      · refine ⟨N1, ?_, q2⟩
        rw [itx_l (b := 8 * we + i) (by unfold rsE; rw [if_neg c1, if_pos c2]), df (by omega)]
        rfl
      · obtain ⟨N2, f2, q3⟩ := l_229b w v m0 m1 what w0 w1 d k (i + 1) (n + 1) N1 (by omega) (by omega) (by omega) (by omega) (by omega) q2
        refine ⟨N2, ?_, q3⟩
        rw [itx_r (a2 := n + 1) (by unfold rsE; rw [if_neg c1, if_neg c2]), dt c2]
        exact f2
def rsS (M : MM) (E : EE) (mis what w n : Int) : Int ⊕ Int := itx (rsE (irV M E mis) what w) (M 147 1).toNat 0 n
theorem l_229 {h : HP} {M : MM} {E : EE} (w : RSk h) (v : VM M E) {mis : Int} (m0 : 0 ≤ mis) (m1 : mis ≤ 99) (what : Int) (d : Nat) : ∀ (k : Nat) (i n : Int) (v5 : AV) (N : MM), (M 147 1 - i).toNat = k → 0 ≤ i → i ≤ M 147 1 → 0 ≤ n → n ≤ 6 * i → QA M N → ∃ N', run (d + 10) md_229 27 [vr 145, vi mis, vi what, vi n, vi i, v5] [] (sM h N) = some (vi (cs (itx (rsS M E mis what) k i n) (fun x => x) (fun n' => if what = -1 then n' else -1)), sM h N') ∧ QA M N'
  | 0, i, n, v5, N, h1, h2, h3, n0, n1, q => by
    refine ⟨N, ?_, q⟩
    rw [q_229_27 (d + 9) mis what n i v5 _ (w.m N), mi_sM, q.e (a := 147) (nR (by omega) (by omega)), dt (by omega)]
    show _ = some (vi (if what = -1 then n else -1), sM h N)
    by_cases c : what = -1
    · rw [df (by omega), if_pos c]; rfl
    · rw [dt c, if_neg c]; rfl
  | k + 1, i, n, v5, N, h1, h2, h3, n0, n1, q => by
    have hr := v.r
    rw [q_229_27 (d + 9) mis what n i v5 _ (w.m N), mi_sM, q.e (a := 147) (nR (by omega) (by omega)), df (by omega)]
    simp only [zb]
    obtain ⟨N1, f1, q1⟩ := l_229b (h := h) w v m0 m1 what h2 (show i < 6 by omega) d _ 0 n N rfl (by omega) (by omega) n0 (by omega) q
    rw [Int.sub_zero] at f1
    rw [f1]
    cases hx : itx (rsE (irV M E mis) what i) (M 147 1).toNat 0 n with
    | inl x =>
      refine ⟨N1, ?_, q1⟩
      rw [itx_l (f := rsS M E mis what) (b := x) hx]
      rfl
    | inr n2 =>
      have b := itx_b (rsE_b _ what i) _ 0 n n2 hx
      obtain ⟨N2, f2, q2⟩ := l_229 w v m0 m1 what d k (i + 1) n2 (vi (M 147 1)) N1 (by omega) (by omega) (by omega) (by omega) (by omega) q1
      refine ⟨N2, ?_, q2⟩
      rw [itx_r (f := rsS M E mis what) (a2 := n2) hx]
      exact f2
def restsV (M : MM) (E : EE) (mis what : Int) : Int := if (0 ≤ mis ∧ mis ≤ 99) ∧ -1 ≤ what then cs (itx (rsS M E mis what) (M 147 1).toNat 0 0) (fun x => x) (fun n' => if what = -1 then n' else -1) else -1
theorem r_rests {E : EE} (d : Nat) (mis what : Int) (h : HP) (w : RSk h) (v : VM (h_mi h) E) : ∃ N, ev (d + 10) 229 [vr 145, vi mis, vi what] h = some (vi (restsV (h_mi h) E mis what), sM h N) ∧ QA (h_mi h) N := by
  have q0 : QA (h_mi h) (up2 (h_mi h) 145 0 0) := QA.f 0 0 (by omega) (by omega)
  have hr := v.r
  rw [v_229, q_229_0 (d + 9) mis what h w, sI_h, m_148, bI_s, q_229_12]
  unfold restsV
  by_cases c1 : 0 ≤ mis ∧ mis ≤ 99
  · rw [bb_dt c1]
    by_cases c2 : -1 ≤ what
    · rw [dt c2, if_pos ⟨c1, c2⟩]
      obtain ⟨N, f1, q1⟩ := l_229 (h := h) w v c1.1 c1.2 what d _ 0 0 vu (up2 (h_mi h) 145 0 0) rfl (by omega) (by omega) (by omega) (by omega) q0
      rw [Int.sub_zero] at f1
      exact ⟨N, f1, q1⟩
    · refine ⟨_, ?_, q0⟩
      rw [df c2, if_neg (by omega)]; rfl
  · refine ⟨_, ?_, q0⟩
    rw [bb_df c1, if_neg (by omega)]; rfl
/-! bits -/
def bit (s i : Int) : Int := (s / 2 ^ i.toNat) % 2
theorem bit_ck : ((List.range 128).all fun s => (List.range 7).all fun i => decide (i_and (i_shr (s : Int) (i : Int)) 1 = bit s i)) = true := by decide +kernel
theorem bitI {s i : Int} (s0 : 0 ≤ s) (s1 : s < 128) (i0 : 0 ≤ i) (i1 : i < 7) : i_and (i_shr s i) 1 = bit s i := by
  have := rng_of (rng_of bit_ck (show s.toNat < 128 by omega)) (show i.toNat < 7 by omega)
  rw [decide_eq_true_eq] at this
  have e1 : ((s.toNat : Nat) : Int) = s := by omega
  have e2 : ((i.toNat : Nat) : Int) = i := by omega
  rw [e1, e2] at this
  exact this
theorem bit01 (s i : Int) : bit s i = 0 ∨ bit s i = 1 := by unfold bit; omega
theorem shl_ck : ((List.range 8).all fun i => decide (i_shl 1 (i : Int) = 2 ^ i)) = true := by decide +kernel
theorem shlI {i : Int} (i0 : 0 ≤ i) (i1 : i < 8) : i_shl 1 i = 2 ^ i.toNat := by
  have := rng_of shl_ck (show i.toNat < 8 by omega)
  rw [decide_eq_true_eq] at this
  have e2 : ((i.toNat : Nat) : Int) = i := by omega
  rw [e2] at this
  exact this
theorem p2_ck : ((List.range 8).all fun i => decide ((1 : Int) ≤ 2 ^ i) && decide ((2 : Int) ^ i ≤ 128)) = true := by decide +kernel
theorem p2_b {i : Nat} (h : i < 8) : (1 : Int) ≤ 2 ^ i ∧ (2 : Int) ^ i ≤ 128 := by
  have := rng_of p2_ck h
  simp only [Bool.and_eq_true, decide_eq_true_eq] at this
  exact this
theorem p2_6 {i : Int} (i0 : 0 ≤ i) (i1 : i ≤ 6) : (1 : Int) ≤ 2 ^ i.toNat ∧ (2 : Int) ^ i.toNat ≤ 64 := by
  have : i = 0 ∨ i = 1 ∨ i = 2 ∨ i = 3 ∨ i = 4 ∨ i = 5 ∨ i = 6 := by omega
  rcases this with rfl | rfl | rfl | rfl | rfl | rfl | rfl <;> decide
/-- the worst of some rows for a side -/
def woF (set mis row : Int) (r a : Int) : Int := if bit set r = 1 then max a (mis * ap row r) else a
def woS (M : MM) (set mis row : Int) : Int := itr (woF set mis row) (M 147 1).toNat 0 0
def woV (M : MM) (E : EE) (side row set mis : Int) : Int := hfV M E side row + woS M set mis row
theorem l_233 {h : HP} {E : EE} (w : RSk h) (v : VM (h_mi h) E) {side row set mis : Int} (m0 : 0 ≤ mis) (m1 : mis ≤ 99) (r0 : 0 ≤ row) (r1 : row < 6) (s0 : 0 ≤ set) (s1 : set < 128) (d : Nat) : ∀ (k : Nat) (i a : Int), (h_mi h 147 1 - i).toNat = k → 0 ≤ i → i ≤ h_mi h 147 1 → 0 ≤ a → a ≤ 1000 → ∃ N, run (d + 9) md_233 6 [vr 145, vi side, vi row, vi set, vi mis, vi a, vi i] [] h = some (vi (hfV (h_mi h) E side row + itr (woF set mis row) k i a), sM h N) ∧ QA (h_mi h) N
  | 0, i, a, h1, h2, h3, a0, a1 => by
    have b := hfV_b v (side := side) r0 r1
    obtain ⟨N, f1, q1⟩ := m_225 (E := E) d side row h w v r0 r1
    refine ⟨N, ?_, q1⟩
    rw [q_233_6 (d + 8) side row set mis a i h w, dt (by omega), f1]
    simp only [zb, bI_s]
    rw [q_233_55, ia (by omega) (by omega)]
    rfl
  | k + 1, i, a, h1, h2, h3, a0, a1 => by
    have hr := v.r
    have ab := ap_b (n := 6) r0 r1 h2 (by omega)
    have mb := mulb m0 m1 ab.1 (show ap row i ≤ 6 by omega)
    rw [q_233_6 (d + 8) side row set mis a i h w, df (by omega), bitI s0 s1 h2 (by omega), m_227 _ _ _ _ (by omega) (by omega) (by omega) (by omega), ia (by omega) (by omega)]
    simp only [zb, bI_s]
    rw [q_233_37, im (by omega) (by omega), ia (by omega) (by omega)]
    have key := fun a2 (b0 : 0 ≤ a2) (b1 : a2 ≤ 1000) => l_233 w v (side := side) m0 m1 r0 r1 s0 s1 d k (i + 1) a2 (by omega) (by omega) (by omega) b0 b1
    show ∃ N, _ = some (vi (hfV (h_mi h) E side row + itr (woF set mis row) k (i + 1) (woF set mis row i a)), sM h N) ∧ _
    unfold woF
    by_cases c : bit set i = 1
    · rw [df (by omega), if_pos c]
      exact key _ (by omega) (by omega)
    · rw [dt c, if_neg c]
      exact key _ a0 a1
theorem m_233 {E : EE} (d : Nat) (side row set mis : Int) (h : HP) (w : RSk h) (v : VM (h_mi h) E) (m0 : 0 ≤ mis) (m1 : mis ≤ 99) (r0 : 0 ≤ row) (r1 : row < 6) (s0 : 0 ≤ set) (s1 : set < 128) : ∃ N, ev (d + 9) 233 [vr 145, vi side, vi row, vi set, vi mis] h = some (vi (woV (h_mi h) E side row set mis), sM h N) ∧ QA (h_mi h) N := by
  have hr := v.r
  obtain ⟨N, f1, q1⟩ := l_233 w v (side := side) m0 m1 r0 r1 s0 s1 d _ 0 0 rfl (by omega) (by omega) (by omega) (by omega)
  rw [Int.sub_zero] at f1
  exact ⟨N, by rw [v_233, q_233_0]; exact f1, q1⟩
theorem woV_q {M N : MM} (q : QA M N) (E : EE) (side row set mis : Int) : woV N E side row set mis = woV M E side row set mis := by unfold woV woS; rw [hfV_q q, q.e (nR (by omega) (by omega))]
def guF (M : MM) (E : EE) (side set mis : Int) (r b : Int) : Int := if woV M E side r set mis < woV M E side b set mis then r else b
theorem l_234 {h : HP} {M : MM} {E : EE} (w : RSk h) (v : VM M E) {side set mis what : Int} (m0 : 0 ≤ mis) (m1 : mis ≤ 99) (s0 : 0 ≤ set) (s1 : set < 128) (hw : what = 0 ∨ what = 1) (d : Nat) : ∀ (k : Nat) (i b : Int) (N : MM), (M 147 1 - i).toNat = k → 0 ≤ i → i ≤ M 147 1 → 0 ≤ b → b < 6 → QA M N → ∃ N', run (d + 10) md_234 59 [vr 145, vi side, vi set, vi mis, vi what, vi b, vi i] [] (sM h N) = some (vi (if what = 0 then itr (guF M E side set mis) k i b else woV M E side (itr (guF M E side set mis) k i b) set mis), sM h N') ∧ QA M N'
  | 0, i, b, N, h1, h2, h3, b0, b1, q => by
    rw [q_234_59 (d + 9) side set mis what b i _ (w.m N), mi_sM, q.e (a := 147) (nR (by omega) (by omega)), dt (by omega)]
    rcases hw with rfl | rfl
    · refine ⟨N, ?_, q⟩
      rw [df (by omega), if_pos rfl]
      simp only [zb]
      rw [q_234_125]; rfl
    · obtain ⟨N1, f1, q1⟩ := m_233 (E := E) d side b set mis (sM h N) w (q.vm v) m0 m1 b0 b1 s0 s1
      rw [mi_sM, woV_q q, sM_sM] at f1
      rw [mi_sM] at q1
      refine ⟨N1, ?_, q.tr q1⟩
      rw [dt (by omega), if_neg (by omega), f1]
      simp only [zb, bI_s]
      rw [q_234_125]; rfl
  | k + 1, i, b, N, h1, h2, h3, b0, b1, q => by
    have hr := v.r
    obtain ⟨N1, f1, q1⟩ := m_233 (E := E) d side i set mis (sM h N) w (q.vm v) m0 m1 h2 (by omega) s0 s1
    rw [mi_sM, woV_q q, sM_sM] at f1
    rw [mi_sM] at q1
    have q2 := q.tr q1
    obtain ⟨N2, f2, q3⟩ := m_233 (E := E) d side b set mis (sM h N1) w (q2.vm v) m0 m1 b0 b1 s0 s1
    rw [mi_sM, woV_q q2, sM_sM] at f2
    rw [mi_sM] at q3
    have q4 := q2.tr q3
    rw [q_234_59 (d + 9) side set mis what b i _ (w.m N), mi_sM, q.e (a := 147) (nR (by omega) (by omega)), df (by omega), f1]
    simp only [zb, bI_s]
    rw [q_234_79 (d + 9) side set mis what b i _ _ (w.m N1), f2, bI_s, q_234_88, ia (by omega) (by omega)]
    show ∃ N', _ = some (vi (if what = 0 then itr (guF M E side set mis) k (i + 1) (guF M E side set mis i b) else woV M E side (itr (guF M E side set mis) k (i + 1) (guF M E side set mis i b)) set mis), sM h N') ∧ QA M N'
    unfold guF
    by_cases c : woV M E side i set mis < woV M E side b set mis
    · rw [if_pos c, df (by omega)]
      exact l_234 w v m0 m1 s0 s1 hw d k (i + 1) i N2 (by omega) (by omega) (by omega) h2 (by omega) q4
    · rw [if_neg c, dt (by omega)]
      exact l_234 w v m0 m1 s0 s1 hw d k (i + 1) b N2 (by omega) (by omega) (by omega) b0 b1 q4
def guS (M : MM) (E : EE) (side set mis : Int) : Int := itr (guF M E side set mis) (M 147 1 - 1).toNat 1 0
def guessV (M : MM) (E : EE) (side set mis what : Int) : Int := if (0 ≤ side ∧ side ≤ 1) ∧ (1 ≤ set ∧ set < 2 ^ (M 147 1).toNat) ∧ (0 ≤ mis ∧ mis ≤ 99) ∧ 0 ≤ what ∧ what ≤ 1 then (if what = 0 then guS M E side set mis else woV M E side (guS M E side set mis) set mis) else -1
theorem r_guess {E : EE} (d : Nat) (side set mis what : Int) (h : HP) (w : RSk h) (v : VM (h_mi h) E) : ∃ N, ev (d + 10) 234 [vr 145, vi side, vi set, vi mis, vi what] h = some (vi (guessV (h_mi h) E side set mis what), sM h N) ∧ QA (h_mi h) N := by
  have q0 : QA (h_mi h) (up2 (h_mi h) 145 0 0) := QA.f 0 0 (by omega) (by omega)
  have e147 : (up2 (h_mi h) 145 0 0) 147 = h_mi h 147 := u2_ne _ _ _ (by omega)
  have hr := v.r
  have p6 := p2_6 (i := h_mi h 147 1) (by omega) (by omega)
  rw [v_234, q_234_0 (d + 9) side set mis what h w, sI_h, m_148, bI_s, q_234_11 (d + 9) side set mis what _ _ (w.m _), mi_sM, e147, shlI (by omega) (by omega), m_148]
  unfold guessV
  by_cases c1 : 0 ≤ side ∧ side ≤ 1
  · rw [bb_dt c1]
    by_cases c2 : set < 1
    · refine ⟨_, ?_, q0⟩
      rw [dt c2, if_neg (by omega)]; rfl
    · rw [df c2]
      by_cases c3 : (2 : Int) ^ (h_mi h 147 1).toNat ≤ set
      · refine ⟨_, ?_, q0⟩
        rw [dt c3, if_neg (by omega)]; rfl
      · rw [df c3]
        simp only [zb, bI_s]
        rw [q_234_38, m_148]
        by_cases c4 : 0 ≤ mis ∧ mis ≤ 99
        · rw [bb_dt c4]
          simp only [zb, bI_s]
          rw [q_234_48]
          by_cases c5 : 0 ≤ what ∧ what ≤ 1
          · rw [bb_nt c5, if_pos ⟨c1, ⟨by omega, by omega⟩, c4, c5⟩]
            exact l_234 (h := h) w v c4.1 c4.2 (by omega) (by omega) (by omega) d _ 1 0 (up2 (h_mi h) 145 0 0) rfl (by omega) (by omega) (by omega) (by omega) q0
          · refine ⟨_, ?_, q0⟩
            rw [bb_nf c5, if_neg (by omega)]; rfl
        · refine ⟨_, ?_, q0⟩
          rw [bb_df c4, if_neg (by omega)]; rfl
  · refine ⟨_, ?_, q0⟩
    rw [bb_df c1, if_neg (by omega)]; rfl
