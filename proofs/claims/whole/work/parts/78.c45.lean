/-! tokens: facts; the class's small steps at a token -/
theorem tk_c (f : Nat → Int) (n p : Nat) : tkK f n p = 0 ∨ tkK f n p = 1 ∨ tkK f n p = 2 ∨ tkK f n p = 3 ∨ tkK f n p = 4 := by
  unfold tkK
  split
  · exact Or.inl rfl
  · split
    · split
      · omega
      · omega
    · split
      · split
        · omega
        · omega
      · split
        · omega
        · omega
theorem tk_0 {f : Nat → Int} {n p : Nat} : tkK f n p = 0 ↔ tB f n p = n := by
  constructor
  · intro h
    by_cases z : tB f n p = n
    · exact z
    · unfold tkK at h
      rw [if_neg z] at h
      split at h
      · split at h <;> omega
      · split at h
        · split at h <;> omega
        · split at h <;> omega
  · intro h; unfold tkK; rw [if_pos h]
/-- a token that there is is gone past -/
theorem tk_n {f : Nat → Int} {n p : Nat} (p1 : p ≤ n) : p ≤ tkE f n p ∧ tkE f n p ≤ n ∧ (tkK f n p ≠ 0 → p < tkE f n p ∧ tB f n p < n) := by
  have b := tB_b (f := f) p1
  unfold tkE
  by_cases c0 : tB f n p = n
  · rw [if_pos c0]
    exact ⟨p1, Nat.le_refl _, fun h => absurd (tk_0.mpr c0) h⟩
  · rw [if_neg c0]
    by_cases cl : lt_ (f (tB f n p))
    · rw [if_pos cl]
      have lb := spn_b (qL f n) (n - tB f n p) (tB f n p)
      have hq : qL f n (tB f n p) = true := qL_t.mpr ⟨by omega, cl⟩
      have ne : tL f n (tB f n p) ≠ tB f n p := fun z => by
        have := spn_out (qL f n) (n := n) (fun j hj => by
          cases e : qL f n j with
          | false => rfl
          | true => have := (qL_t.mp e).1; omega) (n - tB f n p) (tB f n p) (by omega)
        have z : spn (qL f n) (n - tB f n p) (tB f n p) = tB f n p := z
        rw [z, hq] at this; cases this
      have tl : tL f n (tB f n p) = spn (qL f n) (n - tB f n p) (tB f n p) := rfl
      exact ⟨by omega, by omega, fun _ => ⟨by omega, by omega⟩⟩
    · rw [if_neg cl]
      by_cases cd : dg (f (tB f n p))
      · rw [if_pos cd]
        have lb := spn_b (qD f n) (n - tB f n p) (tB f n p)
        have hq : qD f n (tB f n p) = true := qD_t.mpr ⟨by omega, cd⟩
        have ne : tD f n (tB f n p) ≠ tB f n p := fun z => by
          have := spn_out (qD f n) (n := n) (fun j hj => by
            cases e : qD f n j with
            | false => rfl
            | true => have := (qD_t.mp e).1; omega) (n - tB f n p) (tB f n p) (by omega)
          have z : spn (qD f n) (n - tB f n p) (tB f n p) = tB f n p := z
          rw [z, hq] at this; cases this
        have tl : tD f n (tB f n p) = spn (qD f n) (n - tB f n p) (tB f n p) := rfl
        exact ⟨by omega, by omega, fun _ => ⟨by omega, by omega⟩⟩
      · rw [if_neg cd]
        exact ⟨by omega, by omega, fun _ => ⟨by omega, by omega⟩⟩
theorem nu1 {f : Nat → Int} {p : Nat} {v B : Int} (d : 48 ≤ f p ∧ f p ≤ 57) (v0 : 0 ≤ v) (v1 : v ≤ B) (b : B ≤ 100000) : 0 ≤ i_add (i_mul v 10) (f p - 48) ∧ i_add (i_mul v 10) (f p - 48) ≤ B * 10 + 9 := by
  rw [im (by omega) (by omega), ia (by omega) (by omega)]
  omega
theorem tkN_b {f : Nat → Int} {n p : Nat} (p1 : p ≤ n) (h : tkK f n p = 2) : 0 ≤ tkN f n p ∧ tkN f n p ≤ 9999 := by
  have b := tB_b (f := f) p1
  have lb := spn_b (qD f n) (n - tB f n p) (tB f n p)
  have tl : tD f n (tB f n p) = spn (qD f n) (n - tB f n p) (tB f n p) := rfl
  have h4 : ¬ 4 < tD f n (tB f n p) - tB f n p := fun q => by
    unfold tkK at h
    split at h
    · omega
    · split at h
      · split at h <;> omega
      · split at h
        · omega
        · split at h <;> omega
  have hin := spn_in (qD f n) (n - tB f n p) (tB f n p)
  have dj : ∀ j, tB f n p ≤ j → j < tB f n p + (tD f n (tB f n p) - tB f n p) → 48 ≤ f j ∧ f j ≤ 57 := fun j j1 j2 => (qD_t.mp (hin j j1 (by omega))).2
  unfold tkN
  have : tD f n (tB f n p) - tB f n p = 0 ∨ tD f n (tB f n p) - tB f n p = 1 ∨ tD f n (tB f n p) - tB f n p = 2 ∨ tD f n (tB f n p) - tB f n p = 3 ∨ tD f n (tB f n p) - tB f n p = 4 := by omega
  have d0 := fun (h0 : 0 < tD f n (tB f n p) - tB f n p) => nu1 (f := f) (v := 0) (B := 0) (dj (tB f n p) (by omega) (by omega)) (by omega) (by omega) (by omega)
  have d1 := fun (h0 : 1 < tD f n (tB f n p) - tB f n p) => nu1 (f := f) (B := 9) (dj (tB f n p + 1) (by omega) (by omega)) (d0 (by omega)).1 (by have := (d0 (by omega)).2; omega) (by omega)
  have d2 := fun (h0 : 2 < tD f n (tB f n p) - tB f n p) => nu1 (f := f) (B := 99) (dj (tB f n p + 1 + 1) (by omega) (by omega)) (d1 (by omega)).1 (by have := (d1 (by omega)).2; omega) (by omega)
  have d3 := fun (h0 : 3 < tD f n (tB f n p) - tB f n p) => nu1 (f := f) (B := 999) (dj (tB f n p + 1 + 1 + 1) (by omega) (by omega)) (d2 (by omega)).1 (by have := (d2 (by omega)).2; omega) (by omega)
  rcases this with z | z | z | z | z <;> rw [z]
  · show (0 : Int) ≤ 0 ∧ (0 : Int) ≤ 9999; omega
  · exact ⟨(d0 (by omega)).1, Int.le_trans (d0 (by omega)).2 (by omega)⟩
  · exact ⟨(d1 (by omega)).1, Int.le_trans (d1 (by omega)).2 (by omega)⟩
  · exact ⟨(d2 (by omega)).1, Int.le_trans (d2 (by omega)).2 (by omega)⟩
  · exact ⟨(d3 (by omega)).1, Int.le_trans (d3 (by omega)).2 (by omega)⟩
theorem cH_cH (h : HP) (r r2 : Nat) (g g2 : Int) (N N2 : MM) : cH (cH h r g N) r2 g2 N2 = cH h r2 g2 N2 := by
  have e1 : cH h r2 g2 N2 = sM (cH h r2 g2 N) N2 := rfl
  rw [e1, ← cH_L h r2 g g2 N, ← cH_R h r r2 g N]
  rfl
/-- the reader's own has changed -/
def CRel (h h1 : HP) : Prop := ∃ r g N, h1 = cH h r g N ∧ (∀ a, a ≠ 101 → a ≠ 103 → a ≠ 104 → N a = h_mi h a) ∧ (∀ j, j ≠ 4 → j ≠ 8 → N 103 j = h_mi h 103 j)
theorem CRel.rf (h : HP) : CRel h h := ⟨_, _, _, (cH_self h).symm, fun _ _ _ _ => rfl, fun _ _ _ => rfl⟩
theorem CRel.tr {h h1 h2 : HP} (p : CRel h h1) (q : CRel h1 h2) : CRel h h2 := by
  obtain ⟨r, g, N, rfl, a1, a2⟩ := p
  obtain ⟨r2, g2, N2, rfl, b1, b2⟩ := q
  exact ⟨r2, g2, N2, cH_cH _ _ _ _ _ _ _, fun a h1 h2 h3 => (b1 a h1 h2 h3).trans (a1 a h1 h2 h3), fun j h1 h2 => (b2 j h1 h2).trans (a2 j h1 h2)⟩
theorem CRel.cs {h h1 : HP} (p : CRel h h1) (w : CSk h) : CSk h1 := by
  obtain ⟨r, g, N, rfl, _⟩ := p
  exact w.c _ _ _
theorem CRel.st {h h1 : HP} (p : CRel h h1) (w : Stt h) : Stt h1 := by
  obtain ⟨r, g, N, rfl, a1, _⟩ := p
  exact w.c _ _ (fun a ha => a1 a (by omega) (by omega) (by omega))
theorem CRel.f {h h1 : HP} (p : CRel h h1) {j : Nat} (j4 : j ≠ 4) (j8 : j ≠ 8) : h_mi h1 103 j = h_mi h 103 j := by
  obtain ⟨r, g, N, rfl, _, a2⟩ := p
  exact a2 j j4 j8
theorem CRel.si {h h1 : HP} (p : CRel h h1) {a k : Nat} {v : Int} (ha : a = 104 ∨ (a = 103 ∧ (k = 4 ∨ k = 8))) : CRel h (sI h1 a k v) := by
  obtain ⟨r, g, N, rfl, a1, a2⟩ := p
  refine ⟨r, g, up2 N a k v, rfl, fun x h1 h2 h3 => by rw [u2_ne _ _ _ (by omega)]; exact a1 x h1 h2 h3, fun j h1 h2 => ?_⟩
  rcases ha with z | ⟨z, y⟩
  · rw [u2_ne _ _ _ (by omega)]; exact a2 j h1 h2
  · rw [z, u2_no _ _ _ (by omega)]; exact a2 j h1 h2
theorem CTk.si {h : HP} {f : Nat → Int} {n p a k : Nat} {v : Int} (t : CTk h f n p) (ha : a ≠ 101) (hb : a ≠ 102) : CTk (sI h a k v) f n p := by
  obtain ⟨t1, t2, t3, t4, t5, t6, t7, t8, t9⟩ := t
  have e1 : h_mi (sI h a k v) 101 = h_mi h 101 := miI_ne _ _ _ (fun z => ha z.symm)
  have e2 : h_mi (sI h a k v) 102 = h_mi h 102 := miI_ne _ _ _ (fun z => hb z.symm)
  unfold CTk
  rw [e1, e2]
  exact ⟨t1, t2, t3, t4, t5, t6, t7, t8, t9⟩
/-- advance, at a token -/
theorem c_adv {h : HP} {f : Nat → Int} {n p : Nat} (w : CSk h) (st : Stt h) (d : Nat) (t : CTk h f n p) (hc : ∀ j, j < n → 0 ≤ f j ∧ f j < 127) (n1 : n ≤ 1000) (p1 : p ≤ n) : ∃ h1, ev (d + 5) 89 [vr 101] h = some (vr 0, h1) ∧ CRel h h1 ∧ CTk h1 f n (tkE f n p) ∧ h_mi h1 103 = h_mi h 103 ∧ h_mi h1 104 = h_mi h 104 := by
  obtain ⟨N, r, g, e, n1', n2, ct⟩ := c_89 w st d t.1 t.2.1 t.2.2.2.2.2.2.2.2 hc n1 (tk_n p1).2.1
  exact ⟨_, e, ⟨r, g, N, rfl, fun a h1 _ _ => n1' a h1, fun j _ _ => by rw [n1' 103 (by omega)]⟩, ct, n1' 103 (by omega), n1' 104 (by omega)⟩
section
variable {h : HP} {f : Nat → Int} {n p : Nat}
/-- a joining sign -/
noncomputable def jsV (f : Nat → Int) (n p : Nat) : Int := if tkK f n p = 1 then (if tkW f n p = 1111 then 10 else if tkW f n p = 423 then 11 else -1) else if tkK f n p = 3 then (if f (tB f n p) = 42 then 16 else if f (tB f n p) = 43 then 14 else if f (tB f n p) = 45 then 15 else if f (tB f n p) = 60 then 12 else if f (tB f n p) = 61 then 13 else -1) else -1
theorem c_75 (w : CSk h) (t : CTk h f n p) (d : Nat) : ev d 75 [vr 103] h = some (vi (jsV f n p), h) := by
  obtain ⟨t1, t2, t3, t4, t5, t6, t7, t8, t9⟩ := t
  rw [v_75, q_75_0 (w := w), t3]
  unfold jsV
  by_cases k1 : tkK f n p = 1
  · obtain ⟨_, m⟩ := t5 k1
    have wb := enW_b (tkW f n p)
    rw [m, if_pos k1, k1, df (show ¬ srt 1 ≠ 2 from fun q => q rfl), dt (show enW (tkW f n p) ≤ 35 from wb)]
    by_cases a : tkW f n p = 1111
    · rw [if_pos a, dt ((enW_is (c := 27) (by omega)).mpr a)]; rfl
    · rw [if_neg a, df (fun q => a ((enW_is (c := 27) (by omega)).mp q))]
      by_cases b : tkW f n p = 423
      · rw [if_pos b, dt ((enW_is (c := 28) (by omega)).mpr b)]; rfl
      · rw [if_neg b, df (fun q => b ((enW_is (c := 28) (by omega)).mp q))]; rfl
  · rw [if_neg k1]
    have s2 : srt (tkK f n p) ≠ 2 := by rcases tk_c f n p with z | z | z | z | z <;> rw [z] at k1 ⊢ <;> first | exact absurd rfl k1 | decide
    rw [dt s2]
    by_cases k3 : tkK f n p = 3
    · rw [if_pos k3, t8 k3, k3, dt (show srt 3 = 4 from rfl)]
      simp only [zb]
      by_cases a : f (tB f n p) = 42
      · rw [dt a, if_pos a]; rfl
      · rw [df a, if_neg a]
        by_cases b : f (tB f n p) = 43
        · rw [dt b, if_pos b]; rfl
        · rw [df b, if_neg b]
          by_cases c : f (tB f n p) = 45
          · rw [dt c, if_pos c]; rfl
          · rw [df c, if_neg c]
            by_cases e : f (tB f n p) = 60
            · rw [dt e, if_pos e]; rfl
            · rw [df e, if_neg e]
              by_cases g : f (tB f n p) = 61
              · rw [dt g, if_pos g]; rfl
              · rw [df g, if_neg g]; rfl
    · have s4 : srt (tkK f n p) ≠ 4 := by rcases tk_c f n p with z | z | z | z | z <;> rw [z] at k3 ⊢ <;> first | exact absurd rfl k3 | decide
      rw [if_neg k3, df s4]; rfl
theorem c_90 (w : CSk h) (t : CTk h f n p) (d : Nat) (c : Int) : ev d 90 [vr 101, vi c] h = some (vi (bb (tkK f n p = 3 ∧ f (tB f n p) = c)), h) := by
  obtain ⟨t1, t2, t3, t4, t5, t6, t7, t8, t9⟩ := t
  rw [v_90, q_90_0 (w := w), t3]
  by_cases k3 : tkK f n p = 3
  · rw [t8 k3, k3, df (show ¬ srt 3 ≠ 4 from fun q => q rfl)]
    by_cases a : f (tB f n p) = c
    · rw [df (fun q => q a), bb_t ⟨rfl, a⟩]; rfl
    · rw [dt a, bb_f (fun q => a q.2)]; rfl
  · have s4 : srt (tkK f n p) ≠ 4 := by rcases tk_c f n p with z | z | z | z | z <;> rw [z] at k3 ⊢ <;> first | exact absurd rfl k3 | decide
    rw [dt s4, bb_f (fun q => k3 q.1)]; rfl
theorem c_84n (w : CSk h) (d : Nat) (k b : Int) (hf : h_mi h 103 8 ≠ 0) : ev d 84 [vr 103, vi k, vi b] h = some (vr 0, h) := by
  rw [v_84, q_84_0 (w := w), dt hf]; rfl
theorem c_84z (w : CSk h) (d : Nat) {k : Int} {b : Nat} (hf : h_mi h 103 8 = 0) (k0 : 0 ≤ k) (k1 : k ≤ 10) (b1 : b ≤ 1000) : ev d 84 [vr 103, vi k, vi (b : Int)] h = some (vr 0, sI h 103 8 (k + 16 * (b : Int))) := by
  rw [v_84, q_84_0 (w := w), df (fun q => q hf), im (by omega) (by omega), ia (by omega) (by omega)]; rfl
theorem c_77 (w : CSk h) (d : Nat) (x : Int) {s : Nat} (hs : h_mi h 103 4 = (s : Int)) (s1 : s < 1000) : ev d 77 [vr 103, vi x] h = some (vr 0, sI (sI h 104 s x) 103 4 ((s + 1 : Nat) : Int)) := by
  rw [v_77, q_77_0 (w := w), hs, df (by omega), dt (by omega), dt (by omega), ia (by omega) (by omega), Int.toNat_natCast]
  rfl
theorem c_77w (w : CSk h) (d : Nat) (x : Int) (s0 : 0 ≤ h_mi h 103 4) (s1 : h_mi h 103 4 ≤ 1000) (t : CTk h f n p) : ∃ h1, ev d 77 [vr 103, vi x] h = some (vr 0, h1) ∧ CRel h h1 ∧ CTk h1 f n p ∧ (0 ≤ h_mi h1 103 4 ∧ h_mi h1 103 4 ≤ 1000) ∧ h_mi h1 103 8 = h_mi h 103 8 := by
  by_cases z : h_mi h 103 4 = 1000
  · refine ⟨h, ?_, CRel.rf h, t, ⟨s0, s1⟩, rfl⟩
    rw [v_77, q_77_0 (w := w), dt (by omega)]; rfl
  · have e := c_77 w d x (s := (h_mi h 103 4).toNat) (by omega) (by omega)
    refine ⟨_, e, ((CRel.rf h).si (Or.inl rfl)).si (Or.inr ⟨rfl, Or.inl rfl⟩), (t.si (by omega) (by omega)).si (by omega) (by omega), ?_, ?_⟩
    · rw [miI_eq, up_eq]; omega
    · rw [miI_eq, up_ne _ _ (by omega), miI_ne _ _ _ (by omega)]
end
