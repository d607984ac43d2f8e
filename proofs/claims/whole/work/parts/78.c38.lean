/-! laws: the class's steps on a stack -/
def jnV (o l r : Int) : Int := if o = 10 then (if l ≠ 0 ∧ r ≠ 0 then 1 else 0) else if o = 11 then (if l ≠ 0 ∨ r ≠ 0 then 1 else 0) else if o = 12 then (if l < r then 1 else 0) else if o = 13 then (if l = r then 1 else 0) else if o = 14 then i_add l r else if o = 15 then i_sub l r else i_mul l r
theorem c_61 (d : Nat) (o l r : Int) (h : HP) : ev d 61 [vi o, vi l, vi r] h = some (vi (jnV o l r), h) := by
  rw [v_61, q_61_0]
  unfold jnV
  by_cases c0 : o = 10
  · rw [dt c0, if_pos c0]
    by_cases z : l = 0
    · rw [dt z, if_neg (fun q => q.1 z)]; rfl
    · rw [df z]
      by_cases y : r = 0
      · rw [dt y, if_neg (fun q => q.2 y)]; rfl
      · rw [df y, if_pos ⟨z, y⟩]; rfl
  · rw [df c0, if_neg c0]
    by_cases c1 : o = 11
    · rw [dt c1, if_pos c1]
      by_cases z : l = 0
      · rw [df (show ¬ l ≠ 0 by omega)]
        by_cases y : r = 0
        · rw [dt y, if_neg (by omega)]; rfl
        · rw [df y, if_pos (Or.inr y)]; rfl
      · rw [dt z, if_pos (Or.inl z)]; rfl
    · rw [df c1, if_neg c1]
      by_cases c2 : o = 12
      · rw [dt c2, if_pos c2]
        by_cases z : l < r
        · rw [df (show ¬ r ≤ l by omega), if_pos z]; rfl
        · rw [dt (show r ≤ l by omega), if_neg z]; rfl
      · rw [df c2, if_neg c2]
        by_cases c3 : o = 13
        · rw [dt c3, if_pos c3]
          by_cases z : l = r
          · rw [df (show ¬ l ≠ r by omega), if_pos z]; rfl
          · rw [dt z, if_neg z]; rfl
        · rw [df c3, if_neg c3]
          by_cases c4 : o = 14
          · rw [dt c4, if_pos c4]; rfl
          · rw [df c4, if_neg c4]
            by_cases c5 : o = 15
            · rw [dt c5, if_pos c5]; rfl
            · rw [df c5, if_neg c5]; rfl
def stS (F : Nat → Int) (s : (Nat → Int) × Nat) (c : Int) : (Nat → Int) × Nat :=
  if -1 - c < 9 then (if s.2 < 32 then (va_up s.1 s.2 (if -1 - c < 0 then c else F (-1 - c).toNat), s.2 + 1) else s)
  else if -1 - c = 18 then (if 1 ≤ s.2 then (va_up s.1 (s.2 - 1) (if s.1 (s.2 - 1) = 0 then 1 else 0), s.2) else s)
  else if 2 ≤ s.2 then (va_up s.1 (s.2 - 2) (jnV (-1 - c) (s.1 (s.2 - 2)) (s.1 (s.2 - 1))), s.2 - 1) else s
theorem stS_b (F : Nat → Int) (s : (Nat → Int) × Nat) (c : Int) (h : s.2 ≤ 32) : (stS F s c).2 ≤ 32 := by
  unfold stS
  split
  · split
    · show s.2 + 1 ≤ 32; omega
    · exact h
  · split
    · split
      · exact h
      · exact h
    · split
      · show s.2 - 1 ≤ 32; omega
      · exact h
theorem l_60 {h : HP} {M : MM} {a f s : Nat} (d : Nat) (ka : isK h a 4 = true) (ma : h_mr h a 0 = a + 1) (kb : isK h (a + 1) 11 = true) (kf : isK h f 11 = true) (lf : h_ln h f = 9) (ks : isK h s 11 = true) (ls : h_ln h s = 32) (fs : f ≠ s) (as : a + 1 ≠ s) (l1 : h_ln h (a + 1) ≤ 1000) : ∀ (cs : List Int) (i : Nat) (st : Nat → Int) (top : Nat) (v5 : AV), i + cs.length = h_ln h (a + 1) → (∀ j, j < cs.length → M (a + 1) (i + j) = cs.getD j 0) → (∀ c, c ∈ cs → -100 ≤ c ∧ c ≤ 10000) → top ≤ 32 → run (d + 1) md_60 5 [vr a, vr f, vr s, vi (top : Int), vi (i : Int), v5] [] (sM h (va_up M s st)) = some (vi ((cs.foldl (stS (M f)) (st, top)).1 0), sM h (va_up M s (cs.foldl (stS (M f)) (st, top)).1))
  | [], i, st, top, v5, h1, h2, h3, h4 => by
    have h1 : i = h_ln h (a + 1) := h1
    have in1 : inb (sM h (va_up M s st)) s 0 = true := by rw [inb_sM]; unfold inb; rw [ls]; rfl
    rw [q_60_5]
    simp only [isK_sM, ka, mr_sM, ma, kb, ks, ln_sM, mi_sM, up_eq, in1, zb]
    rw [dt (by omega)]; rfl
  | c :: cs, i, st, top, v5, h1, h2, h3, h4 => by
    have hl : (c :: cs).length = cs.length + 1 := rfl
    rw [hl] at h1
    have ec : M (a + 1) i = c := h2 0 (by rw [hl]; omega)
    have cb := h3 c List.mem_cons_self
    have i1 : inb (sM h (va_up M s st)) (a + 1) (i : Int) = true := by rw [inb_sM]; unfold inb; rw [dt (by omega), dt (by omega)]; rfl
    have in1 : ∀ x : Int, 0 ≤ x → x < 32 → inb (sM h (va_up M s st)) s x = true := fun x h1 h2 => by rw [inb_sM]; unfold inb; rw [ls, dt h1, dt (show x < ((32 : Nat) : Int) by omega)]; rfl
    have in2 : ∀ x : Int, 0 ≤ x → x < 9 → inb (sM h (va_up M s st)) f x = true := fun x h1 h2 => by rw [inb_sM]; unfold inb; rw [lf, dt h1, dt (show x < ((9 : Nat) : Int) by omega)]; rfl
    have key := fun (s' : (Nat → Int) × Nat) v5 (hs : s'.2 ≤ 32) => l_60 (M := M) d ka ma kb kf lf ks ls fs as l1 cs (i + 1) s'.1 s'.2 v5 (by omega) (fun j hj => by
      have := h2 (j + 1) (by rw [hl]; omega)
      rw [show i + 1 + j = i + (j + 1) by omega, this]; rfl) (fun x hx => h3 x (List.mem_cons_of_mem _ hx)) hs
    have ei : ((i + 1 : Nat) : Int) = (i : Int) + 1 := by omega
    show _ = some (vi ((cs.foldl (stS (M f)) (stS (M f) (st, top) c)).1 0), sM h (va_up M s (cs.foldl (stS (M f)) (stS (M f) (st, top) c)).1))
    have sb := stS_b (M f) (st, top) c h4
    rw [← key (stS (M f) (st, top) c) (vi (-1 - c)) sb, ei, q_60_5]
    simp only [isK_sM, ka, mr_sM, ma, kb, ks, kf, ln_sM, ls, mi_sM, up_eq, up_ne _ _ as, up_ne _ _ fs, i1, zb, Int.toNat_natCast, ec]
    rw [df (by omega), is_ (by omega) (by omega), ia (x := (i : Int)) (by omega) (by omega)]
    simp only [zb]
    unfold stS
    by_cases c1 : -1 - c < 9
    · rw [df (show ¬ 9 ≤ -1 - c by omega), if_pos c1]
      simp only [zb]
      by_cases c2 : top < 32
      · rw [if_pos c2]
        by_cases c3 : -1 - c < 0
        · rw [if_pos c3]
          simp (disch := omega) only [dt, df, zb, in1, ia, sI_sM, up2_row, Int.toNat_natCast]
          rfl
        · rw [if_neg c3]
          simp (disch := omega) only [dt, df, zb, in1, in2, ia, sI_sM, up2_row, Int.toNat_natCast]
          rfl
      · rw [if_neg c2, dt (show ((32 : Nat) : Int) ≤ (top : Int) by omega)]; rfl
    · rw [dt (show 9 ≤ -1 - c by omega), if_neg c1]
      simp only [zb]
      by_cases c2 : -1 - c = 18
      · rw [df (show ¬ -1 - c ≠ 18 by omega), if_pos c2]
        simp only [zb]
        by_cases c3 : 1 ≤ top
        · have et : ((top : Int) - 1).toNat = top - 1 := by omega
          rw [if_pos c3, df (show ¬ (top : Int) < 1 by omega)]
          simp (disch := omega) only [dt, df, zb, in1, is_, sI_sM, up2_row, et]
          by_cases c4 : st (top - 1) = 0
          · rw [df (show ¬ st (top - 1) ≠ 0 by omega), if_pos c4]; rfl
          · rw [dt c4, if_neg c4]; rfl
        · rw [if_neg c3, dt (show (top : Int) < 1 by omega)]; rfl
      · rw [dt c2, if_neg c2]
        simp only [zb]
        by_cases c3 : 2 ≤ top
        · have e1 : ((top : Int) - 1).toNat = top - 1 := by omega
          have e2 : ((top : Int) - 2).toNat = top - 2 := by omega
          have e3 : ((top - 1 : Nat) : Int) = (top : Int) + -1 := by omega
          rw [if_pos c3, df (show ¬ (top : Int) < 2 by omega)]
          simp (disch := omega) only [dt, df, zb, in1, is_, e1, e2, c_61, bI_s]
          rw [q_60_124, isK_sM, ks, in1 _ (by omega) (by omega), ia (by omega) (by omega), ia (by omega) (by omega), sI_sM, up2_row, e2]
          show _ = run (d + 1) md_60 5 [vr a, vr f, vr s, vi ((top - 1 : Nat) : Int), _, _] [] _
          rw [e3]; rfl
        · rw [if_neg c3, dt (show (top : Int) < 2 by omega)]; rfl
/-- the steps cs put e of the facts on the stack; n: how much room they need -/
def CSem (l : Nat) (cs : List Int) (e : (Nat → Int) → Int) (n : Nat) : Prop := (∀ c, c ∈ cs → -100 ≤ c ∧ c ≤ 10000) ∧ 1 ≤ n ∧ ∀ F : Nat → Int, (∀ k, al l k → i3 (F k)) → i3 (e F) ∧ ∀ (f : Nat → Int) (top : Nat), top + n ≤ 32 → ∃ f', cs.foldl (stS F) (f, top) = (f', top + 1) ∧ (∀ j, j < top → f' j = f j) ∧ f' top = e F
theorem WgL.of {l n : Nat} {cs : List Int} {e : (Nat → Int) → Int} (s : CSem l cs e n) (hn : n ≤ 32) (hl : cs.length ≤ 1000) : WgL l (fun j => cs.getD j 0) cs.length e := by
  intro h d a f st ka ma kb ln hc kf lf ks ls fs as i3f
  obtain ⟨s1, s2, s3⟩ := s
  obtain ⟨_, s4⟩ := s3 (h_mi h f) i3f
  obtain ⟨f', e1, _, e3⟩ := s4 (h_mi h st) 0 (by omega)
  have := l_60 (h := h) (M := h_mi h) d ka ma kb kf lf ks ls fs as (by omega) cs 0 (h_mi h st) 0 vu (by omega) (fun j hj => by rw [Nat.zero_add]; exact hc j hj) s1 (by omega)
  rw [up_self, sM_self, e1] at this
  refine ⟨va_up (h_mi h) st f', ?_, fun x hx => up_ne _ _ hx⟩
  rw [v_60, q_60_0]
  have t2 : run (d + 1) md_60 5 [vr a, vr f, vr st, vi 0, vi 0, vu] [] h = some (vi (f' 0), sM h (va_up (h_mi h) st f')) := this
  rw [e3] at t2
  exact t2
theorem CSem.num {l : Nat} {v : Int} (v0 : 0 ≤ v) (v1 : v ≤ 9999) : CSem l [v] (fun _ => v) 1 := by
  refine ⟨fun c hc => by rw [List.mem_singleton] at hc; omega, Nat.le_refl _, fun F _ => ⟨by show i3 v; unfold i3; omega, fun f top ht => ⟨va_up f top v, ?_, fun j hj => up_ne _ _ (by omega), up_eq _ _ _⟩⟩⟩
  show stS F (f, top) v = _
  unfold stS
  rw [if_pos (by omega), if_pos (show top < 32 by omega), if_pos (by omega)]
theorem CSem.fact {l k : Nat} (hk : al l k) : CSem l [-1 - (k : Int)] (fun F => F k) 1 := by
  have k8 : k ≤ 8 := by unfold al at hk; omega
  refine ⟨fun c hc => by rw [List.mem_singleton] at hc; omega, Nat.le_refl _, fun F hF => ⟨hF k hk, fun f top ht => ⟨va_up f top (F k), ?_, fun j hj => up_ne _ _ (by omega), up_eq _ _ _⟩⟩⟩
  show stS F (f, top) (-1 - (k : Int)) = _
  unfold stS
  rw [if_pos (by omega), if_pos (show top < 32 by omega), if_neg (by omega), show (-1 - (-1 - (k : Int))).toNat = k by omega]
theorem CSem.not {l n : Nat} {cs : List Int} {e : (Nat → Int) → Int} (s : CSem l cs e n) : CSem l (cs ++ [-19]) (fun F => if e F = 0 then 1 else 0) n := by
  obtain ⟨s1, s2, s3⟩ := s
  refine ⟨fun c hc => ?_, s2, fun F hF => ⟨by show i3 (if e F = 0 then 1 else 0); unfold i3; split <;> omega, fun f top ht => ?_⟩⟩
  · rcases List.mem_append.mp hc with z | z
    · exact s1 c z
    · rw [List.mem_singleton] at z; omega
  · obtain ⟨f', e1, e2, e3⟩ := (s3 F hF).2 f top ht
    refine ⟨va_up f' top (if e F = 0 then 1 else 0), ?_, fun j hj => by rw [up_ne _ _ (by omega)]; exact e2 j hj, up_eq _ _ _⟩
    rw [List.foldl_append, e1]
    show stS F (f', top + 1) (-19) = _
    unfold stS
    rw [if_neg (by omega), if_pos (by omega), if_pos (show 1 ≤ top + 1 by omega)]
    show (va_up f' (top + 1 - 1) (if f' (top + 1 - 1) = 0 then 1 else 0), top + 1) = _
    rw [show top + 1 - 1 = top by omega, e3]
theorem jnV_i3 {o l r : Int} : i3 (jnV o l r) := by
  unfold jnV
  split
  · unfold i3; split <;> omega
  · split
    · unfold i3; split <;> omega
    · split
      · unfold i3; split <;> omega
      · split
        · unfold i3; split <;> omega
        · split
          · exact i3_add _ _
          · split
            · rw [i_sub_b]; unfold i3; rw [Int.bmod_def]; split <;> omega
            · rw [i_mul_b]; unfold i3; rw [Int.bmod_def]; split <;> omega
theorem CSem.join {l n m : Nat} {cs cs' : List Int} {e e' : (Nat → Int) → Int} (s : CSem l cs e n) (s' : CSem l cs' e' m) {o : Int} (o0 : 10 ≤ o) (o1 : o ≤ 16) {x : Nat} (hx : n ≤ x) (hx' : m + 1 ≤ x) : CSem l (cs ++ (cs' ++ [-1 - o])) (fun F => jnV o (e F) (e' F)) x := by
  obtain ⟨s1, s2, s3⟩ := s
  obtain ⟨t1, t2, t3⟩ := s'
  refine ⟨fun c hc => ?_, by omega, fun F hF => ⟨jnV_i3, fun f top ht => ?_⟩⟩
  · rcases List.mem_append.mp hc with z | z
    · exact s1 c z
    · rcases List.mem_append.mp z with z | z
      · exact t1 c z
      · rw [List.mem_singleton] at z; omega
  · obtain ⟨f1, e1, e2, e3⟩ := (s3 F hF).2 f top (by omega)
    obtain ⟨f2, g1, g2, g3⟩ := (t3 F hF).2 f1 (top + 1) (by omega)
    refine ⟨va_up f2 top (jnV o (e F) (e' F)), ?_, fun j hj => by rw [up_ne _ _ (by omega), g2 j (by omega)]; exact e2 j hj, up_eq _ _ _⟩
    rw [List.foldl_append, e1, List.foldl_append, g1]
    show stS F (f2, top + 1 + 1) (-1 - o) = _
    unfold stS
    rw [if_neg (by omega), if_neg (by omega), if_pos (show 2 ≤ top + 1 + 1 by omega)]
    show (va_up f2 (top + 1 + 1 - 2) (jnV (-1 - (-1 - o)) (f2 (top + 1 + 1 - 2)) (f2 (top + 1 + 1 - 1))), top + 1 + 1 - 1) = _
    rw [show top + 1 + 1 - 2 = top by omega, show top + 1 + 1 - 1 = top + 1 by omega, show -1 - (-1 - o) = o by omega, g3, g2 top (by omega), e3]
/-- the same value, more room -/
theorem CSem.up {l n m : Nat} {cs : List Int} {e e' : (Nat → Int) → Int} (s : CSem l cs e n) (h : n ≤ m) (he : ∀ F, (∀ k, al l k → i3 (F k)) → e' F = e F) : CSem l cs e' m := by
  obtain ⟨s1, s2, s3⟩ := s
  refine ⟨s1, by omega, fun F hF => ?_⟩
  rw [he F hF]
  exact ⟨(s3 F hF).1, fun f top ht => (s3 F hF).2 f top (by omega)⟩
