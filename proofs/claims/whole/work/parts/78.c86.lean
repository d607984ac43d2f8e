/-! the constructors, cell by cell -/
def bT : List (Nat × Nat) := [(8, 0), (6, 0), (10, 1000), (5, 0), (11, 1000), (12, 13), (3, 0), (2, 0), (11, 60), (11, 60), (11, 6), (11, 6), (11, 6), (11, 7), (11, 7), (11, 7), (11, 9), (11, 32), (4, 0), (11, 1), (4, 0), (11, 1), (4, 0), (11, 1), (4, 0), (11, 1), (11, 60), (11, 60), (11, 6), (11, 6), (1, 0), (11, 20), (11, 20), (11, 200), (7, 0), (11, 60), (11, 60), (0, 0), (11, 128), (11, 128), (13, 128), (13, 128), (11, 7), (11, 7), (14, 4), (9, 0), (11, 1000), (11, 30), (11, 360), (11, 360), (12, 13), (11, 36), (11, 36), (11, 36), (11, 42), (11, 42), (11, 42), (11, 24), (11, 24), (11, 6000), (11, 7), (13, 7), (11, 7), (11, 7), (11, 7), (11, 7), (11, 7), (11, 7), (11, 7), (11, 7), (11, 7), (11, 20), (11, 144), (11, 144), (11, 576), (11, 2880), (11, 10), (11, 7), (11, 7), (11, 10), (13, 4), (12, 1)]
def upN (G : Nat → Nat → Nat) (i j v : Nat) : Nat → Nat → Nat := fun a k => if a = i then (if k = j then v else G a k) else G a k
def upF (M : MM) (i l : Nat) (x : Int) : MM := fun a k => if a = i then (if k < l then x else M a k) else M a k
theorem upN_eq (G : Nat → Nat → Nat) (i j v : Nat) : upN G i j v i = va_up (G i) j v := by funext k; unfold upN; rw [if_pos rfl]; rfl
theorem upN_ne (G : Nat → Nat → Nat) {i a : Nat} (j v : Nat) (h : a ≠ i) : upN G i j v a = G a := by funext k; unfold upN; rw [if_neg h]
theorem upF_eq (M : MM) (i l : Nat) (x : Int) : upF M i l x i = fun k => if k < l then x else M i k := by funext k; unfold upF; rw [if_pos rfl]
theorem upF_ne (M : MM) {i a : Nat} (l : Nat) (x : Int) (h : a ≠ i) : upF M i l x a = M a := by funext k; unfold upF; rw [if_neg h]
/-- n new cells from 100 on: their links G, their numbers M, s slots in all -/
def NG (w : WP) (n : Nat) (X : HP) (G : Nat → Nat → Nat) (M : MM) (s : Nat) : Prop := Nw (h00 w) bT n X ∧ (∀ i, i < n → h_mr X (100 + i) = G i) ∧ (∀ i, i < n → h_mi X (100 + i) = M i) ∧ h_sl X = s
section
variable {w : WP} {n : Nat} {X : HP} {G : Nat → Nat → Nat} {M : MM} {s : Nat}
theorem NG.z (p : NG w n X G M s) : h_sz X = 100 + n := p.1.2.1
theorem NG.al (p : NG w n X G M s) {k l : Nat} (y : Nat) (e : bT.getD n (0, 0) = (k, l)) : NG w (n + 1) (alo X k l y) (va_up G n (fun _ => 0)) (va_up M n (fun _ => 0)) (s + y) := by
  have z := p.z
  obtain ⟨p1, p2, p3, p4⟩ := p
  refine ⟨p1.al y e, fun i hi => ?_, fun i hi => ?_, by rw [sl_alo, p4]⟩
  · rw [mr_alo, z]
    by_cases q : i = n
    · rw [q, up_eq, up_eq]
    · rw [up_ne _ _ (by omega), up_ne _ _ q]; exact p2 i (by omega)
  · rw [mi_alo, z]
    by_cases q : i = n
    · rw [q, up_eq, up_eq]
    · rw [up_ne _ _ (by omega), up_ne _ _ q]; exact p3 i (by omega)
theorem NG.sr (p : NG w n X G M s) {a i : Nat} (ha : a = 100 + i) (hi : i < n) (j v : Nat) : NG w n (sR X a j v) (upN G i j v) M s := by
  obtain ⟨p1, p2, p3, p4⟩ := p
  subst ha
  refine ⟨p1.sr (by show 100 ≤ 100 + i; omega) j v, fun k hk => ?_, p3, p4⟩
  by_cases q : k = i
  · rw [q, mrR_eq, upN_eq, p2 i hi]
  · rw [mrR_ne _ _ _ (by omega), upN_ne _ _ _ q]; exact p2 k hk
theorem NG.sm (p : NG w n X G M s) {a i : Nat} (ha : a = 100 + i) (hi : i < n) {N : MM} (g : ∀ b, b ≠ a → N b = h_mi X b) {M' : MM} (e : N a = M' i) (e' : ∀ k, k ≠ i → M' k = M k) : NG w n (sM X N) G M' s := by
  obtain ⟨p1, p2, p3, p4⟩ := p
  subst ha
  refine ⟨p1.sm (fun b hb => g b (by have : b < 100 := hb; omega)), p2, fun k hk => ?_, p4⟩
  by_cases q : k = i
  · rw [q]; exact e
  · rw [e' k q]; exact (g _ (by omega)).trans (p3 k hk)
theorem NG.si (p : NG w n X G M s) {a i : Nat} (ha : a = 100 + i) (hi : i < n) (j : Nat) (v : Int) : NG w n (sI X a j v) G (up2 M i j v) s := by
  have e := p.2.2.1 i hi
  rw [sI_h]
  exact p.sm ha hi (fun b hb => u2_ne _ _ _ hb) (by rw [u2_eq, u2_eq, ha, e]) (fun k hk => u2_ne _ _ _ hk)
theorem NG.k (p : NG w n X G M s) {a i : Nat} (ha : a = 100 + i) (hi : i < n) {k l : Nat} (e : bT.getD i (0, 0) = (k, l)) : isK X a k = true := by subst ha; exact p.1.k hi e
theorem NG.g (p : NG w n X G M s) {a i : Nat} (ha : a = 100 + i) (hi : i < n) (j : Nat) : h_mr X a j = G i j := by subst ha; rw [p.2.1 i hi]
theorem NG.fl (p : NG w n X G M s) {a i : Nat} (ha : a = 100 + i) (hi : i < n) {l : Nat} (e : bT.getD i (0, 0) = (11, l)) (l1 : l ≤ 10000) (d : Nat) (x : Int) : ∃ X', ev d 264 [vr a, vi x] X = some (vr 0, X') ∧ NG w n X' G (upF M i l x) s := by
  have ln : h_ln X a = l := by subst ha; exact (p.1.2.2 i hi).2.trans (by rw [e])
  obtain ⟨N, e1, g, r⟩ := c_264 (h := X) (a := a) (p.k ha hi e) (by rw [ln]; exact l1) d x
  refine ⟨sM X N, e1, p.sm ha hi g ?_ (fun k hk => upF_ne _ _ _ hk)⟩
  rw [upF_eq]
  funext j
  rw [r, ln, ha, p.2.2.1 i hi]
end
set_option maxHeartbeats 4000000 in
theorem c_109 (w : WP) (d : Nat) : ∃ h1 G M s, ev (d + 3) 109 [vr 100] (alo (h00 w) 8 0 7) = some (vr 0, h1) ∧ NG w 45 h1 G M s ∧ s ≤ 4000 ∧ (CSk_r.all (fun q => decide (G (q.1 - 100) q.2.1 = q.2.2)) && (List.range 10).all (fun j => decide (G 7 (j + 2) = 107 + (j + 1))) && (List.range 4).all (fun l => decide (G 7 (l + 15) = 118 + 2 * l) && decide (G (18 + 2 * l) 0 = 119 + 2 * l)) && decide (G 6 4 = 107) && decide (G 34 2 = 107) && (List.range 4).all (fun j => decide (G 44 j = 0))) = true ∧ (M 7 0 = 2 ∧ M 7 1 = 1 ∧ ∀ j, 2 ≤ j → M 7 j = 0) ∧ (M 19 0 = 2 ∧ M 21 0 = 1 ∧ M 23 0 = -6 ∧ M 25 0 = -8) ∧ (∀ j, M 27 j = if j < 60 then -1 else 0) ∧ ∀ i, i < 45 → i ≠ 7 → i ≠ 19 → i ≠ 21 → i ≠ 23 → i ≠ 25 → i ≠ 27 → ∀ j, M i j = 0 := by
  have f0 : NG w 0 (h00 w) (fun _ _ => 0) (fun _ _ => 0) 0 := ⟨Nw.z _ _, fun i hi => by omega, fun i hi => by omega, rfl⟩
  have f1 := f0.al (k := 8) (l := 0) 7 rfl
  generalize alo (h00 w) 8 0 7 = X1 at f1 ⊢
  rw [v_109]
  rw [q_109_0, dt (show 100 ≠ 0 by omega)]
  simp only [zb]
  have z1 : h_sz (X1) = 101 := f1.z
  have f2 := f1.al (k := 6) (l := 0) 8 rfl
  rw [z1]
  generalize alo (X1) 6 0 8 = X2 at f2 ⊢
  clear f1 z1
  rw [q_109_8, f2.k (i := 1) rfl (by omega) (k := 6) (l := 0) rfl, v_85]
  simp only [zb]
  rw [q_85_0, dt (show 101 ≠ 0 by omega)]
  simp only [zb]
  have z2 : h_sz (X2) = 102 := f2.z
  have f3 := f2.al (k := 10) (l := 1000) 1000 rfl
  rw [z2]
  generalize alo (X2) 10 1000 1000 = X3 at f3 ⊢
  clear f2 z2
  rw [q_85_10, f3.k (i := 1) rfl (by omega) (k := 6) (l := 0) rfl]
  simp only [zb, bV_s]
  have f4 := f3.sr (i := 1) rfl (by omega) 0 102
  generalize sR (X3) 101 0 102 = X4 at f4 ⊢
  clear f3
  rw [q_109_12, f4.k (i := 0) rfl (by omega) (k := 8) (l := 0) rfl]
  simp only [zb]
  have f5 := f4.sr (i := 0) rfl (by omega) 0 101
  generalize sR (X4) 100 0 101 = X5 at f5 ⊢
  clear f4
  have z5 : h_sz (X5) = 103 := f5.z
  have f6 := f5.al (k := 5) (l := 0) 9 rfl
  rw [z5]
  generalize alo (X5) 5 0 9 = X6 at f6 ⊢
  clear f5 z5
  rw [q_109_19, f6.k (i := 0) rfl (by omega) (k := 8) (l := 0) rfl, f6.k (i := 3) rfl (by omega) (k := 5) (l := 0) rfl, show h_mr X6 100 0 = 101 from f6.g (i := 0) rfl (by omega) 0, v_62]
  simp only [zb]
  rw [q_62_0, dt (show 103 ≠ 0 by omega)]
  simp only [zb]
  have z6 : h_sz (X6) = 104 := f6.z
  have f7 := f6.al (k := 11) (l := 1000) 1000 rfl
  rw [z6]
  generalize alo (X6) 11 1000 1000 = X7 at f7 ⊢
  clear f6 z6
  rw [q_62_10, f7.k (i := 3) rfl (by omega) (k := 5) (l := 0) rfl]
  simp only [zb]
  have f8 := f7.sr (i := 3) rfl (by omega) 1 104
  generalize sR (X7) 103 1 104 = X8 at f8 ⊢
  clear f7
  have z8 : h_sz (X8) = 105 := f8.z
  have f9 := f8.al (k := 12) (l := 13) 13 rfl
  rw [z8]
  generalize alo (X8) 12 13 13 = X9 at f9 ⊢
  clear f8 z8
  rw [q_62_18, f9.k (i := 3) rfl (by omega) (k := 5) (l := 0) rfl]
  simp only [zb]
  have f10 := f9.sr (i := 3) rfl (by omega) 2 105
  generalize sR (X9) 103 2 105 = X10 at f10 ⊢
  clear f9
  have f11 := f10.sr (i := 3) rfl (by omega) 0 101
  generalize sR (X10) 103 0 101 = X11 at f11 ⊢
  clear f10
  rw [bV_s]
  rw [q_109_27, f11.k (i := 0) rfl (by omega) (k := 8) (l := 0) rfl]
  simp only [zb]
  have f12 := f11.sr (i := 0) rfl (by omega) 1 103
  generalize sR (X11) 100 1 103 = X12 at f12 ⊢
  clear f11
  have z12 : h_sz (X12) = 106 := f12.z
  have f13 := f12.al (k := 3) (l := 0) 11 rfl
  rw [z12]
  generalize alo (X12) 3 0 11 = X13 at f13 ⊢
  clear f12 z12
  rw [q_109_34]
  have z13 : h_sz (X13) = 107 := f13.z
  have f14 := f13.al (k := 2) (l := 0) 19 rfl
  rw [z13]
  generalize alo (X13) 2 0 19 = X14 at f14 ⊢
  clear f13 z13
  rw [q_109_38, f14.k (i := 7) rfl (by omega) (k := 2) (l := 0) rfl]
  simp only [zb]
  rw [v_18]
  rw [q_18_0, dt (show 107 ≠ 0 by omega)]
  simp only [zb]
  have z14 : h_sz (X14) = 108 := f14.z
  have f15 := f14.al (k := 11) (l := 60) 60 rfl
  rw [z14]
  generalize alo (X14) 11 60 60 = X15 at f15 ⊢
  clear f14 z14
  rw [q_18_9, f15.k (i := 7) rfl (by omega) (k := 2) (l := 0) rfl]
  simp only [zb]
  have f16 := f15.sr (i := 7) rfl (by omega) 2 108
  generalize sR (X15) 107 2 108 = X16 at f16 ⊢
  clear f15
  have z16 : h_sz (X16) = 109 := f16.z
  have f17 := f16.al (k := 11) (l := 60) 60 rfl
  rw [z16]
  generalize alo (X16) 11 60 60 = X17 at f17 ⊢
  clear f16 z16
  rw [q_18_17, f17.k (i := 7) rfl (by omega) (k := 2) (l := 0) rfl]
  simp only [zb]
  have f18 := f17.sr (i := 7) rfl (by omega) 3 109
  generalize sR (X17) 107 3 109 = X18 at f18 ⊢
  clear f17
  have z18 : h_sz (X18) = 110 := f18.z
  have f19 := f18.al (k := 11) (l := 6) 6 rfl
  rw [z18]
  generalize alo (X18) 11 6 6 = X19 at f19 ⊢
  clear f18 z18
  rw [q_18_25, f19.k (i := 7) rfl (by omega) (k := 2) (l := 0) rfl]
  simp only [zb]
  have f20 := f19.sr (i := 7) rfl (by omega) 4 110
  generalize sR (X19) 107 4 110 = X20 at f20 ⊢
  clear f19
  have z20 : h_sz (X20) = 111 := f20.z
  have f21 := f20.al (k := 11) (l := 6) 6 rfl
  rw [z20]
  generalize alo (X20) 11 6 6 = X21 at f21 ⊢
  clear f20 z20
  rw [q_18_33, f21.k (i := 7) rfl (by omega) (k := 2) (l := 0) rfl]
  simp only [zb]
  have f22 := f21.sr (i := 7) rfl (by omega) 5 111
  generalize sR (X21) 107 5 111 = X22 at f22 ⊢
  clear f21
  have z22 : h_sz (X22) = 112 := f22.z
  have f23 := f22.al (k := 11) (l := 6) 6 rfl
  rw [z22]
  generalize alo (X22) 11 6 6 = X23 at f23 ⊢
  clear f22 z22
  rw [q_18_41, f23.k (i := 7) rfl (by omega) (k := 2) (l := 0) rfl]
  simp only [zb]
  have f24 := f23.sr (i := 7) rfl (by omega) 6 112
  generalize sR (X23) 107 6 112 = X24 at f24 ⊢
  clear f23
  have z24 : h_sz (X24) = 113 := f24.z
  have f25 := f24.al (k := 11) (l := 7) 7 rfl
  rw [z24]
  generalize alo (X24) 11 7 7 = X25 at f25 ⊢
  clear f24 z24
  rw [q_18_49, f25.k (i := 7) rfl (by omega) (k := 2) (l := 0) rfl]
  simp only [zb]
  have f26 := f25.sr (i := 7) rfl (by omega) 7 113
  generalize sR (X25) 107 7 113 = X26 at f26 ⊢
  clear f25
  have z26 : h_sz (X26) = 114 := f26.z
  have f27 := f26.al (k := 11) (l := 7) 7 rfl
  rw [z26]
  generalize alo (X26) 11 7 7 = X27 at f27 ⊢
  clear f26 z26
  rw [q_18_57, f27.k (i := 7) rfl (by omega) (k := 2) (l := 0) rfl]
  simp only [zb]
  have f28 := f27.sr (i := 7) rfl (by omega) 8 114
  generalize sR (X27) 107 8 114 = X28 at f28 ⊢
  clear f27
  have z28 : h_sz (X28) = 115 := f28.z
  have f29 := f28.al (k := 11) (l := 7) 7 rfl
  rw [z28]
  generalize alo (X28) 11 7 7 = X29 at f29 ⊢
  clear f28 z28
  rw [q_18_65, f29.k (i := 7) rfl (by omega) (k := 2) (l := 0) rfl]
  simp only [zb]
  have f30 := f29.sr (i := 7) rfl (by omega) 9 115
  generalize sR (X29) 107 9 115 = X30 at f30 ⊢
  clear f29
  have z30 : h_sz (X30) = 116 := f30.z
  have f31 := f30.al (k := 11) (l := 9) 9 rfl
  rw [z30]
  generalize alo (X30) 11 9 9 = X31 at f31 ⊢
  clear f30 z30
  rw [q_18_73, f31.k (i := 7) rfl (by omega) (k := 2) (l := 0) rfl]
  simp only [zb]
  have f32 := f31.sr (i := 7) rfl (by omega) 10 116
  generalize sR (X31) 107 10 116 = X32 at f32 ⊢
  clear f31
  have z32 : h_sz (X32) = 117 := f32.z
  have f33 := f32.al (k := 11) (l := 32) 32 rfl
  rw [z32]
  generalize alo (X32) 11 32 32 = X33 at f33 ⊢
  clear f32 z32
  rw [q_18_81, f33.k (i := 7) rfl (by omega) (k := 2) (l := 0) rfl]
  simp only [zb]
  have f34 := f33.sr (i := 7) rfl (by omega) 11 117
  generalize sR (X33) 107 11 117 = X34 at f34 ⊢
  clear f33
  have z34 : h_sz (X34) = 118 := f34.z
  have f35 := f34.al (k := 4) (l := 0) 1 rfl
  rw [z34]
  generalize alo (X34) 4 0 1 = X35 at f35 ⊢
  clear f34 z34
  rw [q_18_88]
  have z35 : h_sz (X35) = 119 := f35.z
  have f36 := f35.al (k := 11) (l := 1) 1 rfl
  rw [z35]
  generalize alo (X35) 11 1 1 = X36 at f36 ⊢
  clear f35 z35
  have n36 : inb X36 119 0 = true := by unfold inb; rw [show h_ln X36 119 = 1 from (f36.1.2.2 19 (by omega)).2]; rfl
  rw [q_18_92, f36.k (i := 19) rfl (by omega) (k := 11) (l := 1) rfl, n36, f36.k (i := 18) rfl (by omega) (k := 4) (l := 0) rfl]
  simp only [zb, Bool.and_self]
  have f37 := f36.si (i := 19) rfl (by omega) 0 2
  generalize sI (X36) 119 0 2 = X37 at f37 ⊢
  rw [v_59, q_59_0, dt (show 118 ≠ 0 by omega), f37.k (i := 18) rfl (by omega) (k := 4) (l := 0) rfl]
  simp only [zb, bV_s]
  have f38 := f37.sr (i := 18) rfl (by omega) 0 119
  generalize sR (X37) 118 0 119 = X38 at f38 ⊢
  clear f37
  rw [q_18_99, f38.k (i := 7) rfl (by omega) (k := 2) (l := 0) rfl]
  simp only [zb]
  have f39 := f38.sr (i := 7) rfl (by omega) 15 118
  generalize sR (X38) 107 15 118 = X39 at f39 ⊢
  clear f38
  have z39 : h_sz (X39) = 120 := f39.z
  have f40 := f39.al (k := 4) (l := 0) 1 rfl
  rw [z39]
  generalize alo (X39) 4 0 1 = X40 at f40 ⊢
  clear f39 z39
  rw [q_18_106]
  have z40 : h_sz (X40) = 121 := f40.z
  have f41 := f40.al (k := 11) (l := 1) 1 rfl
  rw [z40]
  generalize alo (X40) 11 1 1 = X41 at f41 ⊢
  clear f40 z40
  have n41 : inb X41 121 0 = true := by unfold inb; rw [show h_ln X41 121 = 1 from (f41.1.2.2 21 (by omega)).2]; rfl
  rw [q_18_110, f41.k (i := 21) rfl (by omega) (k := 11) (l := 1) rfl, n41, f41.k (i := 20) rfl (by omega) (k := 4) (l := 0) rfl]
  simp only [zb, Bool.and_self]
  have f42 := f41.si (i := 21) rfl (by omega) 0 1
  generalize sI (X41) 121 0 1 = X42 at f42 ⊢
  rw [v_59, q_59_0, dt (show 120 ≠ 0 by omega), f42.k (i := 20) rfl (by omega) (k := 4) (l := 0) rfl]
  simp only [zb, bV_s]
  have f43 := f42.sr (i := 20) rfl (by omega) 0 121
  generalize sR (X42) 120 0 121 = X43 at f43 ⊢
  clear f42
  rw [q_18_117, f43.k (i := 7) rfl (by omega) (k := 2) (l := 0) rfl]
  simp only [zb]
  have f44 := f43.sr (i := 7) rfl (by omega) 16 120
  generalize sR (X43) 107 16 120 = X44 at f44 ⊢
  clear f43
  have z44 : h_sz (X44) = 122 := f44.z
  have f45 := f44.al (k := 4) (l := 0) 1 rfl
  rw [z44]
  generalize alo (X44) 4 0 1 = X45 at f45 ⊢
  clear f44 z44
  rw [q_18_124]
  have z45 : h_sz (X45) = 123 := f45.z
  have f46 := f45.al (k := 11) (l := 1) 1 rfl
  rw [z45]
  generalize alo (X45) 11 1 1 = X46 at f46 ⊢
  clear f45 z45
  have n46 : inb X46 123 0 = true := by unfold inb; rw [show h_ln X46 123 = 1 from (f46.1.2.2 23 (by omega)).2]; rfl
  rw [q_18_128, f46.k (i := 23) rfl (by omega) (k := 11) (l := 1) rfl, n46, f46.k (i := 22) rfl (by omega) (k := 4) (l := 0) rfl]
  simp only [zb, Bool.and_self]
  have f47 := f46.si (i := 23) rfl (by omega) 0 (-6)
  generalize sI (X46) 123 0 (-6) = X47 at f47 ⊢
  rw [v_59, q_59_0, dt (show 122 ≠ 0 by omega), f47.k (i := 22) rfl (by omega) (k := 4) (l := 0) rfl]
  simp only [zb, bV_s]
  have f48 := f47.sr (i := 22) rfl (by omega) 0 123
  generalize sR (X47) 122 0 123 = X48 at f48 ⊢
  clear f47
  rw [q_18_136, f48.k (i := 7) rfl (by omega) (k := 2) (l := 0) rfl]
  simp only [zb]
  have f49 := f48.sr (i := 7) rfl (by omega) 17 122
  generalize sR (X48) 107 17 122 = X49 at f49 ⊢
  clear f48
  have z49 : h_sz (X49) = 124 := f49.z
  have f50 := f49.al (k := 4) (l := 0) 1 rfl
  rw [z49]
  generalize alo (X49) 4 0 1 = X50 at f50 ⊢
  clear f49 z49
  rw [q_18_143]
  have z50 : h_sz (X50) = 125 := f50.z
  have f51 := f50.al (k := 11) (l := 1) 1 rfl
  rw [z50]
  generalize alo (X50) 11 1 1 = X51 at f51 ⊢
  clear f50 z50
  have n51 : inb X51 125 0 = true := by unfold inb; rw [show h_ln X51 125 = 1 from (f51.1.2.2 25 (by omega)).2]; rfl
  rw [q_18_147, f51.k (i := 25) rfl (by omega) (k := 11) (l := 1) rfl, n51, f51.k (i := 24) rfl (by omega) (k := 4) (l := 0) rfl]
  simp only [zb, Bool.and_self]
  have f52 := f51.si (i := 25) rfl (by omega) 0 (-8)
  generalize sI (X51) 125 0 (-8) = X52 at f52 ⊢
  rw [v_59, q_59_0, dt (show 124 ≠ 0 by omega), f52.k (i := 24) rfl (by omega) (k := 4) (l := 0) rfl]
  simp only [zb, bV_s]
  have f53 := f52.sr (i := 24) rfl (by omega) 0 125
  generalize sR (X52) 124 0 125 = X53 at f53 ⊢
  clear f52
  rw [q_18_155, f53.k (i := 7) rfl (by omega) (k := 2) (l := 0) rfl]
  simp only [zb]
  have f54 := f53.sr (i := 7) rfl (by omega) 18 124
  generalize sR (X53) 107 18 124 = X54 at f54 ⊢
  clear f53
  have f55 := f54.si (i := 7) rfl (by omega) 0 2
  generalize sI (X54) 107 0 2 = X55 at f55 ⊢
  have f56 := f55.si (i := 7) rfl (by omega) 1 1
  generalize sI (X55) 107 1 1 = X56 at f56 ⊢
  rw [bV_s]
  rw [q_109_44, f56.k (i := 6) rfl (by omega) (k := 3) (l := 0) rfl, v_36]
  simp only [zb]
  rw [q_36_0, dt (show 106 ≠ 0 by omega)]
  simp only [zb]
  have z56 : h_sz (X56) = 126 := f56.z
  have f57 := f56.al (k := 11) (l := 60) 60 rfl
  rw [z56]
  generalize alo (X56) 11 60 60 = X57 at f57 ⊢
  clear f56 z56
  rw [q_36_9, f57.k (i := 6) rfl (by omega) (k := 3) (l := 0) rfl]
  simp only [zb]
  have f58 := f57.sr (i := 6) rfl (by omega) 0 126
  generalize sR (X57) 106 0 126 = X58 at f58 ⊢
  clear f57
  have z58 : h_sz (X58) = 127 := f58.z
  have f59 := f58.al (k := 11) (l := 60) 60 rfl
  rw [z58]
  generalize alo (X58) 11 60 60 = X59 at f59 ⊢
  clear f58 z58
  rw [q_36_17, f59.k (i := 6) rfl (by omega) (k := 3) (l := 0) rfl]
  simp only [zb]
  have f60 := f59.sr (i := 6) rfl (by omega) 1 127
  generalize sR (X59) 106 1 127 = X60 at f60 ⊢
  clear f59
  have z60 : h_sz (X60) = 128 := f60.z
  have f61 := f60.al (k := 11) (l := 6) 6 rfl
  rw [z60]
  generalize alo (X60) 11 6 6 = X61 at f61 ⊢
  clear f60 z60
  rw [q_36_25, f61.k (i := 6) rfl (by omega) (k := 3) (l := 0) rfl]
  simp only [zb]
  have f62 := f61.sr (i := 6) rfl (by omega) 2 128
  generalize sR (X61) 106 2 128 = X62 at f62 ⊢
  clear f61
  have z62 : h_sz (X62) = 129 := f62.z
  have f63 := f62.al (k := 11) (l := 6) 6 rfl
  rw [z62]
  generalize alo (X62) 11 6 6 = X63 at f63 ⊢
  clear f62 z62
  rw [q_36_33, f63.k (i := 6) rfl (by omega) (k := 3) (l := 0) rfl]
  simp only [zb]
  have f64 := f63.sr (i := 6) rfl (by omega) 3 129
  generalize sR (X63) 106 3 129 = X64 at f64 ⊢
  clear f63
  rw [show h_mr X64 106 1 = 127 from f64.g (i := 6) rfl (by omega) 1]
  have f65 := f64.sr (i := 6) rfl (by omega) 4 107
  generalize sR (X64) 106 4 107 = X65 at f65 ⊢
  clear f64
  obtain ⟨X66, e66, f66⟩ := f65.fl (i := 27) (a := 127) rfl (by omega) (l := 60) rfl (by omega) (d + 1) (-1)
  rw [e66, bV_s, q_36_49, bV_s]
  rw [q_109_47, f66.k (i := 0) rfl (by omega) (k := 8) (l := 0) rfl]
  simp only [zb]
  have f67 := f66.sr (i := 0) rfl (by omega) 2 106
  generalize sR (X66) 100 2 106 = X67 at f67 ⊢
  clear f66
  have z67 : h_sz (X67) = 130 := f67.z
  have f68 := f67.al (k := 1) (l := 0) 5 rfl
  rw [z67]
  generalize alo (X67) 1 0 5 = X68 at f68 ⊢
  clear f67 z67
  rw [q_109_54, f68.k (i := 30) rfl (by omega) (k := 1) (l := 0) rfl, v_11]
  simp only [zb]
  rw [q_11_0, dt (show 130 ≠ 0 by omega)]
  simp only [zb]
  have z68 : h_sz (X68) = 131 := f68.z
  have f69 := f68.al (k := 11) (l := 20) 20 rfl
  rw [z68]
  generalize alo (X68) 11 20 20 = X69 at f69 ⊢
  clear f68 z68
  rw [q_11_9, f69.k (i := 30) rfl (by omega) (k := 1) (l := 0) rfl]
  simp only [zb]
  have f70 := f69.sr (i := 30) rfl (by omega) 0 131
  generalize sR (X69) 130 0 131 = X70 at f70 ⊢
  clear f69
  have z70 : h_sz (X70) = 132 := f70.z
  have f71 := f70.al (k := 11) (l := 20) 20 rfl
  rw [z70]
  generalize alo (X70) 11 20 20 = X71 at f71 ⊢
  clear f70 z70
  rw [q_11_17, f71.k (i := 30) rfl (by omega) (k := 1) (l := 0) rfl]
  simp only [zb]
  have f72 := f71.sr (i := 30) rfl (by omega) 1 132
  generalize sR (X71) 130 1 132 = X72 at f72 ⊢
  clear f71
  have z72 : h_sz (X72) = 133 := f72.z
  have f73 := f72.al (k := 11) (l := 200) 200 rfl
  rw [z72]
  generalize alo (X72) 11 200 200 = X73 at f73 ⊢
  clear f72 z72
  rw [q_11_26, f73.k (i := 30) rfl (by omega) (k := 1) (l := 0) rfl]
  simp only [zb, bV_s]
  have f74 := f73.sr (i := 30) rfl (by omega) 2 133
  generalize sR (X73) 130 2 133 = X74 at f74 ⊢
  clear f73
  rw [q_109_58, f74.k (i := 0) rfl (by omega) (k := 8) (l := 0) rfl]
  simp only [zb]
  have f75 := f74.sr (i := 0) rfl (by omega) 3 130
  generalize sR (X74) 100 3 130 = X75 at f75 ⊢
  clear f74
  have z75 : h_sz (X75) = 134 := f75.z
  have f76 := f75.al (k := 7) (l := 0) 3 rfl
  rw [z75]
  generalize alo (X75) 7 0 3 = X76 at f76 ⊢
  clear f75 z75
  rw [q_109_65, f76.k (i := 0) rfl (by omega) (k := 8) (l := 0) rfl, show h_mr X76 100 2 = 106 from f76.g (i := 0) rfl (by omega) 2, f76.k (i := 6) rfl (by omega) (k := 3) (l := 0) rfl, f76.k (i := 34) rfl (by omega) (k := 7) (l := 0) rfl, show h_mr X76 106 4 = 107 from f76.g (i := 6) rfl (by omega) 4, v_93]
  simp only [zb]
  rw [q_93_0, dt (show 134 ≠ 0 by omega)]
  simp only [zb]
  have z76 : h_sz (X76) = 135 := f76.z
  have f77 := f76.al (k := 11) (l := 60) 60 rfl
  rw [z76]
  generalize alo (X76) 11 60 60 = X77 at f77 ⊢
  clear f76 z76
  rw [q_93_9, f77.k (i := 34) rfl (by omega) (k := 7) (l := 0) rfl]
  simp only [zb]
  have f78 := f77.sr (i := 34) rfl (by omega) 0 135
  generalize sR (X77) 134 0 135 = X78 at f78 ⊢
  clear f77
  have z78 : h_sz (X78) = 136 := f78.z
  have f79 := f78.al (k := 11) (l := 60) 60 rfl
  rw [z78]
  generalize alo (X78) 11 60 60 = X79 at f79 ⊢
  clear f78 z78
  rw [q_93_17, f79.k (i := 34) rfl (by omega) (k := 7) (l := 0) rfl]
  simp only [zb]
  have f80 := f79.sr (i := 34) rfl (by omega) 1 136
  generalize sR (X79) 134 1 136 = X80 at f80 ⊢
  clear f79
  have f81 := f80.sr (i := 34) rfl (by omega) 2 107
  generalize sR (X80) 134 2 107 = X81 at f81 ⊢
  clear f80
  rw [bV_s]
  rw [q_109_76, f81.k (i := 0) rfl (by omega) (k := 8) (l := 0) rfl]
  simp only [zb]
  have f82 := f81.sr (i := 0) rfl (by omega) 4 134
  generalize sR (X81) 100 4 134 = X82 at f82 ⊢
  clear f81
  have z82 : h_sz (X82) = 137 := f82.z
  have f83 := f82.al (k := 0) (l := 0) 9 rfl
  rw [z82]
  generalize alo (X82) 0 0 9 = X83 at f83 ⊢
  clear f82 z82
  rw [q_109_83, f83.k (i := 37) rfl (by omega) (k := 0) (l := 0) rfl, v_0]
  simp only [zb]
  rw [q_0_0, dt (show 137 ≠ 0 by omega)]
  simp only [zb]
  have z83 : h_sz (X83) = 138 := f83.z
  have f84 := f83.al (k := 11) (l := 128) 128 rfl
  rw [z83]
  generalize alo (X83) 11 128 128 = X84 at f84 ⊢
  clear f83 z83
  rw [q_0_10, f84.k (i := 37) rfl (by omega) (k := 0) (l := 0) rfl]
  simp only [zb]
  have f85 := f84.sr (i := 37) rfl (by omega) 0 138
  generalize sR (X84) 137 0 138 = X85 at f85 ⊢
  clear f84
  have z85 : h_sz (X85) = 139 := f85.z
  have f86 := f85.al (k := 11) (l := 128) 128 rfl
  rw [z85]
  generalize alo (X85) 11 128 128 = X86 at f86 ⊢
  clear f85 z85
  rw [q_0_19, f86.k (i := 37) rfl (by omega) (k := 0) (l := 0) rfl]
  simp only [zb]
  have f87 := f86.sr (i := 37) rfl (by omega) 1 139
  generalize sR (X86) 137 1 139 = X87 at f87 ⊢
  clear f86
  have z87 : h_sz (X87) = 140 := f87.z
  have f88 := f87.al (k := 13) (l := 128) 128 rfl
  rw [z87]
  generalize alo (X87) 13 128 128 = X88 at f88 ⊢
  clear f87 z87
  rw [q_0_28, f88.k (i := 37) rfl (by omega) (k := 0) (l := 0) rfl]
  simp only [zb]
  have f89 := f88.sr (i := 37) rfl (by omega) 2 140
  generalize sR (X88) 137 2 140 = X89 at f89 ⊢
  clear f88
  have z89 : h_sz (X89) = 141 := f89.z
  have f90 := f89.al (k := 13) (l := 128) 128 rfl
  rw [z89]
  generalize alo (X89) 13 128 128 = X90 at f90 ⊢
  clear f89 z89
  rw [q_0_37, f90.k (i := 37) rfl (by omega) (k := 0) (l := 0) rfl]
  simp only [zb]
  have f91 := f90.sr (i := 37) rfl (by omega) 3 141
  generalize sR (X90) 137 3 141 = X91 at f91 ⊢
  clear f90
  have z91 : h_sz (X91) = 142 := f91.z
  have f92 := f91.al (k := 11) (l := 7) 7 rfl
  rw [z91]
  generalize alo (X91) 11 7 7 = X92 at f92 ⊢
  clear f91 z91
  rw [q_0_45, f92.k (i := 37) rfl (by omega) (k := 0) (l := 0) rfl]
  simp only [zb]
  have f93 := f92.sr (i := 37) rfl (by omega) 4 142
  generalize sR (X92) 137 4 142 = X93 at f93 ⊢
  clear f92
  have z93 : h_sz (X93) = 143 := f93.z
  have f94 := f93.al (k := 11) (l := 7) 7 rfl
  rw [z93]
  generalize alo (X93) 11 7 7 = X94 at f94 ⊢
  clear f93 z93
  rw [q_0_53, f94.k (i := 37) rfl (by omega) (k := 0) (l := 0) rfl]
  simp only [zb, bV_s]
  have f95 := f94.sr (i := 37) rfl (by omega) 5 143
  generalize sR (X94) 137 5 143 = X95 at f95 ⊢
  clear f94
  rw [q_109_87, f95.k (i := 0) rfl (by omega) (k := 8) (l := 0) rfl]
  simp only [zb]
  have f96 := f95.sr (i := 0) rfl (by omega) 5 137
  generalize sR (X95) 100 5 137 = X96 at f96 ⊢
  clear f95
  have z96 : h_sz (X96) = 144 := f96.z
  have f97 := f96.al (k := 14) (l := 4) 4 rfl
  rw [z96]
  generalize alo (X96) 14 4 4 = X97 at f97 ⊢
  clear f96 z96
  rw [q_109_95, f97.k (i := 0) rfl (by omega) (k := 8) (l := 0) rfl]
  simp only [zb]
  have f98 := f97.sr (i := 0) rfl (by omega) 6 144
  generalize sR (X97) 100 6 144 = X98 at f98 ⊢
  clear f97
  refine ⟨_, _, _, _, rfl, f98, by omega, ?_, ⟨rfl, rfl, fun j hj => ?_⟩, ⟨rfl, rfl, rfl, rfl⟩, fun j => rfl, fun i hi i1 i2 i3 i4 i5 i6 j => ?_⟩
  · decide +kernel
  · simp (disch := omega) only [up_eq, up_ne, u2_eq, u2_ne, u2_no, upF_ne]
  · have : i = 0 ∨ i = 1 ∨ i = 2 ∨ i = 3 ∨ i = 4 ∨ i = 5 ∨ i = 6 ∨ i = 8 ∨ i = 9 ∨ i = 10 ∨ i = 11 ∨ i = 12 ∨ i = 13 ∨ i = 14 ∨ i = 15 ∨ i = 16 ∨ i = 17 ∨ i = 18 ∨ i = 20 ∨ i = 22 ∨ i = 24 ∨ i = 26 ∨ i = 28 ∨ i = 29 ∨ i = 30 ∨ i = 31 ∨ i = 32 ∨ i = 33 ∨ i = 34 ∨ i = 35 ∨ i = 36 ∨ i = 37 ∨ i = 38 ∨ i = 39 ∨ i = 40 ∨ i = 41 ∨ i = 42 ∨ i = 43 ∨ i = 44 := by omega
    rcases this with q | q | q | q | q | q | q | q | q | q | q | q | q | q | q | q | q | q | q | q | q | q | q | q | q | q | q | q | q | q | q | q | q | q | q | q | q | q | q <;> subst q <;> rfl
set_option maxHeartbeats 4000000 in
theorem c_146 (w : WP) (d : Nat) {X45 : HP} {G : Nat → Nat → Nat} {M : MM} {s : Nat} (p : NG w 45 X45 G M s) (gd : (CSk_r.all (fun q => decide (G (q.1 - 100) q.2.1 = q.2.2)) && (List.range 10).all (fun j => decide (G 7 (j + 2) = 107 + (j + 1)))) = true) : ∃ h1 G' M' s', ev (d + 1) 146 [vr 145] (alo X45 9 0 55) = bV (ev d 156 [vr 145, vi 0] h1) (fun h2 => some (vr 0, h2)) ∧ NG w 81 h1 G' M' s' ∧ s' ≤ s + 13000 ∧ (∀ i, i < 45 → G' i = G i ∧ M' i = M i) ∧ (RSk_r.all (fun q => decide (G' (q.1 - 100) q.2.1 = q.2.2))) = true ∧ ∀ i, 45 ≤ i → i < 81 → ∀ j, M' i j = 0 := by
  have f1 := p.al (k := 9) (l := 0) 55 rfl
  generalize alo X45 9 0 55 = X1 at f1 ⊢
  rw [v_146]
  rw [q_146_0, dt (show 145 ≠ 0 by omega)]
  simp only [zb]
  have z1 : h_sz (X1) = 146 := f1.z
  have f2 := f1.al (k := 11) (l := 1000) 1000 rfl
  rw [z1]
  generalize alo (X1) 11 1000 1000 = X2 at f2 ⊢
  clear f1 z1
  rw [q_146_10, f2.k (i := 45) rfl (by omega) (k := 9) (l := 0) rfl]
  simp only [zb]
  have f3 := f2.sr (i := 45) rfl (by omega) 2 146
  generalize sR (X2) 145 2 146 = X3 at f3 ⊢
  clear f2
  have z3 : h_sz (X3) = 147 := f3.z
  have f4 := f3.al (k := 11) (l := 30) 30 rfl
  rw [z3]
  generalize alo (X3) 11 30 30 = X4 at f4 ⊢
  clear f3 z3
  rw [q_146_18, f4.k (i := 45) rfl (by omega) (k := 9) (l := 0) rfl]
  simp only [zb]
  have f5 := f4.sr (i := 45) rfl (by omega) 10 147
  generalize sR (X4) 145 10 147 = X5 at f5 ⊢
  clear f4
  have z5 : h_sz (X5) = 148 := f5.z
  have f6 := f5.al (k := 11) (l := 360) 360 rfl
  rw [z5]
  generalize alo (X5) 11 360 360 = X6 at f6 ⊢
  clear f5 z5
  rw [q_146_27, f6.k (i := 45) rfl (by omega) (k := 9) (l := 0) rfl]
  simp only [zb]
  have f7 := f6.sr (i := 45) rfl (by omega) 11 148
  generalize sR (X6) 145 11 148 = X7 at f7 ⊢
  clear f6
  have z7 : h_sz (X7) = 149 := f7.z
  have f8 := f7.al (k := 11) (l := 360) 360 rfl
  rw [z7]
  generalize alo (X7) 11 360 360 = X8 at f8 ⊢
  clear f7 z7
  rw [q_146_36, f8.k (i := 45) rfl (by omega) (k := 9) (l := 0) rfl]
  simp only [zb]
  have f9 := f8.sr (i := 45) rfl (by omega) 12 149
  generalize sR (X8) 145 12 149 = X9 at f9 ⊢
  clear f8
  have z9 : h_sz (X9) = 150 := f9.z
  have f10 := f9.al (k := 12) (l := 13) 13 rfl
  rw [z9]
  generalize alo (X9) 12 13 13 = X10 at f10 ⊢
  clear f9 z9
  rw [q_146_44, f10.k (i := 45) rfl (by omega) (k := 9) (l := 0) rfl]
  simp only [zb]
  have f11 := f10.sr (i := 45) rfl (by omega) 13 150
  generalize sR (X10) 145 13 150 = X11 at f11 ⊢
  clear f10
  have z11 : h_sz (X11) = 151 := f11.z
  have f12 := f11.al (k := 11) (l := 36) 36 rfl
  rw [z11]
  generalize alo (X11) 11 36 36 = X12 at f12 ⊢
  clear f11 z11
  rw [q_146_52, f12.k (i := 45) rfl (by omega) (k := 9) (l := 0) rfl]
  simp only [zb]
  have f13 := f12.sr (i := 45) rfl (by omega) 15 151
  generalize sR (X12) 145 15 151 = X13 at f13 ⊢
  clear f12
  have z13 : h_sz (X13) = 152 := f13.z
  have f14 := f13.al (k := 11) (l := 36) 36 rfl
  rw [z13]
  generalize alo (X13) 11 36 36 = X14 at f14 ⊢
  clear f13 z13
  rw [q_146_60, f14.k (i := 45) rfl (by omega) (k := 9) (l := 0) rfl]
  simp only [zb]
  have f15 := f14.sr (i := 45) rfl (by omega) 16 152
  generalize sR (X14) 145 16 152 = X15 at f15 ⊢
  clear f14
  have z15 : h_sz (X15) = 153 := f15.z
  have f16 := f15.al (k := 11) (l := 36) 36 rfl
  rw [z15]
  generalize alo (X15) 11 36 36 = X16 at f16 ⊢
  clear f15 z15
  rw [q_146_68, f16.k (i := 45) rfl (by omega) (k := 9) (l := 0) rfl]
  simp only [zb]
  have f17 := f16.sr (i := 45) rfl (by omega) 17 153
  generalize sR (X16) 145 17 153 = X17 at f17 ⊢
  clear f16
  have z17 : h_sz (X17) = 154 := f17.z
  have f18 := f17.al (k := 11) (l := 42) 42 rfl
  rw [z17]
  generalize alo (X17) 11 42 42 = X18 at f18 ⊢
  clear f17 z17
  rw [q_146_76, f18.k (i := 45) rfl (by omega) (k := 9) (l := 0) rfl]
  simp only [zb]
  have f19 := f18.sr (i := 45) rfl (by omega) 18 154
  generalize sR (X18) 145 18 154 = X19 at f19 ⊢
  clear f18
  have z19 : h_sz (X19) = 155 := f19.z
  have f20 := f19.al (k := 11) (l := 42) 42 rfl
  rw [z19]
  generalize alo (X19) 11 42 42 = X20 at f20 ⊢
  clear f19 z19
  rw [q_146_84, f20.k (i := 45) rfl (by omega) (k := 9) (l := 0) rfl]
  simp only [zb]
  have f21 := f20.sr (i := 45) rfl (by omega) 19 155
  generalize sR (X20) 145 19 155 = X21 at f21 ⊢
  clear f20
  have z21 : h_sz (X21) = 156 := f21.z
  have f22 := f21.al (k := 11) (l := 42) 42 rfl
  rw [z21]
  generalize alo (X21) 11 42 42 = X22 at f22 ⊢
  clear f21 z21
  rw [q_146_92, f22.k (i := 45) rfl (by omega) (k := 9) (l := 0) rfl]
  simp only [zb]
  have f23 := f22.sr (i := 45) rfl (by omega) 20 156
  generalize sR (X22) 145 20 156 = X23 at f23 ⊢
  clear f22
  have z23 : h_sz (X23) = 157 := f23.z
  have f24 := f23.al (k := 11) (l := 24) 24 rfl
  rw [z23]
  generalize alo (X23) 11 24 24 = X24 at f24 ⊢
  clear f23 z23
  rw [q_146_100, f24.k (i := 45) rfl (by omega) (k := 9) (l := 0) rfl]
  simp only [zb]
  have f25 := f24.sr (i := 45) rfl (by omega) 21 157
  generalize sR (X24) 145 21 157 = X25 at f25 ⊢
  clear f24
  have z25 : h_sz (X25) = 158 := f25.z
  have f26 := f25.al (k := 11) (l := 24) 24 rfl
  rw [z25]
  generalize alo (X25) 11 24 24 = X26 at f26 ⊢
  clear f25 z25
  rw [q_146_108, f26.k (i := 45) rfl (by omega) (k := 9) (l := 0) rfl]
  simp only [zb]
  have f27 := f26.sr (i := 45) rfl (by omega) 22 158
  generalize sR (X26) 145 22 158 = X27 at f27 ⊢
  clear f26
  have z27 : h_sz (X27) = 159 := f27.z
  have f28 := f27.al (k := 11) (l := 6000) 6000 rfl
  rw [z27]
  generalize alo (X27) 11 6000 6000 = X28 at f28 ⊢
  clear f27 z27
  rw [q_146_117, f28.k (i := 45) rfl (by omega) (k := 9) (l := 0) rfl]
  simp only [zb]
  have f29 := f28.sr (i := 45) rfl (by omega) 23 159
  generalize sR (X28) 145 23 159 = X29 at f29 ⊢
  clear f28
  have z29 : h_sz (X29) = 160 := f29.z
  have f30 := f29.al (k := 11) (l := 7) 7 rfl
  rw [z29]
  generalize alo (X29) 11 7 7 = X30 at f30 ⊢
  clear f29 z29
  rw [q_146_125, f30.k (i := 45) rfl (by omega) (k := 9) (l := 0) rfl]
  simp only [zb]
  have f31 := f30.sr (i := 45) rfl (by omega) 27 160
  generalize sR (X30) 145 27 160 = X31 at f31 ⊢
  clear f30
  have z31 : h_sz (X31) = 161 := f31.z
  have f32 := f31.al (k := 13) (l := 7) 7 rfl
  rw [z31]
  generalize alo (X31) 13 7 7 = X32 at f32 ⊢
  clear f31 z31
  rw [q_146_133, f32.k (i := 45) rfl (by omega) (k := 9) (l := 0) rfl]
  simp only [zb]
  have f33 := f32.sr (i := 45) rfl (by omega) 28 161
  generalize sR (X32) 145 28 161 = X33 at f33 ⊢
  clear f32
  have z33 : h_sz (X33) = 162 := f33.z
  have f34 := f33.al (k := 11) (l := 7) 7 rfl
  rw [z33]
  generalize alo (X33) 11 7 7 = X34 at f34 ⊢
  clear f33 z33
  rw [q_146_141, f34.k (i := 45) rfl (by omega) (k := 9) (l := 0) rfl]
  simp only [zb]
  have f35 := f34.sr (i := 45) rfl (by omega) 29 162
  generalize sR (X34) 145 29 162 = X35 at f35 ⊢
  clear f34
  have z35 : h_sz (X35) = 163 := f35.z
  have f36 := f35.al (k := 11) (l := 7) 7 rfl
  rw [z35]
  generalize alo (X35) 11 7 7 = X36 at f36 ⊢
  clear f35 z35
  rw [q_146_149, f36.k (i := 45) rfl (by omega) (k := 9) (l := 0) rfl]
  simp only [zb]
  have f37 := f36.sr (i := 45) rfl (by omega) 30 163
  generalize sR (X36) 145 30 163 = X37 at f37 ⊢
  clear f36
  have z37 : h_sz (X37) = 164 := f37.z
  have f38 := f37.al (k := 11) (l := 7) 7 rfl
  rw [z37]
  generalize alo (X37) 11 7 7 = X38 at f38 ⊢
  clear f37 z37
  rw [q_146_157, f38.k (i := 45) rfl (by omega) (k := 9) (l := 0) rfl]
  simp only [zb]
  have f39 := f38.sr (i := 45) rfl (by omega) 31 164
  generalize sR (X38) 145 31 164 = X39 at f39 ⊢
  clear f38
  have z39 : h_sz (X39) = 165 := f39.z
  have f40 := f39.al (k := 11) (l := 7) 7 rfl
  rw [z39]
  generalize alo (X39) 11 7 7 = X40 at f40 ⊢
  clear f39 z39
  rw [q_146_165, f40.k (i := 45) rfl (by omega) (k := 9) (l := 0) rfl]
  simp only [zb]
  have f41 := f40.sr (i := 45) rfl (by omega) 32 165
  generalize sR (X40) 145 32 165 = X41 at f41 ⊢
  clear f40
  have z41 : h_sz (X41) = 166 := f41.z
  have f42 := f41.al (k := 11) (l := 7) 7 rfl
  rw [z41]
  generalize alo (X41) 11 7 7 = X42 at f42 ⊢
  clear f41 z41
  rw [q_146_173, f42.k (i := 45) rfl (by omega) (k := 9) (l := 0) rfl]
  simp only [zb]
  have f43 := f42.sr (i := 45) rfl (by omega) 33 166
  generalize sR (X42) 145 33 166 = X43 at f43 ⊢
  clear f42
  have z43 : h_sz (X43) = 167 := f43.z
  have f44 := f43.al (k := 11) (l := 7) 7 rfl
  rw [z43]
  generalize alo (X43) 11 7 7 = X44 at f44 ⊢
  clear f43 z43
  rw [q_146_181, f44.k (i := 45) rfl (by omega) (k := 9) (l := 0) rfl]
  simp only [zb]
  have f45 := f44.sr (i := 45) rfl (by omega) 34 167
  generalize sR (X44) 145 34 167 = X45 at f45 ⊢
  clear f44
  have z45 : h_sz (X45) = 168 := f45.z
  have f46 := f45.al (k := 11) (l := 7) 7 rfl
  rw [z45]
  generalize alo (X45) 11 7 7 = X46 at f46 ⊢
  clear f45 z45
  rw [q_146_189, f46.k (i := 45) rfl (by omega) (k := 9) (l := 0) rfl]
  simp only [zb]
  have f47 := f46.sr (i := 45) rfl (by omega) 35 168
  generalize sR (X46) 145 35 168 = X47 at f47 ⊢
  clear f46
  have z47 : h_sz (X47) = 169 := f47.z
  have f48 := f47.al (k := 11) (l := 7) 7 rfl
  rw [z47]
  generalize alo (X47) 11 7 7 = X48 at f48 ⊢
  clear f47 z47
  rw [q_146_197, f48.k (i := 45) rfl (by omega) (k := 9) (l := 0) rfl]
  simp only [zb]
  have f49 := f48.sr (i := 45) rfl (by omega) 36 169
  generalize sR (X48) 145 36 169 = X49 at f49 ⊢
  clear f48
  have z49 : h_sz (X49) = 170 := f49.z
  have f50 := f49.al (k := 11) (l := 7) 7 rfl
  rw [z49]
  generalize alo (X49) 11 7 7 = X50 at f50 ⊢
  clear f49 z49
  rw [q_146_205, f50.k (i := 45) rfl (by omega) (k := 9) (l := 0) rfl]
  simp only [zb]
  have f51 := f50.sr (i := 45) rfl (by omega) 37 170
  generalize sR (X50) 145 37 170 = X51 at f51 ⊢
  clear f50
  have z51 : h_sz (X51) = 171 := f51.z
  have f52 := f51.al (k := 11) (l := 20) 20 rfl
  rw [z51]
  generalize alo (X51) 11 20 20 = X52 at f52 ⊢
  clear f51 z51
  rw [q_146_213, f52.k (i := 45) rfl (by omega) (k := 9) (l := 0) rfl]
  simp only [zb]
  have f53 := f52.sr (i := 45) rfl (by omega) 38 171
  generalize sR (X52) 145 38 171 = X53 at f53 ⊢
  clear f52
  have z53 : h_sz (X53) = 172 := f53.z
  have f54 := f53.al (k := 11) (l := 144) 144 rfl
  rw [z53]
  generalize alo (X53) 11 144 144 = X54 at f54 ⊢
  clear f53 z53
  rw [q_146_222, f54.k (i := 45) rfl (by omega) (k := 9) (l := 0) rfl]
  simp only [zb]
  have f55 := f54.sr (i := 45) rfl (by omega) 40 172
  generalize sR (X54) 145 40 172 = X55 at f55 ⊢
  clear f54
  have z55 : h_sz (X55) = 173 := f55.z
  have f56 := f55.al (k := 11) (l := 144) 144 rfl
  rw [z55]
  generalize alo (X55) 11 144 144 = X56 at f56 ⊢
  clear f55 z55
  rw [q_146_231, f56.k (i := 45) rfl (by omega) (k := 9) (l := 0) rfl]
  simp only [zb]
  have f57 := f56.sr (i := 45) rfl (by omega) 41 173
  generalize sR (X56) 145 41 173 = X57 at f57 ⊢
  clear f56
  have z57 : h_sz (X57) = 174 := f57.z
  have f58 := f57.al (k := 11) (l := 576) 576 rfl
  rw [z57]
  generalize alo (X57) 11 576 576 = X58 at f58 ⊢
  clear f57 z57
  rw [q_146_240, f58.k (i := 45) rfl (by omega) (k := 9) (l := 0) rfl]
  simp only [zb]
  have f59 := f58.sr (i := 45) rfl (by omega) 42 174
  generalize sR (X58) 145 42 174 = X59 at f59 ⊢
  clear f58
  have z59 : h_sz (X59) = 175 := f59.z
  have f60 := f59.al (k := 11) (l := 2880) 2880 rfl
  rw [z59]
  generalize alo (X59) 11 2880 2880 = X60 at f60 ⊢
  clear f59 z59
  rw [q_146_249, f60.k (i := 45) rfl (by omega) (k := 9) (l := 0) rfl]
  simp only [zb]
  have f61 := f60.sr (i := 45) rfl (by omega) 43 175
  generalize sR (X60) 145 43 175 = X61 at f61 ⊢
  clear f60
  have z61 : h_sz (X61) = 176 := f61.z
  have f62 := f61.al (k := 11) (l := 10) 10 rfl
  rw [z61]
  generalize alo (X61) 11 10 10 = X62 at f62 ⊢
  clear f61 z61
  rw [q_146_257, f62.k (i := 45) rfl (by omega) (k := 9) (l := 0) rfl]
  simp only [zb]
  have f63 := f62.sr (i := 45) rfl (by omega) 45 176
  generalize sR (X62) 145 45 176 = X63 at f63 ⊢
  clear f62
  have z63 : h_sz (X63) = 177 := f63.z
  have f64 := f63.al (k := 11) (l := 7) 7 rfl
  rw [z63]
  generalize alo (X63) 11 7 7 = X64 at f64 ⊢
  clear f63 z63
  rw [q_146_265, f64.k (i := 45) rfl (by omega) (k := 9) (l := 0) rfl]
  simp only [zb]
  have f65 := f64.sr (i := 45) rfl (by omega) 46 177
  generalize sR (X64) 145 46 177 = X65 at f65 ⊢
  clear f64
  have z65 : h_sz (X65) = 178 := f65.z
  have f66 := f65.al (k := 11) (l := 7) 7 rfl
  rw [z65]
  generalize alo (X65) 11 7 7 = X66 at f66 ⊢
  clear f65 z65
  rw [q_146_273, f66.k (i := 45) rfl (by omega) (k := 9) (l := 0) rfl]
  simp only [zb]
  have f67 := f66.sr (i := 45) rfl (by omega) 47 178
  generalize sR (X66) 145 47 178 = X67 at f67 ⊢
  clear f66
  have z67 : h_sz (X67) = 179 := f67.z
  have f68 := f67.al (k := 11) (l := 10) 10 rfl
  rw [z67]
  generalize alo (X67) 11 10 10 = X68 at f68 ⊢
  clear f67 z67
  rw [q_146_281, f68.k (i := 45) rfl (by omega) (k := 9) (l := 0) rfl]
  simp only [zb]
  have f69 := f68.sr (i := 45) rfl (by omega) 50 179
  generalize sR (X68) 145 50 179 = X69 at f69 ⊢
  clear f68
  have z69 : h_sz (X69) = 180 := f69.z
  have f70 := f69.al (k := 13) (l := 4) 4 rfl
  rw [z69]
  generalize alo (X69) 13 4 4 = X70 at f70 ⊢
  clear f69 z69
  rw [q_146_288, f70.k (i := 45) rfl (by omega) (k := 9) (l := 0) rfl]
  simp only [zb]
  have f71 := f70.sr (i := 45) rfl (by omega) 54 180
  generalize sR (X70) 145 54 180 = X71 at f71 ⊢
  clear f70
  refine ⟨_, _, _, _, ?_, f71, by omega, fun i hi => ?_, ?_, fun i i1 i2 j => ?_⟩
  · simp only [q_146_296]
  · constructor <;> simp (disch := omega) only [up_ne, upN_ne]
  · rfl
  · have : i = 45 ∨ i = 46 ∨ i = 47 ∨ i = 48 ∨ i = 49 ∨ i = 50 ∨ i = 51 ∨ i = 52 ∨ i = 53 ∨ i = 54 ∨ i = 55 ∨ i = 56 ∨ i = 57 ∨ i = 58 ∨ i = 59 ∨ i = 60 ∨ i = 61 ∨ i = 62 ∨ i = 63 ∨ i = 64 ∨ i = 65 ∨ i = 66 ∨ i = 67 ∨ i = 68 ∨ i = 69 ∨ i = 70 ∨ i = 71 ∨ i = 72 ∨ i = 73 ∨ i = 74 ∨ i = 75 ∨ i = 76 ∨ i = 77 ∨ i = 78 ∨ i = 79 ∨ i = 80 := by omega
    rcases this with q | q | q | q | q | q | q | q | q | q | q | q | q | q | q | q | q | q | q | q | q | q | q | q | q | q | q | q | q | q | q | q | q | q | q | q <;> subst q <;> rfl
