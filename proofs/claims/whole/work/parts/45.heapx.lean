/-! the abstract heap: stores, frames, the fixed cells -/
theorem isK_sRi (h : HP) (a : Nat) (f : Nat → Int) (b c : Nat) : isK (sRi h a f) b c = isK h b c := rfl
theorem kd9_sRi (h : HP) (a : Nat) (f : Nat → Int) : h_kd (sRi h a f) = h_kd h := rfl
theorem ln9_sRi (h : HP) (a : Nat) (f : Nat → Int) : h_ln (sRi h a f) = h_ln h := rfl
theorem sz9_sRi (h : HP) (a : Nat) (f : Nat → Int) : h_sz (sRi h a f) = h_sz h := rfl
theorem sl9_sRi (h : HP) (a : Nat) (f : Nat → Int) : h_sl (sRi h a f) = h_sl h := rfl
theorem inb_sRi (h : HP) (a : Nat) (f : Nat → Int) (b : Nat) (i : Int) : inb (sRi h a f) b i = inb h b i := rfl
theorem ml9_sRi (h : HP) (a : Nat) (f : Nat → Int) : h_ml (sRi h a f) = h_ml h := rfl
theorem mr9_sRi (h : HP) (a : Nat) (f : Nat → Int) : h_mr (sRi h a f) = h_mr h := rfl
theorem isK_sRl (h : HP) (a : Nat) (f : Nat → Int) (b c : Nat) : isK (sRl h a f) b c = isK h b c := rfl
theorem kd9_sRl (h : HP) (a : Nat) (f : Nat → Int) : h_kd (sRl h a f) = h_kd h := rfl
theorem ln9_sRl (h : HP) (a : Nat) (f : Nat → Int) : h_ln (sRl h a f) = h_ln h := rfl
theorem sz9_sRl (h : HP) (a : Nat) (f : Nat → Int) : h_sz (sRl h a f) = h_sz h := rfl
theorem sl9_sRl (h : HP) (a : Nat) (f : Nat → Int) : h_sl (sRl h a f) = h_sl h := rfl
theorem inb_sRl (h : HP) (a : Nat) (f : Nat → Int) (b : Nat) (i : Int) : inb (sRl h a f) b i = inb h b i := rfl
theorem mi9_sRl (h : HP) (a : Nat) (f : Nat → Int) : h_mi (sRl h a f) = h_mi h := rfl
theorem mr9_sRl (h : HP) (a : Nat) (f : Nat → Int) : h_mr (sRl h a f) = h_mr h := rfl
theorem isK_sRr (h : HP) (a : Nat) (f : Nat → Nat) (b c : Nat) : isK (sRr h a f) b c = isK h b c := rfl
theorem kd9_sRr (h : HP) (a : Nat) (f : Nat → Nat) : h_kd (sRr h a f) = h_kd h := rfl
theorem ln9_sRr (h : HP) (a : Nat) (f : Nat → Nat) : h_ln (sRr h a f) = h_ln h := rfl
theorem sz9_sRr (h : HP) (a : Nat) (f : Nat → Nat) : h_sz (sRr h a f) = h_sz h := rfl
theorem sl9_sRr (h : HP) (a : Nat) (f : Nat → Nat) : h_sl (sRr h a f) = h_sl h := rfl
theorem inb_sRr (h : HP) (a : Nat) (f : Nat → Nat) (b : Nat) (i : Int) : inb (sRr h a f) b i = inb h b i := rfl
theorem mi9_sRr (h : HP) (a : Nat) (f : Nat → Nat) : h_mi (sRr h a f) = h_mi h := rfl
theorem ml9_sRr (h : HP) (a : Nat) (f : Nat → Nat) : h_ml (sRr h a f) = h_ml h := rfl
theorem isK_sI (h : HP) (a k : Nat) (v : Int) (b c : Nat) : isK (sI h a k v) b c = isK h b c := rfl
theorem kd9_sI (h : HP) (a k : Nat) (v : Int) : h_kd (sI h a k v) = h_kd h := rfl
theorem ln9_sI (h : HP) (a k : Nat) (v : Int) : h_ln (sI h a k v) = h_ln h := rfl
theorem sz9_sI (h : HP) (a k : Nat) (v : Int) : h_sz (sI h a k v) = h_sz h := rfl
theorem sl9_sI (h : HP) (a k : Nat) (v : Int) : h_sl (sI h a k v) = h_sl h := rfl
theorem inb_sI (h : HP) (a k : Nat) (v : Int) (b : Nat) (i : Int) : inb (sI h a k v) b i = inb h b i := rfl
theorem ml9_sI (h : HP) (a k : Nat) (v : Int) : h_ml (sI h a k v) = h_ml h := rfl
theorem mr9_sI (h : HP) (a k : Nat) (v : Int) : h_mr (sI h a k v) = h_mr h := rfl
theorem isK_sL (h : HP) (a k : Nat) (v : Int) (b c : Nat) : isK (sL h a k v) b c = isK h b c := rfl
theorem kd9_sL (h : HP) (a k : Nat) (v : Int) : h_kd (sL h a k v) = h_kd h := rfl
theorem ln9_sL (h : HP) (a k : Nat) (v : Int) : h_ln (sL h a k v) = h_ln h := rfl
theorem sz9_sL (h : HP) (a k : Nat) (v : Int) : h_sz (sL h a k v) = h_sz h := rfl
theorem sl9_sL (h : HP) (a k : Nat) (v : Int) : h_sl (sL h a k v) = h_sl h := rfl
theorem inb_sL (h : HP) (a k : Nat) (v : Int) (b : Nat) (i : Int) : inb (sL h a k v) b i = inb h b i := rfl
theorem mi9_sL (h : HP) (a k : Nat) (v : Int) : h_mi (sL h a k v) = h_mi h := rfl
theorem mr9_sL (h : HP) (a k : Nat) (v : Int) : h_mr (sL h a k v) = h_mr h := rfl
theorem isK_sR (h : HP) (a k v : Nat) (b c : Nat) : isK (sR h a k v) b c = isK h b c := rfl
theorem kd9_sR (h : HP) (a k v : Nat) : h_kd (sR h a k v) = h_kd h := rfl
theorem ln9_sR (h : HP) (a k v : Nat) : h_ln (sR h a k v) = h_ln h := rfl
theorem sz9_sR (h : HP) (a k v : Nat) : h_sz (sR h a k v) = h_sz h := rfl
theorem sl9_sR (h : HP) (a k v : Nat) : h_sl (sR h a k v) = h_sl h := rfl
theorem inb_sR (h : HP) (a k v : Nat) (b : Nat) (i : Int) : inb (sR h a k v) b i = inb h b i := rfl
theorem mi9_sR (h : HP) (a k v : Nat) : h_mi (sR h a k v) = h_mi h := rfl
theorem ml9_sR (h : HP) (a k v : Nat) : h_ml (sR h a k v) = h_ml h := rfl
theorem up_eq {β : Type} (f : Nat → β) (k : Nat) (v : β) : va_up f k v k = v := by simp [va_up]
theorem up_ne {β : Type} (f : Nat → β) {k j : Nat} (v : β) (h : j ≠ k) : va_up f k v j = f j := by simp [va_up, h]
theorem up_if {β : Type} (f : Nat → β) (k j : Nat) (v : β) : va_up f k v j = if j = k then v else f j := rfl
theorem up_up {β : Type} (f : Nat → β) (k : Nat) (v u : β) : va_up (va_up f k v) k u = va_up f k u := by funext j; simp only [up_if]; split <;> rfl
theorem up_self {β : Type} (f : Nat → β) (k : Nat) : va_up f k (f k) = f := by funext j; simp only [up_if]; split <;> simp_all
theorem up_comm {β : Type} (f : Nat → β) {k j : Nat} (v u : β) (h : k ≠ j) : va_up (va_up f k v) j u = va_up (va_up f j u) k v := by
  funext i; simp only [up_if]
  by_cases h1 : i = j
  · subst h1; rw [if_pos rfl, if_neg (fun z => h z.symm), if_pos rfl]
  · rw [if_neg h1]; split
    · rfl
    · rfl
theorem mi9_eq (h : HP) (a : Nat) (f : Nat → Int) : h_mi (sRi h a f) a = f := up_eq _ _ _
theorem mi9_ne (h : HP) {a b : Nat} (f : Nat → Int) (hn : b ≠ a) : h_mi (sRi h a f) b = h_mi h b := up_ne _ _ hn
theorem ml9_eq (h : HP) (a : Nat) (f : Nat → Int) : h_ml (sRl h a f) a = f := up_eq _ _ _
theorem ml9_ne (h : HP) {a b : Nat} (f : Nat → Int) (hn : b ≠ a) : h_ml (sRl h a f) b = h_ml h b := up_ne _ _ hn
theorem mr9_eq (h : HP) (a : Nat) (f : Nat → Nat) : h_mr (sRr h a f) a = f := up_eq _ _ _
theorem mr9_ne (h : HP) {a b : Nat} (f : Nat → Nat) (hn : b ≠ a) : h_mr (sRr h a f) b = h_mr h b := up_ne _ _ hn
theorem miI_eq (h : HP) (a k : Nat) (v : Int) : h_mi (sI h a k v) a = va_up (h_mi h a) k v := up_eq _ _ _
theorem miI_ne (h : HP) {a b : Nat} (k : Nat) (v : Int) (hn : b ≠ a) : h_mi (sI h a k v) b = h_mi h b := up_ne _ _ hn
theorem mlL_eq (h : HP) (a k : Nat) (v : Int) : h_ml (sL h a k v) a = va_up (h_ml h a) k v := up_eq _ _ _
theorem mlL_ne (h : HP) {a b : Nat} (k : Nat) (v : Int) (hn : b ≠ a) : h_ml (sL h a k v) b = h_ml h b := up_ne _ _ hn
theorem mrR_eq (h : HP) (a k v : Nat) : h_mr (sR h a k v) a = va_up (h_mr h a) k v := up_eq _ _ _
theorem mrR_ne (h : HP) {a b : Nat} (k v : Nat) (hn : b ≠ a) : h_mr (sR h a k v) b = h_mr h b := up_ne _ _ hn
theorem sI_row (h : HP) (a : Nat) (f : Nat → Int) (k : Nat) (v : Int) : sI (sRi h a f) a k v = sRi h a (va_up f k v) := by
  unfold sI
  rw [mi9_eq]
  unfold sRi
  simp only [up_up]
theorem sRi_row (h : HP) (a : Nat) (f g : Nat → Int) : sRi (sRi h a f) a g = sRi h a g := by
  unfold sRi; simp only [up_up]
theorem sRi_self (h : HP) (a : Nat) : sRi h a (h_mi h a) = h := by
  obtain ⟨k, l, i, j, r, s, t⟩ := h
  show (k, l, va_up i a (i a), j, r, s, t) = _
  rw [up_self]
theorem sRi_comm (h : HP) {a b : Nat} (f g : Nat → Int) (hn : a ≠ b) : sRi (sRi h a f) b g = sRi (sRi h b g) a f := by
  unfold sRi; simp only [up_comm _ _ _ hn]
theorem sI_out (h : HP) {a b : Nat} (f : Nat → Int) (k : Nat) (v : Int) (hn : a ≠ b) : sI (sRi h b f) a k v = sRi (sI h a k v) b f := by
  unfold sI
  rw [mi9_ne h f hn, sRi_comm h _ _ (fun z => hn z.symm)]
theorem sI_def (h : HP) (a k : Nat) (v : Int) : sI h a k v = sRi h a (va_up (h_mi h a) k v) := rfl
/-- only number rows of cells in A have changed -/
def Sc (A : Nat → Prop) (h h1 : HP) : Prop := h_kd h1 = h_kd h ∧ h_ln h1 = h_ln h ∧ h_mr h1 = h_mr h ∧ h_sz h1 = h_sz h ∧ h_sl h1 = h_sl h ∧ ∀ a, ¬ A a → h_mi h1 a = h_mi h a ∧ h_ml h1 a = h_ml h a
theorem Sc.rf {A : Nat → Prop} (h : HP) : Sc A h h := ⟨rfl, rfl, rfl, rfl, rfl, fun _ _ => ⟨rfl, rfl⟩⟩
theorem Sc.tr {A : Nat → Prop} {h h1 h2 : HP} (p : Sc A h h1) (q : Sc A h1 h2) : Sc A h h2 := ⟨q.1.trans p.1, q.2.1.trans p.2.1, q.2.2.1.trans p.2.2.1, q.2.2.2.1.trans p.2.2.2.1, q.2.2.2.2.1.trans p.2.2.2.2.1, fun a ha => ⟨(q.2.2.2.2.2 a ha).1.trans (p.2.2.2.2.2 a ha).1, (q.2.2.2.2.2 a ha).2.trans (p.2.2.2.2.2 a ha).2⟩⟩
theorem Sc.up {A B : Nat → Prop} {h h1 : HP} (p : Sc A h h1) (hAB : ∀ a, A a → B a) : Sc B h h1 := ⟨p.1, p.2.1, p.2.2.1, p.2.2.2.1, p.2.2.2.2.1, fun a ha => p.2.2.2.2.2 a (fun z => ha (hAB a z))⟩
theorem Sc.row {A : Nat → Prop} {h h1 : HP} (p : Sc A h h1) {a : Nat} (f : Nat → Int) (ha : A a) : Sc A h (sRi h1 a f) := ⟨p.1, p.2.1, p.2.2.1, p.2.2.2.1, p.2.2.2.2.1, fun b hb => ⟨(mi9_ne h1 f (fun z => hb (by rw [z]; exact ha))).trans (p.2.2.2.2.2 b hb).1, (p.2.2.2.2.2 b hb).2⟩⟩
theorem Sc.si {A : Nat → Prop} {h h1 : HP} (p : Sc A h h1) {a : Nat} (k : Nat) (v : Int) (ha : A a) : Sc A h (sI h1 a k v) := p.row _ ha
theorem Sc.sl {A : Nat → Prop} {h h1 : HP} (p : Sc A h h1) {a : Nat} (k : Nat) (v : Int) (ha : A a) : Sc A h (sL h1 a k v) := ⟨p.1, p.2.1, p.2.2.1, p.2.2.2.1, p.2.2.2.2.1, fun b hb => ⟨(p.2.2.2.2.2 b hb).1, (mlL_ne h1 k v (fun z => hb (by rw [z]; exact ha))).trans (p.2.2.2.2.2 b hb).2⟩⟩
theorem Sc.k {A : Nat → Prop} {h h1 : HP} (p : Sc A h h1) (a c : Nat) : isK h1 a c = isK h a c := by unfold isK; rw [p.1]
theorem Sc.mi {A : Nat → Prop} {h h1 : HP} (p : Sc A h h1) {a : Nat} (ha : ¬ A a) : h_mi h1 a = h_mi h a := (p.2.2.2.2.2 a ha).1
theorem Sc.ml {A : Nat → Prop} {h h1 : HP} (p : Sc A h h1) {a : Nat} (ha : ¬ A a) : h_ml h1 a = h_ml h a := (p.2.2.2.2.2 a ha).2
theorem isKc {h : HP} {a c : Nat} (hk : h_kd h a = c) : isK h a c = true := by unfold isK; rw [hk]; exact Nat.beq_refl c
def RSk_t : List (Nat × Nat × Nat) := [(145, 9, 0), (146, 11, 1000), (147, 11, 30), (148, 11, 360), (149, 11, 360), (150, 12, 13), (151, 11, 36), (152, 11, 36), (153, 11, 36), (154, 11, 42), (155, 11, 42), (156, 11, 42), (157, 11, 24), (158, 11, 24), (159, 11, 6000), (160, 11, 7), (161, 13, 7), (162, 11, 7), (163, 11, 7), (164, 11, 7), (165, 11, 7), (166, 11, 7), (167, 11, 7), (168, 11, 7), (169, 11, 7), (170, 11, 7), (171, 11, 20), (172, 11, 144), (173, 11, 144), (174, 11, 576), (175, 11, 2880), (176, 11, 10), (177, 11, 7), (178, 11, 7), (179, 11, 10), (180, 13, 4)]
def RSk_r : List (Nat × Nat × Nat) := [(145, 2, 146), (145, 10, 147), (145, 11, 148), (145, 12, 149), (145, 13, 150), (145, 15, 151), (145, 16, 152), (145, 17, 153), (145, 18, 154), (145, 19, 155), (145, 20, 156), (145, 21, 157), (145, 22, 158), (145, 23, 159), (145, 27, 160), (145, 28, 161), (145, 29, 162), (145, 30, 163), (145, 31, 164), (145, 32, 165), (145, 33, 166), (145, 34, 167), (145, 35, 168), (145, 36, 169), (145, 37, 170), (145, 38, 171), (145, 40, 172), (145, 41, 173), (145, 42, 174), (145, 43, 175), (145, 45, 176), (145, 46, 177), (145, 47, 178), (145, 50, 179), (145, 54, 180)]
def RSk (h : HP) : Prop := (∀ q ∈ RSk_t, h_kd h q.1 = q.2.1 ∧ h_ln h q.1 = q.2.2) ∧ ∀ q ∈ RSk_r, h_mr h q.1 q.2.1 = q.2.2
theorem k_145 {h : HP} (w : RSk h) : isK h 145 9 = true := isKc (w.1 _ (List.mem_of_getElem? (i := 0) rfl)).1
theorem n_145 {h : HP} (w : RSk h) : h_ln h 145 = 0 := (w.1 _ (List.mem_of_getElem? (i := 0) rfl)).2
theorem k_146 {h : HP} (w : RSk h) : isK h 146 11 = true := isKc (w.1 _ (List.mem_of_getElem? (i := 1) rfl)).1
theorem n_146 {h : HP} (w : RSk h) : h_ln h 146 = 1000 := (w.1 _ (List.mem_of_getElem? (i := 1) rfl)).2
theorem k_147 {h : HP} (w : RSk h) : isK h 147 11 = true := isKc (w.1 _ (List.mem_of_getElem? (i := 2) rfl)).1
theorem n_147 {h : HP} (w : RSk h) : h_ln h 147 = 30 := (w.1 _ (List.mem_of_getElem? (i := 2) rfl)).2
theorem k_148 {h : HP} (w : RSk h) : isK h 148 11 = true := isKc (w.1 _ (List.mem_of_getElem? (i := 3) rfl)).1
theorem n_148 {h : HP} (w : RSk h) : h_ln h 148 = 360 := (w.1 _ (List.mem_of_getElem? (i := 3) rfl)).2
theorem k_149 {h : HP} (w : RSk h) : isK h 149 11 = true := isKc (w.1 _ (List.mem_of_getElem? (i := 4) rfl)).1
theorem n_149 {h : HP} (w : RSk h) : h_ln h 149 = 360 := (w.1 _ (List.mem_of_getElem? (i := 4) rfl)).2
theorem k_150 {h : HP} (w : RSk h) : isK h 150 12 = true := isKc (w.1 _ (List.mem_of_getElem? (i := 5) rfl)).1
theorem n_150 {h : HP} (w : RSk h) : h_ln h 150 = 13 := (w.1 _ (List.mem_of_getElem? (i := 5) rfl)).2
theorem k_151 {h : HP} (w : RSk h) : isK h 151 11 = true := isKc (w.1 _ (List.mem_of_getElem? (i := 6) rfl)).1
theorem n_151 {h : HP} (w : RSk h) : h_ln h 151 = 36 := (w.1 _ (List.mem_of_getElem? (i := 6) rfl)).2
theorem k_152 {h : HP} (w : RSk h) : isK h 152 11 = true := isKc (w.1 _ (List.mem_of_getElem? (i := 7) rfl)).1
theorem n_152 {h : HP} (w : RSk h) : h_ln h 152 = 36 := (w.1 _ (List.mem_of_getElem? (i := 7) rfl)).2
theorem k_153 {h : HP} (w : RSk h) : isK h 153 11 = true := isKc (w.1 _ (List.mem_of_getElem? (i := 8) rfl)).1
theorem n_153 {h : HP} (w : RSk h) : h_ln h 153 = 36 := (w.1 _ (List.mem_of_getElem? (i := 8) rfl)).2
theorem k_154 {h : HP} (w : RSk h) : isK h 154 11 = true := isKc (w.1 _ (List.mem_of_getElem? (i := 9) rfl)).1
theorem n_154 {h : HP} (w : RSk h) : h_ln h 154 = 42 := (w.1 _ (List.mem_of_getElem? (i := 9) rfl)).2
theorem k_155 {h : HP} (w : RSk h) : isK h 155 11 = true := isKc (w.1 _ (List.mem_of_getElem? (i := 10) rfl)).1
theorem n_155 {h : HP} (w : RSk h) : h_ln h 155 = 42 := (w.1 _ (List.mem_of_getElem? (i := 10) rfl)).2
theorem k_156 {h : HP} (w : RSk h) : isK h 156 11 = true := isKc (w.1 _ (List.mem_of_getElem? (i := 11) rfl)).1
theorem n_156 {h : HP} (w : RSk h) : h_ln h 156 = 42 := (w.1 _ (List.mem_of_getElem? (i := 11) rfl)).2
theorem k_157 {h : HP} (w : RSk h) : isK h 157 11 = true := isKc (w.1 _ (List.mem_of_getElem? (i := 12) rfl)).1
theorem n_157 {h : HP} (w : RSk h) : h_ln h 157 = 24 := (w.1 _ (List.mem_of_getElem? (i := 12) rfl)).2
theorem k_158 {h : HP} (w : RSk h) : isK h 158 11 = true := isKc (w.1 _ (List.mem_of_getElem? (i := 13) rfl)).1
theorem n_158 {h : HP} (w : RSk h) : h_ln h 158 = 24 := (w.1 _ (List.mem_of_getElem? (i := 13) rfl)).2
theorem k_159 {h : HP} (w : RSk h) : isK h 159 11 = true := isKc (w.1 _ (List.mem_of_getElem? (i := 14) rfl)).1
theorem n_159 {h : HP} (w : RSk h) : h_ln h 159 = 6000 := (w.1 _ (List.mem_of_getElem? (i := 14) rfl)).2
theorem k_160 {h : HP} (w : RSk h) : isK h 160 11 = true := isKc (w.1 _ (List.mem_of_getElem? (i := 15) rfl)).1
theorem n_160 {h : HP} (w : RSk h) : h_ln h 160 = 7 := (w.1 _ (List.mem_of_getElem? (i := 15) rfl)).2
theorem k_161 {h : HP} (w : RSk h) : isK h 161 13 = true := isKc (w.1 _ (List.mem_of_getElem? (i := 16) rfl)).1
theorem n_161 {h : HP} (w : RSk h) : h_ln h 161 = 7 := (w.1 _ (List.mem_of_getElem? (i := 16) rfl)).2
theorem k_162 {h : HP} (w : RSk h) : isK h 162 11 = true := isKc (w.1 _ (List.mem_of_getElem? (i := 17) rfl)).1
theorem n_162 {h : HP} (w : RSk h) : h_ln h 162 = 7 := (w.1 _ (List.mem_of_getElem? (i := 17) rfl)).2
theorem k_163 {h : HP} (w : RSk h) : isK h 163 11 = true := isKc (w.1 _ (List.mem_of_getElem? (i := 18) rfl)).1
theorem n_163 {h : HP} (w : RSk h) : h_ln h 163 = 7 := (w.1 _ (List.mem_of_getElem? (i := 18) rfl)).2
theorem k_164 {h : HP} (w : RSk h) : isK h 164 11 = true := isKc (w.1 _ (List.mem_of_getElem? (i := 19) rfl)).1
theorem n_164 {h : HP} (w : RSk h) : h_ln h 164 = 7 := (w.1 _ (List.mem_of_getElem? (i := 19) rfl)).2
theorem k_165 {h : HP} (w : RSk h) : isK h 165 11 = true := isKc (w.1 _ (List.mem_of_getElem? (i := 20) rfl)).1
theorem n_165 {h : HP} (w : RSk h) : h_ln h 165 = 7 := (w.1 _ (List.mem_of_getElem? (i := 20) rfl)).2
theorem k_166 {h : HP} (w : RSk h) : isK h 166 11 = true := isKc (w.1 _ (List.mem_of_getElem? (i := 21) rfl)).1
theorem n_166 {h : HP} (w : RSk h) : h_ln h 166 = 7 := (w.1 _ (List.mem_of_getElem? (i := 21) rfl)).2
theorem k_167 {h : HP} (w : RSk h) : isK h 167 11 = true := isKc (w.1 _ (List.mem_of_getElem? (i := 22) rfl)).1
theorem n_167 {h : HP} (w : RSk h) : h_ln h 167 = 7 := (w.1 _ (List.mem_of_getElem? (i := 22) rfl)).2
theorem k_168 {h : HP} (w : RSk h) : isK h 168 11 = true := isKc (w.1 _ (List.mem_of_getElem? (i := 23) rfl)).1
theorem n_168 {h : HP} (w : RSk h) : h_ln h 168 = 7 := (w.1 _ (List.mem_of_getElem? (i := 23) rfl)).2
theorem k_169 {h : HP} (w : RSk h) : isK h 169 11 = true := isKc (w.1 _ (List.mem_of_getElem? (i := 24) rfl)).1
theorem n_169 {h : HP} (w : RSk h) : h_ln h 169 = 7 := (w.1 _ (List.mem_of_getElem? (i := 24) rfl)).2
theorem k_170 {h : HP} (w : RSk h) : isK h 170 11 = true := isKc (w.1 _ (List.mem_of_getElem? (i := 25) rfl)).1
theorem n_170 {h : HP} (w : RSk h) : h_ln h 170 = 7 := (w.1 _ (List.mem_of_getElem? (i := 25) rfl)).2
theorem k_171 {h : HP} (w : RSk h) : isK h 171 11 = true := isKc (w.1 _ (List.mem_of_getElem? (i := 26) rfl)).1
theorem n_171 {h : HP} (w : RSk h) : h_ln h 171 = 20 := (w.1 _ (List.mem_of_getElem? (i := 26) rfl)).2
theorem k_172 {h : HP} (w : RSk h) : isK h 172 11 = true := isKc (w.1 _ (List.mem_of_getElem? (i := 27) rfl)).1
theorem n_172 {h : HP} (w : RSk h) : h_ln h 172 = 144 := (w.1 _ (List.mem_of_getElem? (i := 27) rfl)).2
theorem k_173 {h : HP} (w : RSk h) : isK h 173 11 = true := isKc (w.1 _ (List.mem_of_getElem? (i := 28) rfl)).1
theorem n_173 {h : HP} (w : RSk h) : h_ln h 173 = 144 := (w.1 _ (List.mem_of_getElem? (i := 28) rfl)).2
theorem k_174 {h : HP} (w : RSk h) : isK h 174 11 = true := isKc (w.1 _ (List.mem_of_getElem? (i := 29) rfl)).1
theorem n_174 {h : HP} (w : RSk h) : h_ln h 174 = 576 := (w.1 _ (List.mem_of_getElem? (i := 29) rfl)).2
theorem k_175 {h : HP} (w : RSk h) : isK h 175 11 = true := isKc (w.1 _ (List.mem_of_getElem? (i := 30) rfl)).1
theorem n_175 {h : HP} (w : RSk h) : h_ln h 175 = 2880 := (w.1 _ (List.mem_of_getElem? (i := 30) rfl)).2
theorem k_176 {h : HP} (w : RSk h) : isK h 176 11 = true := isKc (w.1 _ (List.mem_of_getElem? (i := 31) rfl)).1
theorem n_176 {h : HP} (w : RSk h) : h_ln h 176 = 10 := (w.1 _ (List.mem_of_getElem? (i := 31) rfl)).2
theorem k_177 {h : HP} (w : RSk h) : isK h 177 11 = true := isKc (w.1 _ (List.mem_of_getElem? (i := 32) rfl)).1
theorem n_177 {h : HP} (w : RSk h) : h_ln h 177 = 7 := (w.1 _ (List.mem_of_getElem? (i := 32) rfl)).2
theorem k_178 {h : HP} (w : RSk h) : isK h 178 11 = true := isKc (w.1 _ (List.mem_of_getElem? (i := 33) rfl)).1
theorem n_178 {h : HP} (w : RSk h) : h_ln h 178 = 7 := (w.1 _ (List.mem_of_getElem? (i := 33) rfl)).2
theorem k_179 {h : HP} (w : RSk h) : isK h 179 11 = true := isKc (w.1 _ (List.mem_of_getElem? (i := 34) rfl)).1
theorem n_179 {h : HP} (w : RSk h) : h_ln h 179 = 10 := (w.1 _ (List.mem_of_getElem? (i := 34) rfl)).2
theorem k_180 {h : HP} (w : RSk h) : isK h 180 13 = true := isKc (w.1 _ (List.mem_of_getElem? (i := 35) rfl)).1
theorem n_180 {h : HP} (w : RSk h) : h_ln h 180 = 4 := (w.1 _ (List.mem_of_getElem? (i := 35) rfl)).2
theorem b_146 {h : HP} (w : RSk h) (i : Int) : inb h 146 i = (decide (0 ≤ i) && decide (i < (1000 : Int))) := by unfold inb; rw [n_146 w]; rfl
theorem b_147 {h : HP} (w : RSk h) (i : Int) : inb h 147 i = (decide (0 ≤ i) && decide (i < (30 : Int))) := by unfold inb; rw [n_147 w]; rfl
theorem b_148 {h : HP} (w : RSk h) (i : Int) : inb h 148 i = (decide (0 ≤ i) && decide (i < (360 : Int))) := by unfold inb; rw [n_148 w]; rfl
theorem b_149 {h : HP} (w : RSk h) (i : Int) : inb h 149 i = (decide (0 ≤ i) && decide (i < (360 : Int))) := by unfold inb; rw [n_149 w]; rfl
theorem b_150 {h : HP} (w : RSk h) (i : Int) : inb h 150 i = (decide (0 ≤ i) && decide (i < (13 : Int))) := by unfold inb; rw [n_150 w]; rfl
theorem b_151 {h : HP} (w : RSk h) (i : Int) : inb h 151 i = (decide (0 ≤ i) && decide (i < (36 : Int))) := by unfold inb; rw [n_151 w]; rfl
theorem b_152 {h : HP} (w : RSk h) (i : Int) : inb h 152 i = (decide (0 ≤ i) && decide (i < (36 : Int))) := by unfold inb; rw [n_152 w]; rfl
theorem b_153 {h : HP} (w : RSk h) (i : Int) : inb h 153 i = (decide (0 ≤ i) && decide (i < (36 : Int))) := by unfold inb; rw [n_153 w]; rfl
theorem b_154 {h : HP} (w : RSk h) (i : Int) : inb h 154 i = (decide (0 ≤ i) && decide (i < (42 : Int))) := by unfold inb; rw [n_154 w]; rfl
theorem b_155 {h : HP} (w : RSk h) (i : Int) : inb h 155 i = (decide (0 ≤ i) && decide (i < (42 : Int))) := by unfold inb; rw [n_155 w]; rfl
theorem b_156 {h : HP} (w : RSk h) (i : Int) : inb h 156 i = (decide (0 ≤ i) && decide (i < (42 : Int))) := by unfold inb; rw [n_156 w]; rfl
theorem b_157 {h : HP} (w : RSk h) (i : Int) : inb h 157 i = (decide (0 ≤ i) && decide (i < (24 : Int))) := by unfold inb; rw [n_157 w]; rfl
theorem b_158 {h : HP} (w : RSk h) (i : Int) : inb h 158 i = (decide (0 ≤ i) && decide (i < (24 : Int))) := by unfold inb; rw [n_158 w]; rfl
theorem b_159 {h : HP} (w : RSk h) (i : Int) : inb h 159 i = (decide (0 ≤ i) && decide (i < (6000 : Int))) := by unfold inb; rw [n_159 w]; rfl
theorem b_160 {h : HP} (w : RSk h) (i : Int) : inb h 160 i = (decide (0 ≤ i) && decide (i < (7 : Int))) := by unfold inb; rw [n_160 w]; rfl
theorem b_161 {h : HP} (w : RSk h) (i : Int) : inb h 161 i = (decide (0 ≤ i) && decide (i < (7 : Int))) := by unfold inb; rw [n_161 w]; rfl
theorem b_162 {h : HP} (w : RSk h) (i : Int) : inb h 162 i = (decide (0 ≤ i) && decide (i < (7 : Int))) := by unfold inb; rw [n_162 w]; rfl
theorem b_163 {h : HP} (w : RSk h) (i : Int) : inb h 163 i = (decide (0 ≤ i) && decide (i < (7 : Int))) := by unfold inb; rw [n_163 w]; rfl
theorem b_164 {h : HP} (w : RSk h) (i : Int) : inb h 164 i = (decide (0 ≤ i) && decide (i < (7 : Int))) := by unfold inb; rw [n_164 w]; rfl
theorem b_165 {h : HP} (w : RSk h) (i : Int) : inb h 165 i = (decide (0 ≤ i) && decide (i < (7 : Int))) := by unfold inb; rw [n_165 w]; rfl
theorem b_166 {h : HP} (w : RSk h) (i : Int) : inb h 166 i = (decide (0 ≤ i) && decide (i < (7 : Int))) := by unfold inb; rw [n_166 w]; rfl
theorem b_167 {h : HP} (w : RSk h) (i : Int) : inb h 167 i = (decide (0 ≤ i) && decide (i < (7 : Int))) := by unfold inb; rw [n_167 w]; rfl
theorem b_168 {h : HP} (w : RSk h) (i : Int) : inb h 168 i = (decide (0 ≤ i) && decide (i < (7 : Int))) := by unfold inb; rw [n_168 w]; rfl
theorem b_169 {h : HP} (w : RSk h) (i : Int) : inb h 169 i = (decide (0 ≤ i) && decide (i < (7 : Int))) := by unfold inb; rw [n_169 w]; rfl
theorem b_170 {h : HP} (w : RSk h) (i : Int) : inb h 170 i = (decide (0 ≤ i) && decide (i < (7 : Int))) := by unfold inb; rw [n_170 w]; rfl
theorem b_171 {h : HP} (w : RSk h) (i : Int) : inb h 171 i = (decide (0 ≤ i) && decide (i < (20 : Int))) := by unfold inb; rw [n_171 w]; rfl
theorem b_172 {h : HP} (w : RSk h) (i : Int) : inb h 172 i = (decide (0 ≤ i) && decide (i < (144 : Int))) := by unfold inb; rw [n_172 w]; rfl
theorem b_173 {h : HP} (w : RSk h) (i : Int) : inb h 173 i = (decide (0 ≤ i) && decide (i < (144 : Int))) := by unfold inb; rw [n_173 w]; rfl
theorem b_174 {h : HP} (w : RSk h) (i : Int) : inb h 174 i = (decide (0 ≤ i) && decide (i < (576 : Int))) := by unfold inb; rw [n_174 w]; rfl
theorem b_175 {h : HP} (w : RSk h) (i : Int) : inb h 175 i = (decide (0 ≤ i) && decide (i < (2880 : Int))) := by unfold inb; rw [n_175 w]; rfl
theorem b_176 {h : HP} (w : RSk h) (i : Int) : inb h 176 i = (decide (0 ≤ i) && decide (i < (10 : Int))) := by unfold inb; rw [n_176 w]; rfl
theorem b_177 {h : HP} (w : RSk h) (i : Int) : inb h 177 i = (decide (0 ≤ i) && decide (i < (7 : Int))) := by unfold inb; rw [n_177 w]; rfl
theorem b_178 {h : HP} (w : RSk h) (i : Int) : inb h 178 i = (decide (0 ≤ i) && decide (i < (7 : Int))) := by unfold inb; rw [n_178 w]; rfl
theorem b_179 {h : HP} (w : RSk h) (i : Int) : inb h 179 i = (decide (0 ≤ i) && decide (i < (10 : Int))) := by unfold inb; rw [n_179 w]; rfl
theorem b_180 {h : HP} (w : RSk h) (i : Int) : inb h 180 i = (decide (0 ≤ i) && decide (i < (4 : Int))) := by unfold inb; rw [n_180 w]; rfl
theorem r_145_2 {h : HP} (w : RSk h) : h_mr h 145 2 = 146 := w.2 _ (List.mem_of_getElem? (i := 0) rfl)
theorem r_145_10 {h : HP} (w : RSk h) : h_mr h 145 10 = 147 := w.2 _ (List.mem_of_getElem? (i := 1) rfl)
theorem r_145_11 {h : HP} (w : RSk h) : h_mr h 145 11 = 148 := w.2 _ (List.mem_of_getElem? (i := 2) rfl)
theorem r_145_12 {h : HP} (w : RSk h) : h_mr h 145 12 = 149 := w.2 _ (List.mem_of_getElem? (i := 3) rfl)
theorem r_145_13 {h : HP} (w : RSk h) : h_mr h 145 13 = 150 := w.2 _ (List.mem_of_getElem? (i := 4) rfl)
theorem r_145_15 {h : HP} (w : RSk h) : h_mr h 145 15 = 151 := w.2 _ (List.mem_of_getElem? (i := 5) rfl)
theorem r_145_16 {h : HP} (w : RSk h) : h_mr h 145 16 = 152 := w.2 _ (List.mem_of_getElem? (i := 6) rfl)
theorem r_145_17 {h : HP} (w : RSk h) : h_mr h 145 17 = 153 := w.2 _ (List.mem_of_getElem? (i := 7) rfl)
theorem r_145_18 {h : HP} (w : RSk h) : h_mr h 145 18 = 154 := w.2 _ (List.mem_of_getElem? (i := 8) rfl)
theorem r_145_19 {h : HP} (w : RSk h) : h_mr h 145 19 = 155 := w.2 _ (List.mem_of_getElem? (i := 9) rfl)
theorem r_145_20 {h : HP} (w : RSk h) : h_mr h 145 20 = 156 := w.2 _ (List.mem_of_getElem? (i := 10) rfl)
theorem r_145_21 {h : HP} (w : RSk h) : h_mr h 145 21 = 157 := w.2 _ (List.mem_of_getElem? (i := 11) rfl)
theorem r_145_22 {h : HP} (w : RSk h) : h_mr h 145 22 = 158 := w.2 _ (List.mem_of_getElem? (i := 12) rfl)
theorem r_145_23 {h : HP} (w : RSk h) : h_mr h 145 23 = 159 := w.2 _ (List.mem_of_getElem? (i := 13) rfl)
theorem r_145_27 {h : HP} (w : RSk h) : h_mr h 145 27 = 160 := w.2 _ (List.mem_of_getElem? (i := 14) rfl)
theorem r_145_28 {h : HP} (w : RSk h) : h_mr h 145 28 = 161 := w.2 _ (List.mem_of_getElem? (i := 15) rfl)
theorem r_145_29 {h : HP} (w : RSk h) : h_mr h 145 29 = 162 := w.2 _ (List.mem_of_getElem? (i := 16) rfl)
theorem r_145_30 {h : HP} (w : RSk h) : h_mr h 145 30 = 163 := w.2 _ (List.mem_of_getElem? (i := 17) rfl)
theorem r_145_31 {h : HP} (w : RSk h) : h_mr h 145 31 = 164 := w.2 _ (List.mem_of_getElem? (i := 18) rfl)
theorem r_145_32 {h : HP} (w : RSk h) : h_mr h 145 32 = 165 := w.2 _ (List.mem_of_getElem? (i := 19) rfl)
theorem r_145_33 {h : HP} (w : RSk h) : h_mr h 145 33 = 166 := w.2 _ (List.mem_of_getElem? (i := 20) rfl)
theorem r_145_34 {h : HP} (w : RSk h) : h_mr h 145 34 = 167 := w.2 _ (List.mem_of_getElem? (i := 21) rfl)
theorem r_145_35 {h : HP} (w : RSk h) : h_mr h 145 35 = 168 := w.2 _ (List.mem_of_getElem? (i := 22) rfl)
theorem r_145_36 {h : HP} (w : RSk h) : h_mr h 145 36 = 169 := w.2 _ (List.mem_of_getElem? (i := 23) rfl)
theorem r_145_37 {h : HP} (w : RSk h) : h_mr h 145 37 = 170 := w.2 _ (List.mem_of_getElem? (i := 24) rfl)
theorem r_145_38 {h : HP} (w : RSk h) : h_mr h 145 38 = 171 := w.2 _ (List.mem_of_getElem? (i := 25) rfl)
theorem r_145_40 {h : HP} (w : RSk h) : h_mr h 145 40 = 172 := w.2 _ (List.mem_of_getElem? (i := 26) rfl)
theorem r_145_41 {h : HP} (w : RSk h) : h_mr h 145 41 = 173 := w.2 _ (List.mem_of_getElem? (i := 27) rfl)
theorem r_145_42 {h : HP} (w : RSk h) : h_mr h 145 42 = 174 := w.2 _ (List.mem_of_getElem? (i := 28) rfl)
theorem r_145_43 {h : HP} (w : RSk h) : h_mr h 145 43 = 175 := w.2 _ (List.mem_of_getElem? (i := 29) rfl)
theorem r_145_45 {h : HP} (w : RSk h) : h_mr h 145 45 = 176 := w.2 _ (List.mem_of_getElem? (i := 30) rfl)
theorem r_145_46 {h : HP} (w : RSk h) : h_mr h 145 46 = 177 := w.2 _ (List.mem_of_getElem? (i := 31) rfl)
theorem r_145_47 {h : HP} (w : RSk h) : h_mr h 145 47 = 178 := w.2 _ (List.mem_of_getElem? (i := 32) rfl)
theorem r_145_50 {h : HP} (w : RSk h) : h_mr h 145 50 = 179 := w.2 _ (List.mem_of_getElem? (i := 33) rfl)
theorem r_145_54 {h : HP} (w : RSk h) : h_mr h 145 54 = 180 := w.2 _ (List.mem_of_getElem? (i := 34) rfl)
theorem RSk.sc {A : Nat → Prop} {h h1 : HP} (w : RSk h) (p : Sc A h h1) : RSk h1 := by
  refine ⟨fun q hq => ?_, fun q hq => ?_⟩
  · rw [p.1, p.2.1]; exact w.1 q hq
  · rw [p.2.2.1]; exact w.2 q hq
def CSk_t : List (Nat × Nat × Nat) := [(100, 8, 0), (101, 6, 0), (102, 10, 1000), (103, 5, 0), (104, 11, 1000), (105, 12, 13), (106, 3, 0), (126, 11, 60), (127, 11, 60), (128, 11, 6), (129, 11, 6), (130, 1, 0), (131, 11, 20), (132, 11, 20), (133, 11, 200), (134, 7, 0), (135, 11, 60), (136, 11, 60), (137, 0, 0), (138, 11, 128), (139, 11, 128), (140, 13, 128), (141, 13, 128), (142, 11, 7), (143, 11, 7), (144, 14, 4)]
def CSk_r : List (Nat × Nat × Nat) := [(100, 0, 101), (100, 1, 103), (100, 2, 106), (100, 3, 130), (100, 4, 134), (100, 5, 137), (100, 6, 144), (101, 0, 102), (103, 0, 101), (103, 1, 104), (103, 2, 105), (106, 0, 126), (106, 1, 127), (106, 2, 128), (106, 3, 129), (130, 0, 131), (130, 1, 132), (130, 2, 133), (134, 0, 135), (134, 1, 136), (137, 0, 138), (137, 1, 139), (137, 2, 140), (137, 3, 141), (137, 4, 142), (137, 5, 143)]
def CSk (h : HP) : Prop := (∀ q ∈ CSk_t, h_kd h q.1 = q.2.1 ∧ h_ln h q.1 = q.2.2) ∧ ∀ q ∈ CSk_r, h_mr h q.1 q.2.1 = q.2.2
theorem k_100 {h : HP} (w : CSk h) : isK h 100 8 = true := isKc (w.1 _ (List.mem_of_getElem? (i := 0) rfl)).1
theorem n_100 {h : HP} (w : CSk h) : h_ln h 100 = 0 := (w.1 _ (List.mem_of_getElem? (i := 0) rfl)).2
theorem k_101 {h : HP} (w : CSk h) : isK h 101 6 = true := isKc (w.1 _ (List.mem_of_getElem? (i := 1) rfl)).1
theorem n_101 {h : HP} (w : CSk h) : h_ln h 101 = 0 := (w.1 _ (List.mem_of_getElem? (i := 1) rfl)).2
theorem k_102 {h : HP} (w : CSk h) : isK h 102 10 = true := isKc (w.1 _ (List.mem_of_getElem? (i := 2) rfl)).1
theorem n_102 {h : HP} (w : CSk h) : h_ln h 102 = 1000 := (w.1 _ (List.mem_of_getElem? (i := 2) rfl)).2
theorem k_103 {h : HP} (w : CSk h) : isK h 103 5 = true := isKc (w.1 _ (List.mem_of_getElem? (i := 3) rfl)).1
theorem n_103 {h : HP} (w : CSk h) : h_ln h 103 = 0 := (w.1 _ (List.mem_of_getElem? (i := 3) rfl)).2
theorem k_104 {h : HP} (w : CSk h) : isK h 104 11 = true := isKc (w.1 _ (List.mem_of_getElem? (i := 4) rfl)).1
theorem n_104 {h : HP} (w : CSk h) : h_ln h 104 = 1000 := (w.1 _ (List.mem_of_getElem? (i := 4) rfl)).2
theorem k_105 {h : HP} (w : CSk h) : isK h 105 12 = true := isKc (w.1 _ (List.mem_of_getElem? (i := 5) rfl)).1
theorem n_105 {h : HP} (w : CSk h) : h_ln h 105 = 13 := (w.1 _ (List.mem_of_getElem? (i := 5) rfl)).2
theorem k_106 {h : HP} (w : CSk h) : isK h 106 3 = true := isKc (w.1 _ (List.mem_of_getElem? (i := 6) rfl)).1
theorem n_106 {h : HP} (w : CSk h) : h_ln h 106 = 0 := (w.1 _ (List.mem_of_getElem? (i := 6) rfl)).2
theorem k_126 {h : HP} (w : CSk h) : isK h 126 11 = true := isKc (w.1 _ (List.mem_of_getElem? (i := 7) rfl)).1
theorem n_126 {h : HP} (w : CSk h) : h_ln h 126 = 60 := (w.1 _ (List.mem_of_getElem? (i := 7) rfl)).2
theorem k_127 {h : HP} (w : CSk h) : isK h 127 11 = true := isKc (w.1 _ (List.mem_of_getElem? (i := 8) rfl)).1
theorem n_127 {h : HP} (w : CSk h) : h_ln h 127 = 60 := (w.1 _ (List.mem_of_getElem? (i := 8) rfl)).2
theorem k_128 {h : HP} (w : CSk h) : isK h 128 11 = true := isKc (w.1 _ (List.mem_of_getElem? (i := 9) rfl)).1
theorem n_128 {h : HP} (w : CSk h) : h_ln h 128 = 6 := (w.1 _ (List.mem_of_getElem? (i := 9) rfl)).2
theorem k_129 {h : HP} (w : CSk h) : isK h 129 11 = true := isKc (w.1 _ (List.mem_of_getElem? (i := 10) rfl)).1
theorem n_129 {h : HP} (w : CSk h) : h_ln h 129 = 6 := (w.1 _ (List.mem_of_getElem? (i := 10) rfl)).2
theorem k_130 {h : HP} (w : CSk h) : isK h 130 1 = true := isKc (w.1 _ (List.mem_of_getElem? (i := 11) rfl)).1
theorem n_130 {h : HP} (w : CSk h) : h_ln h 130 = 0 := (w.1 _ (List.mem_of_getElem? (i := 11) rfl)).2
theorem k_131 {h : HP} (w : CSk h) : isK h 131 11 = true := isKc (w.1 _ (List.mem_of_getElem? (i := 12) rfl)).1
theorem n_131 {h : HP} (w : CSk h) : h_ln h 131 = 20 := (w.1 _ (List.mem_of_getElem? (i := 12) rfl)).2
theorem k_132 {h : HP} (w : CSk h) : isK h 132 11 = true := isKc (w.1 _ (List.mem_of_getElem? (i := 13) rfl)).1
theorem n_132 {h : HP} (w : CSk h) : h_ln h 132 = 20 := (w.1 _ (List.mem_of_getElem? (i := 13) rfl)).2
theorem k_133 {h : HP} (w : CSk h) : isK h 133 11 = true := isKc (w.1 _ (List.mem_of_getElem? (i := 14) rfl)).1
theorem n_133 {h : HP} (w : CSk h) : h_ln h 133 = 200 := (w.1 _ (List.mem_of_getElem? (i := 14) rfl)).2
theorem k_134 {h : HP} (w : CSk h) : isK h 134 7 = true := isKc (w.1 _ (List.mem_of_getElem? (i := 15) rfl)).1
theorem n_134 {h : HP} (w : CSk h) : h_ln h 134 = 0 := (w.1 _ (List.mem_of_getElem? (i := 15) rfl)).2
theorem k_135 {h : HP} (w : CSk h) : isK h 135 11 = true := isKc (w.1 _ (List.mem_of_getElem? (i := 16) rfl)).1
theorem n_135 {h : HP} (w : CSk h) : h_ln h 135 = 60 := (w.1 _ (List.mem_of_getElem? (i := 16) rfl)).2
theorem k_136 {h : HP} (w : CSk h) : isK h 136 11 = true := isKc (w.1 _ (List.mem_of_getElem? (i := 17) rfl)).1
theorem n_136 {h : HP} (w : CSk h) : h_ln h 136 = 60 := (w.1 _ (List.mem_of_getElem? (i := 17) rfl)).2
theorem k_137 {h : HP} (w : CSk h) : isK h 137 0 = true := isKc (w.1 _ (List.mem_of_getElem? (i := 18) rfl)).1
theorem n_137 {h : HP} (w : CSk h) : h_ln h 137 = 0 := (w.1 _ (List.mem_of_getElem? (i := 18) rfl)).2
theorem k_138 {h : HP} (w : CSk h) : isK h 138 11 = true := isKc (w.1 _ (List.mem_of_getElem? (i := 19) rfl)).1
theorem n_138 {h : HP} (w : CSk h) : h_ln h 138 = 128 := (w.1 _ (List.mem_of_getElem? (i := 19) rfl)).2
theorem k_139 {h : HP} (w : CSk h) : isK h 139 11 = true := isKc (w.1 _ (List.mem_of_getElem? (i := 20) rfl)).1
theorem n_139 {h : HP} (w : CSk h) : h_ln h 139 = 128 := (w.1 _ (List.mem_of_getElem? (i := 20) rfl)).2
theorem k_140 {h : HP} (w : CSk h) : isK h 140 13 = true := isKc (w.1 _ (List.mem_of_getElem? (i := 21) rfl)).1
theorem n_140 {h : HP} (w : CSk h) : h_ln h 140 = 128 := (w.1 _ (List.mem_of_getElem? (i := 21) rfl)).2
theorem k_141 {h : HP} (w : CSk h) : isK h 141 13 = true := isKc (w.1 _ (List.mem_of_getElem? (i := 22) rfl)).1
theorem n_141 {h : HP} (w : CSk h) : h_ln h 141 = 128 := (w.1 _ (List.mem_of_getElem? (i := 22) rfl)).2
theorem k_142 {h : HP} (w : CSk h) : isK h 142 11 = true := isKc (w.1 _ (List.mem_of_getElem? (i := 23) rfl)).1
theorem n_142 {h : HP} (w : CSk h) : h_ln h 142 = 7 := (w.1 _ (List.mem_of_getElem? (i := 23) rfl)).2
theorem k_143 {h : HP} (w : CSk h) : isK h 143 11 = true := isKc (w.1 _ (List.mem_of_getElem? (i := 24) rfl)).1
theorem n_143 {h : HP} (w : CSk h) : h_ln h 143 = 7 := (w.1 _ (List.mem_of_getElem? (i := 24) rfl)).2
theorem k_144 {h : HP} (w : CSk h) : isK h 144 14 = true := isKc (w.1 _ (List.mem_of_getElem? (i := 25) rfl)).1
theorem n_144 {h : HP} (w : CSk h) : h_ln h 144 = 4 := (w.1 _ (List.mem_of_getElem? (i := 25) rfl)).2
theorem b_102 {h : HP} (w : CSk h) (i : Int) : inb h 102 i = (decide (0 ≤ i) && decide (i < (1000 : Int))) := by unfold inb; rw [n_102 w]; rfl
theorem b_104 {h : HP} (w : CSk h) (i : Int) : inb h 104 i = (decide (0 ≤ i) && decide (i < (1000 : Int))) := by unfold inb; rw [n_104 w]; rfl
theorem b_105 {h : HP} (w : CSk h) (i : Int) : inb h 105 i = (decide (0 ≤ i) && decide (i < (13 : Int))) := by unfold inb; rw [n_105 w]; rfl
theorem b_126 {h : HP} (w : CSk h) (i : Int) : inb h 126 i = (decide (0 ≤ i) && decide (i < (60 : Int))) := by unfold inb; rw [n_126 w]; rfl
theorem b_127 {h : HP} (w : CSk h) (i : Int) : inb h 127 i = (decide (0 ≤ i) && decide (i < (60 : Int))) := by unfold inb; rw [n_127 w]; rfl
theorem b_128 {h : HP} (w : CSk h) (i : Int) : inb h 128 i = (decide (0 ≤ i) && decide (i < (6 : Int))) := by unfold inb; rw [n_128 w]; rfl
theorem b_129 {h : HP} (w : CSk h) (i : Int) : inb h 129 i = (decide (0 ≤ i) && decide (i < (6 : Int))) := by unfold inb; rw [n_129 w]; rfl
theorem b_131 {h : HP} (w : CSk h) (i : Int) : inb h 131 i = (decide (0 ≤ i) && decide (i < (20 : Int))) := by unfold inb; rw [n_131 w]; rfl
theorem b_132 {h : HP} (w : CSk h) (i : Int) : inb h 132 i = (decide (0 ≤ i) && decide (i < (20 : Int))) := by unfold inb; rw [n_132 w]; rfl
theorem b_133 {h : HP} (w : CSk h) (i : Int) : inb h 133 i = (decide (0 ≤ i) && decide (i < (200 : Int))) := by unfold inb; rw [n_133 w]; rfl
theorem b_135 {h : HP} (w : CSk h) (i : Int) : inb h 135 i = (decide (0 ≤ i) && decide (i < (60 : Int))) := by unfold inb; rw [n_135 w]; rfl
theorem b_136 {h : HP} (w : CSk h) (i : Int) : inb h 136 i = (decide (0 ≤ i) && decide (i < (60 : Int))) := by unfold inb; rw [n_136 w]; rfl
theorem b_138 {h : HP} (w : CSk h) (i : Int) : inb h 138 i = (decide (0 ≤ i) && decide (i < (128 : Int))) := by unfold inb; rw [n_138 w]; rfl
theorem b_139 {h : HP} (w : CSk h) (i : Int) : inb h 139 i = (decide (0 ≤ i) && decide (i < (128 : Int))) := by unfold inb; rw [n_139 w]; rfl
theorem b_140 {h : HP} (w : CSk h) (i : Int) : inb h 140 i = (decide (0 ≤ i) && decide (i < (128 : Int))) := by unfold inb; rw [n_140 w]; rfl
theorem b_141 {h : HP} (w : CSk h) (i : Int) : inb h 141 i = (decide (0 ≤ i) && decide (i < (128 : Int))) := by unfold inb; rw [n_141 w]; rfl
theorem b_142 {h : HP} (w : CSk h) (i : Int) : inb h 142 i = (decide (0 ≤ i) && decide (i < (7 : Int))) := by unfold inb; rw [n_142 w]; rfl
theorem b_143 {h : HP} (w : CSk h) (i : Int) : inb h 143 i = (decide (0 ≤ i) && decide (i < (7 : Int))) := by unfold inb; rw [n_143 w]; rfl
theorem b_144 {h : HP} (w : CSk h) (i : Int) : inb h 144 i = (decide (0 ≤ i) && decide (i < (4 : Int))) := by unfold inb; rw [n_144 w]; rfl
theorem r_100_0 {h : HP} (w : CSk h) : h_mr h 100 0 = 101 := w.2 _ (List.mem_of_getElem? (i := 0) rfl)
theorem r_100_1 {h : HP} (w : CSk h) : h_mr h 100 1 = 103 := w.2 _ (List.mem_of_getElem? (i := 1) rfl)
theorem r_100_2 {h : HP} (w : CSk h) : h_mr h 100 2 = 106 := w.2 _ (List.mem_of_getElem? (i := 2) rfl)
theorem r_100_3 {h : HP} (w : CSk h) : h_mr h 100 3 = 130 := w.2 _ (List.mem_of_getElem? (i := 3) rfl)
theorem r_100_4 {h : HP} (w : CSk h) : h_mr h 100 4 = 134 := w.2 _ (List.mem_of_getElem? (i := 4) rfl)
theorem r_100_5 {h : HP} (w : CSk h) : h_mr h 100 5 = 137 := w.2 _ (List.mem_of_getElem? (i := 5) rfl)
theorem r_100_6 {h : HP} (w : CSk h) : h_mr h 100 6 = 144 := w.2 _ (List.mem_of_getElem? (i := 6) rfl)
theorem r_101_0 {h : HP} (w : CSk h) : h_mr h 101 0 = 102 := w.2 _ (List.mem_of_getElem? (i := 7) rfl)
theorem r_103_0 {h : HP} (w : CSk h) : h_mr h 103 0 = 101 := w.2 _ (List.mem_of_getElem? (i := 8) rfl)
theorem r_103_1 {h : HP} (w : CSk h) : h_mr h 103 1 = 104 := w.2 _ (List.mem_of_getElem? (i := 9) rfl)
theorem r_103_2 {h : HP} (w : CSk h) : h_mr h 103 2 = 105 := w.2 _ (List.mem_of_getElem? (i := 10) rfl)
theorem r_106_0 {h : HP} (w : CSk h) : h_mr h 106 0 = 126 := w.2 _ (List.mem_of_getElem? (i := 11) rfl)
theorem r_106_1 {h : HP} (w : CSk h) : h_mr h 106 1 = 127 := w.2 _ (List.mem_of_getElem? (i := 12) rfl)
theorem r_106_2 {h : HP} (w : CSk h) : h_mr h 106 2 = 128 := w.2 _ (List.mem_of_getElem? (i := 13) rfl)
theorem r_106_3 {h : HP} (w : CSk h) : h_mr h 106 3 = 129 := w.2 _ (List.mem_of_getElem? (i := 14) rfl)
theorem r_130_0 {h : HP} (w : CSk h) : h_mr h 130 0 = 131 := w.2 _ (List.mem_of_getElem? (i := 15) rfl)
theorem r_130_1 {h : HP} (w : CSk h) : h_mr h 130 1 = 132 := w.2 _ (List.mem_of_getElem? (i := 16) rfl)
theorem r_130_2 {h : HP} (w : CSk h) : h_mr h 130 2 = 133 := w.2 _ (List.mem_of_getElem? (i := 17) rfl)
theorem r_134_0 {h : HP} (w : CSk h) : h_mr h 134 0 = 135 := w.2 _ (List.mem_of_getElem? (i := 18) rfl)
theorem r_134_1 {h : HP} (w : CSk h) : h_mr h 134 1 = 136 := w.2 _ (List.mem_of_getElem? (i := 19) rfl)
theorem r_137_0 {h : HP} (w : CSk h) : h_mr h 137 0 = 138 := w.2 _ (List.mem_of_getElem? (i := 20) rfl)
theorem r_137_1 {h : HP} (w : CSk h) : h_mr h 137 1 = 139 := w.2 _ (List.mem_of_getElem? (i := 21) rfl)
theorem r_137_2 {h : HP} (w : CSk h) : h_mr h 137 2 = 140 := w.2 _ (List.mem_of_getElem? (i := 22) rfl)
theorem r_137_3 {h : HP} (w : CSk h) : h_mr h 137 3 = 141 := w.2 _ (List.mem_of_getElem? (i := 23) rfl)
theorem r_137_4 {h : HP} (w : CSk h) : h_mr h 137 4 = 142 := w.2 _ (List.mem_of_getElem? (i := 24) rfl)
theorem r_137_5 {h : HP} (w : CSk h) : h_mr h 137 5 = 143 := w.2 _ (List.mem_of_getElem? (i := 25) rfl)
theorem CSk.sc {A : Nat → Prop} {h h1 : HP} (w : CSk h) (p : Sc A h h1) : CSk h1 := by
  refine ⟨fun q hq => ?_, fun q hq => ?_⟩
  · rw [p.1, p.2.1]; exact w.1 q hq
  · rw [p.2.2.1]; exact w.2 q hq
theorem ncast (n : Nat) : (Nat.cast (no_index (OfNat.ofNat n)) : Int) = OfNat.ofNat n := rfl
def Fj (t : Nat) (h : HP) : Prop := (t = 107 ∨ 182 ≤ t) ∧ h_kd h t = 2 ∧ (∀ i, i < 10 → h_kd h (t + (i + 1)) = 11 ∧ h_ln h (t + (i + 1)) = ([60, 60, 6, 6, 6, 7, 7, 7, 9, 32] : List Nat).getD i 0) ∧ (∀ j, j < 10 → h_mr h t (j + 2) = t + (j + 1)) ∧ ∀ j, j < 4 → h_kd h (h_mr h t (j + 15)) = 4 ∧ h_mr h (h_mr h t (j + 15)) 0 = h_mr h t (j + 15) + 1 ∧ h_kd h (h_mr h t (j + 15) + 1) = 11
theorem Fj.lt {t : Nat} {h : HP} (f : Fj t h) : t = 107 ∨ 182 ≤ t := f.1
theorem fk_0 {t : Nat} {h : HP} (f : Fj t h) : isK h t 2 = true := isKc f.2.1
theorem fk_1 {t : Nat} {h : HP} (f : Fj t h) : isK h (t + 1) 11 = true := isKc (f.2.2.1 0 (by omega)).1
theorem fn_1 {t : Nat} {h : HP} (f : Fj t h) : h_ln h (t + 1) = 60 := (f.2.2.1 0 (by omega)).2
theorem fb_1 {t : Nat} {h : HP} (f : Fj t h) (i : Int) : inb h (t + 1) i = (decide (0 ≤ i) && decide (i < (60 : Int))) := by unfold inb; rw [fn_1 f]; rfl
theorem fr_2 {t : Nat} {h : HP} (f : Fj t h) : h_mr h t 2 = t + 1 := f.2.2.2.1 0 (by omega)
theorem fk_2 {t : Nat} {h : HP} (f : Fj t h) : isK h (t + 2) 11 = true := isKc (f.2.2.1 1 (by omega)).1
theorem fn_2 {t : Nat} {h : HP} (f : Fj t h) : h_ln h (t + 2) = 60 := (f.2.2.1 1 (by omega)).2
theorem fb_2 {t : Nat} {h : HP} (f : Fj t h) (i : Int) : inb h (t + 2) i = (decide (0 ≤ i) && decide (i < (60 : Int))) := by unfold inb; rw [fn_2 f]; rfl
theorem fr_3 {t : Nat} {h : HP} (f : Fj t h) : h_mr h t 3 = t + 2 := f.2.2.2.1 1 (by omega)
theorem fk_3 {t : Nat} {h : HP} (f : Fj t h) : isK h (t + 3) 11 = true := isKc (f.2.2.1 2 (by omega)).1
theorem fn_3 {t : Nat} {h : HP} (f : Fj t h) : h_ln h (t + 3) = 6 := (f.2.2.1 2 (by omega)).2
theorem fb_3 {t : Nat} {h : HP} (f : Fj t h) (i : Int) : inb h (t + 3) i = (decide (0 ≤ i) && decide (i < (6 : Int))) := by unfold inb; rw [fn_3 f]; rfl
theorem fr_4 {t : Nat} {h : HP} (f : Fj t h) : h_mr h t 4 = t + 3 := f.2.2.2.1 2 (by omega)
theorem fk_4 {t : Nat} {h : HP} (f : Fj t h) : isK h (t + 4) 11 = true := isKc (f.2.2.1 3 (by omega)).1
theorem fn_4 {t : Nat} {h : HP} (f : Fj t h) : h_ln h (t + 4) = 6 := (f.2.2.1 3 (by omega)).2
theorem fb_4 {t : Nat} {h : HP} (f : Fj t h) (i : Int) : inb h (t + 4) i = (decide (0 ≤ i) && decide (i < (6 : Int))) := by unfold inb; rw [fn_4 f]; rfl
theorem fr_5 {t : Nat} {h : HP} (f : Fj t h) : h_mr h t 5 = t + 4 := f.2.2.2.1 3 (by omega)
theorem fk_5 {t : Nat} {h : HP} (f : Fj t h) : isK h (t + 5) 11 = true := isKc (f.2.2.1 4 (by omega)).1
theorem fn_5 {t : Nat} {h : HP} (f : Fj t h) : h_ln h (t + 5) = 6 := (f.2.2.1 4 (by omega)).2
theorem fb_5 {t : Nat} {h : HP} (f : Fj t h) (i : Int) : inb h (t + 5) i = (decide (0 ≤ i) && decide (i < (6 : Int))) := by unfold inb; rw [fn_5 f]; rfl
theorem fr_6 {t : Nat} {h : HP} (f : Fj t h) : h_mr h t 6 = t + 5 := f.2.2.2.1 4 (by omega)
theorem fk_6 {t : Nat} {h : HP} (f : Fj t h) : isK h (t + 6) 11 = true := isKc (f.2.2.1 5 (by omega)).1
theorem fn_6 {t : Nat} {h : HP} (f : Fj t h) : h_ln h (t + 6) = 7 := (f.2.2.1 5 (by omega)).2
theorem fb_6 {t : Nat} {h : HP} (f : Fj t h) (i : Int) : inb h (t + 6) i = (decide (0 ≤ i) && decide (i < (7 : Int))) := by unfold inb; rw [fn_6 f]; rfl
theorem fr_7 {t : Nat} {h : HP} (f : Fj t h) : h_mr h t 7 = t + 6 := f.2.2.2.1 5 (by omega)
theorem fk_7 {t : Nat} {h : HP} (f : Fj t h) : isK h (t + 7) 11 = true := isKc (f.2.2.1 6 (by omega)).1
theorem fn_7 {t : Nat} {h : HP} (f : Fj t h) : h_ln h (t + 7) = 7 := (f.2.2.1 6 (by omega)).2
theorem fb_7 {t : Nat} {h : HP} (f : Fj t h) (i : Int) : inb h (t + 7) i = (decide (0 ≤ i) && decide (i < (7 : Int))) := by unfold inb; rw [fn_7 f]; rfl
theorem fr_8 {t : Nat} {h : HP} (f : Fj t h) : h_mr h t 8 = t + 7 := f.2.2.2.1 6 (by omega)
theorem fk_8 {t : Nat} {h : HP} (f : Fj t h) : isK h (t + 8) 11 = true := isKc (f.2.2.1 7 (by omega)).1
theorem fn_8 {t : Nat} {h : HP} (f : Fj t h) : h_ln h (t + 8) = 7 := (f.2.2.1 7 (by omega)).2
theorem fb_8 {t : Nat} {h : HP} (f : Fj t h) (i : Int) : inb h (t + 8) i = (decide (0 ≤ i) && decide (i < (7 : Int))) := by unfold inb; rw [fn_8 f]; rfl
theorem fr_9 {t : Nat} {h : HP} (f : Fj t h) : h_mr h t 9 = t + 8 := f.2.2.2.1 7 (by omega)
theorem fk_9 {t : Nat} {h : HP} (f : Fj t h) : isK h (t + 9) 11 = true := isKc (f.2.2.1 8 (by omega)).1
theorem fn_9 {t : Nat} {h : HP} (f : Fj t h) : h_ln h (t + 9) = 9 := (f.2.2.1 8 (by omega)).2
theorem fb_9 {t : Nat} {h : HP} (f : Fj t h) (i : Int) : inb h (t + 9) i = (decide (0 ≤ i) && decide (i < (9 : Int))) := by unfold inb; rw [fn_9 f]; rfl
theorem fr_10 {t : Nat} {h : HP} (f : Fj t h) : h_mr h t 10 = t + 9 := f.2.2.2.1 8 (by omega)
theorem fk_10 {t : Nat} {h : HP} (f : Fj t h) : isK h (t + 10) 11 = true := isKc (f.2.2.1 9 (by omega)).1
theorem fn_10 {t : Nat} {h : HP} (f : Fj t h) : h_ln h (t + 10) = 32 := (f.2.2.1 9 (by omega)).2
theorem fb_10 {t : Nat} {h : HP} (f : Fj t h) (i : Int) : inb h (t + 10) i = (decide (0 ≤ i) && decide (i < (32 : Int))) := by unfold inb; rw [fn_10 f]; rfl
theorem fr_11 {t : Nat} {h : HP} (f : Fj t h) : h_mr h t 11 = t + 10 := f.2.2.2.1 9 (by omega)
theorem fl_15 {t : Nat} {h : HP} (f : Fj t h) : isK h (h_mr h t 15) 4 = true := isKc (f.2.2.2.2 0 (by omega)).1
theorem fd_15 {t : Nat} {h : HP} (f : Fj t h) : h_mr h (h_mr h t 15) 0 = h_mr h t 15 + 1 := (f.2.2.2.2 0 (by omega)).2.1
theorem fc_15 {t : Nat} {h : HP} (f : Fj t h) : isK h (h_mr h t 15 + 1) 11 = true := isKc (f.2.2.2.2 0 (by omega)).2.2
theorem fl_16 {t : Nat} {h : HP} (f : Fj t h) : isK h (h_mr h t 16) 4 = true := isKc (f.2.2.2.2 1 (by omega)).1
theorem fd_16 {t : Nat} {h : HP} (f : Fj t h) : h_mr h (h_mr h t 16) 0 = h_mr h t 16 + 1 := (f.2.2.2.2 1 (by omega)).2.1
theorem fc_16 {t : Nat} {h : HP} (f : Fj t h) : isK h (h_mr h t 16 + 1) 11 = true := isKc (f.2.2.2.2 1 (by omega)).2.2
theorem fl_17 {t : Nat} {h : HP} (f : Fj t h) : isK h (h_mr h t 17) 4 = true := isKc (f.2.2.2.2 2 (by omega)).1
theorem fd_17 {t : Nat} {h : HP} (f : Fj t h) : h_mr h (h_mr h t 17) 0 = h_mr h t 17 + 1 := (f.2.2.2.2 2 (by omega)).2.1
theorem fc_17 {t : Nat} {h : HP} (f : Fj t h) : isK h (h_mr h t 17 + 1) 11 = true := isKc (f.2.2.2.2 2 (by omega)).2.2
theorem fl_18 {t : Nat} {h : HP} (f : Fj t h) : isK h (h_mr h t 18) 4 = true := isKc (f.2.2.2.2 3 (by omega)).1
theorem fd_18 {t : Nat} {h : HP} (f : Fj t h) : h_mr h (h_mr h t 18) 0 = h_mr h t 18 + 1 := (f.2.2.2.2 3 (by omega)).2.1
theorem fc_18 {t : Nat} {h : HP} (f : Fj t h) : isK h (h_mr h t 18 + 1) 11 = true := isKc (f.2.2.2.2 3 (by omega)).2.2
theorem Fj.sc {A : Nat → Prop} {t : Nat} {h h1 : HP} (f : Fj t h) (p : Sc A h h1) : Fj t h1 := by
  unfold Fj
  rw [p.1, p.2.1, p.2.2.1]
  exact f
/-- the statics, but for the script -/
def slnS (a : Nat) : Nat := if a = 36 then 35 else if a = 37 then 5 else if a = 38 then 4 else if a = 39 then 35 else if a = 42 then 8 else 0
def smiS (a k : Nat) : Int := if a ≤ 35 then (if k = 1 then en_group.getD (a - 1) 0 else if k = 2 then en_number.getD (a - 1) 0 else if k = 3 then en_fact.getD (a - 1) 0 else if k = 4 then ((a : Int) - 1) else 0)
  else if a = 37 then st_wears.getD k 0 else if a = 38 then st_facts.getD k 0 else if a = 39 then st_switch.getD k 0 else if a = 42 then st_bytes.getD k 0 else 0
def Stt (h : HP) : Prop := ∀ a, a < 43 → a ≠ 40 → h_kd h a = skd a ∧ h_ln h a = slnS a ∧ (∀ k, h_mi h a k = smiS a k) ∧ h_ml h a 0 = sml a ∧ ∀ k, h_mr h a k = smr a k
theorem ks_36 {h : HP} (st : Stt h) : isK h 36 11 = false ∧ isK h 36 22 = true ∧ isK h 36 21 = false ∧ isK h 36 24 = false ∧ isK h 36 10 = false ∧ isK h 36 12 = false ∧ isK h 36 14 = false := by
  have e := (st 36 (by omega) (by omega)).1
  unfold isK
  rw [e]
  exact ⟨rfl, rfl, rfl, rfl, rfl, rfl, rfl⟩
theorem ns_36 {h : HP} (st : Stt h) : h_ln h 36 = 35 := (st 36 (by omega) (by omega)).2.1
theorem bs_36 {h : HP} (st : Stt h) (i : Int) : inb h 36 i = (decide (0 ≤ i) && decide (i < (35 : Int))) := by unfold inb; rw [ns_36 st]; rfl
theorem ks_37 {h : HP} (st : Stt h) : isK h 37 11 = false ∧ isK h 37 22 = false ∧ isK h 37 21 = true ∧ isK h 37 24 = false ∧ isK h 37 10 = false ∧ isK h 37 12 = false ∧ isK h 37 14 = false := by
  have e := (st 37 (by omega) (by omega)).1
  unfold isK
  rw [e]
  exact ⟨rfl, rfl, rfl, rfl, rfl, rfl, rfl⟩
theorem ns_37 {h : HP} (st : Stt h) : h_ln h 37 = 5 := (st 37 (by omega) (by omega)).2.1
theorem bs_37 {h : HP} (st : Stt h) (i : Int) : inb h 37 i = (decide (0 ≤ i) && decide (i < (5 : Int))) := by unfold inb; rw [ns_37 st]; rfl
theorem ks_38 {h : HP} (st : Stt h) : isK h 38 11 = false ∧ isK h 38 22 = false ∧ isK h 38 21 = true ∧ isK h 38 24 = false ∧ isK h 38 10 = false ∧ isK h 38 12 = false ∧ isK h 38 14 = false := by
  have e := (st 38 (by omega) (by omega)).1
  unfold isK
  rw [e]
  exact ⟨rfl, rfl, rfl, rfl, rfl, rfl, rfl⟩
theorem ns_38 {h : HP} (st : Stt h) : h_ln h 38 = 4 := (st 38 (by omega) (by omega)).2.1
theorem bs_38 {h : HP} (st : Stt h) (i : Int) : inb h 38 i = (decide (0 ≤ i) && decide (i < (4 : Int))) := by unfold inb; rw [ns_38 st]; rfl
theorem ks_39 {h : HP} (st : Stt h) : isK h 39 11 = false ∧ isK h 39 22 = false ∧ isK h 39 21 = true ∧ isK h 39 24 = false ∧ isK h 39 10 = false ∧ isK h 39 12 = false ∧ isK h 39 14 = false := by
  have e := (st 39 (by omega) (by omega)).1
  unfold isK
  rw [e]
  exact ⟨rfl, rfl, rfl, rfl, rfl, rfl, rfl⟩
theorem ns_39 {h : HP} (st : Stt h) : h_ln h 39 = 35 := (st 39 (by omega) (by omega)).2.1
theorem bs_39 {h : HP} (st : Stt h) (i : Int) : inb h 39 i = (decide (0 ≤ i) && decide (i < (35 : Int))) := by unfold inb; rw [ns_39 st]; rfl
theorem Stt.sc {A : Nat → Prop} {h h1 : HP} (st : Stt h) (p : Sc A h h1) (hA : ∀ a, A a → 43 ≤ a) : Stt h1 := by
  intro a h9 h8
  have hn : ¬ A a := fun z => by have := hA a z; omega
  rw [p.1, p.2.1, p.2.2.1, p.mi hn, p.ml hn]
  exact st a h9 h8
theorem bI_s (x : Int) (h : HP) (f : Int → HP → RS) : bI (some (vi x, h)) f = f x h := rfl
theorem bV_s (a : Nat) (h : HP) (f : HP → RS) : bV (some (vr a, h)) f = f h := rfl
theorem bR_s (a : Nat) (h : HP) (f : Nat → HP → RS) : bR (some (vr a, h)) f = f a h := rfl
theorem zb : (∀ a b : RS, cond true a b = a) ∧ (∀ a b : RS, cond false a b = b) ∧ (∀ b, (true || b) = true) ∧ (∀ b, (b || true) = true) ∧ (∀ b, (false || b) = b) ∧ (∀ b, (true && b) = b) ∧ ∀ b, (b && true) = b := ⟨fun _ _ => rfl, fun _ _ => rfl, fun _ => rfl, Bool.or_true, fun _ => rfl, fun _ => rfl, Bool.and_true⟩
theorem zd : (∀ b, (b || false) = b) ∧ (∀ b, (b && false) = false) ∧ (∀ b, (false && b) = false) ∧ ((!false) = true) ∧ ((!true) = false) := ⟨Bool.or_false, Bool.and_false, fun _ => rfl, rfl, rfl⟩
theorem zs : (∀ h a k v, h_mi (sI h a k v) a = va_up (h_mi h a) k v) ∧ (∀ h a k v, h_ml (sL h a k v) a = va_up (h_ml h a) k v) ∧ (∀ h a k v, h_mr (sR h a k v) a = va_up (h_mr h a) k v) ∧ (∀ h a f, h_mi (sRi h a f) a = f) ∧ (∀ (f : Nat → Int) k v, va_up f k v k = v) ∧ ∀ (f : Nat → Nat) k v, va_up f k v k = v := ⟨miI_eq, mlL_eq, mrR_eq, mi9_eq, up_eq, up_eq⟩
theorem z_sI : (∀ h a k v b c, isK (sI h a k v) b c = isK h b c) ∧ (∀ h a k v b i, inb (sI h a k v) b i = inb h b i) ∧ (∀ h a k v, h_ln (sI h a k v) = h_ln h) ∧ (∀ h a k v, h_ml (sI h a k v) = h_ml h) ∧ (∀ h a k v, h_mr (sI h a k v) = h_mr h) := ⟨fun _ _ _ _ _ _ => rfl, fun _ _ _ _ _ _ => rfl, fun _ _ _ _ => rfl, fun _ _ _ _ => rfl, fun _ _ _ _ => rfl⟩
theorem z_sL : (∀ h a k v b c, isK (sL h a k v) b c = isK h b c) ∧ (∀ h a k v b i, inb (sL h a k v) b i = inb h b i) ∧ (∀ h a k v, h_ln (sL h a k v) = h_ln h) ∧ (∀ h a k v, h_mi (sL h a k v) = h_mi h) ∧ (∀ h a k v, h_mr (sL h a k v) = h_mr h) := ⟨fun _ _ _ _ _ _ => rfl, fun _ _ _ _ _ _ => rfl, fun _ _ _ _ => rfl, fun _ _ _ _ => rfl, fun _ _ _ _ => rfl⟩
theorem z_sR : (∀ h a k v b c, isK (sR h a k v) b c = isK h b c) ∧ (∀ h a k v b i, inb (sR h a k v) b i = inb h b i) ∧ (∀ h a k v, h_ln (sR h a k v) = h_ln h) ∧ (∀ h a k v, h_mi (sR h a k v) = h_mi h) ∧ (∀ h a k v, h_ml (sR h a k v) = h_ml h) := ⟨fun _ _ _ _ _ _ => rfl, fun _ _ _ _ _ _ => rfl, fun _ _ _ _ => rfl, fun _ _ _ _ => rfl, fun _ _ _ _ => rfl⟩
theorem z_sRi : (∀ h a f b c, isK (sRi h a f) b c = isK h b c) ∧ (∀ h a f b i, inb (sRi h a f) b i = inb h b i) ∧ (∀ h a f, h_ln (sRi h a f) = h_ln h) ∧ (∀ h a f, h_ml (sRi h a f) = h_ml h) ∧ (∀ h a f, h_mr (sRi h a f) = h_mr h) := ⟨fun _ _ _ _ _ => rfl, fun _ _ _ _ _ => rfl, fun _ _ _ => rfl, fun _ _ _ => rfl, fun _ _ _ => rfl⟩
