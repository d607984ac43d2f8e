/-! the abstract heap: stores, frames, the fixed cells -/
theorem isK_sRi (h : HP) (a : Nat) (f : Nat → Int) (b c : Nat) : isK (sRi h a f) b c = isK h b c := rfl
theorem kd9_sRi (h : HP) (a : Nat) (f : Nat → Int) : h_kd (sRi h a f) = h_kd h := rfl
theorem ln9_sRi (h : HP) (a : Nat) (f : Nat → Int) : h_ln (sRi h a f) = h_ln h := rfl
theorem sz9_sRi (h : HP) (a : Nat) (f : Nat → Int) : h_sz (sRi h a f) = h_sz h := rfl
theorem sl9_sRi (h : HP) (a : Nat) (f : Nat → Int) : h_sl (sRi h a f) = h_sl h := rfl
theorem inb_sRi (h : HP) (a : Nat) (f : Nat → Int) (b : Nat) (i : Int) : inb (sRi h a f) b i = inb h b i := rfl
theorem ml9_sRi (h : HP) (a : Nat) (f : Nat → Int) : h_ml (sRi h a f) = h_ml h := rfl
theorem mr9_sRi (h : HP) (a : Nat) (f : Nat → Int) : h_mr (sRi h a f) = h_mr h := rfl
theorem isK_sRl (h : HP) (a : Nat) (f : Nat → Int) (b c : Nat) : isK (sRl h a f) b c = isK h b c := rfl
theorem kd9_sRl (h : HP) (a : Nat) (f : Nat → Int) : h_kd (sRl h a f) = h_kd h := rfl
theorem ln9_sRl (h : HP) (a : Nat) (f : Nat → Int) : h_ln (sRl h a f) = h_ln h := rfl
theorem sz9_sRl (h : HP) (a : Nat) (f : Nat → Int) : h_sz (sRl h a f) = h_sz h := rfl
theorem sl9_sRl (h : HP) (a : Nat) (f : Nat → Int) : h_sl (sRl h a f) = h_sl h := rfl
theorem inb_sRl (h : HP) (a : Nat) (f : Nat → Int) (b : Nat) (i : Int) : inb (sRl h a f) b i = inb h b i := rfl
theorem mi9_sRl (h : HP) (a : Nat) (f : Nat → Int) : h_mi (sRl h a f) = h_mi h := rfl
theorem mr9_sRl (h : HP) (a : Nat) (f : Nat → Int) : h_mr (sRl h a f) = h_mr h := rfl
theorem isK_sRr (h : HP) (a : Nat) (f : Nat → Nat) (b c : Nat) : isK (sRr h a f) b c = isK h b c := rfl
theorem kd9_sRr (h : HP) (a : Nat) (f : Nat → Nat) : h_kd (sRr h a f) = h_kd h := rfl
theorem ln9_sRr (h : HP) (a : Nat) (f : Nat → Nat) : h_ln (sRr h a f) = h_ln h := rfl
theorem sz9_sRr (h : HP) (a : Nat) (f : Nat → Nat) : h_sz (sRr h a f) = h_sz h := rfl
theorem sl9_sRr (h : HP) (a : Nat) (f : Nat → Nat) : h_sl (sRr h a f) = h_sl h := rfl
theorem inb_sRr (h : HP) (a : Nat) (f : Nat → Nat) (b : Nat) (i : Int) : inb (sRr h a f) b i = inb h b i := rfl
theorem mi9_sRr (h : HP) (a : Nat) (f : Nat → Nat) : h_mi (sRr h a f) = h_mi h := rfl
theorem ml9_sRr (h : HP) (a : Nat) (f : Nat → Nat) : h_ml (sRr h a f) = h_ml h := rfl
theorem isK_sI (h : HP) (a k : Nat) (v : Int) (b c : Nat) : isK (sI h a k v) b c = isK h b c := rfl
theorem kd9_sI (h : HP) (a k : Nat) (v : Int) : h_kd (sI h a k v) = h_kd h := rfl
theorem ln9_sI (h : HP) (a k : Nat) (v : Int) : h_ln (sI h a k v) = h_ln h := rfl
theorem sz9_sI (h : HP) (a k : Nat) (v : Int) : h_sz (sI h a k v) = h_sz h := rfl
theorem sl9_sI (h : HP) (a k : Nat) (v : Int) : h_sl (sI h a k v) = h_sl h := rfl
theorem inb_sI (h : HP) (a k : Nat) (v : Int) (b : Nat) (i : Int) : inb (sI h a k v) b i = inb h b i := rfl
theorem ml9_sI (h : HP) (a k : Nat) (v : Int) : h_ml (sI h a k v) = h_ml h := rfl
theorem mr9_sI (h : HP) (a k : Nat) (v : Int) : h_mr (sI h a k v) = h_mr h := rfl
theorem isK_sL (h : HP) (a k : Nat) (v : Int) (b c : Nat) : isK (sL h a k v) b c = isK h b c := rfl
theorem kd9_sL (h : HP) (a k : Nat) (v : Int) : h_kd (sL h a k v) = h_kd h := rfl
theorem ln9_sL (h : HP) (a k : Nat) (v : Int) : h_ln (sL h a k v) = h_ln h := rfl
theorem sz9_sL (h : HP) (a k : Nat) (v : Int) : h_sz (sL h a k v) = h_sz h := rfl
theorem sl9_sL (h : HP) (a k : Nat) (v : Int) : h_sl (sL h a k v) = h_sl h := rfl
theorem inb_sL (h : HP) (a k : Nat) (v : Int) (b : Nat) (i : Int) : inb (sL h a k v) b i = inb h b i := rfl
theorem mi9_sL (h : HP) (a k : Nat) (v : Int) : h_mi (sL h a k v) = h_mi h := rfl
theorem mr9_sL (h : HP) (a k : Nat) (v : Int) : h_mr (sL h a k v) = h_mr h := rfl
theorem isK_sR (h : HP) (a k v : Nat) (b c : Nat) : isK (sR h a k v) b c = isK h b c := rfl
theorem kd9_sR (h : HP) (a k v : Nat) : h_kd (sR h a k v) = h_kd h := rfl
theorem ln9_sR (h : HP) (a k v : Nat) : h_ln (sR h a k v) = h_ln h := rfl
theorem sz9_sR (h : HP) (a k v : Nat) : h_sz (sR h a k v) = h_sz h := rfl
theorem sl9_sR (h : HP) (a k v : Nat) : h_sl (sR h a k v) = h_sl h := rfl
theorem inb_sR (h : HP) (a k v : Nat) (b : Nat) (i : Int) : inb (sR h a k v) b i = inb h b i := rfl
theorem mi9_sR (h : HP) (a k v : Nat) : h_mi (sR h a k v) = h_mi h := rfl
theorem ml9_sR (h : HP) (a k v : Nat) : h_ml (sR h a k v) = h_ml h := rfl
theorem up_eq {β : Type} (f : Nat → β) (k : Nat) (v : β) : va_up f k v k = v := by simp [va_up]
theorem up_ne {β : Type} (f : Nat → β) {k j : Nat} (v : β) (h : j ≠ k) : va_up f k v j = f j := by simp [va_up, h]
theorem up_if {β : Type} (f : Nat → β) (k j : Nat) (v : β) : va_up f k v j = if j = k then v else f j := rfl
theorem up_up {β : Type} (f : Nat → β) (k : Nat) (v u : β) : va_up (va_up f k v) k u = va_up f k u := by funext j; simp only [up_if]; split <;> rfl
theorem up_self {β : Type} (f : Nat → β) (k : Nat) : va_up f k (f k) = f := by funext j; simp only [up_if]; split <;> simp_all
theorem up_comm {β : Type} (f : Nat → β) {k j : Nat} (v u : β) (h : k ≠ j) : va_up (va_up f k v) j u = va_up (va_up f j u) k v := by
  funext i; simp only [up_if]
  by_cases h1 : i = j
  · subst h1; rw [if_pos rfl, if_neg (fun z => h z.symm), if_pos rfl]
  · rw [if_neg h1]; split
    · rfl
    · rfl
theorem mi9_eq (h : HP) (a : Nat) (f : Nat → Int) : h_mi (sRi h a f) a = f := up_eq _ _ _
theorem mi9_ne (h : HP) {a b : Nat} (f : Nat → Int) (hn : b ≠ a) : h_mi (sRi h a f) b = h_mi h b := up_ne _ _ hn
theorem ml9_eq (h : HP) (a : Nat) (f : Nat → Int) : h_ml (sRl h a f) a = f := up_eq _ _ _
theorem ml9_ne (h : HP) {a b : Nat} (f : Nat → Int) (hn : b ≠ a) : h_ml (sRl h a f) b = h_ml h b := up_ne _ _ hn
theorem mr9_eq (h : HP) (a : Nat) (f : Nat → Nat) : h_mr (sRr h a f) a = f := up_eq _ _ _
theorem mr9_ne (h : HP) {a b : Nat} (f : Nat → Nat) (hn : b ≠ a) : h_mr (sRr h a f) b = h_mr h b := up_ne _ _ hn
theorem miI_eq (h : HP) (a k : Nat) (v : Int) : h_mi (sI h a k v) a = va_up (h_mi h a) k v := up_eq _ _ _
theorem miI_ne (h : HP) {a b : Nat} (k : Nat) (v : Int) (hn : b ≠ a) : h_mi (sI h a k v) b = h_mi h b := up_ne _ _ hn
theorem mlL_eq (h : HP) (a k : Nat) (v : Int) : h_ml (sL h a k v) a = va_up (h_ml h a) k v := up_eq _ _ _
theorem mlL_ne (h : HP) {a b : Nat} (k : Nat) (v : Int) (hn : b ≠ a) : h_ml (sL h a k v) b = h_ml h b := up_ne _ _ hn
theorem mrR_eq (h : HP) (a k v : Nat) : h_mr (sR h a k v) a = va_up (h_mr h a) k v := up_eq _ _ _
theorem mrR_ne (h : HP) {a b : Nat} (k v : Nat) (hn : b ≠ a) : h_mr (sR h a k v) b = h_mr h b := up_ne _ _ hn
theorem sI_row (h : HP) (a : Nat) (f : Nat → Int) (k : Nat) (v : Int) : sI (sRi h a f) a k v = sRi h a (va_up f k v) := by
  unfold sI
  rw [mi9_eq]
  unfold sRi
  simp only [up_up]
theorem sRi_row (h : HP) (a : Nat) (f g : Nat → Int) : sRi (sRi h a f) a g = sRi h a g := by
  unfold sRi; simp only [up_up]
theorem sRi_self (h : HP) (a : Nat) : sRi h a (h_mi h a) = h := by
  obtain ⟨k, l, i, j, r, s, t⟩ := h
  show (k, l, va_up i a (i a), j, r, s, t) = _
  rw [up_self]
theorem sRi_comm (h : HP) {a b : Nat} (f g : Nat → Int) (hn : a ≠ b) : sRi (sRi h a f) b g = sRi (sRi h b g) a f := by
  unfold sRi; simp only [up_comm _ _ _ hn]
theorem sI_out (h : HP) {a b : Nat} (f : Nat → Int) (k : Nat) (v : Int) (hn : a ≠ b) : sI (sRi h b f) a k v = sRi (sI h a k v) b f := by
  unfold sI
  rw [mi9_ne h f hn, sRi_comm h _ _ (fun z => hn z.symm)]
theorem sI_def (h : HP) (a k : Nat) (v : Int) : sI h a k v = sRi h a (va_up (h_mi h a) k v) := rfl
/-- only int rows of cells in A have changed -/
def Sc (A : Nat → Prop) (h h1 : HP) : Prop := h_kd h1 = h_kd h ∧ h_ln h1 = h_ln h ∧ h_ml h1 = h_ml h ∧ h_mr h1 = h_mr h ∧ h_sz h1 = h_sz h ∧ h_sl h1 = h_sl h ∧ ∀ a, ¬ A a → h_mi h1 a = h_mi h a
theorem Sc.rf {A : Nat → Prop} (h : HP) : Sc A h h := ⟨rfl, rfl, rfl, rfl, rfl, rfl, fun _ _ => rfl⟩
theorem Sc.tr {A : Nat → Prop} {h h1 h2 : HP} (p : Sc A h h1) (q : Sc A h1 h2) : Sc A h h2 := ⟨q.1.trans p.1, q.2.1.trans p.2.1, q.2.2.1.trans p.2.2.1, q.2.2.2.1.trans p.2.2.2.1, q.2.2.2.2.1.trans p.2.2.2.2.1, q.2.2.2.2.2.1.trans p.2.2.2.2.2.1, fun a ha => (q.2.2.2.2.2.2 a ha).trans (p.2.2.2.2.2.2 a ha)⟩
theorem Sc.up {A B : Nat → Prop} {h h1 : HP} (p : Sc A h h1) (hAB : ∀ a, A a → B a) : Sc B h h1 := ⟨p.1, p.2.1, p.2.2.1, p.2.2.2.1, p.2.2.2.2.1, p.2.2.2.2.2.1, fun a ha => p.2.2.2.2.2.2 a (fun z => ha (hAB a z))⟩
theorem Sc.row {A : Nat → Prop} {h h1 : HP} (p : Sc A h h1) {a : Nat} (f : Nat → Int) (ha : A a) : Sc A h (sRi h1 a f) := ⟨p.1, p.2.1, p.2.2.1, p.2.2.2.1, p.2.2.2.2.1, p.2.2.2.2.2.1, fun b hb => (mi9_ne h1 f (fun z => hb (by rw [z]; exact ha))).trans (p.2.2.2.2.2.2 b hb)⟩
theorem Sc.si {A : Nat → Prop} {h h1 : HP} (p : Sc A h h1) {a : Nat} (k : Nat) (v : Int) (ha : A a) : Sc A h (sI h1 a k v) := p.row _ ha
theorem Sc.k {A : Nat → Prop} {h h1 : HP} (p : Sc A h h1) (a c : Nat) : isK h1 a c = isK h a c := by unfold isK; rw [p.1]
theorem Sc.mi {A : Nat → Prop} {h h1 : HP} (p : Sc A h h1) {a : Nat} (ha : ¬ A a) : h_mi h1 a = h_mi h a := p.2.2.2.2.2.2 a ha
theorem isKc {h : HP} {a c : Nat} (hk : h_kd h a = c) : isK h a c = true := by unfold isK; rw [hk]; exact Nat.beq_refl c
def RSk_t : List (Nat × Nat × Nat) := [(145, 9, 0), (146, 11, 1000), (147, 11, 30), (148, 11, 360), (149, 11, 360), (150, 12, 13), (151, 11, 36), (152, 11, 36), (153, 11, 36), (154, 11, 42), (155, 11, 42), (156, 11, 42), (157, 11, 24), (158, 11, 24), (159, 11, 6000), (160, 11, 7), (161, 13, 7), (162, 11, 7), (163, 11, 7), (164, 11, 7), (165, 11, 7), (166, 11, 7), (167, 11, 7), (168, 11, 7), (169, 11, 7), (170, 11, 7), (171, 11, 20), (172, 11, 144), (173, 11, 144), (174, 11, 576), (175, 11, 2880), (176, 11, 10), (177, 11, 7), (178, 11, 7), (179, 11, 10), (180, 13, 4)]
def RSk_r : List (Nat × Nat × Nat) := [(145, 2, 146), (145, 10, 147), (145, 11, 148), (145, 12, 149), (145, 13, 150), (145, 15, 151), (145, 16, 152), (145, 17, 153), (145, 18, 154), (145, 19, 155), (145, 20, 156), (145, 21, 157), (145, 22, 158), (145, 23, 159), (145, 27, 160), (145, 28, 161), (145, 29, 162), (145, 30, 163), (145, 31, 164), (145, 32, 165), (145, 33, 166), (145, 34, 167), (145, 35, 168), (145, 36, 169), (145, 37, 170), (145, 38, 171), (145, 40, 172), (145, 41, 173), (145, 42, 174), (145, 43, 175), (145, 45, 176), (145, 46, 177), (145, 47, 178), (145, 50, 179), (145, 54, 180)]
def RSk (h : HP) : Prop := (∀ q ∈ RSk_t, h_kd h q.1 = q.2.1 ∧ h_ln h q.1 = q.2.2) ∧ ∀ q ∈ RSk_r, h_mr h q.1 q.2.1 = q.2.2
theorem k_145 {h : HP} (w : RSk h) : isK h 145 9 = true := isKc (w.1 _ (List.mem_of_getElem? (i := 0) rfl)).1
theorem n_145 {h : HP} (w : RSk h) : h_ln h 145 = 0 := (w.1 _ (List.mem_of_getElem? (i := 0) rfl)).2
theorem k_146 {h : HP} (w : RSk h) : isK h 146 11 = true := isKc (w.1 _ (List.mem_of_getElem? (i := 1) rfl)).1
theorem n_146 {h : HP} (w : RSk h) : h_ln h 146 = 1000 := (w.1 _ (List.mem_of_getElem? (i := 1) rfl)).2
theorem k_147 {h : HP} (w : RSk h) : isK h 147 11 = true := isKc (w.1 _ (List.mem_of_getElem? (i := 2) rfl)).1
theorem n_147 {h : HP} (w : RSk h) : h_ln h 147 = 30 := (w.1 _ (List.mem_of_getElem? (i := 2) rfl)).2
theorem k_148 {h : HP} (w : RSk h) : isK h 148 11 = true := isKc (w.1 _ (List.mem_of_getElem? (i := 3) rfl)).1
theorem n_148 {h : HP} (w : RSk h) : h_ln h 148 = 360 := (w.1 _ (List.mem_of_getElem? (i := 3) rfl)).2
theorem k_149 {h : HP} (w : RSk h) : isK h 149 11 = true := isKc (w.1 _ (List.mem_of_getElem? (i := 4) rfl)).1
theorem n_149 {h : HP} (w : RSk h) : h_ln h 149 = 360 := (w.1 _ (List.mem_of_getElem? (i := 4) rfl)).2
theorem k_150 {h : HP} (w : RSk h) : isK h 150 12 = true := isKc (w.1 _ (List.mem_of_getElem? (i := 5) rfl)).1
theorem n_150 {h : HP} (w : RSk h) : h_ln h 150 = 13 := (w.1 _ (List.mem_of_getElem? (i := 5) rfl)).2
theorem k_151 {h : HP} (w : RSk h) : isK h 151 11 = true := isKc (w.1 _ (List.mem_of_getElem? (i := 6) rfl)).1
theorem n_151 {h : HP} (w : RSk h) : h_ln h 151 = 36 := (w.1 _ (List.mem_of_getElem? (i := 6) rfl)).2
theorem k_152 {h : HP} (w : RSk h) : isK h 152 11 = true := isKc (w.1 _ (List.mem_of_getElem? (i := 7) rfl)).1
theorem n_152 {h : HP} (w : RSk h) : h_ln h 152 = 36 := (w.1 _ (List.mem_of_getElem? (i := 7) rfl)).2
theorem k_153 {h : HP} (w : RSk h) : isK h 153 11 = true := isKc (w.1 _ (List.mem_of_getElem? (i := 8) rfl)).1
theorem n_153 {h : HP} (w : RSk h) : h_ln h 153 = 36 := (w.1 _ (List.mem_of_getElem? (i := 8) rfl)).2
theorem k_154 {h : HP} (w : RSk h) : isK h 154 11 = true := isKc (w.1 _ (List.mem_of_getElem? (i := 9) rfl)).1
theorem n_154 {h : HP} (w : RSk h) : h_ln h 154 = 42 := (w.1 _ (List.mem_of_getElem? (i := 9) rfl)).2
theorem k_155 {h : HP} (w : RSk h) : isK h 155 11 = true := isKc (w.1 _ (List.mem_of_getElem? (i := 10) rfl)).1
theorem n_155 {h : HP} (w : RSk h) : h_ln h 155 = 42 := (w.1 _ (List.mem_of_getElem? (i := 10) rfl)).2
theorem k_156 {h : HP} (w : RSk h) : isK h 156 11 = true := isKc (w.1 _ (List.mem_of_getElem? (i := 11) rfl)).1
theorem n_156 {h : HP} (w : RSk h) : h_ln h 156 = 42 := (w.1 _ (List.mem_of_getElem? (i := 11) rfl)).2
theorem k_157 {h : HP} (w : RSk h) : isK h 157 11 = true := isKc (w.1 _ (List.mem_of_getElem? (i := 12) rfl)).1
theorem n_157 {h : HP} (w : RSk h) : h_ln h 157 = 24 := (w.1 _ (List.mem_of_getElem? (i := 12) rfl)).2
theorem k_158 {h : HP} (w : RSk h) : isK h 158 11 = true := isKc (w.1 _ (List.mem_of_getElem? (i := 13) rfl)).1
theorem n_158 {h : HP} (w : RSk h) : h_ln h 158 = 24 := (w.1 _ (List.mem_of_getElem? (i := 13) rfl)).2
theorem k_159 {h : HP} (w : RSk h) : isK h 159 11 = true := isKc (w.1 _ (List.mem_of_getElem? (i := 14) rfl)).1
theorem n_159 {h : HP} (w : RSk h) : h_ln h 159 = 6000 := (w.1 _ (List.mem_of_getElem? (i := 14) rfl)).2
theorem k_160 {h : HP} (w : RSk h) : isK h 160 11 = true := isKc (w.1 _ (List.mem_of_getElem? (i := 15) rfl)).1
theorem n_160 {h : HP} (w : RSk h) : h_ln h 160 = 7 := (w.1 _ (List.mem_of_getElem? (i := 15) rfl)).2
theorem k_161 {h : HP} (w : RSk h) : isK h 161 13 = true := isKc (w.1 _ (List.mem_of_getElem? (i := 16) rfl)).1
theorem n_161 {h : HP} (w : RSk h) : h_ln h 161 = 7 := (w.1 _ (List.mem_of_getElem? (i := 16) rfl)).2
theorem k_162 {h : HP} (w : RSk h) : isK h 162 11 = true := isKc (w.1 _ (List.mem_of_getElem? (i := 17) rfl)).1
theorem n_162 {h : HP} (w : RSk h) : h_ln h 162 = 7 := (w.1 _ (List.mem_of_getElem? (i := 17) rfl)).2
theorem k_163 {h : HP} (w : RSk h) : isK h 163 11 = true := isKc (w.1 _ (List.mem_of_getElem? (i := 18) rfl)).1
theorem n_163 {h : HP} (w : RSk h) : h_ln h 163 = 7 := (w.1 _ (List.mem_of_getElem? (i := 18) rfl)).2
theorem k_164 {h : HP} (w : RSk h) : isK h 164 11 = true := isKc (w.1 _ (List.mem_of_getElem? (i := 19) rfl)).1
theorem n_164 {h : HP} (w : RSk h) : h_ln h 164 = 7 := (w.1 _ (List.mem_of_getElem? (i := 19) rfl)).2
theorem k_165 {h : HP} (w : RSk h) : isK h 165 11 = true := isKc (w.1 _ (List.mem_of_getElem? (i := 20) rfl)).1
theorem n_165 {h : HP} (w : RSk h) : h_ln h 165 = 7 := (w.1 _ (List.mem_of_getElem? (i := 20) rfl)).2
theorem k_166 {h : HP} (w : RSk h) : isK h 166 11 = true := isKc (w.1 _ (List.mem_of_getElem? (i := 21) rfl)).1
theorem n_166 {h : HP} (w : RSk h) : h_ln h 166 = 7 := (w.1 _ (List.mem_of_getElem? (i := 21) rfl)).2
theorem k_167 {h : HP} (w : RSk h) : isK h 167 11 = true := isKc (w.1 _ (List.mem_of_getElem? (i := 22) rfl)).1
theorem n_167 {h : HP} (w : RSk h) : h_ln h 167 = 7 := (w.1 _ (List.mem_of_getElem? (i := 22) rfl)).2
theorem k_168 {h : HP} (w : RSk h) : isK h 168 11 = true := isKc (w.1 _ (List.mem_of_getElem? (i := 23) rfl)).1
theorem n_168 {h : HP} (w : RSk h) : h_ln h 168 = 7 := (w.1 _ (List.mem_of_getElem? (i := 23) rfl)).2
theorem k_169 {h : HP} (w : RSk h) : isK h 169 11 = true := isKc (w.1 _ (List.mem_of_getElem? (i := 24) rfl)).1
theorem n_169 {h : HP} (w : RSk h) : h_ln h 169 = 7 := (w.1 _ (List.mem_of_getElem? (i := 24) rfl)).2
theorem k_170 {h : HP} (w : RSk h) : isK h 170 11 = true := isKc (w.1 _ (List.mem_of_getElem? (i := 25) rfl)).1
theorem n_170 {h : HP} (w : RSk h) : h_ln h 170 = 7 := (w.1 _ (List.mem_of_getElem? (i := 25) rfl)).2
theorem k_171 {h : HP} (w : RSk h) : isK h 171 11 = true := isKc (w.1 _ (List.mem_of_getElem? (i := 26) rfl)).1
theorem n_171 {h : HP} (w : RSk h) : h_ln h 171 = 20 := (w.1 _ (List.mem_of_getElem? (i := 26) rfl)).2
theorem k_172 {h : HP} (w : RSk h) : isK h 172 11 = true := isKc (w.1 _ (List.mem_of_getElem? (i := 27) rfl)).1
theorem n_172 {h : HP} (w : RSk h) : h_ln h 172 = 144 := (w.1 _ (List.mem_of_getElem? (i := 27) rfl)).2
theorem k_173 {h : HP} (w : RSk h) : isK h 173 11 = true := isKc (w.1 _ (List.mem_of_getElem? (i := 28) rfl)).1
theorem n_173 {h : HP} (w : RSk h) : h_ln h 173 = 144 := (w.1 _ (List.mem_of_getElem? (i := 28) rfl)).2
theorem k_174 {h : HP} (w : RSk h) : isK h 174 11 = true := isKc (w.1 _ (List.mem_of_getElem? (i := 29) rfl)).1
theorem n_174 {h : HP} (w : RSk h) : h_ln h 174 = 576 := (w.1 _ (List.mem_of_getElem? (i := 29) rfl)).2
theorem k_175 {h : HP} (w : RSk h) : isK h 175 11 = true := isKc (w.1 _ (List.mem_of_getElem? (i := 30) rfl)).1
theorem n_175 {h : HP} (w : RSk h) : h_ln h 175 = 2880 := (w.1 _ (List.mem_of_getElem? (i := 30) rfl)).2
theorem k_176 {h : HP} (w : RSk h) : isK h 176 11 = true := isKc (w.1 _ (List.mem_of_getElem? (i := 31) rfl)).1
theorem n_176 {h : HP} (w : RSk h) : h_ln h 176 = 10 := (w.1 _ (List.mem_of_getElem? (i := 31) rfl)).2
theorem k_177 {h : HP} (w : RSk h) : isK h 177 11 = true := isKc (w.1 _ (List.mem_of_getElem? (i := 32) rfl)).1
theorem n_177 {h : HP} (w : RSk h) : h_ln h 177 = 7 := (w.1 _ (List.mem_of_getElem? (i := 32) rfl)).2
theorem k_178 {h : HP} (w : RSk h) : isK h 178 11 = true := isKc (w.1 _ (List.mem_of_getElem? (i := 33) rfl)).1
theorem n_178 {h : HP} (w : RSk h) : h_ln h 178 = 7 := (w.1 _ (List.mem_of_getElem? (i := 33) rfl)).2
theorem k_179 {h : HP} (w : RSk h) : isK h 179 11 = true := isKc (w.1 _ (List.mem_of_getElem? (i := 34) rfl)).1
theorem n_179 {h : HP} (w : RSk h) : h_ln h 179 = 10 := (w.1 _ (List.mem_of_getElem? (i := 34) rfl)).2
theorem k_180 {h : HP} (w : RSk h) : isK h 180 13 = true := isKc (w.1 _ (List.mem_of_getElem? (i := 35) rfl)).1
theorem n_180 {h : HP} (w : RSk h) : h_ln h 180 = 4 := (w.1 _ (List.mem_of_getElem? (i := 35) rfl)).2
theorem r_145_2 {h : HP} (w : RSk h) : h_mr h 145 2 = 146 := w.2 _ (List.mem_of_getElem? (i := 0) rfl)
theorem r_145_10 {h : HP} (w : RSk h) : h_mr h 145 10 = 147 := w.2 _ (List.mem_of_getElem? (i := 1) rfl)
theorem r_145_11 {h : HP} (w : RSk h) : h_mr h 145 11 = 148 := w.2 _ (List.mem_of_getElem? (i := 2) rfl)
theorem r_145_12 {h : HP} (w : RSk h) : h_mr h 145 12 = 149 := w.2 _ (List.mem_of_getElem? (i := 3) rfl)
theorem r_145_13 {h : HP} (w : RSk h) : h_mr h 145 13 = 150 := w.2 _ (List.mem_of_getElem? (i := 4) rfl)
theorem r_145_15 {h : HP} (w : RSk h) : h_mr h 145 15 = 151 := w.2 _ (List.mem_of_getElem? (i := 5) rfl)
theorem r_145_16 {h : HP} (w : RSk h) : h_mr h 145 16 = 152 := w.2 _ (List.mem_of_getElem? (i := 6) rfl)
theorem r_145_17 {h : HP} (w : RSk h) : h_mr h 145 17 = 153 := w.2 _ (List.mem_of_getElem? (i := 7) rfl)
theorem r_145_18 {h : HP} (w : RSk h) : h_mr h 145 18 = 154 := w.2 _ (List.mem_of_getElem? (i := 8) rfl)
theorem r_145_19 {h : HP} (w : RSk h) : h_mr h 145 19 = 155 := w.2 _ (List.mem_of_getElem? (i := 9) rfl)
theorem r_145_20 {h : HP} (w : RSk h) : h_mr h 145 20 = 156 := w.2 _ (List.mem_of_getElem? (i := 10) rfl)
theorem r_145_21 {h : HP} (w : RSk h) : h_mr h 145 21 = 157 := w.2 _ (List.mem_of_getElem? (i := 11) rfl)
theorem r_145_22 {h : HP} (w : RSk h) : h_mr h 145 22 = 158 := w.2 _ (List.mem_of_getElem? (i := 12) rfl)
theorem r_145_23 {h : HP} (w : RSk h) : h_mr h 145 23 = 159 := w.2 _ (List.mem_of_getElem? (i := 13) rfl)
theorem r_145_27 {h : HP} (w : RSk h) : h_mr h 145 27 = 160 := w.2 _ (List.mem_of_getElem? (i := 14) rfl)
theorem r_145_28 {h : HP} (w : RSk h) : h_mr h 145 28 = 161 := w.2 _ (List.mem_of_getElem? (i := 15) rfl)
theorem r_145_29 {h : HP} (w : RSk h) : h_mr h 145 29 = 162 := w.2 _ (List.mem_of_getElem? (i := 16) rfl)
theorem r_145_30 {h : HP} (w : RSk h) : h_mr h 145 30 = 163 := w.2 _ (List.mem_of_getElem? (i := 17) rfl)
theorem r_145_31 {h : HP} (w : RSk h) : h_mr h 145 31 = 164 := w.2 _ (List.mem_of_getElem? (i := 18) rfl)
theorem r_145_32 {h : HP} (w : RSk h) : h_mr h 145 32 = 165 := w.2 _ (List.mem_of_getElem? (i := 19) rfl)
theorem r_145_33 {h : HP} (w : RSk h) : h_mr h 145 33 = 166 := w.2 _ (List.mem_of_getElem? (i := 20) rfl)
theorem r_145_34 {h : HP} (w : RSk h) : h_mr h 145 34 = 167 := w.2 _ (List.mem_of_getElem? (i := 21) rfl)
theorem r_145_35 {h : HP} (w : RSk h) : h_mr h 145 35 = 168 := w.2 _ (List.mem_of_getElem? (i := 22) rfl)
theorem r_145_36 {h : HP} (w : RSk h) : h_mr h 145 36 = 169 := w.2 _ (List.mem_of_getElem? (i := 23) rfl)
theorem r_145_37 {h : HP} (w : RSk h) : h_mr h 145 37 = 170 := w.2 _ (List.mem_of_getElem? (i := 24) rfl)
theorem r_145_38 {h : HP} (w : RSk h) : h_mr h 145 38 = 171 := w.2 _ (List.mem_of_getElem? (i := 25) rfl)
theorem r_145_40 {h : HP} (w : RSk h) : h_mr h 145 40 = 172 := w.2 _ (List.mem_of_getElem? (i := 26) rfl)
theorem r_145_41 {h : HP} (w : RSk h) : h_mr h 145 41 = 173 := w.2 _ (List.mem_of_getElem? (i := 27) rfl)
theorem r_145_42 {h : HP} (w : RSk h) : h_mr h 145 42 = 174 := w.2 _ (List.mem_of_getElem? (i := 28) rfl)
theorem r_145_43 {h : HP} (w : RSk h) : h_mr h 145 43 = 175 := w.2 _ (List.mem_of_getElem? (i := 29) rfl)
theorem r_145_45 {h : HP} (w : RSk h) : h_mr h 145 45 = 176 := w.2 _ (List.mem_of_getElem? (i := 30) rfl)
theorem r_145_46 {h : HP} (w : RSk h) : h_mr h 145 46 = 177 := w.2 _ (List.mem_of_getElem? (i := 31) rfl)
theorem r_145_47 {h : HP} (w : RSk h) : h_mr h 145 47 = 178 := w.2 _ (List.mem_of_getElem? (i := 32) rfl)
theorem r_145_50 {h : HP} (w : RSk h) : h_mr h 145 50 = 179 := w.2 _ (List.mem_of_getElem? (i := 33) rfl)
theorem r_145_54 {h : HP} (w : RSk h) : h_mr h 145 54 = 180 := w.2 _ (List.mem_of_getElem? (i := 34) rfl)
theorem RSk.sc {A : Nat → Prop} {h h1 : HP} (w : RSk h) (p : Sc A h h1) : RSk h1 := by
  refine ⟨fun q hq => ?_, fun q hq => ?_⟩
  · rw [p.1, p.2.1]; exact w.1 q hq
  · rw [p.2.2.2.1]; exact w.2 q hq
def CSk_t : List (Nat × Nat × Nat) := [(100, 8, 0), (101, 6, 0), (102, 10, 1000), (103, 5, 0), (104, 11, 1000), (105, 12, 13), (106, 3, 0), (126, 11, 60), (127, 11, 60), (128, 11, 6), (129, 11, 6), (130, 1, 0), (131, 11, 20), (132, 11, 20), (133, 11, 200), (134, 7, 0), (135, 11, 60), (136, 11, 60), (137, 0, 0), (138, 11, 128), (139, 11, 128), (140, 13, 128), (141, 13, 128), (142, 11, 7), (143, 11, 7), (144, 14, 4)]
def CSk_r : List (Nat × Nat × Nat) := [(100, 0, 101), (100, 1, 103), (100, 2, 106), (100, 3, 130), (100, 4, 134), (100, 5, 137), (100, 6, 144), (101, 0, 102), (103, 0, 101), (103, 1, 104), (103, 2, 105), (106, 0, 126), (106, 1, 127), (106, 2, 128), (106, 3, 129), (130, 0, 131), (130, 1, 132), (130, 2, 133), (134, 0, 135), (134, 1, 136), (137, 0, 138), (137, 1, 139), (137, 2, 140), (137, 3, 141), (137, 4, 142), (137, 5, 143)]
def CSk (h : HP) : Prop := (∀ q ∈ CSk_t, h_kd h q.1 = q.2.1 ∧ h_ln h q.1 = q.2.2) ∧ ∀ q ∈ CSk_r, h_mr h q.1 q.2.1 = q.2.2
theorem k_100 {h : HP} (w : CSk h) : isK h 100 8 = true := isKc (w.1 _ (List.mem_of_getElem? (i := 0) rfl)).1
theorem n_100 {h : HP} (w : CSk h) : h_ln h 100 = 0 := (w.1 _ (List.mem_of_getElem? (i := 0) rfl)).2
theorem k_101 {h : HP} (w : CSk h) : isK h 101 6 = true := isKc (w.1 _ (List.mem_of_getElem? (i := 1) rfl)).1
theorem n_101 {h : HP} (w : CSk h) : h_ln h 101 = 0 := (w.1 _ (List.mem_of_getElem? (i := 1) rfl)).2
theorem k_102 {h : HP} (w : CSk h) : isK h 102 10 = true := isKc (w.1 _ (List.mem_of_getElem? (i := 2) rfl)).1
theorem n_102 {h : HP} (w : CSk h) : h_ln h 102 = 1000 := (w.1 _ (List.mem_of_getElem? (i := 2) rfl)).2
theorem k_103 {h : HP} (w : CSk h) : isK h 103 5 = true := isKc (w.1 _ (List.mem_of_getElem? (i := 3) rfl)).1
theorem n_103 {h : HP} (w : CSk h) : h_ln h 103 = 0 := (w.1 _ (List.mem_of_getElem? (i := 3) rfl)).2
theorem k_104 {h : HP} (w : CSk h) : isK h 104 11 = true := isKc (w.1 _ (List.mem_of_getElem? (i := 4) rfl)).1
theorem n_104 {h : HP} (w : CSk h) : h_ln h 104 = 1000 := (w.1 _ (List.mem_of_getElem? (i := 4) rfl)).2
theorem k_105 {h : HP} (w : CSk h) : isK h 105 12 = true := isKc (w.1 _ (List.mem_of_getElem? (i := 5) rfl)).1
theorem n_105 {h : HP} (w : CSk h) : h_ln h 105 = 13 := (w.1 _ (List.mem_of_getElem? (i := 5) rfl)).2
theorem k_106 {h : HP} (w : CSk h) : isK h 106 3 = true := isKc (w.1 _ (List.mem_of_getElem? (i := 6) rfl)).1
theorem n_106 {h : HP} (w : CSk h) : h_ln h 106 = 0 := (w.1 _ (List.mem_of_getElem? (i := 6) rfl)).2
theorem k_126 {h : HP} (w : CSk h) : isK h 126 11 = true := isKc (w.1 _ (List.mem_of_getElem? (i := 7) rfl)).1
theorem n_126 {h : HP} (w : CSk h) : h_ln h 126 = 60 := (w.1 _ (List.mem_of_getElem? (i := 7) rfl)).2
theorem k_127 {h : HP} (w : CSk h) : isK h 127 11 = true := isKc (w.1 _ (List.mem_of_getElem? (i := 8) rfl)).1
theorem n_127 {h : HP} (w : CSk h) : h_ln h 127 = 60 := (w.1 _ (List.mem_of_getElem? (i := 8) rfl)).2
theorem k_128 {h : HP} (w : CSk h) : isK h 128 11 = true := isKc (w.1 _ (List.mem_of_getElem? (i := 9) rfl)).1
theorem n_128 {h : HP} (w : CSk h) : h_ln h 128 = 6 := (w.1 _ (List.mem_of_getElem? (i := 9) rfl)).2
theorem k_129 {h : HP} (w : CSk h) : isK h 129 11 = true := isKc (w.1 _ (List.mem_of_getElem? (i := 10) rfl)).1
theorem n_129 {h : HP} (w : CSk h) : h_ln h 129 = 6 := (w.1 _ (List.mem_of_getElem? (i := 10) rfl)).2
theorem k_130 {h : HP} (w : CSk h) : isK h 130 1 = true := isKc (w.1 _ (List.mem_of_getElem? (i := 11) rfl)).1
theorem n_130 {h : HP} (w : CSk h) : h_ln h 130 = 0 := (w.1 _ (List.mem_of_getElem? (i := 11) rfl)).2
theorem k_131 {h : HP} (w : CSk h) : isK h 131 11 = true := isKc (w.1 _ (List.mem_of_getElem? (i := 12) rfl)).1
theorem n_131 {h : HP} (w : CSk h) : h_ln h 131 = 20 := (w.1 _ (List.mem_of_getElem? (i := 12) rfl)).2
theorem k_132 {h : HP} (w : CSk h) : isK h 132 11 = true := isKc (w.1 _ (List.mem_of_getElem? (i := 13) rfl)).1
theorem n_132 {h : HP} (w : CSk h) : h_ln h 132 = 20 := (w.1 _ (List.mem_of_getElem? (i := 13) rfl)).2
theorem k_133 {h : HP} (w : CSk h) : isK h 133 11 = true := isKc (w.1 _ (List.mem_of_getElem? (i := 14) rfl)).1
theorem n_133 {h : HP} (w : CSk h) : h_ln h 133 = 200 := (w.1 _ (List.mem_of_getElem? (i := 14) rfl)).2
theorem k_134 {h : HP} (w : CSk h) : isK h 134 7 = true := isKc (w.1 _ (List.mem_of_getElem? (i := 15) rfl)).1
theorem n_134 {h : HP} (w : CSk h) : h_ln h 134 = 0 := (w.1 _ (List.mem_of_getElem? (i := 15) rfl)).2
theorem k_135 {h : HP} (w : CSk h) : isK h 135 11 = true := isKc (w.1 _ (List.mem_of_getElem? (i := 16) rfl)).1
theorem n_135 {h : HP} (w : CSk h) : h_ln h 135 = 60 := (w.1 _ (List.mem_of_getElem? (i := 16) rfl)).2
theorem k_136 {h : HP} (w : CSk h) : isK h 136 11 = true := isKc (w.1 _ (List.mem_of_getElem? (i := 17) rfl)).1
theorem n_136 {h : HP} (w : CSk h) : h_ln h 136 = 60 := (w.1 _ (List.mem_of_getElem? (i := 17) rfl)).2
theorem k_137 {h : HP} (w : CSk h) : isK h 137 0 = true := isKc (w.1 _ (List.mem_of_getElem? (i := 18) rfl)).1
theorem n_137 {h : HP} (w : CSk h) : h_ln h 137 = 0 := (w.1 _ (List.mem_of_getElem? (i := 18) rfl)).2
theorem k_138 {h : HP} (w : CSk h) : isK h 138 11 = true := isKc (w.1 _ (List.mem_of_getElem? (i := 19) rfl)).1
theorem n_138 {h : HP} (w : CSk h) : h_ln h 138 = 128 := (w.1 _ (List.mem_of_getElem? (i := 19) rfl)).2
theorem k_139 {h : HP} (w : CSk h) : isK h 139 11 = true := isKc (w.1 _ (List.mem_of_getElem? (i := 20) rfl)).1
theorem n_139 {h : HP} (w : CSk h) : h_ln h 139 = 128 := (w.1 _ (List.mem_of_getElem? (i := 20) rfl)).2
theorem k_140 {h : HP} (w : CSk h) : isK h 140 13 = true := isKc (w.1 _ (List.mem_of_getElem? (i := 21) rfl)).1
theorem n_140 {h : HP} (w : CSk h) : h_ln h 140 = 128 := (w.1 _ (List.mem_of_getElem? (i := 21) rfl)).2
theorem k_141 {h : HP} (w : CSk h) : isK h 141 13 = true := isKc (w.1 _ (List.mem_of_getElem? (i := 22) rfl)).1
theorem n_141 {h : HP} (w : CSk h) : h_ln h 141 = 128 := (w.1 _ (List.mem_of_getElem? (i := 22) rfl)).2
theorem k_142 {h : HP} (w : CSk h) : isK h 142 11 = true := isKc (w.1 _ (List.mem_of_getElem? (i := 23) rfl)).1
theorem n_142 {h : HP} (w : CSk h) : h_ln h 142 = 7 := (w.1 _ (List.mem_of_getElem? (i := 23) rfl)).2
theorem k_143 {h : HP} (w : CSk h) : isK h 143 11 = true := isKc (w.1 _ (List.mem_of_getElem? (i := 24) rfl)).1
theorem n_143 {h : HP} (w : CSk h) : h_ln h 143 = 7 := (w.1 _ (List.mem_of_getElem? (i := 24) rfl)).2
theorem k_144 {h : HP} (w : CSk h) : isK h 144 14 = true := isKc (w.1 _ (List.mem_of_getElem? (i := 25) rfl)).1
theorem n_144 {h : HP} (w : CSk h) : h_ln h 144 = 4 := (w.1 _ (List.mem_of_getElem? (i := 25) rfl)).2
theorem r_100_0 {h : HP} (w : CSk h) : h_mr h 100 0 = 101 := w.2 _ (List.mem_of_getElem? (i := 0) rfl)
theorem r_100_1 {h : HP} (w : CSk h) : h_mr h 100 1 = 103 := w.2 _ (List.mem_of_getElem? (i := 1) rfl)
theorem r_100_2 {h : HP} (w : CSk h) : h_mr h 100 2 = 106 := w.2 _ (List.mem_of_getElem? (i := 2) rfl)
theorem r_100_3 {h : HP} (w : CSk h) : h_mr h 100 3 = 130 := w.2 _ (List.mem_of_getElem? (i := 3) rfl)
theorem r_100_4 {h : HP} (w : CSk h) : h_mr h 100 4 = 134 := w.2 _ (List.mem_of_getElem? (i := 4) rfl)
theorem r_100_5 {h : HP} (w : CSk h) : h_mr h 100 5 = 137 := w.2 _ (List.mem_of_getElem? (i := 5) rfl)
theorem r_100_6 {h : HP} (w : CSk h) : h_mr h 100 6 = 144 := w.2 _ (List.mem_of_getElem? (i := 6) rfl)
theorem r_101_0 {h : HP} (w : CSk h) : h_mr h 101 0 = 102 := w.2 _ (List.mem_of_getElem? (i := 7) rfl)
theorem r_103_0 {h : HP} (w : CSk h) : h_mr h 103 0 = 101 := w.2 _ (List.mem_of_getElem? (i := 8) rfl)
theorem r_103_1 {h : HP} (w : CSk h) : h_mr h 103 1 = 104 := w.2 _ (List.mem_of_getElem? (i := 9) rfl)
theorem r_103_2 {h : HP} (w : CSk h) : h_mr h 103 2 = 105 := w.2 _ (List.mem_of_getElem? (i := 10) rfl)
theorem r_106_0 {h : HP} (w : CSk h) : h_mr h 106 0 = 126 := w.2 _ (List.mem_of_getElem? (i := 11) rfl)
theorem r_106_1 {h : HP} (w : CSk h) : h_mr h 106 1 = 127 := w.2 _ (List.mem_of_getElem? (i := 12) rfl)
theorem r_106_2 {h : HP} (w : CSk h) : h_mr h 106 2 = 128 := w.2 _ (List.mem_of_getElem? (i := 13) rfl)
theorem r_106_3 {h : HP} (w : CSk h) : h_mr h 106 3 = 129 := w.2 _ (List.mem_of_getElem? (i := 14) rfl)
theorem r_130_0 {h : HP} (w : CSk h) : h_mr h 130 0 = 131 := w.2 _ (List.mem_of_getElem? (i := 15) rfl)
theorem r_130_1 {h : HP} (w : CSk h) : h_mr h 130 1 = 132 := w.2 _ (List.mem_of_getElem? (i := 16) rfl)
theorem r_130_2 {h : HP} (w : CSk h) : h_mr h 130 2 = 133 := w.2 _ (List.mem_of_getElem? (i := 17) rfl)
theorem r_134_0 {h : HP} (w : CSk h) : h_mr h 134 0 = 135 := w.2 _ (List.mem_of_getElem? (i := 18) rfl)
theorem r_134_1 {h : HP} (w : CSk h) : h_mr h 134 1 = 136 := w.2 _ (List.mem_of_getElem? (i := 19) rfl)
theorem r_137_0 {h : HP} (w : CSk h) : h_mr h 137 0 = 138 := w.2 _ (List.mem_of_getElem? (i := 20) rfl)
theorem r_137_1 {h : HP} (w : CSk h) : h_mr h 137 1 = 139 := w.2 _ (List.mem_of_getElem? (i := 21) rfl)
theorem r_137_2 {h : HP} (w : CSk h) : h_mr h 137 2 = 140 := w.2 _ (List.mem_of_getElem? (i := 22) rfl)
theorem r_137_3 {h : HP} (w : CSk h) : h_mr h 137 3 = 141 := w.2 _ (List.mem_of_getElem? (i := 23) rfl)
theorem r_137_4 {h : HP} (w : CSk h) : h_mr h 137 4 = 142 := w.2 _ (List.mem_of_getElem? (i := 24) rfl)
theorem r_137_5 {h : HP} (w : CSk h) : h_mr h 137 5 = 143 := w.2 _ (List.mem_of_getElem? (i := 25) rfl)
theorem CSk.sc {A : Nat → Prop} {h h1 : HP} (w : CSk h) (p : Sc A h h1) : CSk h1 := by
  refine ⟨fun q hq => ?_, fun q hq => ?_⟩
  · rw [p.1, p.2.1]; exact w.1 q hq
  · rw [p.2.2.2.1]; exact w.2 q hq
