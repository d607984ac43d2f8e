/-! returns, and soundness of every method below 266 -/
section S21
variable {p : Program} {l : Launch} {e : Env} {R : Room} {s : State} {m : MethodId} {args : Array Value} {below : List Frame} {mth : Method} {c : Code}
variable {w : WP} {z0 l0 k pc tgt len : Nat} {hE h : HP} {r : AV} {lv st : List AV}
theorem end_is {own rt : Nat} {i : Instr} (ha : act own rt i len tgt pc lv st h = some (true, .inr (.inr (.inr (.inl (r, hE)))))) (hu : isU r = false) : i = .ireturn ∨ i = .areturn ∨ i = .return_ := by
  have key : ∀ j, inv own j len pc lv st h = some (true, .inr (.inr (.inr (.inl (r, hE))))) → False := by
    intro j hi
    unfold inv at hi
    split at hi <;> (try split at hi) <;> first | exact nr1 hi | exact nr3 hi | cases hi
  unfold act at ha
  split at ha
  all_goals first
    | exact Or.inl rfl
    | exact Or.inr (Or.inl rfl)
    | exact Or.inr (Or.inr rfl)
    | exact (nr1 ha).elim
    | exact (key _ ha).elim
    | (split at ha <;> first | exact (nr1 ha).elim | exact (nr2 ha).elim | exact (nr4 ha).elim | (exfalso; cases ha; done))
    | (split at ha <;> (try split at ha) <;> first | exact (nr1 ha).elim | exact (nr2 ha).elim | (exfalso; cases ha; done))
    | (split at ha <;> (try split at ha) <;> (try split at ha) <;> first | exact (nr1 ha).elim | exact (nr2 ha).elim | (exfalso; cases ha; done))
    | skip
  · split at ha
    · rename_i q n hq
      cases hc : Nat.beq q 99 with
      | true =>
        rw [hc] at ha
        simp only [cond_true, Option.some.injEq, Prod.mk.injEq, Sum.inr.injEq, Sum.inl.injEq] at ha
        rw [← ha.2.1] at hu
        cases hu
      | false => rw [hc] at ha; exact (nr1 ha).elim
    · cases ha
  · cases ha
theorem dt_end {g : Bool} {q q2 : AV × HP} (h : (some (g, .inr (.inr (.inr (.inl q)))) : DT) = some (true, .inr (.inr (.inr (.inl q2))))) : g = true ∧ q = q2 := by simpa using h
theorem nar_b {x : Int} (h1 : -128 ≤ x) (h2 : x < 128) : narrow .byte (.int (Int32.ofInt x)) = .int (Int32.ofInt x) := by
  have key : ∀ n : Nat, n < 256 → narrow .byte (.int (Int32.ofInt ((n : Int) - 128))) = .int (Int32.ofInt ((n : Int) - 128)) := by decide +kernel
  have h3 := key (x + 128).toNat (by omega)
  have e1 : (((x + 128).toNat : Nat) : Int) - 128 = x := by omega
  rw [e1] at h3
  exact h3
theorem rtC_1 {ty : Option FieldType} (h : rtC 1 ty = true) : ty = some .int := by
  unfold rtC at h; split at h <;> first | rfl | omega | cases h
theorem rtC_2 {ty : Option FieldType} (h : rtC 2 ty = true) : ty = some .boolean := by
  unfold rtC at h; split at h <;> first | rfl | omega | cases h
theorem rtC_5 {ty : Option FieldType} (h : rtC 5 ty = true) : ty = some .byte := by
  unfold rtC at h; split at h <;> first | rfl | omega | cases h
theorem rtC_0 {ty : Option FieldType} (h : rtC 0 ty = true) : ty = none := by
  unfold rtC at h; split at h <;> first | rfl | omega | cases h
theorem rtC_4 {ty : Option FieldType} (h : rtC 4 ty = true) : ty = some (.array .int) := by
  unfold rtC at h; split at h <;> first | rfl | omega | cases h
theorem ret_ok {i : Instr} (C : CXk p s m args mth c w k) (hrt : rtC (meth k).2.1 (mR k) = true) (hd : decode (mC k) pc = .ok (i, len)) (hLn : (Nat.beq (iL i) 0 || Nat.beq (iL i) len) = true) (ha : act (meth k).1 (meth k).2.1 i len tgt pc lv st h = some (true, .inr (.inr (.inr (.inl (r, hE)))))) (hu : isU r = false) :
    Go p l e R s m args below mth c (MQ below (Qcc w (mR k) r hE) args s (h_sz hE - z0) (h_sl hE - l0) (Aw w)) w z0 l0 pc lv st h := by
  obtain ⟨hx, hb, hmL, hown, hret, hlk, hnm, hW, hK, hF, hbs⟩ := C
  rcases end_is ha hu with rfl | rfl | rfl
  · have e1 := len_of hLn (fun z => by simp [iL] at z)
    change len = 1 at e1
    subst e1
    simp only [act] at ha
    split at ha
    · split at ha
      · rename_i x _ hr1
        obtain ⟨hg, e1⟩ := dt_end ha
        cases e1
        rw [hr1] at hrt
        have ht := rtC_1 hrt
        rw [ht] at hret ⊢
        exact g_ireturn hx hb hlk hd hret (fun _ => rfl)
      · rename_i x _ hr1
        obtain ⟨hg, e1⟩ := dt_end ha
        cases e1
        rw [hr1] at hrt
        have ht := rtC_2 hrt
        rw [ht] at hret ⊢
        simp only [Bool.or_eq_true, decide_eq_true_eq] at hg
        exact g_ireturn hx hb hlk hd hret (fun _ => by rcases hg with rfl | rfl <;> rfl)
      · rename_i x _ hr1
        obtain ⟨hg, e1⟩ := dt_end ha
        cases e1
        rw [hr1] at hrt
        have ht := rtC_5 hrt
        rw [ht] at hret ⊢
        simp only [Bool.and_eq_true, decide_eq_true_eq] at hg
        exact g_ireturn hx hb hlk hd hret (fun _ => nar_b hg.1 hg.2)
      · cases ha
    · cases ha
  · have e1 := len_of hLn (fun z => by simp [iL] at z)
    change len = 1 at e1
    subst e1
    simp only [act] at ha
    split at ha
    · split at ha
      · rename_i x _ hr1
        obtain ⟨hg, e1⟩ := dt_end ha
        cases e1
        rw [hr1] at hrt
        have ht := rtC_4 hrt
        rw [ht] at hret ⊢
        exact g_areturn hx hb hlk hd hret (Or.inr ⟨_, rfl⟩)
      · cases ha
    · cases ha
  · have e1 := len_of hLn (fun z => by simp [iL] at z)
    change len = 1 at e1
    subst e1
    simp only [act] at ha
    split at ha
    · split at ha
      · rename_i _ hr1
        obtain ⟨hg, e1⟩ := dt_end ha
        cases e1
        rw [hr1] at hrt
        have ht := rtC_0 hrt
        rw [ht] at hret ⊢
        exact g_return hx hb hlk (v := vr 0) trivial hd hret
      · cases ha
    · cases ha
end S21
theorem sound (hDK : DK) (l : Launch) (w : WP) : ∀ (N n d k : Nat) (as : List AV) (h : HP) (r : AV) (hE : HP), n ≤ N → k < 266 → okA k as = true → X n d (meth k) 0 (fil (meth k).2.2.1 (ent as)) [] h = some (r, hE) → isU r = false → MetX l w k d as h r hE := by
  intro N
  induction N with
  | zero =>
    intro n d k as h r hE hn hk hA hX
    have : n = 0 := by omega
    subst this
    simp [X] at hX
  | succ N ihN =>
    intro n d k as h r hE hn hk hA hX hu
    have hlen : (ent as).length ≤ (meth k).2.2.1 := Nat.le_of_ble_eq_true hA
    have hpl : plainFor (mN k) = true := by
      have h1 := okM_of hk
      unfold okM at h1
      simp only [Bool.and_eq_true] at h1
      exact h1.1.1.2
    unfold MetX
    refine va_MetF (cc := mC k) (maxL := (meth k).2.2.1) (ret := mR k) hpl rfl ?_
    intro p e s m args below mth c s₁ B hml hP
    obtain ⟨rfl, hI, hH, hW, hK, hF⟩ := hP
    have hw := meth_w hW hk
    have hown : s.vm.findClass (oN (meth k).1) = some m.cls := by rw [hw.2.2.2.2.1]; exact findClass_of_methodNamed B.named
    have hbs : w_b w ≤ s.heap.size := by rw [hH.1]; exact Nat.le_add_right _ _
    have C : CXk p s m (as.map (rv w)).toArray mth c w k := ⟨B.exec, B.bytes, hml, hown, B.returns, B.notSynchronized, fun _ => (name_of_methodNamed B.named B.method).1, hW, hK, hF, hbs⟩
    have hL := entry_LVr w as (meth k).2.2.1 hlen hI
    rw [lg_entry_eq]
    have G := walk (l := l) (e := e) (R := rmd d (h_sz hE - h_sz h) (h_sl hE - h_sl h)) (below := below) (Q := MQ below (Qcc w (mR k) r hE) (as.map (rv w)).toArray s (h_sz hE - h_sz h) (h_sl hE - h_sl h) (Aw w)) (z0 := h_sz h) (l0 := h_sl h) (d := d) (r := r) (hE := hE) hDK n (by omega) C (Nat.le_refl _) (Nat.le_refl _) (Nat.le_refl _) (Nat.le_refl _)
      (fun n' hn' d1 ci as1 h1 r1 h2 _ hci hoA hX1 hu1 => ihN n' d1 ci as1 h1 r1 h2 (by omega) hci hoA hX1 hu1)
      (fun pc lv st h1 i len tgt _ hd hLn ha _ _ => ret_ok C hw.2.2.2.2.2.1 hd hLn ha hu)
      (fun n' _ pc lv st h1 i len tgt t ci as1 h2 pc1 lv1 rest _ hSt _ _ ha hs _ _ _ _ => by have := sp_k hSt ha hs; omega)
      n (Nat.le_refl _) 0 _ [] h hX ⟨Nat.le_refl _, Nat.le_refl _⟩ (fil_len hlen).symm
    have G2 := G s.heap [] _ hH va_S.rf hL (fun v hv => absurd hv List.not_mem_nil)
    rw [Nat.sub_self, Nat.sub_self] at G2
    exact G2
