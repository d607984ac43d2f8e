/-! a method that throws; the law's two methods that catch -/
theorem LVr.put1u {w : WP} {ls ls2 : Array Slot} {lv : List AV} {i : Nat} {v : Value} (h : LVr w ls lv) (hi : i < lv.length)
    (h2 : lv_has ls2 lv.length ((i, v) :: (asc w lv).filter (fun q => !(q.1 == i) && !(q.1 + 1 == i && q.2.category == 2)))) : LVr w ls2 (st1 lv i vu) := by
  have hlen : (st1 lv i vu).length = lv.length := by unfold st1; rw [List.length_set, kil_len]
  refine ⟨by rw [hlen]; exact h2.1, h2.2.1, fun j u hj hu => ?_⟩
  unfold st1 at hj
  by_cases hji : j = i
  · subst hji
    rw [List.getElem?_set] at hj
    simp [kil_len, hi] at hj
    subst hj
    cases hu
  · rw [List.getElem?_set_ne (fun e => hji e.symm)] at hj
    obtain ⟨h3, h4⟩ := kil_get hj hu
    refine ⟨h2.2.2 (j, rv w u) (List.mem_cons_of_mem _ (List.mem_filter.mpr ⟨asc_in h3 hu, ?_⟩)), (h.2.2 j u h3 hu).2⟩
    simp only [rv_cat, Bool.and_eq_true, Bool.not_eq_true', Bool.and_eq_false_imp, beq_eq_false_iff_ne, beq_iff_eq]
    exact ⟨hji, fun e1 e2 => h4 ⟨e1, e2⟩⟩
theorem thr_new {k pc len tgt j : Nat} (hk : k = 128 ∨ k = 137) (hf : lk (meth k).2.2.2 pc = some (.new j, len, tgt)) : j = 239 ∧ pc = newPc k ∧ len = 3 := by
  have hm := lk_mem _ hf
  rcases hk with rfl | rfl
  · have h1 : (Nat.beq j 239 && Nat.beq pc 12 && Nat.beq len 3) = true := all_of new_pc.1 hm
    simp only [Bool.and_eq_true, Nat.beq_eq] at h1
    exact ⟨h1.1.1, h1.1.2, h1.2⟩
  · have h1 : (Nat.beq j 239 && Nat.beq pc 77 && Nat.beq len 3) = true := all_of new_pc.2 hm
    simp only [Bool.and_eq_true, Nat.beq_eq] at h1
    exact ⟨h1.1.1, h1.1.2, h1.2⟩
theorem thr (hDK : DK) {l : Launch} (hl : l.stackTraces = false) (w : WP) {n d k : Nat} {as : List AV} {h hE : HP} {u : Unit} (hk : k = 128 ∨ k = 137) (hd4 : 4 ≤ d) (hA : okA k as = true) (hX : X n d (meth k) 0 (fil (meth k).2.2.1 (ent as)) [] h = some (.inr (.inr (.inr u)), hE)) :
    vx_Met l (mN k) [Cond.code (mN k) (mC k) (meth k).2.2.1 (mR k)] (rmd d (h_sz hE - h_sz h) (h_sl hE - h_sl h)) (Pcc w as h) noQ (XCc w hE) (h_sz hE - h_sz h) (h_sl hE - h_sl h) (Aw w) := by
  have hk6 : k < 266 := by omega
  have hlen : (ent as).length ≤ (meth k).2.2.1 := Nat.le_of_ble_eq_true hA
  have hpl : plainName (mN k).cls = true := by rcases hk with rfl | rfl <;> decide +kernel
  refine vx_ofW (cc := mC k) (maxL := (meth k).2.2.1) (ret := mR k) hpl rfl ?_
  intro p e s m args below mth c s₁ B hml hout hP
  obtain ⟨rfl, hI, hH, hW, hK, hF⟩ := hP
  have hw := meth_w hW hk6
  have hown : s.vm.findClass (oN (meth k).1) = some m.cls := by rw [hw.2.2.2.2.1]; exact findClass_of_methodNamed B.named
  have hbs : w_b w ≤ s.heap.size := by rw [hH.1]; exact Nat.le_add_right _ _
  have C : CXk p s m (as.map (rv w)).toArray mth c w k := ⟨B.exec, B.bytes, hml, hown, B.returns, B.notSynchronized, fun _ => (name_of_methodNamed B.named B.method).1, hW, hK, hF, hbs⟩
  have hL := entry_LVr w as (meth k).2.2.1 hlen hI
  rw [lg_entry_eq]
  have G := walk (l := l) (e := e) (R := rmd d (h_sz hE - h_sz h) (h_sl hE - h_sl h)) (below := below) (Q := vx_MQ below noQ (XCc w hE) (as.map (rv w)).toArray s (h_sz hE - h_sz h) (h_sl hE - h_sl h) (Aw w)) (z0 := h_sz h) (l0 := h_sl h) (d := d) (r := .inr (.inr (.inr u))) (hE := hE) hDK n (by omega) C (Nat.le_refl _) (Nat.le_refl _) (Nat.le_refl _) (Nat.le_refl _)
    (fun n' hn' d1 ci as1 h1 r1 h2 _ hci hoA hX1 hu1 => sound hDK l w n' n' d1 ci as1 h1 r1 h2 (Nat.le_refl _) hci hoA hX1 hu1)
    (fun pc lv st h1 i len tgt hf hd hLn ha hz hml2 => by
      obtain ⟨j, rfl, hEe, hst⟩ := end_new ha
      obtain ⟨rfl, rfl, rfl⟩ := thr_new hk hf
      subst hEe
      obtain ⟨h8, l0, l3, l4, l7⟩ := thr_ck k hk
      exact g_throw hl C h8 hml2 (dec_at hDK (by omega) l0) (dec_at hDK (by omega) l3) (dec_at hDK (by omega) l4) (dec_at hDK (by omega) l7) hout (by show 6 ≤ d + 2; omega) (by show 246 ≤ 41 * (d + 2); omega) hst (Nat.le_refl _) (Nat.le_refl _) hz)
    (fun n' _ pc lv st h1 i len tgt t ci as1 h2 pc1 lv1 rest _ hSt _ _ ha hs _ _ _ _ => by have := sp_k hSt ha hs; omega)
    n (Nat.le_refl _) 0 _ [] h hX ⟨Nat.le_refl _, Nat.le_refl _⟩ (fil_len hlen).symm
  have G2 := G s.heap [] _ hH va_S.rf hL (fun v hv => absurd hv List.not_mem_nil)
  rw [Nat.sub_self, Nat.sub_self] at G2
  exact G2
/-! the two methods of the law -/
def cK (k : Nat) : Nat := bif Nat.beq k 266 then 128 else 137
def hhL (k : Nat) : List (Nat × Nat × Nat × Nat) := bif Nat.beq k 266 then [(0, 10, 13, 13)] else [(0, 14, 17, 13)]
def inPc (k : Nat) : Nat := bif Nat.beq k 266 then 5 else 9
def lkI (k : Nat) : Nat := bif Nat.beq k 266 then 7 else 15
def hPc (k : Nat) : Nat := bif Nat.beq k 266 then 13 else 17
def eLo (k : Nat) : Nat := bif Nat.beq k 266 then 4 else 6
def nAr (k : Nat) : Nat := bif Nat.beq k 266 then 3 else 5
def lkP (k : Nat) : Nat := bif Nat.beq k 266 then 1189 else 1263
def insOK (k : Nat) (e : Nat × Instr × Nat × Nat) : Bool := match e.2.1 with
  | .invokevirtual j => Nat.beq j (lkI k) && Nat.beq e.1 (inPc k) && Nat.beq e.2.2.1 3
  | .invokestatic _ => false
  | .invokespecial _ => false
  | _ => true
theorem c6_ck : ∀ k, k = 266 ∨ k = 267 → (meth k).1 = 10 ∧ mres 10 (lkI k) = some (7, cK k, nAr k, 8, 1) ∧ lw_tbl[lkP k]? = some (.methodLink "IceBridgeLaw" (lkI k) (mN (cK k))) ∧ (mI (cK k)).2.2.1 = false ∧ (mN (cK k)).name ≠ "<init>" ∧ (parseMethodDescriptor (mN (cK k)).desc).map (fun d => d.parameters.length + 1) = some (nAr k) ∧ (mN (cK k)).cls = RC 8 ∧ mR (cK k) = some .int ∧ mR k = some .int ∧ (meth k).2.1 = 1 := by
  intro k hk
  rcases hk with rfl | rfl <;> decide +kernel
theorem c6_lk : ∀ k, k = 266 ∨ k = 267 → lk (meth k).2.2.2 (hPc k) = some (.astore (eLo k), 2, 0) ∧ lk (meth k).2.2.2 (hPc k + 2) = some (.iconst 1, 1, 0) ∧ lk (meth k).2.2.2 (hPc k + 3) = some (.ireturn, 1, 0) ∧ ((meth k).2.2.2.all (insOK k)) = true ∧ eLo k < (meth k).2.2.1 ∧ hPc k = inPc k + 3 + 5 ∧ (mN k).cls = "IceBridgeLaw" ∧ oN 10 = "IceBridgeLaw" ∧ plainName (mN k).cls = true ∧ lw_tbl[1188]? = some (.classLink "IceBridgeLaw" 13 nsE) := by
  intro k hk
  rcases hk with rfl | rfl <;> decide +kernel
theorem call_is {own rt len tgt pc t ci : Nat} {i : Instr} {lv st : List AV} {h : HP} {x : List AV × HP × Nat × List AV × List AV} (ha : act own rt i len tgt pc lv st h = some (true, .inr (.inr (.inl (t, ci, x))))) : (∃ j, i = .invokespecial j) ∨ (∃ j, i = .invokevirtual j) ∨ ∃ j, i = .invokestatic j := by
  unfold act at ha
  split at ha
  all_goals first
    | exact Or.inl ⟨_, rfl⟩
    | exact Or.inr (Or.inl ⟨_, rfl⟩)
    | exact Or.inr (Or.inr ⟨_, rfl⟩)
    | exact (nc1 ha).elim
    | (split at ha <;> first | exact (nc1 ha).elim | exact (nc2 ha).elim | exact (nc4 ha).elim | (exfalso; cases ha; done))
    | (split at ha <;> (try split at ha) <;> first | exact (nc1 ha).elim | exact (nc2 ha).elim | exact (nc3 ha).elim | (exfalso; cases ha; done))
    | (split at ha <;> (try split at ha) <;> (try split at ha) <;> first | exact (nc1 ha).elim | exact (nc2 ha).elim | exact (nc3 ha).elim | (exfalso; cases ha; done))
    | skip
  · split at ha
    · rename_i q n hq
      cases hc : Nat.beq q 99 with
      | true => rw [hc] at ha; exact (nc3 ha).elim
      | false => rw [hc] at ha; exact (nc1 ha).elim
    · cases ha
  · cases ha
theorem met_ofWH {l : Launch} {y : MethodName} {ws ws' : List Cond} {rm : Room} {Pc : Array Value → State → Prop} {Qc : Array Value → State → Outcome → State → Prop} {mc ms : Nat} {free : Addr → Prop} {cc : ByteArray} {maxL : Nat} {ret : Option FieldType} {hh : List (Nat × Nat × Nat × Nat)}
    (hy : plainName y.cls = true) (hw : ws = Cond.codeWith y cc maxL ret hh :: ws')
    (body : ∀ p e s m args below meth c s₁, BodyLoose p l y (headSpec ws rm) cc maxL ret e s m args below meth c s₁ → c.maxLocals = maxL → Pc args s →
      W p l e (headSpec ws rm).room s m args below meth c s.heap [] 0 0 (MQ below Qc args s mc ms free) (entryFrame m args maxL)) : Met l y ws rm Pc Qc mc ms free := by
  refine MetFree.of_bodyS (code := cc) (maxLocals := maxL) (ret := ret) hy ?_ ?_
  · intro args s m h hn
    obtain ⟨m9, meth, c, hn9, h1, h2, h3, h4, -, h5, h6, -⟩ := Cond.codeWith_spec (atoms_spec (ws := ws) h _ (by rw [hw]; exact List.mem_cons_self))
    cases hn.symm.trans hn9
    exact ⟨meth, c, h1, h2, h3, h4, h5, h6⟩
  · intro p e s m args below meth c s₁ B hml hP _
    have hh0 : s₁.heap = s.heap := by rw [B.state]; rfl
    obtain ⟨t, a1, o, b1, b2, b3⟩ := body p e s m args below meth c s₁ B hml hP s₁ hh0 (Stand.of_body B)
    exact ⟨t, o, a1, b1, b2, ⟨b3.1, b3.2⟩⟩
