/-! what is thrown -/
theorem exH_kd (h : HP) (b : Nat) : h_kd (exH h) b = if b = h_sz h then 99 else h_kd h b := rfl
theorem HR.ex {w : WP} {h : HP} {H H1 : Heap} (hH : HR w h H) (z : H1.size = H.size + 1) (oq : ∀ q, q < H.size → H1[q]? = H[q]?) : HR w (exH h) H1 := by
  obtain ⟨g1, g2, g3, g4, g5, L, hL, hP, hD⟩ := hH
  have hnot : ∀ q ∈ L, q ≠ adr w (h_sz h) := fun q hq e1 => by
    obtain ⟨k, hk⟩ := va_pl_get (X := []) (f := fO w h) hq
    have h1 := (hP k _ hk).lt
    rw [e1, ← g1] at h1
    exact absurd h1 (Nat.lt_irrefl _)
  have e1 : va_pl L (fO w h) = va_pl L (fO w (exH h)) := by
    unfold va_pl
    refine List.map_congr_left fun q hq => ?_
    have hb := pl_mem hD hq
    congr 1
    unfold fO
    refine (cellOf_ne (w := w) (h := h) (h2 := exH h) ?_ rfl rfl rfl rfl).symm
    rw [exH_kd, if_neg (fun y => hnot q hq (by unfold adr; omega))]
  have hP1 := hP.kept (H1 := H1) (fun k q hq => oq q.1 ((hP k q hq).lt))
  rw [e1] at hP1 hD
  refine ⟨by rw [z, g1]; show _ = adr w (h_sz h + 1); unfold adr; omega, by show 100 ≤ h_sz h + 1; omega, ⟨g3.1, g3.2.1, g3.2.2.1, fun a ha => ?_⟩, fun a ha => ?_, fun a ha => ?_, L, fun a ha => ?_, hP1, hD⟩
  · rw [exH_kd]
    split
    · exact Or.inr rfl
    · exact g3.2.2.2 a ha
  · obtain ⟨s1, s2⟩ := g4 a ha
    exact ⟨by rw [exH_kd, if_neg (by omega)]; exact s1, s2⟩
  · rw [exH_kd] at ha
    split at ha
    · omega
    · have := g5 a ha
      exact ⟨this.1, by show a < h_sz h + 1; omega⟩
  · rw [exH_kd] at ha
    split at ha
    · omega
    · exact hL a ha
abbrev nsE : String := "java/util/NoSuchElementException"
abbrev nmE : List String := ["java/lang/RuntimeException", "java/lang/Exception"]
abbrev wxL : List Cond := [.declares ⟨"java/lang/RuntimeException", "<init>", "()V"⟩, .declares ⟨"java/lang/Exception", "<init>", "()V"⟩, .declares ⟨"java/lang/Throwable", "<init>", "()V"⟩, .castable nsE nsE]
theorem at0_good : ∀ w ∈ (vx_at0 "IceBridge" 241 nsE nmE).filter goodWord, w ∈ lw_tbl := by decide +kernel
theorem at0_rest : ∀ w ∈ (vx_at0 "IceBridge" 241 nsE nmE).filter (fun w => !goodWord w), w ∈ wxL := by decide +kernel
theorem at0_ot : ∀ w ∈ Cond.classLink "IceBridge" 239 nsE :: Cond.initialized nsE :: vx_at0 "IceBridge" 241 nsE nmE, vx_ot w = true := by decide +kernel
theorem th_ck : lw_tbl[1193]? = some (.classLink "IceBridge" 239 nsE) ∧ lw_tbl[135]? = some (.initialized nsE) ∧ Bundle.fit nsE = true ∧ ∀ n ∈ nmE, Bundle.fit n = true := by decide +kernel
theorem at0_all {s : State} (hW : Wd s) (args : Array Value) : ∀ w ∈ vx_at0 "IceBridge" 241 nsE nmE, w.before args s = true := by
  refine vx_hat (B := wxL) (fun w hw => hW.1 w (at0_good w hw) (List.mem_filter.mp hw).2 args) at0_rest ?_
  obtain ⟨a1, a2, a3, a4⟩ := hW.2.2.2
  exact vx_c (va_Nw.use rfl a1) (vx_c (va_Nw.use rfl a2) (vx_c (va_Nw.use rfl a3) (vx_c (va_Nw.use rfl a4) vx_n)))
/-- behind a throw: the class, the heap -/
def XCc (w : WP) (h2 : HP) : String → State → State → Prop := fun E st t => E = nsE ∧ HR w h2 t.heap ∧ va_F (Aw w) st t
def noQ : Array Value → State → Outcome → State → Prop := fun _ _ _ _ => False
theorem dec_at (hDK : DK) {k pc len tgt : Nat} {i : Instr} (hk : k < 269) (hf : lk (meth k).2.2.2 pc = some (i, len, tgt)) : decode (mC k) pc = .ok (i, len) := by
  have hok : okE (mC k) (pc, i, len, tgt) = true := all_of (hDK _ (lk_mem _ (meth_at hk))) (lk_mem _ hf)
  unfold okE at hok
  simp only [Bool.and_eq_true, decide_eq_true_eq] at hok
  exact hok.1.1
section S22
variable {p : Program} {l : Launch} {e : Env} {R : Room} {s : State} {m : MethodId} {args : Array Value} {below : List Frame} {mth : Method} {c : Code}
variable {w : WP} {z0 l0 k pc tgt len : Nat} {hE h : HP} {r : AV} {lv st : List AV}
theorem g_throw (hl : l.stackTraces = false) (C : CXk p s m args mth c w k) (h8 : (meth k).1 = 8) (hml : (meth k).2.2.1 = lv.length) (d0 : decode (mC k) pc = .ok (.new 239, 3)) (d3 : decode (mC k) (pc + 3) = .ok (.dup, 1)) (d4 : decode (mC k) (pc + 4) = .ok (.invokespecial 241, 3)) (d7 : decode (mC k) (pc + 7) = .ok (.athrow, 1))
    (hout : ∀ x ∈ c.exceptionTable.toList, False) (hRf : 6 ≤ R.frames) (hRl : 246 ≤ R.locals) (hst : cats st ≤ 8) (hc1 : h_sz h + 1 - z0 ≤ R.cells) (hs1 : h_sl h + 6 - l0 ≤ R.slots) (hz : z0 ≤ h_sz h ∧ l0 ≤ h_sl h) :
    Go p l e R s m args below mth c (vx_MQ below noQ (XCc w (exH h)) args s (h_sz h + 1 - z0) (h_sl h + 6 - l0) (Aw w)) w z0 l0 pc lv st h := by
  obtain ⟨hx, hb, hmL, hown, hret, hlk, hnm, hW, hK, hF, hbs⟩ := C
  intro H locs ls hH hS hL hI
  obtain ⟨t1, t2, t3, t4⟩ := th_ck
  have hown : s.vm.findClass "IceBridge" = some m.cls := by rw [h8] at hown; exact hown
  refine vx_throw0 hx hb hl (own := "IceBridge") (cls := nsE) (names := nmE) (ik := 239) (ic := 241) (A := Aw w) hown t3 t4 (hW.at t1 rfl) (hW.at t2 rfl) (at0_all hW args) at0_ot hF.2.2.2.2.2.2.2.2.2.2.2.1 hF.2.2.2.2.2.2.2.2.2.2.2.2 hS (by rw [hmL, hml]; exact hL.1) d0 d3 d4 d7 (fun x hx => absurd (hout x hx) (fun z => z)) (by show 2 + 3 < _; omega) (by rw [cats_map]; show _ + (13 * (2 + 1) + 42) ≤ _; omega) (by omega) (by omega) hlk (fun t _ hz1 hq => ⟨rfl, hH.ex hz1 hq, ?_, fun q g1 g2 => ?_⟩) hS.2.2 (by omega) (by omega)
  · rw [hz1]; exact Nat.le_trans hS.1 (Nat.le_succ _)
  · rw [hq q (Nat.lt_of_lt_of_le g1 hS.1)]; exact hS.2.1 q g1 g2
end S22
/-- the ends of a run with what is thrown -/
theorem end_new {own rt len tgt pc : Nat} {i : Instr} {lv st : List AV} {h hE : HP} {u : Unit} (ha : act own rt i len tgt pc lv st h = some (true, .inr (.inr (.inr (.inl (.inr (.inr (.inr u)), hE)))))) : ∃ j, i = .new j ∧ hE = exH h ∧ cats st ≤ 8 := by
  have key : ∀ j, inv own j len pc lv st h = some (true, .inr (.inr (.inr (.inl (.inr (.inr (.inr u)), hE))))) → False := by
    intro j hi
    unfold inv at hi
    split at hi <;> (try split at hi) <;> first | exact nr1 hi | exact nr3 hi | cases hi
  unfold act at ha
  split at ha
  all_goals first
    | exact (nr1 ha).elim
    | exact (key _ ha).elim
    | (split at ha <;> first | exact (nr1 ha).elim | exact (nr2 ha).elim | exact (nr4 ha).elim | (exfalso; cases ha; done))
    | (split at ha <;> (try split at ha) <;> first | exact (nr1 ha).elim | exact (nr2 ha).elim | (exfalso; have := (dt_end ha).2; cases this; done) | (exfalso; cases ha; done))
    | (split at ha <;> (try split at ha) <;> (try split at ha) <;> first | exact (nr1 ha).elim | exact (nr2 ha).elim | (exfalso; cases ha; done))
    | skip
  · split at ha
    · rename_i q n hq
      cases hc : Nat.beq q 99 with
      | true =>
        rw [hc] at ha
        have h1 := dt_end ha
        exact ⟨_, rfl, (congrArg Prod.snd h1.2).symm, of_decide_eq_true h1.1⟩
      | false => rw [hc] at ha; exact (nr1 ha).elim
    · cases ha
  · cases ha
def newPc (k : Nat) : Nat := bif Nat.beq k 128 then 12 else 77
theorem new_pc : ((meth 128).2.2.2.all fun e => match e.2.1 with
    | .new j => Nat.beq j 239 && Nat.beq e.1 12 && Nat.beq e.2.2.1 3
    | _ => true) = true ∧ ((meth 137).2.2.2.all fun e => match e.2.1 with
    | .new j => Nat.beq j 239 && Nat.beq e.1 77 && Nat.beq e.2.2.1 3
    | _ => true) = true := by decide +kernel
theorem thr_ck : (∀ k, k = 128 ∨ k = 137 → (meth k).1 = 8 ∧ lk (meth k).2.2.2 (newPc k) = some (.new 239, 3, 0) ∧ lk (meth k).2.2.2 (newPc k + 3) = some (.dup, 1, 0) ∧ lk (meth k).2.2.2 (newPc k + 4) = some (.invokespecial 241, 3, 0) ∧ lk (meth k).2.2.2 (newPc k + 7) = some (.athrow, 1, 0)) := by
  intro k hk
  rcases hk with rfl | rfl <;> decide +kernel
