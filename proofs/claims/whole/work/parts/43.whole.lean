/-! the whole walk out of a run of the abstract machine -/
def PureGoal : Prop := ∀ w : WP, w_L w ≤ 3584 → (∀ j, r32 (w_xs w j)) → ∃ hE, run 200 (meth 268) 0 (fil (meth 268).2.2.1 (ent [vr 40])) [] (h00 w) = some (vi 1, hE) ∧ h_sz hE ≤ 600000 ∧ h_sl hE ≤ 7000000
theorem start_of (hDK : DK) (hP : PureGoal) {p : Program} {e : Env} {s : State} {m : MethodId} {below : List Frame} {meth : Method} {c : Code} (l : Launch) (hflags : l.flags = flags0) {b L : Nat} {xs : Nat → Int32} (hL : L ≤ 3584) (C0 : lw_At p s m meth c b L xs) : W p l e room_1 s m #[Value.ref b] below meth c s.heap [] 0 0 (lw_Z below #[Value.ref b] s) (entryFrame m ([Value.ref b] : List Value).toArray 7) := by
  obtain ⟨hx, hb, hret, hml, hown, hts, hX, hbl, hlk, hgv⟩ := C0
  have hl : l.stackTraces = false := by unfold Launch.stackTraces; rw [hflags]; decide +kernel
  have hW := Wd_of hts
  obtain ⟨D, cy, hK⟩ := K_of hW hts
  obtain ⟨sa, hsa, hSF⟩ := SF_of hts hgv hX hbl hL
  have hF := hSF D cy
  have hK := hK s.heap.size sa L (fun j => (xs j).toInt)
  generalize hw : ((D, cy, s.heap.size, sa, L, fun j => (xs j).toInt) : WP) = w at hF hK
  have hwb : w_b w = s.heap.size := by rw [← hw]; rfl
  have hwsa : w_sa w 40 = b := by rw [← hw]; exact hsa
  obtain ⟨hE, hrun, hz, hs⟩ := hP w hF.2.2.2.2.2.2.2.2.2.2.1.1 hF.2.2.2.2.2.2.2.2.2.2.1.2
  obtain ⟨n, hn⟩ := run_some.mp hrun
  have hH := h00_HR hwb hF.2.2.2.2.2.2.2.2.2.2.1.1 hF.2.2.2.2.2.2.2.2.2.2.1.2
  obtain ⟨m1, m2, m3, m4, m5, m6, m7⟩ := m268
  have C : CXk p s m #[Value.ref b] meth c w 268 := ⟨hx, by rw [m4]; exact hb, by rw [m3]; exact hml, by rw [m1, m7]; exact hown, by rw [m5]; exact hret, hlk, fun z => absurd rfl z, hW, hK, hF, Nat.le_of_eq hwb⟩
  have e1 : ([vr 40].map (rv w)).toArray = #[Value.ref b] := by
    show #[rv w (vr 40)] = _
    rw [ref_stat (by omega) (by omega), hwsa]
  have G := law_walk hDK (e := e) (below := below) hl (n := n) (D := 200) (h0 := h00 w) (hE := hE) (by omega) (by omega) C hwb hn (by show h_sz hE - 100 ≤ _; omega) (by omega)
  have hLr := entry_LVr w [vr 40] 7 (by decide) (fun v hv => by rw [List.mem_singleton] at hv; subst hv; trivial)
  have e2 : ([vr 40].map (rv w)) = [Value.ref b] := by
    show [rv w (vr 40)] = _
    rw [ref_stat (by omega) (by omega), hwsa]
  rw [e2] at hLr
  rw [lg_entry_eq]
  rw [m3] at G
  have G2 := G s.heap [] _ hH va_S.rf hLr (fun v hv => absurd hv List.not_mem_nil)
  rw [Nat.sub_self, Nat.sub_self] at G2
  exact G2
