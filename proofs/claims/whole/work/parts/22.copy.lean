section S11
variable {p : Program} {l : Launch} {e : Env} {R : Room} {s : State} {m : MethodId} {args : Array Value} {below : List Frame} {mth : Method} {c : Code} {Q : State → Prop}
variable {w : WP} {z0 l0 : Nat} {cc : ByteArray} {pc : Nat} {lv r : List AV} {h : HP} {own : Nat}
theorem nfw : nativeFrameWords "java/lang/System" "arraycopy" 5 ≤ 20 := by decide +kernel
theorem g_copy (hx : p.tables.exec = Jvm.exec) (hb : c.code = cc) (hown : s.vm.findClass (oN own) = some m.cls) (hW : Wd s) (hK : va_K (w_D w) clsL (tysL w) s) (hml : c.maxLocals = lv.length) {k nn q t a b : Nat} {n dp sp : Int} (hd : decode cc pc = .ok (.invokestatic k, 3)) (hf : mres own k = some (6, 0, nn, q, t)) (hc : cats r ≤ 8) (hR : 1 ≤ R.frames ∧ 41 ≤ R.locals)
    (hka : isK h a 11 = true) (hkb : isK h b 11 = true) (n0 : 0 ≤ n) (s0 : 0 ≤ sp) (d0 : 0 ≤ dp) (h1 : sp + n ≤ (h_ln h a : Int)) (h2 : dp + n ≤ (h_ln h b : Int))
    (kk : Go p l e R s m args below mth c Q w z0 l0 (pc + 3) lv r (sRi h b (va_cpy (h_mi h a) (h_mi h b) sp.toNat dp.toNat n.toNat))) : Go p l e R s m args below mth c Q w z0 l0 pc lv (vi n :: vi dp :: vr b :: vi sp :: vr a :: r) h := by
  intro H locs ls hH hS hL hI
  have hka := isK_eq hka
  have hkb := isK_eq hkb
  have rn : r32 n := ih hI
  have rd : r32 dp := ih (it hI)
  have rs : r32 sp := ih (it (it (it hI)))
  obtain ⟨ha, -, L, i, hi, -, -, hP, hD⟩ := hH.get (a := a) (by omega)
  obtain ⟨hbb, -, L2, j, hj, -, -, hP2, hD2⟩ := hH.get (a := b) (by omega)
  rw [cell_int hka (by omega)] at hi
  rw [cell_int hkb (by omega)] at hj
  have hc0 : H[adr w a]? = some (vp_cell (w_cy w 11) (h_ln h a, .inl fun j => Int32.ofInt (h_mi h a j))) := hP i _ hi
  have hc1 : H[adr w b]? = some (vp_cell (w_cy w 11) (h_ln h b, .inl fun j => Int32.ofInt (h_mi h b j))) := hP2 j _ hj
  obtain ⟨-, k0, hk0, cm0, hkk0⟩ := (hK.2 1 _ rfl).1 (h_ln h a) (fun j => .int (Int32.ofInt (h_mi h a j)))
  have nn1 : ∀ z : Int, r32 z → 0 ≤ z → ¬ Int32.ofInt z < 0 := fun z hz h0 hlt => by rw [← o0, lt32 hz r0] at hlt; omega
  have hp := prim_ck
  have hlt : adr w b < H.size := (Array.getElem?_eq_some_iff.mp hc1).1
  simp only [List.map_cons, ref_dyn ha, ref_dyn hbb]
  intro T hT X
  obtain ⟨vm', X', step⟩ := X.arraycopy hx hown (lk1 hW hf (by omega)) (hW.at hp.2.2.2.2.2.2.2.1 rfl) (hW.at hp.2.2.2.2.2.2.2.2.1 rfl) (hW.at hp.2.2.2.2.2.2.2.2.2.1 rfl) (src := adr w a) (dst := adr w b) (cs := vp_cell (w_cy w 11) (h_ln h a, .inl fun j => Int32.ofInt (h_mi h a j))) (cd := vp_cell (w_cy w 11) (h_ln h b, .inl fun j => Int32.ofInt (h_mi h b j))) (srcPos := Int32.ofInt sp) (destPos := Int32.ofInt dp) (n := Int32.ofInt n) (by rw [hT]; exact hc0) (by rw [hT]; exact hc1)
    (fun _ z => by cases z) (fun _ z => by cases z) (fun z => by cases z) (fun z => by cases z) hk0 hk0 hkk0 hkk0 (by simp [refKind]) (nn1 sp rs s0) (nn1 dp rd d0) (nn1 n rn n0)
    (by rw [of32 rs, of32 rn]; show ¬ _ > ((arrV _ (h_ln h a) (fun j => .int (Int32.ofInt (h_mi h a j)))).slots.size : Int); rw [arrV_size]; omega)
    (by rw [of32 rd, of32 rn]; show ¬ _ > ((arrV _ (h_ln h b) (fun j => .int (Int32.ofInt (h_mi h b j)))).slots.size : Int); rw [arrV_size]; omega)
    (fun vm₁ _ i hi => by
      have hi2 : i < n.toNat := by rw [clamp32 rn n0] at hi; exact hi
      have e1 : (vp_cell (w_cy w 11) (h_ln h a, .inl fun j => Int32.ofInt (h_mi h a j))).slots.getD ((Int32.ofInt sp).toNatClampNeg + i) .null = .int (Int32.ofInt (h_mi h a (sp.toNat + i))) := by
        rw [clamp32 rs s0]
        show (arrV _ (h_ln h a) (fun j => .int (Int32.ofInt (h_mi h a j)))).slots.getD _ _ = _
        rw [Array.getD_eq_getD_getElem?, arrV_read _ _ (by omega)]
        rfl
      rw [e1]
      exact ⟨rfl, trivial⟩)
    (g := F0 m pc ls (.int (Int32.ofInt n) :: .int (Int32.ofInt dp) :: .ref (adr w b) :: .int (Int32.ofInt sp) :: .ref (adr w a) :: List.map (rv w) r)) rfl (by rw [hml]; exact hL.1) (rest := List.map (rv w) r) rfl (by rw [hb]; exact hd) hR.1 (by rw [cats_map]; show 2 * 0 + _ + (nativeFrameWords "java/lang/System" "arraycopy" 5 + 11) ≤ _; have := nfw; omega)
  have h4 : (Int32.ofInt sp).toNatClampNeg + (Int32.ofInt n).toNatClampNeg ≤ h_ln h a := by rw [clamp32 rs s0, clamp32 rn n0]; omega
  have e1 : copied (vp_cell (w_cy w 11) (h_ln h a, .inl fun j => Int32.ofInt (h_mi h a j))) (vp_cell (w_cy w 11) (h_ln h b, .inl fun j => Int32.ofInt (h_mi h b j))) (Int32.ofInt sp) (Int32.ofInt dp) (Int32.ofInt n) = vp_cell (w_cy w 11) (h_ln h b, .inl (va_cpy (fun j => Int32.ofInt (h_mi h a j)) (fun j => Int32.ofInt (h_mi h b j)) (Int32.ofInt sp).toNatClampNeg (Int32.ofInt dp).toNatClampNeg (Int32.ofInt n).toNatClampNeg)) := va_copied (fun z => .int z) (w_cy w 11) (w_cy w 11) (fun j => Int32.ofInt (h_mi h a j)) (fun j => Int32.ofInt (h_mi h b j)) h4
  rw [e1, clamp32 rs s0, clamp32 rd d0, clamp32 rn n0] at X' step
  generalize hnew : vp_cell (w_cy w 11) (h_ln h b, .inl (va_cpy (fun j => Int32.ofInt (h_mi h a j)) (fun j => Int32.ofInt (h_mi h b j)) sp.toNat dp.toNat n.toNat)) = new at X' step
  have hheap : ((T.setVm vm').setCell (adr w b) new).heap = H.setIfInBounds (adr w b) new := by rw [← hT]; rfl
  have oq : ∀ z : Nat, z ≠ adr w b → (H.setIfInBounds (adr w b) new)[z]? = H[z]? := fun z hz => by simp [Array.getElem?_setIfInBounds, Ne.symm hz]
  have hsz : (H.setIfInBounds (adr w b) new).size = H.size := by simp
  have hat : va_at (w_D w) clsL (adr w b, cellOf w (sRi h b (va_cpy (h_mi h a) (h_mi h b) sp.toNat dp.toNat n.toNat)) b) (H.setIfInBounds (adr w b) new) := by
    rw [cell_int (h := sRi h b (va_cpy (h_mi h a) (h_mi h b) sp.toNat dp.toNat n.toNat)) hkb (by omega)]
    show (H.setIfInBounds (adr w b) new)[adr w b]? = some (vp_cell _ _)
    rw [Array.getElem?_setIfInBounds]
    simp only [hlt, if_true]
    rw [← hnew]
    congr 3
    congr 1
    funext z
    have e2 : h_mi (sRi h b (va_cpy (h_mi h a) (h_mi h b) sp.toNat dp.toNat n.toNat)) b z = va_cpy (h_mi h a) (h_mi h b) sp.toNat dp.toNat n.toNat z := by rw [mi_sRi, if_pos rfl]
    rw [e2]
    unfold va_cpy
    split <;> rfl
  have hH1 := hH.wr (a := b) (by omega) ne_sRi rfl rfl (ok_sRi hH.2.2.1 (fun j => by unfold va_cpy; split <;> exact hH.2.2.1.1 _ _)) (sh_sRi hH.2.2.2.1 hbb) hsz oq hat
  obtain ⟨t, a1, b1⟩ := kk _ _ ls hH1 ⟨by rw [hsz]; exact hS.1, fun y g1 g2 => by
      rw [oq y (fun z => g2 (by rw [z]; exact Aw_adr w b))]
      exact hS.2.1 y g1 g2, fun y hy => by
      rcases List.mem_append.mp hy with g | g
      · exact hS.2.2 y g
      · obtain ⟨z, -, hz⟩ := List.mem_map.mp g
        rw [← hz]
        exact Aw_adr w b⟩ hL (it (it (it (it (it hI))))) _ hheap X'
  exact ⟨t, step t a1, b1⟩
end S11
