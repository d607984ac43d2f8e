/-! pairs of calls: pour, over, undo -/
section
variable {h : HP} {t : Nat} {E : EE} {B : Int} {L : Nat} {xs : Nat → Int}
theorem kpN_min (M : MM) (d0 : 0 ≤ M 145 44) (d1 : M 145 44 ≤ 20) : kpN M = min (M 145 44 + 1) 20 := by unfold kpN; split <;> omega
/-- a deed more -/
theorem Inv.deed (i : Inv h t E B L xs) {N N2 : MM} {S' : Nat → Int} {doer row : Int} (r0 : 0 ≤ row) (r1 : row < 6) (gN : Ag (CA t) (h_mi h) N) (rN : ∀ a, 145 ≤ a → a ≤ 180 → N a = h_mi h a) (k1 : Cg (sM h N) t E S') (kp : ∀ a, (101 ≤ a ∧ a ≤ 102) ∨ (130 ≤ a ∧ a ≤ 133) → N a = kpC (h_mi h) doer row a) (q : QA (va_up (kpM N) 172 S') N2) (sb : SB (h_mi h) 0 S') (s3 : I3S S') (nb : S' 134 ≤ B)
    (un : ∀ D : MM, D 147 = h_mi h 147 → D 131 (h_mi h 130 3).toNat = doer → D 132 (h_mi h 130 3).toNat = row → (∀ j, j < 10 → D 133 (10 * (h_mi h 130 3).toNat + j) = h_mi h 172 (10 * row.toNat + j)) → UnD D (h_mi h 130 3).toNat (h_mi h 172) S') : Inv (sM h N2) t E B L xs := by
  have dd := i.2.2.2.1
  have d0 := dd.2.1
  have d3 := dd.2.2.1
  have lt := i.1.fj.lt
  have e145 : N 145 = h_mi h 145 := rN _ (by omega) (by omega)
  have kn := kpN_min N (by rw [e145]; exact d0.1) (by rw [e145]; exact d0.2)
  rw [e145] at kn
  have dn : ∀ a, a ≠ 145 → a ≠ 172 → a ≠ 175 → va_up (kpM N) 172 S' a = N a := fun a h1 h2 h3 => by rw [up_ne _ _ h2, kpM_ne _ h1 h3]
  have d44 : va_up (kpM N) 172 S' 145 44 = min (h_mi h 145 44 + 1) 20 := by rw [up_ne _ _ (by omega), kpM_44, kn]
  have d175 : va_up (kpM N) 172 S' 175 = kpU N := by rw [up_ne _ _ (by omega), kpM_175]
  have c126 : ∀ c, c < 60 → h_mi h 126 c = h_mi h 172 c := fun c hc => (i.1.ic.1 c hc).1
  have k0 := kpC_130 (h_mi h) doer row
  have dk : ∀ a, (101 ≤ a ∧ a ≤ 102) ∨ (130 ≤ a ∧ a ≤ 133) → va_up (kpM N) 172 S' a = kpC (h_mi h) doer row a := fun a ha => by rw [dn a (by omega) (by omega) (by omega), kp a ha]
  refine i.fin (by omega) gN k1 (fun a ha => dn a (by omega) (by omega) (by omega)) q (by rw [up_eq]) sb ?_ ?_ s3 nb
  · refine i.2.2.1.e ?_ ?_ ?_ ?_
    · rw [dk 101 (by omega), kpC_ne _ _ _ (by omega)]
    · rw [up_ne _ _ (by omega), kpM_f _ (by omega), e145]
    · rw [dk 102 (by omega), kpC_ne _ _ _ (by omega)]
    · rw [dn 146 (by omega) (by omega) (by omega), rN 146 (by omega) (by omega)]
  · rw [d44, d175]
    refine dd.keep i.1.vm.2.1 i.2.2.2.2.2.1.1 (by rw [dn 147 (by omega) (by omega) (by omega), rN 147 (by omega) (by omega)]) (by rw [dn 148 (by omega) (by omega) (by omega), rN 148 (by omega) (by omega)]) (by rw [dk 130 (by omega), k0.1]) (by rw [dk 130 (by omega), k0.2, dd.1]) (fun z z1 zn => ⟨?_, ?_, fun j hj => ?_⟩) (un _ (by rw [dn 147 (by omega) (by omega) (by omega), rN 147 (by omega) (by omega)]) ?_ ?_ (fun j hj => ?_)) (fun a k hk ha => ?_)
    · rw [dk 131 (by omega), kpC_131, up_ne _ _ zn]
    · rw [dk 132 (by omega), kpC_132, up_ne _ _ zn]
    · rw [dk 133 (by omega), kpC_133]
      unfold va_cpy
      rw [if_neg (by omega)]
    · rw [dk 131 (by omega), kpC_131, up_eq]
    · rw [dk 132 (by omega), kpC_132, up_eq]
    · rw [dk 133 (by omega), kpC_133]
      unfold va_cpy
      rw [if_pos (by omega), ← c126 _ (by omega)]
      congr 1; omega
    · have := kpU_at N (by rw [e145]; exact d0.1) (by rw [e145]; exact d0.2) a k hk (by rw [e145]; exact ha)
      rw [e145, rN 172 (by omega) (by omega), rN 175 (by omega) (by omega)] at this
      exact this
theorem p_pour (i : Inv h t E B L xs) (p x y : Int) : Pa h 115 201 [vi p, vi x, vi y] [vi p, vi x, vi y] (Nx h B L xs) := by
  have dd := i.2.2.2.1
  have cc := i.1.vm.c
  have rr := i.1.vm.r
  have pp := i.1.vm.p
  have s3 := i.2.2.2.2.2.1.1
  have kk := k_pour i.1 ⟨dd.2.2.1, by rw [dd.1]; exact dd.2.1⟩ 194 p x y
  by_cases ok : pourOk (h_mi h) p x y
  · obtain ⟨N, e1, gN, rN, k1, kp⟩ := kk.1 ok
    obtain ⟨o1, o2, o3, o4, o5, o6⟩ := id ok
    have e145 : N 145 = h_mi h 145 := rN _ (by omega) (by omega)
    obtain ⟨N2, e2, q⟩ := (r_pour (E := E) 192 p x y (sM h N) k1.rs k1.vm (by rw [mi_sM, e145]; exact dd.2.1.1) (by rw [mi_sM, e145]; exact dd.2.1.2)).1 (by rw [mi_sM, pourOk_rr rN]; exact ok)
    rw [mi_sM] at q
    rw [sM_sM] at e2
    unfold pourD at q
    rw [poS_rr rN] at q
    have lf := (i.1.vm.lf (p := p.toNat) (by omega)).1
    rw [show 120 + p.toNat = (120 + p).toNat by omega] at lf
    have tb := (i.1.vm.s (c := (10 * y + x).toNat) (by omega))
    have gb := grV_b (h_mi h) E (10 * y + x) (h_mi h 172 133) (h_mi h 172 134)
    have pv : 0 ≤ poV (h_mi h) E p (10 * y + x) ∧ poV (h_mi h) E p (10 * y + x) ≤ 99 := by unfold poV; split <;> omega
    have ot : ∀ c, c ≠ (10 * y + x).toNat → c ≠ 135 → c ≠ (120 + p).toNat → poS (h_mi h) E p (10 * y + x) c = h_mi h 172 c := fun c h1 h2 h3 => by unfold poS; rw [up_ne _ _ h3, up_ne _ _ h2, up_ne _ _ h1]
    have a1 : poS (h_mi h) E p (10 * y + x) (10 * y + x).toNat = poV (h_mi h) E p (10 * y + x) := by unfold poS; rw [up_ne _ _ (by omega), up_ne _ _ (by omega), up_eq]
    have a2 : poS (h_mi h) E p (10 * y + x) 135 = i_add (h_mi h 172 135) (poV (h_mi h) E p (10 * y + x) - h_mi h 172 (10 * y + x).toNat) := by unfold poS; rw [up_ne _ _ (by omega), up_eq]
    have a3 : poS (h_mi h) E p (10 * y + x) (120 + p).toNat = h_mi h 172 (120 + p).toNat - 1 := by unfold poS; rw [up_eq]
    refine ⟨1, _, _, e1, e2, Nx.of (i.deed (doer := 8 + p) (row := y) (by omega) (by omega) gN rN k1 kp q ?_ ?_ ?_ ?_)⟩
    · obtain ⟨b1, b2, b3, b4, b5, b6⟩ := i.1.vm.2.1
      refine ⟨fun c hc => ?_, fun j hj => ?_, by rw [ot _ (by omega) (by omega) (by omega)]; exact b3, by rw [ot _ (by omega) (by omega) (by omega)]; exact b4, by rw [ot _ (by omega) (by omega) (by omega)]; exact b5, fun k h1 h2 => by rw [ot _ (by omega) (by omega) (by omega)]; exact b6 k h1 h2⟩
      · rw [ot (60 + c) (by omega) (by omega) (by omega)]
        by_cases z : c = (10 * y + x).toNat
        · rw [z, a1]
          refine ⟨pv, tb.2.1, fun hr => ?_⟩
          rw [show 60 * 0 + (10 * y + x).toNat = (10 * y + x).toNat by omega] at hr
          exact absurd hr o5
        · rw [ot c z (by omega) (by omega)]; exact b1 c hc
      · rw [ot (126 + j) (by omega) (by omega) (by omega)]
        refine ⟨?_, (b2 j hj).2⟩
        by_cases z : 120 + j = (120 + p).toNat
        · rw [z, a3]; omega
        · rw [ot _ (by omega) (by omega) z]; exact (b2 j hj).1
    · exact ⟨by rw [a2]; exact i3_add _ _, by rw [ot _ (by omega) (by omega) (by omega)]; exact s3.2.1, by rw [ot _ (by omega) (by omega) (by omega)]; exact s3.2.2⟩
    · rw [ot _ (by omega) (by omega) (by omega)]; exact i.2.2.2.2.2.1.2
    · intro D d7 d1 d2 d3
      have ec : (10 * y + x).toNat = (10 * ((y.toNat : Nat) : Int) + x).toNat := by omega
      refine ⟨y.toNat, by omega, by rw [d2]; omega, d3, fun c hc hr => by rw [ot c (by omega) (by omega) (by omega)], by rw [ot _ (by omega) (by omega) (by omega)], Or.inl ⟨p.toNat, by rw [d7]; omega, by omega, by rw [d1]; omega, fun j hj => ?_, by rw [ot _ (by omega) (by omega) (by omega)], ?_, by rw [ot _ (by omega) (by omega) (by omega)]⟩⟩
      · by_cases z : j = p.toNat
        · rw [if_pos z, show 120 + j = (120 + p).toNat by omega, a3]; omega
        · rw [if_neg z, ot _ (by omega) (by omega) (by omega)]
      · have ef : fgV y.toNat (h_mi h 172) (poS (h_mi h) E p (10 * y + x)) = poV (h_mi h) E p (10 * y + x) - h_mi h 172 (10 * y + x).toNat := by
          unfold poS
          rw [fgV_ot (by omega) (by omega), fgV_ot (by omega) (by omega), ec, fgV_up (by omega) (by omega), fgV_self]
          omega
        rw [ef, a2, i_sub_add s3.1]
  · exact Pa.no i (kk.2 ok) ((r_pour (E := E) 192 p x y h i.1.rs i.1.vm dd.2.1.1 dd.2.1.2).2 ok)
theorem ov_b {M : MM} {E : EE} (v : VM M E) {l row : Int} (r0 : 0 ≤ row) (r1 : row < 6) : ∀ (k : Nat) (i : Int) (T : Nat → Int), 0 ≤ i → i + k ≤ 10 → C99 T → i3 (T 137) → (∀ c, c < 60 → M 148 c = 1 → T c = 0) → C99 (itr (ovF M l row) k i T) ∧ i3 (itr (ovF M l row) k i T 137) ∧ ∀ c, c < 60 → M 148 c = 1 → itr (ovF M l row) k i T c = 0
  | 0, i, T, i0, i1, a, b, c => ⟨a, b, c⟩
  | k + 1, i, T, i0, i1, a, b, c => by
    show C99 (itr (ovF M l row) k (i + 1) (ovF M l row i T)) ∧ _ ∧ _
    have wb := weV_b M l
    have t := a (10 * row + i).toNat (by omega)
    refine ov_b v r0 r1 k (i + 1) (ovF M l row i T) (by omega) (by omega) ?_ ?_ ?_
    · intro x hx
      unfold ovF
      split
      · exact a x hx
      · by_cases z : x = (10 * row + i).toNat
        · rw [z, up_eq]; omega
        · rw [up_ne _ _ z, up_ne _ _ (by omega)]; exact a x hx
    · unfold ovF
      split
      · exact b
      · rw [up_ne _ _ (by omega), up_eq]; exact i3_add _ _
    · intro x hx hr
      unfold ovF
      split
      · exact c x hx hr
      · next z =>
        by_cases y : x = (10 * row + i).toNat
        · rw [y] at hr; exact absurd hr z
        · rw [up_ne _ _ y, up_ne _ _ (by omega)]; exact c x hx hr
theorem p_over (i : Inv h t E B L xs) (l row : Int) : Pa h 116 206 [vi l, vi row] [vi l, vi row] (Nx h B L xs) := by
  have dd := i.2.2.2.1
  have cc := i.1.vm.c
  have rr := i.1.vm.r
  have l7 := i.1.vm.l
  have ov := i.1.vm.ov
  have s3 := i.2.2.2.2.2.1.1
  have kk := k_over i.1 ⟨dd.2.2.1, by rw [dd.1]; exact dd.2.1⟩ s3.2.2 194 l row
  by_cases ok : tollOk (h_mi h) l row
  · obtain ⟨N, e1, gN, rN, k1, kp⟩ := kk.1 ok
    obtain ⟨o1, o2, o3, o4⟩ := id ok
    have e145 : N 145 = h_mi h 145 := rN _ (by omega) (by omega)
    obtain ⟨N2, e2, q⟩ := (r_over (E := E) 196 l row (sM h N) k1.rs k1.vm (by rw [mi_sM, e145]; exact dd.2.1.1) (by rw [mi_sM, e145]; exact dd.2.1.2)).1 (by rw [mi_sM, tollOk_rr rN]; exact ok)
    rw [mi_sM] at q
    rw [sM_sM] at e2
    unfold overD at q
    rw [ovS_rr rN] at q
    have pi := pcI (s := h_mi h 172 132) (l := l) (by omega) (by omega) o1.1 (by omega) (by omega)
    have u := ov_un (M := h_mi h) (l := l) o2.1 (by omega) (h_mi h 172) (h_mi h 147 0).toNat 0 (h_mi h 172) (by omega) (by omega) ⟨0, by rw [fgV_self]; omega⟩
    have w := ov_b i.1.vm (l := l) o2.1 (by omega) (h_mi h 147 0).toNat 0 (h_mi h 172) (by omega) (by omega) i.1.vm.2.1.c99 s3.2.2 (fun c hc hr => ((i.1.vm.s hc).2.2 hr).1)
    generalize hT : itr (ovF (h_mi h) l row) (h_mi h 147 0).toNat 0 (h_mi h 172) = T at u w
    have eS : ovS (h_mi h) l row = va_up T 132 (h_mi h 172 132 + 2 ^ l.toNat) := by unfold ovS; rw [hT]
    rw [eS] at q k1
    have p2 := p2p l.toNat
    have ot : ∀ c, (c < 10 * row.toNat ∨ 10 * row.toNat + 10 ≤ c) → c ≠ 137 → c ≠ 132 → va_up T 132 (h_mi h 172 132 + 2 ^ l.toNat) c = h_mi h 172 c := fun c h1 h2 h3 => by rw [up_ne _ _ h3, u.2 c h1 h2]
    refine ⟨1, _, _, e1, e2, Nx.of (i.deed (doer := l) (row := row) o2.1 (by omega) gN rN k1 kp q ?_ ?_ ?_ ?_)⟩
    · obtain ⟨b1, b2, b3, b4, b5, b6⟩ := i.1.vm.2.1
      refine ⟨fun c hc => ?_, fun j hj => by rw [ot _ (by omega) (by omega) (by omega), ot _ (by omega) (by omega) (by omega)]; exact b2 j hj, by rw [up_eq]; omega, by rw [ot _ (by omega) (by omega) (by omega)]; exact b4, by rw [ot _ (by omega) (by omega) (by omega)]; exact b5, fun k h1 h2 => by rw [ot _ (by omega) (by omega) (by omega)]; exact b6 k h1 h2⟩
      rw [ot (60 + c) (by omega) (by omega) (by omega), up_ne _ _ (by omega)]
      refine ⟨w.1 c hc, (b1 c hc).2.1, fun hr => ⟨w.2.2 c hc ?_, ((b1 c hc).2.2 hr).2⟩⟩
      rw [show 60 * 0 + c = c by omega] at hr
      exact hr
    · exact ⟨by rw [ot _ (by omega) (by omega) (by omega)]; exact s3.1, by rw [ot _ (by omega) (by omega) (by omega)]; exact s3.2.1, by rw [up_ne _ _ (by omega)]; exact w.2.1⟩
    · rw [ot _ (by omega) (by omega) (by omega)]; exact i.2.2.2.2.2.1.2
    · intro D d7 d1 d2 d3
      refine ⟨row.toNat, by omega, by rw [d2]; omega, d3, fun c hc hr => by rw [ot c hr (by omega) (by omega)], by rw [ot _ (by omega) (by omega) (by omega)], Or.inr ⟨l.toNat, by omega, by rw [d1]; omega, fun j hj => by rw [ot _ (by omega) (by omega) (by omega)], ?_, by rw [ot _ (by omega) (by omega) (by omega)], ?_⟩⟩
      · rw [up_eq, show ((l.toNat : Nat) : Int) = l by omega, andI (by omega) (by omega) o1.1 (by omega) (by omega)]
      · rw [fgV_ot (by omega) (by omega), up_ne _ _ (by omega), i_add_b]
        obtain ⟨q1, e1⟩ := u.1
        rw [e1, i3_bm s3.2.2]
  · exact Pa.no i (kk.2 ok) ((r_over (E := E) 196 l row h i.1.rs i.1.vm dd.2.1.1 dd.2.1.2).2 ok)
theorem p_undo (i : Inv h t E B L xs) : Pa h 117 207 [] [] (Nx h B L xs) := by
  have dd := i.2.2.2.1
  have s3 := i.2.2.2.2.2.1.1
  have kk := k_undo i.1 dd 196
  by_cases ok : h_mi h 145 44 ≠ 0
  · obtain ⟨N, e1, gN, rN, k1, kp, n3, n4⟩ := kk.1 ok
    have e145 : N 145 = h_mi h 145 := rN _ (by omega) (by omega)
    obtain ⟨N2, e2, q⟩ := (r_undo (E := E) 199 (sM h N) k1.rs k1.vm (by rw [mi_sM, e145]; exact dd.2.1.1) (by rw [mi_sM, e145]; exact dd.2.1.2)).1 (by rw [mi_sM, e145]; exact ok)
    rw [mi_sM] at q
    rw [sM_sM] at e2
    have eu : unS N = unS (h_mi h) := by unfold unS; rw [e145, rN 175 (by omega) (by omega), rN 172 (by omega) (by omega)]
    unfold undoD at q
    rw [eu, e145] at q
    have n1 : 1 ≤ h_mi h 145 44 := by
      have := dd.2.1
      omega
    obtain ⟨⟨sb, sb3⟩, _⟩ := dd.2.2.2 (h_mi h 145 44 - 1).toNat (by omega)
    have un := fun c (hc : c < 60 ∨ (120 ≤ c ∧ c < 126) ∨ c = 132 ∨ (135 ≤ c ∧ c < 144)) => unS_a (h_mi h) n1 hc
    have un2 := fun c (hc : (60 ≤ c ∧ c < 120) ∨ (126 ≤ c ∧ c < 132) ∨ c = 133 ∨ c = 134) => unS_b (h_mi h) (k := c) hc
    have dn : ∀ a, a ≠ 172 → a ≠ 145 → up2 (va_up N 172 (unS (h_mi h))) 145 44 (h_mi h 145 44 - 1) a = N a := fun a h1 h2 => by rw [u2_ne _ _ _ h2, up_ne _ _ h1]
    refine ⟨1, _, _, e1, e2, Nx.of (i.fin (B' := B) (by omega) gN k1 (fun a ha => dn a (by omega) (by omega)) q (by rw [u2_ne _ _ _ (by omega), up_eq]) ?_ ?_ ?_ ?_ ?_)⟩
    · obtain ⟨b1, b2, b3, b4, b5, b6⟩ := i.1.vm.2.1
      obtain ⟨c1, c2, c3, c4, c5, c6⟩ := sb
      refine ⟨fun c hc => ?_, fun j hj => ?_, by rw [un _ (by omega)]; exact c3, by rw [un2 _ (by omega)]; exact b4, by rw [un2 _ (by omega)]; exact b5, fun k h1 h2 => by rw [un _ (by omega)]; exact c6 k h1 h2⟩
      · rw [un c (by omega), un2 (60 + c) (by omega)]
        exact ⟨(c1 c hc).1, (b1 c hc).2.1, fun hr => ⟨((c1 c hc).2.2 hr).1, ((b1 c hc).2.2 hr).2⟩⟩
      · rw [un (120 + j) (by omega), un2 (126 + j) (by omega)]
        exact ⟨(c2 j hj).1, (b2 j hj).2⟩
    · exact i.2.2.1.e (by rw [dn 101 (by omega) (by omega), kp 101 (by omega)]) (by rw [u2_no _ _ _ (by omega), up_ne _ _ (by omega), e145]) (by rw [dn 102 (by omega) (by omega), kp 102 (by omega)]) (by rw [dn 146 (by omega) (by omega), rN 146 (by omega) (by omega)])
    · rw [u2_at, dn 175 (by omega) (by omega), rN 175 (by omega) (by omega)]
      refine dd.back n1 (fun a ha => ?_) (by rw [dn 130 (by omega) (by omega), n3]) (by rw [dn 130 (by omega) (by omega), n4]) un
      rw [dn a (by omega) (by omega)]
      by_cases z : a ≤ 133
      · exact kp a (by omega)
      · exact rN a (by omega) (by omega)
    · exact ⟨by rw [un _ (by omega)]; exact sb3.1, by rw [un _ (by omega)]; exact sb3.2.1, by rw [un _ (by omega)]; exact sb3.2.2⟩
    · rw [un2 _ (by omega)]; exact i.2.2.2.2.2.1.2
  · exact Pa.no i (kk.2 ok) ((r_undo (E := E) 199 h i.1.rs i.1.vm dd.2.1.1 dd.2.1.2).2 ok)
end
