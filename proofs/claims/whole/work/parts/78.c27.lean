/-! pairs of calls: questions -/
theorem MkO.up {h : HP} {E : EE} {B B' : Int} {k : Nat} (m : MkO h E B k) (b : B ≤ B') : MkO h E B' k := by
  rcases m with m | ⟨m1, m2, m3, ⟨m4, m5, m6⟩, m7⟩
  · exact Or.inl m
  · exact Or.inr ⟨m1, m2, m3, ⟨m4, m5, by omega⟩, m7⟩
section
variable {h : HP} {t : Nat} {E : EE} {B : Int} {L : Nat} {xs : Nat → Int}
theorem Inv.up (i : Inv h t E B L xs) {B' : Int} (b : B ≤ B') : Inv h t E B' L xs := by
  obtain ⟨k, fo, tp, dd, ms, ss, lw⟩ := i
  exact ⟨k, fo, tp, dd, ⟨fun k hk => (ms.1 k hk).up b, ms.2⟩, ⟨ss.1, by omega⟩, lw⟩
theorem Inv.fin (i : Inv h t E B L xs) {N N2 D : MM} {S' : Nat → Int} {B' : Int} (bb_ : B ≤ B') (gN : Ag (CA t) (h_mi h) N) (k1 : Cg (sM h N) t E S') (gD : Ag (fun a => a = 145 ∨ a = 146 ∨ a = 172 ∨ a = 175) N D) (q : QA D N2) (eS : D 172 = S') (sb : SB (h_mi h) 0 S') (tp : TpO D) (dd : DdG D (D 145 44) (D 175) S') (s3 : I3S S') (nb : S' 134 ≤ B') : Inv (sM h N2) t E B' L xs := by
  obtain ⟨k, fo, tp0, dd0, ms, ss, lw⟩ := i
  have lt := k.fj.lt
  have e172 : N2 172 = S' := (q.e (nR (by omega) (by omega))).trans eS
  have g2 : Ag (fun a => a = 145 ∨ a = 146 ∨ (160 ≤ a ∧ a ≤ 180)) N N2 := (gD.up (fun a ha => by omega)).tr (q.1.up (fun a ha => by unfold RsA at ha; omega))
  have g3 : Ag (CA t) (h_mi h) N2 := gN.tr ((gD.up (fun a ha => by unfold CA; omega)).tr (q.1.up (fun a ha => by unfold RsA at ha; unfold CA; omega)))
  have e148 : N 148 = h_mi h 148 := gN 148 (by unfold CA; omega)
  have kk := k1.ref (N := N2) g2 (by rw [e172]; exact sb.e e148)
  rw [sM_sM] at kk
  have qn : ∀ a, ¬ RsA a → N2 a = D a := fun a ha => q.1 a ha
  refine ⟨?_, fo, tp.e (by rw [mi_sM, qn 101 (by unfold RsA; omega)]) q.2.1 (qn 102 (by unfold RsA; omega)) (qn 146 (by unfold RsA; omega)), ?_, ?_, ?_, ?_⟩
  · unfold Cu
    rw [mi_sM, e172]
    exact kk
  · rw [mi_sM, q.2.2, qn 175 (by unfold RsA; omega), e172]
    exact dd.e (fun a ha => qn a (by unfold RsA; omega))
  · have m2 := ms.st fo.1 g3
    exact ⟨fun k hk => (m2.1 k hk).up bb_, m2.2⟩
  · rw [mi_sM, e172]
    exact ⟨s3, nb⟩
  · exact ⟨lw.1, lw.2.1, by rw [mi_sM, g3 40 (by unfold CA; omega)]; exact lw.2.2.1, lw.2.2.2⟩
/-- what a call leaves -/
def Nx (h : HP) (B : Int) (L : Nat) (xs : Nat → Int) (h2 : HP) : Prop := (∃ t E, Inv h2 t E (B + 1000) L xs) ∧ h_sz h2 ≤ h_sz h + 1100 ∧ h_sl h2 ≤ h_sl h + 10000
/-- a call on both sides: one answer -/
def Pa (h : HP) (kc kr : Nat) (ac ar : List AV) (P : HP → Prop) : Prop := ∃ v h1 h2, ev 199 kc (vr 100 :: ac) h = some (vi v, h1) ∧ ev 199 kr (vr 145 :: ar) h1 = some (vi v, h2) ∧ P h2
theorem Nx.of {N : MM} (i : Inv (sM h N) t E B L xs) : Nx h B L xs (sM h N) := ⟨⟨t, E, i.up (by omega)⟩, by show h_sz h ≤ _; omega, by show h_sl h ≤ _; omega⟩
theorem Sq.rr {h1 : HP} (k : Cu h t E) (s : Sq t h h1) : ∀ a, 145 ≤ a → a ≤ 180 → h_mi h1 a = h_mi h a := by
  obtain ⟨N, y, rfl, g, z⟩ := s
  exact fun a a1 a2 => k.r3 g a a1 (by omega)
theorem Pa.q {kc kr : Nat} {ac ar : List AV} {v : Int} (i : Inv h t E B L xs) (c : ∃ h1, ev 199 kc (vr 100 :: ac) h = some (vi v, h1) ∧ Sq t h h1) (r : ∀ h1, Inv h1 t E B L xs → (∀ a, 145 ≤ a → a ≤ 180 → h_mi h1 a = h_mi h a) → ∃ N, ev 199 kr (vr 145 :: ar) h1 = some (vi v, sM h1 N) ∧ QA (h_mi h1) N) : Pa h kc kr ac ar (Nx h B L xs) := by
  obtain ⟨h1, e1, s⟩ := c
  have i1 := i.sq s
  obtain ⟨N, e2, q⟩ := r h1 i1 (Sq.rr i.1 s)
  refine ⟨v, h1, sM h1 N, e1, e2, ⟨t, E, (i1.qa q).up (by omega)⟩, ?_, ?_⟩
  · obtain ⟨N1, y, rfl, _⟩ := s
    show h_sz h ≤ _; omega
  · obtain ⟨N1, y, rfl, _⟩ := s
    show h_sl h ≤ _; omega
theorem p_cell (i : Inv h t E B L xs) (x y what : Int) : Pa h 112 194 [vi x, vi y, vi what] [vi x, vi y, vi what] (Nx h B L xs) := by
  refine Pa.q i (k_cell i.1 195 x y what) (fun h1 i1 g => ?_)
  have := r_cell (E := E) 192 x y what h1 i1.1.rs i1.1.vm
  rw [cellV_rr g] at this
  exact this
theorem p_pourer (i : Inv h t E B L xs) (p what : Int) : Pa h 113 195 [vi p, vi what] [vi p, vi what] (Nx h B L xs) := by
  refine Pa.q i (k_pourer i.1 198 p what) (fun h1 i1 g => ?_)
  have := r_pourer (E := E) 198 p what h1 i1.1.rs i1.1.vm
  rw [pourerV_rr g] at this
  exact this
theorem p_load (i : Inv h t E B L xs) (l what : Int) : Pa h 114 198 [vi l, vi what] [vi l, vi what] (Nx h B L xs) := by
  refine Pa.q i (k_load i.1 198 l what) (fun h1 i1 g => ?_)
  have := r_load (E := E) 198 l what h1 i1.1.rs i1.1.vm
  rw [loadV_rr g] at this
  exact this
theorem p_thin (i : Inv h t E B L xs) (row : Int) : Pa h 119 211 [vi row] [vi row] (Nx h B L xs) := by
  refine Pa.q i (k_thin i.1 197 row) (fun h1 i1 g => ?_)
  have := r_thin (E := E) 198 row h1 i1.1.rs i1.1.vm
  rw [thinV_rr g] at this
  exact this
theorem p_until (i : Inv h t E B L xs) (l row : Int) (hB : B + 1000 ≤ 1000000) : Pa h 120 212 [vi l, vi row] [vi l, vi row] (Nx h B L xs) := by
  have nb := i.2.2.2.2.2.1.2
  refine Pa.q i (k_until i.1 195 l row (by omega)) (fun h1 i1 g => ?_)
  have := r_until (E := E) 193 l row h1 i1.1.rs i1.1.vm (by rw [g 172 (by omega) (by omega)]; omega)
  rw [untilV_rr g] at this
  exact this
theorem p_carried (i : Inv h t E B L xs) (row what : Int) (wr : what < 2147483648) : Pa h 121 216 [vi row, vi what] [vi row, vi what] (Nx h B L xs) := by
  refine Pa.q i (k_carried i.1 194 row what wr) (fun h1 i1 g => ?_)
  have := r_carried (E := E) 188 row what h1 i1.1.rs i1.1.vm
  rw [carriedV_rr g] at this
  exact this
theorem p_built (i : Inv h t E B L xs) (row m what : Int) : Pa h 122 223 [vi row, vi m, vi what] [vi row, vi m, vi what] (Nx h B L xs) := by
  refine Pa.q i (k_built i.1 193 row m what) (fun h1 i1 g => ?_)
  have := r_built (E := E) 191 row m what h1 i1.1.rs i1.1.vm
  rw [builtV_rr g] at this
  exact this
theorem p_best (i : Inv h t E B L xs) (m : Int) : Pa h 123 224 [vi m] [vi m] (Nx h B L xs) := by
  refine Pa.q i (k_best i.1 193 m) (fun h1 i1 g => ?_)
  have := r_best (E := E) 191 m h1 i1.1.rs i1.1.vm
  rw [bestV_rr g] at this
  exact this
theorem p_half (i : Inv h t E B L xs) (side row : Int) : Pa h 124 226 [vi side, vi row] [vi side, vi row] (Nx h B L xs) := by
  refine Pa.q i (k_half i.1 193 side row) (fun h1 i1 g => ?_)
  have := r_half (E := E) 190 side row h1 i1.1.rs i1.1.vm
  rw [halfV_rr g] at this
  exact this
theorem p_rests (i : Inv h t E B L xs) (mis what : Int) : Pa h 125 229 [vi mis, vi what] [vi mis, vi what] (Nx h B L xs) := by
  refine Pa.q i (k_rests i.1 193 mis what) (fun h1 i1 g => ?_)
  have := r_rests (E := E) 189 mis what h1 i1.1.rs i1.1.vm
  rw [restsV_rr g] at this
  exact this
theorem p_guess (i : Inv h t E B L xs) (side set mis what : Int) : Pa h 126 234 [vi side, vi set, vi mis, vi what] [vi side, vi set, vi mis, vi what] (Nx h B L xs) := by
  refine Pa.q i (k_guess i.1 193 side set mis what) (fun h1 i1 g => ?_)
  have := r_guess (E := E) 189 side set mis what h1 i1.1.rs i1.1.vm
  rw [guessV_rr g] at this
  exact this
theorem p_queue (i : Inv h t E B L xs) (row what : Int) (wr : what < 2147483648) : Pa h 127 231 [vi row, vi what] [vi row, vi what] (Nx h B L xs) := by
  refine Pa.q i (k_queue i.1 194 row what wr) (fun h1 i1 g => ?_)
  have := r_queue (E := E) 195 row what h1 i1.1.rs i1.1.vm
  rw [queueV_rr g] at this
  exact this
theorem p_sound (i : Inv h t E B L xs) (x y : Int) : Pa h 129 236 [vi x, vi y] [vi x, vi y] (Nx h B L xs) := by
  refine Pa.q i (k_sound i.1 195 x y) (fun h1 i1 g => ?_)
  have := r_sound (E := E) 195 x y h1 i1.1.rs i1.1.vm
  rw [soundV_rr g] at this
  exact this
theorem p_heard (i : Inv h t E B L xs) (row snd what : Int) : Pa h 130 237 [vi row, vi snd, vi what] [vi row, vi snd, vi what] (Nx h B L xs) := by
  refine Pa.q i (k_heard i.1 195 row snd what) (fun h1 i1 g => ?_)
  have := r_heard (E := E) 195 row snd what h1 i1.1.rs i1.1.vm
  rw [heardV_rr g] at this
  exact this
theorem p_value (i : Inv h t E B L xs) (set : Int) : Pa h 131 239 [vi set] [vi set] (Nx h B L xs) := by
  refine Pa.q i (k_value i.1 193 set) (fun h1 i1 g => ?_)
  have := r_value (E := E) 187 set h1 i1.1.rs i1.1.vm
  rw [valueV_rr g] at this
  exact this
theorem p_leaves (i : Inv h t E B L xs) : Pa h 133 241 [] [] (Nx h B L xs) := by
  refine Pa.q i (k_leaves i.1 193 ) (fun h1 i1 g => ?_)
  have := r_leaves (E := E) 187  h1 i1.1.rs i1.1.vm
  rw [leavesV_rr g] at this
  exact this
theorem p_fits (i : Inv h t E B L xs) (x y poured seen what : Int) : Pa h 135 245 [vi x, vi y, vi poured, vi seen, vi what] [vi x, vi y, vi poured, vi seen, vi what] (Nx h B L xs) := by
  refine Pa.q i (k_fits i.1 194 x y poured seen what) (fun h1 i1 g => ?_)
  have := r_fits (E := E) 193 x y poured seen what h1 i1.1.rs i1.1.vm
  rw [fitsV_rr g] at this
  exact this
theorem p_salted (i : Inv h t E B L xs) (row poured seen : Int) : Pa h 136 246 [vi row, vi poured, vi seen] [vi row, vi poured, vi seen] (Nx h B L xs) := by
  refine Pa.q i (k_salted i.1 194 row poured seen) (fun h1 i1 g => ?_)
  have := r_salted (E := E) 193 row poured seen h1 i1.1.rs i1.1.vm
  rw [saltedV_rr g] at this
  exact this
theorem p_count (i : Inv h t E B L xs) (what : Int) : Pa h 139 252 [vi what] [vi what] (Nx h B L xs) := by
  refine Pa.q i (k_count i.1 198 what i.2.2.2.1.1 i.2.2.1.1) (fun h1 i1 g => ?_)
  have := r_count (E := E) 198 what h1 i1.1.rs i1.1.vm
  rw [cntV_rr g] at this
  exact this
end
