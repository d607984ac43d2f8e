/-! pairs of calls: what changes -/
theorem sm_ch {P Q : Int → Int} {x : Int} : ∀ (k : Nat) (i a : Int), (∀ j, i ≤ j → j < i + k → j ≠ x → Q j = P j) → itr (fun j a => a + Q j) k i a = itr (fun j a => a + P j) k i a + (if i ≤ x ∧ x < i + k then Q x - P x else 0)
  | 0, i, a, h => by rw [if_neg (by omega)]; show a = a + 0; omega
  | k + 1, i, a, h => by
    show itr (fun j a => a + Q j) k (i + 1) (a + Q i) = itr (fun j a => a + P j) k (i + 1) (a + P i) + _
    rw [sm_ch k (i + 1) (a + Q i) (fun j j0 j1 jx => h j (by omega) (by omega) jx), itr_sum P k (i + 1) (a + Q i), itr_sum P k (i + 1) (a + P i)]
    by_cases z : i = x
    · subst z
      rw [if_neg (by omega), if_pos (by omega)]; omega
    · rw [h i (by omega) (by omega) z]
      by_cases y : i + 1 ≤ x ∧ x < i + 1 + k
      · rw [if_pos y, if_pos (by omega)]
      · rw [if_neg y, if_neg (by omega)]
theorem fgV_self (r : Nat) (S : Nat → Int) : fgV r S S = 0 := by
  have key : ∀ (k : Nat) (i : Int), itr (fun j a => a + (S (10 * (r : Int) + j).toNat - S (10 * (r : Int) + j).toNat)) k i 0 = 0 := by
    intro k
    induction k with
    | zero => intro i; rfl
    | succ k ih =>
      intro i
      show itr _ k (i + 1) (0 + (S (10 * (r : Int) + i).toNat - S (10 * (r : Int) + i).toNat)) = 0
      rw [show (0 : Int) + (S (10 * (r : Int) + i).toNat - S (10 * (r : Int) + i).toNat) = 0 by omega]
      exact ih (i + 1)
  exact key 10 0
theorem fgV_up {r : Nat} {S0 T : Nat → Int} {i v : Int} (i0 : 0 ≤ i) (i1 : i < 10) : fgV r S0 (va_up T (10 * (r : Int) + i).toNat v) = fgV r S0 T + (v - T (10 * (r : Int) + i).toNat) := by
  have := sm_ch (P := fun j => T (10 * (r : Int) + j).toNat - S0 (10 * (r : Int) + j).toNat) (Q := fun j => va_up T (10 * (r : Int) + i).toNat v (10 * (r : Int) + j).toNat - S0 (10 * (r : Int) + j).toNat) (x := i) 10 0 0 (fun j j0 j1 jx => by
    show va_up T _ v _ - _ = _
    rw [up_ne _ _ (by omega)])
  rw [if_pos (by omega)] at this
  unfold fgV sm
  refine this.trans ?_
  show _ + (va_up T _ v _ - _ - (T _ - _)) = _
  rw [up_eq]
  show itr (fun j a => a + (T (10 * (r : Int) + j).toNat - S0 (10 * (r : Int) + j).toNat)) 10 0 0 + _ = itr (fun j a => a + (T (10 * (r : Int) + j).toNat - S0 (10 * (r : Int) + j).toNat)) 10 0 0 + _
  omega
theorem fgV_ot {r : Nat} {S0 T : Nat → Int} {k : Nat} {v : Int} (r6 : r < 6) (hk : 60 ≤ k) : fgV r S0 (va_up T k v) = fgV r S0 T := sm_congr (fun j j0 j1 => by rw [up_ne _ _ (by omega)])
theorem i3_add (x y : Int) : i3 (i_add x y) := by
  rw [i_add_b]; unfold i3; rw [Int.bmod_def]; split <;> omega
theorem i3_bm {x q : Int} (h : i3 x) : (x + 4294967296 * q).bmod 4294967296 = x := by
  unfold i3 at h
  rw [Int.bmod_def]; split <;> omega
theorem bm_q (x : Int) : ∃ q, x.bmod 4294967296 = x + 4294967296 * q := by
  rw [Int.bmod_def]
  split
  · exact ⟨-(x / 4294967296), by omega⟩
  · exact ⟨-(x / 4294967296) - 1, by omega⟩
theorem i_sub_add {x v : Int} (h : i3 x) : i_sub (i_add x v) v = x := by
  rw [i_sub_b, i_add_b]
  obtain ⟨q, e⟩ := bm_q (x + v)
  rw [e, show x + v + 4294967296 * q - v = x + 4294967296 * q by omega, i3_bm h]
theorem and_ck : ((List.range 128).all fun s => (List.range 7).all fun l => decide (bit (s : Int) (l : Int) = 1) || decide (i_and ((s : Int) + 2 ^ l) (i_xor (i_shl 1 (l : Int)) (-1)) = s)) = true := by decide +kernel
theorem andI {s l : Int} (s0 : 0 ≤ s) (s1 : s < 128) (l0 : 0 ≤ l) (l1 : l < 7) (hb : bit s l ≠ 1) : i_and (s + 2 ^ l.toNat) (i_xor (i_shl 1 l) (-1)) = s := by
  have a := List.all_eq_true.mp and_ck s.toNat (List.mem_range.mpr (by omega))
  have b := List.all_eq_true.mp a l.toNat (List.mem_range.mpr (by omega))
  have e1 : ((s.toNat : Nat) : Int) = s := by omega
  have e2 : ((l.toNat : Nat) : Int) = l := by omega
  rw [e1, e2, df hb, Bool.false_or] at b
  exact of_decide_eq_true b
/-- over, as it is undone -/
theorem ov_un {M : MM} {l row : Int} (r0 : 0 ≤ row) (r1 : row < 6) (S : Nat → Int) : ∀ (k : Nat) (i : Int) (T : Nat → Int), 0 ≤ i → i + k ≤ 10 → (∃ q, T 137 + fgV row.toNat S T = S 137 + 4294967296 * q) → (∃ q, itr (ovF M l row) k i T 137 + fgV row.toNat S (itr (ovF M l row) k i T) = S 137 + 4294967296 * q) ∧ ∀ c, (c < 10 * row.toNat ∨ 10 * row.toNat + 10 ≤ c) → c ≠ 137 → itr (ovF M l row) k i T c = T c
  | 0, i, T, i0, i1, h => ⟨h, fun _ _ _ => rfl⟩
  | k + 1, i, T, i0, i1, h => by
    show (∃ q, itr (ovF M l row) k (i + 1) (ovF M l row i T) 137 + fgV row.toNat S (itr (ovF M l row) k (i + 1) (ovF M l row i T)) = _) ∧ ∀ c, _ → _ → itr (ovF M l row) k (i + 1) (ovF M l row i T) c = T c
    by_cases z : M 148 (10 * row + i).toNat = 1
    · have e : ovF M l row i T = T := if_pos z
      rw [e]
      exact ov_un r0 r1 S k (i + 1) T (by omega) (by omega) h
    · have e : ovF M l row i T = va_up (va_up T 137 (i_add (T 137) (min (weV M l) (T (10 * row + i).toNat)))) (10 * row + i).toNat (T (10 * row + i).toNat - min (weV M l) (T (10 * row + i).toNat)) := if_neg z
      have ec : (10 * row + i).toNat = (10 * ((row.toNat : Nat) : Int) + i).toNat := by omega
      have := ov_un (M := M) (l := l) r0 r1 S k (i + 1) (ovF M l row i T) (by omega) (by omega) (by
        obtain ⟨q, hq⟩ := h
        obtain ⟨q2, e2⟩ := bm_q (T 137 + min (weV M l) (T (10 * row + i).toNat))
        refine ⟨q + q2, ?_⟩
        rw [e, up_ne (j := 137) _ _ (by omega), up_eq, i_add_b, e2, ec, fgV_up i0 (by omega), fgV_ot (by omega) (by omega), up_ne _ _ (by omega)]
        rw [ec] at *
        omega)
      refine ⟨this.1, fun c h1 h2 => ?_⟩
      rw [this.2 c h1 h2, e, up_ne _ _ (by omega), up_ne _ _ h2]
theorem I3S.ps {M : MM} {E : EE} {S : Nat → Int} (p0 : 0 ≤ M 147 2) (p1 : M 147 2 ≤ 6) (hS : C99 S) (s : I3S S) : I3S (psS M E S) := by
  have at_ := psS_at (M := M) (E := E) p0 p1 hS
  refine ⟨by rw [at_.2.2.2.2.2.1]; exact s.1, ?_, by rw [at_.2.2.2.2.1 137 (by omega)]; exact s.2.2⟩
  have ml : ∀ (hr nt : Int) (k : Nat) (i : Int) (T : Nat → Int), i3 (T 136) → i3 (itr (mlF M E hr nt) k i T 136) := by
    intro hr nt k
    induction k with
    | zero => intro i T h; exact h
    | succ k ih =>
      intro i T h
      refine ih (i + 1) _ ?_
      unfold mlF
      split
      · exact h
      · rw [up_eq]; exact i3_add _ _
  unfold psS
  split
  · rw [flS_at p0, if_neg (by omega), if_neg (by omega), up_ne _ _ (by omega), up_ne _ _ (by omega)]
    exact ml _ _ _ _ _ s.2.1
  · rw [up_ne _ _ (by omega)]
    split
    · exact ml _ _ _ _ _ s.2.1
    · exact s.2.1
theorem I3S.pn {M : MM} {E : EE} (fb : FB M 0) : ∀ (k : Nat) (S : Nat → Int), SB M 0 S → S 134 + k ≤ 1000000 → I3S S → I3S (psN M E k S)
  | 0, S, _, _, s => s
  | k + 1, S, sb, hn, s => by
    have b := psS_b (E := E) fb sb (by omega)
    exact I3S.pn fb k _ b.1 (by omega) (s.ps fb.2.2.1.1 fb.2.2.1.2 sb.c99)
section
variable {h : HP} {t : Nat} {E : EE} {B : Int} {L : Nat} {xs : Nat → Int}
theorem p_feed (i : Inv h t E B L xs) (a b c : Int) : Pa h 110 150 [vl a, vl b, vl c] [vl a, vl b, vl c] (Nx h B L xs) := by
  have tp := i.2.2.1
  have lt := i.1.fj.lt
  have e1 := k_feed i.1.cs 198 a b c (by rw [tp.1]; exact tp.2.1.1) (by rw [tp.1]; exact tp.2.1.2)
  generalize hs : fdS a b c (h_mi h 102, h_mi h 101 1) = s at e1
  have ng : ∀ x, x ≠ 101 → x ≠ 102 → gM (h_mi h) s x = h_mi h x := fun x h1 h2 => by unfold gM; rw [u2_ne _ _ _ h1, up_ne _ _ h2]
  obtain ⟨N2, e2, q⟩ := r_feed 199 a b c (sM h (gM (h_mi h) s)) i.1.rs (by rw [mi_sM, ng 145 (by omega) (by omega)]; exact tp.2.1.1) (by rw [mi_sM, ng 145 (by omega) (by omega)]; exact tp.2.1.2)
  rw [mi_sM] at e2 q
  unfold feedV at e2
  unfold feedD at q
  rw [ng 145 (by omega) (by omega), ng 146 (by omega) (by omega)] at e2 q
  have tr : TpR (h_mi h 102, h_mi h 101 1) (h_mi h 146, h_mi h 145 1) := ⟨tp.1, tp.2.2⟩
  have ts := tr.s tp.2.1.1 tp.2.1.2 a b c
  have f1 := fdW_b a (s := (h_mi h 146, h_mi h 145 1)) tp.2.1.1 tp.2.1.2
  have f2 := fdW_b b f1.1 f1.2
  have f3 := fdW_b c f2.1 f2.2
  rw [hs] at ts
  generalize hs' : fdS a b c (h_mi h 146, h_mi h 145 1) = s' at e2 q ts
  have fb : 0 ≤ s'.2 ∧ s'.2 ≤ 1000 := by rw [← hs']; exact f3
  rw [sM_sM] at e2
  have gN : Ag (CA t) (h_mi h) (gM (h_mi h) s) := fun x hx => by
    have hx : ¬ CA t x := hx
    unfold CA at hx
    exact ng x (by omega) (by omega)
  have dn : ∀ x, x ≠ 145 → x ≠ 146 → fM (gM (h_mi h) s) s' x = gM (h_mi h) s x := fun x h1 h2 => by unfold fM; rw [u2_ne _ _ _ h1, up_ne _ _ h2]
  have d44 : fM (gM (h_mi h) s) s' 145 44 = h_mi h 145 44 := by unfold fM; rw [u2_no _ _ _ (by omega), up_ne _ _ (by omega), ng 145 (by omega) (by omega)]
  refine ⟨s.2, _, _, e1, ?_, Nx.of (i.fin (B' := B) (by omega) gN (i.1.own gN (fun x h1 h2 => ng x (by omega) (by omega)) (by rw [ng 138 (by omega) (by omega), ng 139 (by omega) (by omega)]; exact i.1.z0) (i.1.ic.cg (ng _ (by omega) (by omega)) (fun j hj => ng _ (by omega) (by omega)))) ?_ q ?_ i.1.vm.2.1 ?_ ?_ i.2.2.2.2.2.1.1 i.2.2.2.2.2.1.2)⟩
  · rw [ts.1]; exact e2
  · exact fun x hx => dn x (by omega) (by omega)
  · rw [dn 172 (by omega) (by omega), ng 172 (by omega) (by omega)]
  · refine ⟨?_, ?_, fun j hj => ?_⟩
    · rw [dn 101 (by omega) (by omega), gM_1, fM_1]; exact ts.1
    · rw [fM_1]; exact fb
    · rw [fM_1] at hj
      rw [dn 102 (by omega) (by omega), gM_102, fM_146]; exact ts.2 j hj
  · rw [d44, dn 175 (by omega) (by omega), ng 175 (by omega) (by omega)]
    exact i.2.2.2.1.e (fun x hx => by rw [dn x (by omega) (by omega), ng x (by omega) (by omega)])
theorem Pa.no {kc kr : Nat} {ac ar : List AV} (i : Inv h t E B L xs) {v : Int} (e1 : ev 199 kc (vr 100 :: ac) h = some (vi v, h)) (e2 : ∃ N, ev 199 kr (vr 145 :: ar) h = some (vi v, sM h N) ∧ QA (h_mi h) N) : Pa h kc kr ac ar (Nx h B L xs) := by
  obtain ⟨N, e2, q⟩ := e2
  exact ⟨v, h, _, e1, e2, Nx.of (i.qa q)⟩
theorem p_share (i : Inv h t E B L xs) (p x : Int) : Pa h 132 240 [vi p, vi x] [vi p, vi x] (Nx h B L xs) := by
  have kk := k_share i.1 198 p x
  by_cases ok : shareOk (h_mi h) p x
  · obtain ⟨e1, k1⟩ := kk.1 ok
    have pp := i.1.vm.p
    obtain ⟨o1, o2⟩ := id ok
    generalize hN : up2 (h_mi h) 129 p.toNat x = N at e1 k1
    have nn : ∀ a, a ≠ 129 → N a = h_mi h a := fun a ha => by rw [← hN, u2_ne _ _ _ ha]
    obtain ⟨N2, e2, q⟩ := (r_share (E := E) 198 p x (sM h N) k1.rs k1.vm).1 (by rw [mi_sM, shareOk_rr (M := h_mi h) (fun a h1 h2 => nn a (by omega))]; exact ok)
    rw [mi_sM] at q
    rw [sM_sM] at e2
    have dn : ∀ a, a ≠ 172 → up2 N 172 (126 + p).toNat x a = N a := fun a ha => u2_ne _ _ _ ha
    refine ⟨1, _, _, e1, e2, Nx.of (i.fin (B' := B) (by omega) (fun a ha => nn a (fun z => ha (by rw [z]; unfold CA; omega))) k1 (fun a ha => dn a (by omega)) q (by rw [u2_eq, nn 172 (by omega)]) ?_ ?_ ?_ ?_ ?_)⟩
    · obtain ⟨b1, b2, b3, b4, b5, b6⟩ := i.1.vm.2.1
      refine ⟨fun c hc => by rw [up_ne _ _ (by omega), up_ne _ _ (by omega)]; exact b1 c hc, fun j hj => ?_, by rw [up_ne _ _ (by omega)]; exact b3, by rw [up_ne _ _ (by omega)]; exact b4, by rw [up_ne _ _ (by omega)]; exact b5, fun k h1 h2 => by rw [up_ne _ _ (by omega)]; exact b6 k h1 h2⟩
      rw [up_ne (j := 120 + j) _ _ (by omega)]
      refine ⟨(b2 j hj).1, ?_⟩
      by_cases z : 126 + j = (126 + p).toNat
      · rw [z, up_eq]; exact o2
      · rw [up_ne _ _ z]; exact (b2 j hj).2
    · exact i.2.2.1.e (by rw [dn 101 (by omega), nn 101 (by omega)]) (by rw [dn 145 (by omega), nn 145 (by omega)]) (by rw [dn 102 (by omega), nn 102 (by omega)]) (by rw [dn 146 (by omega), nn 146 (by omega)])
    · rw [dn 145 (by omega), dn 175 (by omega), nn 145 (by omega), nn 175 (by omega)]
      exact (i.2.2.2.1.s (fun c hc => up_ne _ _ (by omega))).e (fun a ha => by rw [dn a (by omega), nn a (by omega)])
    · have s3 := i.2.2.2.2.2.1.1
      unfold I3S
      rw [up_ne _ _ (by omega), up_ne _ _ (by omega), up_ne _ _ (by omega)]
      exact s3
    · rw [up_ne _ _ (by omega)]; exact i.2.2.2.2.2.1.2
  · exact Pa.no i (kk.2 ok) ((r_share (E := E) 198 p x h i.1.rs i.1.vm).2 ok)
theorem p_stump (i : Inv h t E B L xs) (x y v : Int) : Pa h 134 242 [vi x, vi y, vi v] [vi x, vi y, vi v] (Nx h B L xs) := by
  have kk := k_stump i.1 197 x y v
  by_cases ok : stumpOk (h_mi h) x y v
  · obtain ⟨e1, k1⟩ := kk.1 ok
    have cc := i.1.vm.c
    have rr := i.1.vm.r
    obtain ⟨o1, o2, o3⟩ := id ok
    generalize hN : up2 (h_mi h) 127 (10 * y + x).toNat v = N at e1 k1
    have nn : ∀ a, a ≠ 127 → N a = h_mi h a := fun a ha => by rw [← hN, u2_ne _ _ _ ha]
    obtain ⟨N2, e2, q⟩ := (r_stump (E := E) 197 x y v (sM h N) k1.rs k1.vm).1 (by rw [mi_sM, stumpOk_rr (M := h_mi h) (fun a h1 h2 => nn a (by omega))]; exact ok)
    rw [mi_sM] at q
    rw [sM_sM] at e2
    have dn : ∀ a, a ≠ 172 → up2 N 172 (60 + (10 * y + x)).toNat (1 + v) a = N a := fun a ha => u2_ne _ _ _ ha
    refine ⟨1, _, _, e1, e2, Nx.of (i.fin (B' := B) (by omega) (fun a ha => nn a (fun z => ha (by rw [z]; unfold CA; omega))) k1 (fun a ha => dn a (by omega)) q (by rw [u2_eq, nn 172 (by omega)]) ?_ ?_ ?_ ?_ ?_)⟩
    · obtain ⟨b1, b2, b3, b4, b5, b6⟩ := i.1.vm.2.1
      refine ⟨fun c hc => ?_, fun j hj => by rw [up_ne _ _ (by omega), up_ne _ _ (by omega)]; exact b2 j hj, by rw [up_ne _ _ (by omega)]; exact b3, by rw [up_ne _ _ (by omega)]; exact b4, by rw [up_ne _ _ (by omega)]; exact b5, fun k h1 h2 => by rw [up_ne _ _ (by omega)]; exact b6 k h1 h2⟩
      rw [up_ne (j := c) _ _ (by omega)]
      by_cases z : 60 + c = (60 + (10 * y + x)).toNat
      · rw [z, up_eq]
        refine ⟨(b1 c hc).1, by omega, fun hr => ?_⟩
        rw [show 60 * 0 + c = (10 * y + x).toNat by omega] at hr
        exact absurd hr o2
      · rw [up_ne _ _ z]; exact b1 c hc
    · exact i.2.2.1.e (by rw [dn 101 (by omega), nn 101 (by omega)]) (by rw [dn 145 (by omega), nn 145 (by omega)]) (by rw [dn 102 (by omega), nn 102 (by omega)]) (by rw [dn 146 (by omega), nn 146 (by omega)])
    · rw [dn 145 (by omega), dn 175 (by omega), nn 145 (by omega), nn 175 (by omega)]
      exact (i.2.2.2.1.s (fun c hc => up_ne _ _ (by omega))).e (fun a ha => by rw [dn a (by omega), nn a (by omega)])
    · have s3 := i.2.2.2.2.2.1.1
      unfold I3S
      rw [up_ne _ _ (by omega), up_ne _ _ (by omega), up_ne _ _ (by omega)]
      exact s3
    · rw [up_ne _ _ (by omega)]; exact i.2.2.2.2.2.1.2
  · exact Pa.no i (kk.2 ok) ((r_stump (E := E) 197 x y v h i.1.rs i.1.vm).2 ok)
theorem p_hours (i : Inv h t E B L xs) (many : Int) (hB : B + 1000 ≤ 1000000) : Pa h 118 210 [vi many] [vi many] (Nx h B L xs) := by
  have nb := i.2.2.2.2.2.1.2
  have lt := i.1.fj.lt
  have kk := k_hours i.1 194 many (by omega)
  by_cases ok : 1 ≤ many ∧ many ≤ 1000
  · obtain ⟨N, e1, g, k1⟩ := kk.1 ok
    generalize hN : up2 (up2 N 130 3 0) 130 4 0 = N1 at e1 k1
    have nn : ∀ a, a ≠ 130 → N1 a = N a := fun a ha => by rw [← hN, u2_ne _ _ _ ha, u2_ne _ _ _ ha]
    have n3 : N1 130 3 = 0 := by rw [← hN, u2_no _ _ _ (by omega), u2_at]
    have n4 : N1 130 4 = 0 := by rw [← hN, u2_at]
    have rr : ∀ a, 145 ≤ a → a ≤ 180 → N1 a = h_mi h a := fun a h1 h2 => by rw [nn a (by omega), i.1.ri g a h1 (by omega)]
    obtain ⟨N2, e2, q⟩ := r_hours (E := E) 193 many (sM h N1) k1.rs k1.vm (by rw [mi_sM, rr 172 (by omega) (by omega)]; omega)
    rw [mi_sM] at q e2
    rw [sM_sM, hoursV_rr rr] at e2
    unfold hoursD at q
    rw [if_pos ok, psN_rr rr, rr 172 (by omega) (by omega)] at q
    have pb := psN_b (E := E) i.1.vm.1 many.toNat (h_mi h 172) i.1.vm.2.1 (by omega)
    have dn : ∀ a, a ≠ 172 → a ≠ 145 → up2 (va_up N1 172 (psN (h_mi h) E many.toNat (h_mi h 172))) 145 44 0 a = N1 a := fun a h1 h2 => by rw [u2_ne _ _ _ h2, up_ne _ _ h1]
    refine ⟨_, _, _, e1, e2, ⟨t, E, i.fin (B' := B + 1000) (by omega) (fun a ha => ?_) k1 (fun a ha => dn a (by omega) (by omega)) q ?_ pb.1 ?_ ?_ ?_ (by omega)⟩, by show h_sz h ≤ _; omega, by show h_sl h ≤ _; omega⟩
    · have ha : ¬ CA t a := ha
      unfold CA at ha
      rw [nn a (by omega)]
      exact g a (by unfold IcA CqA; omega)
    · rw [u2_ne _ _ _ (by omega), up_eq]
    · exact i.2.2.1.e (by rw [dn 101 (by omega) (by omega), nn 101 (by omega), g 101 (by unfold IcA CqA; omega)]) (by rw [u2_no _ _ _ (by omega), up_ne _ _ (by omega), rr 145 (by omega) (by omega)]) (by rw [dn 102 (by omega) (by omega), nn 102 (by omega), g 102 (by unfold IcA CqA; omega)]) (by rw [dn 146 (by omega) (by omega), rr 146 (by omega) (by omega)])
    · rw [u2_at]
      exact ⟨by rw [dn 130 (by omega) (by omega), n4], by omega, by rw [dn 130 (by omega) (by omega), n3]; omega, fun j hj => by omega⟩
    · exact I3S.pn i.1.vm.1 _ _ i.1.vm.2.1 (by omega) i.2.2.2.2.2.1.1
  · obtain ⟨N2, e2, q⟩ := r_hours (E := E) 193 many h i.1.rs i.1.vm (by omega)
    unfold hoursD at q
    rw [if_neg ok] at q
    exact Pa.no i (kk.2 ok) ⟨N2, e2, q⟩
end
