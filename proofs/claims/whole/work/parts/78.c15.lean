/-! the class: value, leaves -/
def Lf (M : MM) (th W m : Int) : Nat → Int → Prop
  | 0, _ => False
  | k + 1, s => opS M W m s ∨ ∃ l, 0 ≤ l ∧ l < M 147 3 ∧ my M th s l ∧ Lf M th W m k (s + 2 ^ l.toNat)
def LfS (M : MM) (th W m s : Int) : Prop := Lf M th W m (8 - pc s).toNat s
theorem least_ex {n : Int} {Q : Int → Prop} : ∀ (f : Nat) (l : Int), l.toNat ≤ f → 0 ≤ l → l < n → Q l → ∃ l, (0 ≤ l ∧ l < n) ∧ Q l ∧ ∀ i, 0 ≤ i → i < l → ¬ Q i
  | 0, l, h1, h2, h3, h4 => ⟨l, ⟨h2, h3⟩, h4, fun i i0 i1 => by omega⟩
  | f + 1, l, h1, h2, h3, h4 => by
    by_cases z : ∃ i, 0 ≤ i ∧ i < l ∧ Q i
    · obtain ⟨i, i0, i1, i2⟩ := z
      exact least_ex f i (by omega) i0 (by omega) i2
    · exact ⟨l, ⟨h2, h3⟩, h4, fun i i0 i1 q => z ⟨i, i0, i1, q⟩⟩
noncomputable def nxL (n : Int) (Q : Int → Int → Prop) (s : Int) : Int := @dite _ (∃ l, (0 ≤ l ∧ l < n) ∧ Q s l ∧ ∀ i, 0 ≤ i → i < l → ¬ Q s i) (Classical.propDecidable _) (fun H => Classical.choose H) (fun _ => 0)
theorem nxL_s {n : Int} {Q : Int → Int → Prop} {s : Int} (H : ∃ l, (0 ≤ l ∧ l < n) ∧ Q s l ∧ ∀ i, 0 ≤ i → i < l → ¬ Q s i) : (0 ≤ nxL n Q s ∧ nxL n Q s < n) ∧ Q s (nxL n Q s) ∧ ∀ i, 0 ≤ i → i < nxL n Q s → ¬ Q s i := by
  unfold nxL
  rw [dif_pos H]
  exact Classical.choose_spec H
noncomputable def bL (n : Int) (Q : Int → Int → Prop) : Nat → Int
  | 0 => 0
  | j + 1 => bL n Q j + 2 ^ (nxL n Q (bL n Q j)).toNat
/-- the most worth of the sets is what the search finds -/
theorem bw_is {M : MM} {E : EE} (v : VM M E) {th P W m : Int} (hP : P = 2 ^ (M 147 3).toNat) (p0 : 1 ≤ P) (p1 : P ≤ 128) {N : MM} (I : I5 M th P P 0 N) (J : I6 M P P W m N) : bwV M th = W := by
  have l7 := v.l
  have Jb := J.b v hP
  have LL : ∀ s : Int, 0 ≤ s → s < P → N 140 s.toNat = 1 → (LfS M th W m s ↔ (opS M W m s ∨ ∃ l, 0 ≤ l ∧ l < M 147 3 ∧ my M th s l ∧ LfS M th W m (s + 2 ^ l.toNat))) := fun s s0 s1 _ => by
    have pb := pc_b s
    have e : (8 - pc s).toNat = (7 - pc s).toNat + 1 := by omega
    have ch : ∀ l, 0 ≤ l → l < M 147 3 → my M th s l → (8 - pc (s + 2 ^ l.toNat)).toNat = (7 - pc s).toNat := fun l l0 l1 hm => by
      have := (pcI s0 (by omega) l0 (by omega) (by have := hm.1; omega)).1
      omega
    unfold LfS
    rw [e]
    show (opS M W m s ∨ ∃ l, 0 ≤ l ∧ l < M 147 3 ∧ my M th s l ∧ Lf M th W m (7 - pc s).toNat (s + 2 ^ l.toNat)) ↔ _
    constructor
    · rintro (q | ⟨l, l0, l1, l2, l3⟩)
      · exact Or.inl q
      · exact Or.inr ⟨l, l0, l1, l2, by rw [ch l l0 l1 l2]; exact l3⟩
    · rintro (q | ⟨l, l0, l1, l2, l3⟩)
      · exact Or.inl q
      · exact Or.inr ⟨l, l0, l1, l2, by rw [ch l l0 l1 l2] at l3; exact l3⟩
  have H := caH_of hP l7.1 l7.2 p1 I J LL
  obtain ⟨us, us0, us1, us2, us3, us4⟩ := J.2
  have L0 : LfS M th W m 0 := ld0 hP l7.1 l7.2 p1 I (fun s s0 s1 hs q => (LL s s0 s1 hs).mpr q) us.toNat us (Nat.le_refl _) us0 us1 us2 ((LL us us0 us1 us2).mpr (Or.inl ⟨us3, us4⟩))
  have pc0 : pc 0 = 0 := by decide +kernel
  have ex : ∀ s : Int, (0 ≤ s ∧ s < P ∧ N 140 s.toNat = 1) → LfS M th W m s → pc s < m → ∃ l, (0 ≤ l ∧ l < M 147 3) ∧ (my M th s l ∧ LfS M th W m (s + 2 ^ l.toNat)) ∧ ∀ i, 0 ≤ i → i < l → ¬ (my M th s i ∧ LfS M th W m (s + 2 ^ i.toNat)) := fun s hs hl hp => by
    rcases (LL s hs.1 hs.2.1 hs.2.2).mp hl with z | ⟨l, l0, l1, l2, l3⟩
    · have := z.2; omega
    · exact least_ex (Q := fun l => my M th s l ∧ LfS M th W m (s + 2 ^ l.toNat)) l.toNat l (Nat.le_refl _) l0 l1 ⟨l2, l3⟩
  have key : ∀ j : Nat, (j : Int) ≤ m → (0 ≤ bL (M 147 3) (fun s l => my M th s l ∧ LfS M th W m (s + 2 ^ l.toNat)) j ∧ bL (M 147 3) (fun s l => my M th s l ∧ LfS M th W m (s + 2 ^ l.toNat)) j < P ∧ N 140 (bL (M 147 3) (fun s l => my M th s l ∧ LfS M th W m (s + 2 ^ l.toNat)) j).toNat = 1) ∧ LfS M th W m (bL (M 147 3) (fun s l => my M th s l ∧ LfS M th W m (s + 2 ^ l.toNat)) j) ∧ pc (bL (M 147 3) (fun s l => my M th s l ∧ LfS M th W m (s + 2 ^ l.toNat)) j) = j := by
    intro j
    induction j with
    | zero => intro _; exact ⟨⟨by show (0 : Int) ≤ 0; omega, by show (0 : Int) < P; omega, I.2.1⟩, L0, pc0⟩
    | succ j ih =>
      intro hj
      obtain ⟨r1, r2, r3⟩ := ih (by omega)
      obtain ⟨⟨q0, q1⟩, q2, q3⟩ := nxL_s (n := M 147 3) (Q := fun s l => my M th s l ∧ LfS M th W m (s + 2 ^ l.toNat)) (s := bL (M 147 3) (fun s l => my M th s l ∧ LfS M th W m (s + 2 ^ l.toNat)) j) (ex _ r1 r2 (by omega))
      refine ⟨H.2.1 _ _ r1 q0 q1 q2.1, q2.2, ?_⟩
      have := (pcI r1.1 (by omega) q0 (by omega) (by have := q2.1.1; omega)).1
      show pc (bL (M 147 3) (fun s l => my M th s l ∧ LfS M th W m (s + 2 ^ l.toNat)) j + _) = _
      omega
  have wy : Way M th (fun s => 0 ≤ s ∧ s < P ∧ N 140 s.toNat = 1) (LfS M th W m) m (fun j => nxL (M 147 3) (fun s l => my M th s l ∧ LfS M th W m (s + 2 ^ l.toNat)) (bL (M 147 3) (fun s l => my M th s l ∧ LfS M th W m (s + 2 ^ l.toNat)) j)) (bL (M 147 3) (fun s l => my M th s l ∧ LfS M th W m (s + 2 ^ l.toNat))) := fun j hj => by
    obtain ⟨r1, r2, r3⟩ := key j (by omega)
    obtain ⟨q1, q2, q3⟩ := nxL_s (n := M 147 3) (Q := fun s l => my M th s l ∧ LfS M th W m (s + 2 ^ l.toNat)) (s := bL (M 147 3) (fun s l => my M th s l ∧ LfS M th W m (s + 2 ^ l.toNat)) j) (ex _ r1 r2 (by omega))
    exact ⟨q1, q2.1, q2.2, rfl, q3⟩
  exact (crT_is v H Jb.2.1 Jb.1 ⟨by omega, by omega, I.2.1⟩ L0 (b := bL (M 147 3) (fun s l => my M th s l ∧ LfS M th W m (s + 2 ^ l.toNat))) rfl wy).1
section
variable {h : HP} {t : Nat} {E : EE} {S : Nat → Int} {K G : Int → Int → Int}
theorem c_3w (k : Cu h t E) (d : Nat) {th : Int} (t0 : -1000 ≤ th) (t1 : th ≤ 1000) : ∃ N, ev (d + 3) 3 [vr 137, vr 106, vi th] h = some (vr 0, sM h N) ∧ Ag (CrA t) (h_mi h) N ∧ (N 138 0 = 0 ∧ N 139 0 = 0) ∧ N 137 7 = bwV (h_mi h) th := by
  have pb := P_b k
  obtain ⟨N, W, m, e, g, I, w7, w6, J⟩ := c_3 k d t0 t1
  exact ⟨N, e, g, I.1, by rw [w7, bw_is k.vm rfl pb.1 pb.2 I J]⟩
theorem bw_mono (k : Cu h t E) {a b : Int} (a0 : -1000 ≤ a) (b1 : b ≤ 1000) (ab : a ≤ b) : 0 ≤ bwV (h_mi h) a ∧ bwV (h_mi h) a ≤ bwV (h_mi h) b := by
  have pb := P_b k
  have l7 := k.vm.l
  obtain ⟨N, W, m, _, _, I, _, _, J⟩ := c_3 k 0 (th := a) a0 (by omega)
  obtain ⟨N', W', m', _, _, I', _, _, J'⟩ := c_3 k 0 (th := b) (by omega) b1
  rw [bw_is k.vm rfl pb.1 pb.2 I J, bw_is k.vm rfl pb.1 pb.2 I' J']
  have Jb := J.b k.vm rfl
  refine ⟨Jb.1, ?_⟩
  have sub : ∀ (n : Nat) (u : Int), u.toNat ≤ n → 0 ≤ u → u < 2 ^ (h_mi h 147 3).toNat → N 140 u.toNat = 1 → N' 140 u.toNat = 1 := by
    intro n
    induction n with
    | zero => intro u h1 h2 h3 h4; have : u = 0 := by omega
              rw [this]; exact I'.2.1
    | succ n ih =>
      intro u h1 h2 h3 h4
      by_cases z : u = 0
      · rw [z]; exact I'.2.1
      · obtain ⟨l, p, a1, a2, a3, a4, a5, a6⟩ := I.2.2.2.1 u (by omega) h3 h4
        have pp := p2p l.toNat
        have r := ih p (by omega) a3 (by omega) a5
        rw [a4]
        exact I'.2.2.2.2.1 p l a3 (by omega) a1 a2 (Or.inl (by omega)) r ⟨a6.1, a6.2.1, by have := a6.2.2; omega⟩
  obtain ⟨u, u0, u1, u2, u3, _⟩ := J.2
  have := J'.1 u u0 u1 (sub u.toNat u (Nat.le_refl _) u0 u1 u2)
  omega
/-- of all rows the most worth is that of the thickest -/
theorem vs_is (k : Cu h t E) {m r : Int} (r0 : 0 ≤ r) (r1 : r < h_mi h 147 1) (hr : ∀ i, 0 ≤ i → i < h_mi h 147 1 → rT (h_mi h) E m i ≤ rT (h_mi h) E m r) : itr (vsF (h_mi h) E m) (h_mi h 147 1).toNat 0 0 = bwV (h_mi h) (rT (h_mi h) E m r) := by
  have tb := thV_b (nwI (h_mi h) r) (nwG (h_mi h) E r) (h_mi h 147 0) m
  have tb : 0 ≤ rT (h_mi h) E m r ∧ rT (h_mi h) E m r ≤ 99 := tb
  have := itr_inv (f := vsF (h_mi h) E m) (n := h_mi h 147 1) (fun i a => 0 ≤ i ∧ 0 ≤ a ∧ a ≤ bwV (h_mi h) (rT (h_mi h) E m r) ∧ (r < i → a = bwV (h_mi h) (rT (h_mi h) E m r))) (fun i a hi ⟨i0, a0, a1, a2⟩ => by
    have ti : 0 ≤ rT (h_mi h) E m i ∧ rT (h_mi h) E m i ≤ 99 := thV_b (nwI (h_mi h) i) (nwG (h_mi h) E i) (h_mi h 147 0) m
    have mo := bw_mono k (a := rT (h_mi h) E m i) (b := rT (h_mi h) E m r) (by omega) (by omega) (hr i i0 hi)
    unfold vsF
    refine ⟨by omega, by omega, by omega, fun q => ?_⟩
    by_cases z : i = r
    · rw [z] at mo ⊢; omega
    · have := a2 (by omega); omega) (h_mi h 147 1).toNat 0 0 (by omega) (by omega) ⟨by omega, by omega, (bw_mono k (a := rT (h_mi h) E m r) (b := rT (h_mi h) E m r) (by omega) (by omega) (by omega)).1, fun q => by omega⟩
  exact this.2.2.2 r1
theorem beS_max (T P : Int → Int) {n : Int} (n0 : 1 ≤ n) : ∀ i, 0 ≤ i → i < n → T i ≤ T (beS T P n).1 := by
  have := itr_inv (f := beF T P) (n := n) (fun i s => 0 ≤ i ∧ ((i = 0 → s.1 = -1) ∧ (0 < i → 0 ≤ s.1 ∧ s.2.1 = T s.1)) ∧ ∀ j, 0 ≤ j → j < i → T j ≤ s.2.1 ∧ 0 ≤ s.1) (fun i s hi ⟨i0, ⟨s0, s1⟩, s2⟩ => by
    unfold beF
    by_cases z : 0 ≤ s.1 ∧ (T i < s.2.1 ∨ (T i = s.2.1 ∧ s.2.2 ≤ P i))
    · rw [if_pos z]
      refine ⟨by omega, ⟨fun q => by omega, fun _ => ?_⟩, fun j j0 j1 => ?_⟩
      · by_cases y : i = 0
        · have := s0 y; omega
        · exact s1 (by omega)
      · by_cases y : j = i
        · rw [y]; omega
        · exact s2 j j0 (by omega)
    · rw [if_neg z]
      refine ⟨by omega, ⟨fun q => by omega, fun _ => ⟨i0, rfl⟩⟩, fun j j0 j1 => ?_⟩
      show T j ≤ T i ∧ 0 ≤ i
      by_cases y : j = i
      · rw [y]; omega
      · have := s2 j j0 (by omega)
        omega) n.toNat 0 (-1, 0, 0) (by omega) (by omega) ⟨by omega, ⟨fun _ => rfl, fun q => by omega⟩, fun j j0 j1 => by omega⟩
  intro i i0 i1
  have a := this.2.2 i i0 i1
  have b := this.2.1.2 (by omega)
  show T i ≤ T (itr (beF T P) n.toNat 0 (-1, 0, 0)).1
  omega
theorem Cy.c (y : Cy h t E S K G) {N : MM} (g : Ag (CrA t) (h_mi h) N) (z : N 138 0 = 0 ∧ N 139 0 = 0) : Cy (sM h N) t E S K G := by
  refine ⟨y.1.c g z, y.2.1, fun r j r0 r1 j0 j1 => ?_⟩
  have h7 : h_mi (sM h N) 147 = h_mi h 147 := y.1.r2 g 147 (by omega) (by omega)
  have h5 : h_mi (sM h N) 135 = h_mi h 135 := g 135 (by unfold CrA; omega)
  have h6 : h_mi (sM h N) 136 = h_mi h 136 := g 136 (by unfold CrA; omega)
  rw [h7] at r1 j1
  rw [h5, h6]
  exact y.2.2 r j r0 r1 j0 j1
theorem nwI_rr {M N : MM} (g : ∀ a, 145 ≤ a → a ≤ 180 → N a = M a) (row : Int) : nwI N row = nwI M row := by
  funext j; unfold nwI seeG; rw [g 148 (by omega) (by omega), g 172 (by omega) (by omega)]
theorem nwG_rr {M N : MM} (g : ∀ a, 145 ≤ a → a ≤ 180 → N a = M a) (E : EE) : nwG N E = nwG M E := by
  funext r j; unfold nwG; rw [gmV_ag (g 149 (by omega) (by omega)) (g 148 (by omega) (by omega)), g 172 (by omega) (by omega)]
theorem rT_rr {M N : MM} (g : ∀ a, 145 ≤ a → a ≤ 180 → N a = M a) (E : EE) (m row : Int) : rT N E m row = rT M E m row := by
  unfold rT; rw [nwI_rr g, nwG_rr g, g 147 (by omega) (by omega)]
theorem mnV_rr {M N : MM} (g : ∀ a, 145 ≤ a → a ≤ 180 → N a = M a) (set : Int) : mnV N set = mnV M set := by
  unfold mnV; rw [g 147 (by omega) (by omega), g 172 (by omega) (by omega)]
theorem vsV_rr {M N : MM} (g : ∀ a, 145 ≤ a → a ≤ 180 → N a = M a) (E : EE) (set : Int) : vsV N E set = vsV M E set := by
  unfold vsV
  have : vsF N E = vsF M E := by
    funext m r a
    unfold vsF
    rw [rT_rr g, bwV_ag (fun a ha => g a (by omega) (by omega))]
  rw [this, mnV_rr g, g 147 (by omega) (by omega)]
theorem c_140 (k : Cu h t E) (y : Cy h t E (h_mi h 172) (ydK (h_mi h)) (nwG (h_mi h) E)) (d : Nat) {set : Int} (s0 : 0 ≤ set) (s1 : set < 128) : ∃ N, ev (d + 4) 140 [vr 100, vi set] h = some (vi (vsV (h_mi h) E set), sM h N) ∧ Ag (CrA t) (h_mi h) N ∧ (N 138 0 = 0 ∧ N 139 0 = 0) := by
  have rr := k.vm.r
  have b := beS_b (yT (h_mi h) (ydK (h_mi h)) (nwG (h_mi h) E) (mnV (h_mi h) set)) (yP (h_mi h) (ydK (h_mi h)) (nwG (h_mi h) E) (mnV (h_mi h) set)) rr.1
  have mx := beS_max (yT (h_mi h) (ydK (h_mi h)) (nwG (h_mi h) E) (mnV (h_mi h) set)) (yP (h_mi h) (ydK (h_mi h)) (nwG (h_mi h) E) (mnV (h_mi h) set)) rr.1
  have c101 := c_101 y d (mnV (h_mi h) set)
  generalize (beS (yT (h_mi h) (ydK (h_mi h)) (nwG (h_mi h) E) (mnV (h_mi h) set)) (yP (h_mi h) (ydK (h_mi h)) (nwG (h_mi h) E) (mnV (h_mi h) set)) (h_mi h 147 1)).1 = r at b mx c101
  have tb : 0 ≤ rT (h_mi h) E (mnV (h_mi h) set) r ∧ rT (h_mi h) E (mnV (h_mi h) set) r ≤ 99 := thV_b _ _ _ _
  have c100 : ev (d + 3) 100 [vr 134, vi r, vi (mnV (h_mi h) set)] h = some (vi (rT (h_mi h) E (mnV (h_mi h) set) r), h) := c_100 y (d + 1) b.1 b.2.1
  obtain ⟨N, e, g, z, w7⟩ := c_3w k d (th := rT (h_mi h) E (mnV (h_mi h) set) r) (by omega) (by omega)
  have k1 := k.c g z
  refine ⟨N, ?_, g, z⟩
  rw [v_140, q_140_0 (w := k.cs), c_54 k _ s0 s1, bI_s, q_140_8 (w := k.cs), c101, bI_s, q_140_17 (w := k.cs), c100, bI_s, q_140_35 (w := k.cs), e, bV_s, q_140_38 (w := k1.cs), mi_sM, w7]
  have : vsV (h_mi h) E set = bwV (h_mi h) (rT (h_mi h) E (mnV (h_mi h) set) r) := vs_is k b.1 b.2.1 mx
  rw [this]
theorem measured2 (k : Cu h t E) (d : Nat) : ∃ h1, ev (d + 5) 94 [vr 134, vr 106] h = some (vr 0, h1) ∧ (∃ N, h1 = sM (sR h 134 2 t) N ∧ Ag (CqA t) (h_mi h) N) ∧ Cy h1 t E (h_mi h1 172) (ydK (h_mi h1)) (nwG (h_mi h1) E) ∧ Cu h1 t E ∧ ∀ a, 145 ≤ a → a ≤ 180 → h_mi h1 a = h_mi h a := by
  obtain ⟨N, e, g, y⟩ := c_94 k d
  have r := fun a (h1 : 145 ≤ a) (h2 : a ≤ 180) => k.rr g a h1 (by omega)
  refine ⟨_, e, ⟨N, rfl, g⟩, ?_, ?_, r⟩
  · have e1 : ydK (h_mi (sM (sR h 134 2 t) N)) = ydK (h_mi h) := by funext a b; unfold ydK; rw [mi_sM, r 172 (by omega) (by omega)]
    rw [e1, mi_sM, nwG_rr r, r 172 (by omega) (by omega)]
    exact y
  · unfold Cu
    rw [mi_sM, r 172 (by omega) (by omega)]
    exact y.1
theorem Sq.oc {N1 N2 : MM} {y : Nat} (g1 : Ag (CqA t) (h_mi h) N1) (g2 : Ag (CrA t) N1 N2) (z0 : h_mi h 138 0 = 0 ∧ h_mi h 139 0 = 0) (z : N2 138 0 = 0 ∧ N2 139 0 = 0) : Sq t h (sM (sR h 134 2 y) N2) := ⟨N2, y, rfl, (g1.up SqA_q).tr (g2.up SqA_c), fun _ => by rw [z.1, z.2, z0.1, z0.2]; exact ⟨rfl, rfl⟩⟩
theorem k_value (k : Cu h t E) (d : Nat) (set : Int) : ∃ h1, ev (d + 6) 131 [vr 100, vi set] h = some (vi (valueV (h_mi h) E set), h1) ∧ Sq t h h1 := by
  have p6 := k.vm.p
  have pb := p2_6 (i := h_mi h 147 2) p6.1 p6.2
  rw [v_131, q_131_0 (w := k.cs) (f := k.fj) (ht := k.ht), k.dp, shlI p6.1 (by omega)]
  unfold valueV
  by_cases c1 : set < 0
  · rw [dt c1, if_neg (by omega)]
    exact ⟨h, rfl, Sq.rf t h⟩
  · rw [df c1]
    by_cases c2 : set < 2 ^ (h_mi h 147 2).toNat
    · obtain ⟨h1, e, ⟨N1, e1, g1⟩, y, k1, r⟩ := measured2 k d
      obtain ⟨N, e2, g2, z2⟩ := c_140 k1 y (d + 1) (set := set) (by omega) (by omega)
      rw [vsV_rr r] at e2
      subst e1
      refine ⟨sM (sR h 134 2 t) N, ?_, Sq.oc g1 g2 k.z0 z2⟩
      rw [dt c2, if_pos ⟨by omega, c2⟩, e]
      simp only [cond_true, cond_false, bV_s]
      rw [q_131_33 (w := k1.cs), e2, bI_s, q_131_38]
      rfl
    · rw [df c2, if_neg (by omega)]
      exact ⟨h, rfl, Sq.rf t h⟩
theorem shV_p {M : MM} {E : EE} (v : VM M E) {set : Int} (s0 : 0 ≤ set) (s1 : set < 2 ^ (M 147 2).toNat) : shV M set = sm (fun p => if bit set p = 1 then M 172 (126 + p).toNat else 0) (M 147 2) := by
  have p6 := v.p
  unfold shV sm
  have e : ((6 : Int)).toNat = (M 147 2).toNat + (6 - M 147 2).toNat := by omega
  rw [e, itr_add]
  generalize itr (fun k a => a + if bit set k = 1 then M 172 (126 + k).toNat else 0) (M 147 2).toNat 0 0 = x
  have key : ∀ (n : Nat) (i : Int), M 147 2 ≤ i → itr (fun k a => a + if bit set k = 1 then M 172 (126 + k).toNat else 0) n i x = x := by
    intro n
    induction n with
    | zero => intro i _; rfl
    | succ n ih =>
      intro i hi
      show itr (fun k a => a + if bit set k = 1 then M 172 (126 + k).toNat else 0) n (i + 1) (x + if bit set i = 1 then M 172 (126 + i).toNat else 0) = x
      rw [bit_hi p6.1 s0 s1 hi, if_neg (by omega), Int.add_zero]
      exact ih (i + 1) (by omega)
  exact key _ _ (by omega)
theorem l_133 (d : Nat) {h0 : HP} (k : Cu h0 t E) (y : Cy h0 t E (h_mi h0 172) (ydK (h_mi h0)) (nwG (h_mi h0) E)) : ∀ (n : Nat) (i : Int) (N : MM), (2 ^ (h_mi h0 147 2).toNat - i).toNat = n → 1 ≤ i → i ≤ 2 ^ (h_mi h0 147 2).toNat → Ag (CrA t) (h_mi h0) N → (N 138 0 = 0 ∧ N 139 0 = 0) → ∃ N', run (d + 5) md_133 13 [vr 100, vi i] [] (sM h0 N) = some (vi (cs (itx (lvF (h_mi h0) E) n i ()) (fun x => x) (fun _ => -1)), sM h0 N') ∧ Ag (CrA t) (h_mi h0) N' ∧ (N' 138 0 = 0 ∧ N' 139 0 = 0)
  | 0, i, N, h1, h2, h3, g, z => by
    have p6 := k.vm.p
    have k1 := k.c g z
    have e12 : h_mi (sM h0 N) t 12 = h_mi h0 147 2 := by rw [Cg.dp k1, mi_sM, k.r2 g 147 (by omega) (by omega)]
    refine ⟨N, ?_, g, z⟩
    rw [q_133_13 (w := k1.cs) (f := k1.fj) (ht := k1.ht), e12, shlI p6.1 (by omega), dt (by omega)]; rfl
  | n + 1, i, N, h1, h2, h3, g, z => by
    have p6 := k.vm.p
    have pb := p2_6 (i := h_mi h0 147 2) p6.1 p6.2
    have k1 := k.c g z
    have r := fun a (h1 : 145 ≤ a) (h2 : a ≤ 180) => k.r2 g a h1 (by omega)
    have e12 : h_mi (sM h0 N) t 12 = h_mi h0 147 2 := by rw [Cg.dp k1, mi_sM, r 147 (by omega) (by omega)]
    have y1 : Cy (sM h0 N) t E (h_mi (sM h0 N) 172) (ydK (h_mi (sM h0 N))) (nwG (h_mi (sM h0 N)) E) := by
      have e1 : ydK (h_mi (sM h0 N)) = ydK (h_mi h0) := by funext a b; unfold ydK; rw [mi_sM, r 172 (by omega) (by omega)]
      rw [e1, mi_sM, nwG_rr r, r 172 (by omega) (by omega)]
      exact y.c g z
    obtain ⟨N1, e1, g1, z1⟩ := c_140 k1 y1 d (set := i) (by omega) (by omega)
    rw [mi_sM, sM_sM, vsV_rr r] at e1
    rw [mi_sM] at g1
    have l55 := l_55 k1 (d + 4) (set := i) (by omega) (by omega) _ 0 0 rfl (by omega) (by rw [mi_sM, r 147 (by omega) (by omega)]; exact p6.1) (by omega) (by omega)
    rw [mi_sM, r 147 (by omega) (by omega), r 172 (by omega) (by omega), Int.sub_zero] at l55
    have c55 : ev (d + 4) 55 [vr 106, vi i] (sM h0 N) = some (vi (shV (h_mi h0) i), sM h0 N) := by
      rw [v_55, q_55_0, l55, shV_p k.vm (by omega) (by omega)]; rfl
    rw [q_133_13 (w := k1.cs) (f := k1.fj) (ht := k1.ht), e12, shlI p6.1 (by omega), df (by omega), c55]
    simp only [cond_false, bI_s]
    rw [q_133_37 (w := k1.cs), e1, bI_s, q_133_42]
    by_cases c : shV (h_mi h0) i < vsV (h_mi h0) E i
    · rw [df (by omega), itx_l (b := i) (if_pos c)]
      exact ⟨N1, rfl, g.tr g1, z1⟩
    · rw [dt (by omega), itx_r (a2 := ()) (if_neg c), ia (by omega) (by omega)]
      exact l_133 d k y n (i + 1) N1 (by omega) (by omega) (by omega) (g.tr g1) z1
theorem lvF_rr {M N : MM} (g : ∀ a, 145 ≤ a → a ≤ 180 → N a = M a) (E : EE) : lvF N E = lvF M E := by
  funext s u; unfold lvF shV; rw [vsV_rr g, g 172 (by omega) (by omega)]
theorem k_leaves (k : Cu h t E) (d : Nat) : ∃ h1, ev (d + 6) 133 [vr 100] h = some (vi (leavesV (h_mi h) E), h1) ∧ Sq t h h1 := by
  have p6 := k.vm.p
  have pb := p2_6 (i := h_mi h 147 2) p6.1 p6.2
  obtain ⟨h1, e, ⟨N1, e1, g1⟩, y, k1, r⟩ := measured2 k d
  obtain ⟨N, e2, g2, z2⟩ := l_133 (d + 1) k1 y _ 1 (h_mi h1) rfl (by omega) (by rw [r 147 (by omega) (by omega)]; omega) (Ag.rf _) k1.z0
  rw [sM_self, r 147 (by omega) (by omega), lvF_rr r] at e2
  subst e1
  refine ⟨sM (sR h 134 2 t) N, ?_, Sq.oc g1 g2 k.z0 z2⟩
  rw [v_133, q_133_0 (w := k.cs), e, bV_s, q_133_11, e2]
  rfl
end
