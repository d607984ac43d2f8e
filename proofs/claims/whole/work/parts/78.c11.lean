/-! loads across: the search and the sets -/
def sB (f : Int → Int) (s : Int) : Int := bit s 0 * f 0 + bit s 1 * f 1 + bit s 2 * f 2 + bit s 3 * f 3 + bit s 4 * f 4 + bit s 5 * f 5 + bit s 6 * f 6
theorem sB_add {f : Int → Int} {s l : Int} (s0 : 0 ≤ s) (s1 : s < 128) (l0 : 0 ≤ l) (l1 : l < 7) (hb : bit s l ≠ 1) : sB f (s + 2 ^ l.toNat) = sB f s + f l := by
  obtain ⟨_, _, _, bj⟩ := pcI s0 s1 l0 l1 hb
  have z : bit s l = 0 := by rcases bit01 s l with z | z; exact z; exact absurd z hb
  unfold sB
  rw [bj 0 (by omega) (by omega), bj 1 (by omega) (by omega), bj 2 (by omega) (by omega), bj 3 (by omega) (by omega), bj 4 (by omega) (by omega), bj 5 (by omega) (by omega), bj 6 (by omega) (by omega)]
  have : l = 0 ∨ l = 1 ∨ l = 2 ∨ l = 3 ∨ l = 4 ∨ l = 5 ∨ l = 6 := by omega
  rcases this with rfl | rfl | rfl | rfl | rfl | rfl | rfl <;> simp [z] <;> omega
theorem sB_0 (f : Int → Int) : sB f 0 = 0 := by
  have : ∀ i : Nat, bit 0 i = 0 := fun i => by unfold bit; rw [Int.zero_ediv]; rfl
  unfold sB
  rw [show bit 0 0 = 0 from this 0, show bit 0 1 = 0 from this 1, show bit 0 2 = 0 from this 2, show bit 0 3 = 0 from this 3, show bit 0 4 = 0 from this 4, show bit 0 5 = 0 from this 5, show bit 0 6 = 0 from this 6]
  simp
def my (M : MM) (t s l : Int) : Prop := bit s l = 0 ∧ bit (M 172 132) l = 0 ∧ ndV M l ≤ t - sB (weV M) s
def wt (M : MM) (s : Int) : Int := sB (fun l => M 156 l.toNat) s
/-- R: which sets are reached; L: which of them lead to one that is worth W with m loads, the most and the fewest -/
def CaH (M : MM) (t : Int) (R L : Int → Prop) (W m : Int) : Prop :=
  (∀ s, R s → 0 ≤ s ∧ s < 128) ∧ (∀ s l, R s → 0 ≤ l → l < M 147 3 → my M t s l → R (s + 2 ^ l.toNat)) ∧
  (∀ s, R s → wt M s < W ∨ (wt M s = W ∧ m ≤ pc s)) ∧
  ∀ s, R s → (L s ↔ ((wt M s = W ∧ pc s = m) ∨ ∃ l, 0 ≤ l ∧ l < M 147 3 ∧ my M t s l ∧ L (s + 2 ^ l.toNat)))
/-- a node of the search: the set s -/
def NdH (M : MM) (at_ used sum by_ s : Int) : Prop := at_ = pc s ∧ sum = wt M s ∧ by_ = sB (weV M) s ∧ (0 ≤ used ∧ used < 128) ∧ ∀ l : Int, 0 ≤ l → l < 7 → (bit used l = 1 ↔ bit (M 172 132) l = 1 ∨ bit s l = 1)
theorem b_ne {s l : Int} : bit s l ≠ 1 ↔ bit s l = 0 := by rcases bit01 s l with z | z <;> omega
theorem NdH.nx {M : MM} {at_ used sum by_ s : Int} (nd : NdH M at_ used sum by_ s) (s0 : 0 ≤ s) (s1 : s < 128) {l : Int} (l0 : 0 ≤ l) (l1 : l < 7) (hb : bit used l ≠ 1) : NdH M (at_ + 1) (used + 2 ^ l.toNat) (sum + M 156 l.toNat) (by_ + weV M l) (s + 2 ^ l.toNat) := by
  obtain ⟨e1, e2, e3, e4, e5⟩ := nd
  have hs : bit s l ≠ 1 := fun z => hb ((e5 l l0 l1).mpr (Or.inr z))
  obtain ⟨p1, p2, _, p4⟩ := pcI s0 s1 l0 l1 hs
  obtain ⟨_, u2, _, u4⟩ := pcI e4.1 e4.2 l0 l1 hb
  have pp := p2p l.toNat
  refine ⟨by omega, ?_, ?_, ⟨by omega, u2⟩, fun j j0 j1 => ?_⟩
  · unfold wt at e2 ⊢; rw [sB_add s0 s1 l0 l1 hs, e2]
  · rw [sB_add s0 s1 l0 l1 hs, e3]
  · rw [u4 j j0 j1, p4 j j0 j1]
    by_cases z : j = l
    · rw [if_pos z, if_pos z]; exact ⟨fun _ => Or.inr rfl, fun _ => rfl⟩
    · rw [if_neg z, if_neg z]; exact e5 j j0 j1
/-- whether it goes on with l -/
theorem NdH.go {M : MM} {t at_ used sum by_ s : Int} (nd : NdH M at_ used sum by_ s) {l : Int} (l0 : 0 ≤ l) (l1 : l < 7) : ¬ (bit used l = 1 ∨ t - by_ < ndV M l) ↔ my M t s l := by
  obtain ⟨_, _, e3, _, e5⟩ := nd
  have := e5 l l0 l1
  unfold my
  rw [e3]
  constructor
  · intro z
    have z1 : bit used l ≠ 1 := fun q => z (Or.inl q)
    refine ⟨b_ne.mp (fun q => z1 (this.mpr (Or.inr q))), b_ne.mp (fun q => z1 (this.mpr (Or.inl q))), ?_⟩
    have : ¬ t - sB (weV M) s < ndV M l := fun q => z (Or.inr q)
    omega
  · rintro ⟨z1, z2, z3⟩ q
    rcases q with q | q
    · rcases this.mp q with w | w <;> omega
    · omega
def dfF (M : MM) (T : Int → Int) (k : Nat) (at_ used sum by_ : Int) (l : Int) (s : CS) : CS := if bit used l = 1 ∨ T by_ < ndV M l then s else dfs M T k (at_ + 1) (used + 2 ^ l.toNat) (sum + M 156 l.toNat) (by_ + weV M l) (s.1, s.2.1, s.2.2.1, va_up s.2.2.2 at_.toNat l)
theorem dfs_eq (M : MM) (T : Int → Int) (k : Nat) (at_ used sum by_ : Int) (s : CS) : dfs M T (k + 1) at_ used sum by_ s = itr (dfF M T k at_ used sum by_) (M 147 3).toNat 0 (updC at_ sum s) := rfl
theorem updC_l (at_ sum : Int) (s : CS) : (updC at_ sum s).2.2.2 = s.2.2.2 := by unfold updC; split <;> rfl
theorem dfs_ln {M : MM} {T : Int → Int} : ∀ (k : Nat) (at_ used sum by_ : Int) (c : CS), 0 ≤ at_ → ∀ j : Nat, (j : Int) < at_ → (dfs M T k at_ used sum by_ c).2.2.2 j = c.2.2.2 j
  | 0, _, _, _, _, _, _, _, _ => rfl
  | k + 1, at_, used, sum, by_, c, h0, j, hj => by
    rw [dfs_eq]
    have key : ∀ (n : Nat) (i : Int) (s : CS), (itr (dfF M T k at_ used sum by_) n i s).2.2.2 j = s.2.2.2 j := by
      intro n
      induction n with
      | zero => intro i s; rfl
      | succ n ih =>
        intro i s
        show (itr (dfF M T k at_ used sum by_) n (i + 1) (dfF M T k at_ used sum by_ i s)).2.2.2 j = _
        rw [ih]
        unfold dfF
        split
        · rfl
        · rw [dfs_ln k _ _ _ _ _ (by omega) j (by omega)]
          exact up_ne _ _ (by omega)
    rw [key, updC_l]
def nOp (W m : Int) (c : CS) : Prop := c.1 < W ∨ (c.1 = W ∧ m < c.2.1)
section
variable {M : MM} {t : Int} {R L : Int → Prop} {W m : Int}
theorem dfs_B (H : CaH M t R L W m) (l7 : M 147 3 ≤ 7) : ∀ (k : Nat) (at_ used sum by_ s : Int) (c : CS), R s → NdH M at_ used sum by_ s → c.1 = W → c.2.1 = m → (dfs M (fun b => t - b) k at_ used sum by_ c).1 = W ∧ (dfs M (fun b => t - b) k at_ used sum by_ c).2.1 = m ∧ (dfs M (fun b => t - b) k at_ used sum by_ c).2.2.1 = c.2.2.1
  | 0, _, _, _, _, _, _, _, _, h1, h2 => ⟨h1, h2, rfl⟩
  | k + 1, at_, used, sum, by_, s, c, hR, nd, h1, h2 => by
    obtain ⟨r1, r2, r3, r4⟩ := H
    have sb := r1 s hR
    have eu : updC at_ sum c = c := by
      unfold updC
      rw [if_neg]
      have := r3 s hR
      obtain ⟨e1, e2, _⟩ := nd
      omega
    rw [dfs_eq, eu]
    have := itr_inv (f := dfF M (fun b => t - b) k at_ used sum by_) (n := ((M 147 3).toNat : Int)) (fun i a => 0 ≤ i ∧ a.1 = W ∧ a.2.1 = m ∧ a.2.2.1 = c.2.2.1) (fun i a hi ⟨i0, a1, a2, a3⟩ => by
      refine ⟨by omega, ?_⟩
      unfold dfF
      by_cases z : bit used i = 1 ∨ t - by_ < ndV M i
      · rw [if_pos z]; exact ⟨a1, a2, a3⟩
      · rw [if_neg z]
        have hm := (nd.go (t := t) i0 (by omega)).mp z
        have := dfs_B ⟨r1, r2, r3, r4⟩ l7 k _ _ _ _ (s + 2 ^ i.toNat) (a.1, a.2.1, a.2.2.1, va_up a.2.2.2 at_.toNat i) (r2 s i hR i0 (by omega) hm) (nd.nx sb.1 sb.2 i0 (by omega) (fun q => z (Or.inl q))) a1 a2
        exact ⟨this.1, this.2.1, this.2.2.trans a3⟩) (M 147 3).toNat 0 c (by omega) (by omega) ⟨by omega, h1, h2, rfl⟩
    exact this.2
theorem dfs_A (H : CaH M t R L W m) (l7 : M 147 3 ≤ 7) : ∀ (k : Nat) (at_ used sum by_ s : Int) (c : CS), R s → ¬ L s → NdH M at_ used sum by_ s → nOp W m c → nOp W m (dfs M (fun b => t - b) k at_ used sum by_ c)
  | 0, _, _, _, _, _, _, _, _, _, h1 => h1
  | k + 1, at_, used, sum, by_, s, c, hR, hL, nd, h1 => by
    have H' := H
    obtain ⟨r1, r2, r3, r4⟩ := H
    have sb := r1 s hR
    have nL := fun q => hL ((r4 s hR).mpr q)
    have eu : nOp W m (updC at_ sum c) := by
      unfold updC
      split
      · have := r3 s hR
        obtain ⟨e1, e2, _⟩ := nd
        unfold nOp
        show sum < W ∨ (sum = W ∧ m < at_)
        have : ¬ (wt M s = W ∧ pc s = m) := fun q => nL (Or.inl q)
        omega
      · exact h1
    rw [dfs_eq]
    have := itr_inv (f := dfF M (fun b => t - b) k at_ used sum by_) (n := ((M 147 3).toNat : Int)) (fun i a => 0 ≤ i ∧ nOp W m a) (fun i a hi ⟨i0, a1⟩ => by
      refine ⟨by omega, ?_⟩
      unfold dfF
      by_cases z : bit used i = 1 ∨ t - by_ < ndV M i
      · rw [if_pos z]; exact a1
      · rw [if_neg z]
        have hm := (nd.go (t := t) i0 (by omega)).mp z
        exact dfs_A H' l7 k _ _ _ _ (s + 2 ^ i.toNat) (a.1, a.2.1, a.2.2.1, va_up a.2.2.2 at_.toNat i) (r2 s i hR i0 (by omega) hm) (fun q => nL (Or.inr ⟨i, i0, by omega, hm, q⟩)) (nd.nx sb.1 sb.2 i0 (by omega) (fun q => z (Or.inl q))) a1) (M 147 3).toNat 0 (updC at_ sum c) (by omega) (by omega) ⟨by omega, eu⟩
    exact this.2
/-- the way that the class goes: the loads q, the sets b -/
def Way (M : MM) (t : Int) (R L : Int → Prop) (m : Int) (q b : Nat → Int) : Prop := ∀ j : Nat, (j : Int) < m → (0 ≤ q j ∧ q j < M 147 3) ∧ my M t (b j) (q j) ∧ L (b (j + 1)) ∧ b (j + 1) = b j + 2 ^ (q j).toNat ∧ ∀ i, 0 ≤ i → i < q j → ¬ (my M t (b j) i ∧ L (b j + 2 ^ i.toNat))
theorem cpL_at (at_ : Int) (LN BL : Nat → Int) (a0 : 0 ≤ at_) (j : Nat) : cpL at_ LN BL j = if (j : Int) < at_ then LN j else BL j := by
  unfold cpL
  have := rowF_at (fun k _ => LN k.toNat) at_.toNat 0 BL j (by omega) (by omega)
  have e : ((j : Int)).toNat = j := by omega
  rw [e] at this
  have e2 : itr (fun (k : Int) (f : Nat → Int) => va_up f k.toNat (LN k.toNat)) at_.toNat 0 BL = rowF (fun k _ => LN k.toNat) at_.toNat 0 BL := rfl
  rw [e2, this]
  by_cases z : (j : Int) < at_
  · rw [if_pos (by omega), if_pos z]
  · rw [if_neg (by omega), if_neg z]
theorem dfs_C (H : CaH M t R L W m) (l7 : M 147 3 ≤ 7) {q b : Nat → Int} (wy : Way M t R L m q b) : ∀ (k at_ : Nat) (used sum by_ : Int) (c : CS), (at_ : Int) ≤ m → 8 ≤ at_ + k → R (b at_) → L (b at_) → NdH M at_ used sum by_ (b at_) → nOp W m c → (∀ j : Nat, j < at_ → c.2.2.2 j = q j) → (dfs M (fun b => t - b) k at_ used sum by_ c).1 = W ∧ (dfs M (fun b => t - b) k at_ used sum by_ c).2.1 = m ∧ ∀ j : Nat, (j : Int) < m → (dfs M (fun b => t - b) k at_ used sum by_ c).2.2.1 j = q j
  | 0, at_, used, sum, by_, c, h1, h2, hR, hL, nd, hn, hl => by
    have := pc_b (b at_)
    obtain ⟨e1, _⟩ := nd
    omega
  | k + 1, at_, used, sum, by_, c, h1, h2, hR, hL, nd, hn, hl => by
    have H' := H
    obtain ⟨r1, r2, r3, r4⟩ := H
    have sb := r1 _ hR
    have e1 : (at_ : Int) = pc (b at_) := nd.1
    have e2 : sum = wt M (b at_) := nd.2.1
    rw [dfs_eq]
    have ta : ((at_ : Int)).toNat = at_ := by omega
    by_cases hm : (at_ : Int) = m
    · -- the best itself
      have op : wt M (b at_) = W := by
        rcases (r4 _ hR).mp hL with z | ⟨l, l0, l1, l2, l3⟩
        · exact z.1
        · have hR2 := r2 _ l hR l0 l1 l2
          have pcl := (pcI sb.1 sb.2 l0 (by omega) (by have := l2.1; omega)).1
          exfalso
          have : ∀ (f : Nat) (s : Int), R s → L s → m < pc s → 8 ≤ pc s + f → False := by
            intro f
            induction f with
            | zero => intro s _ _ _ hp; have := pc_b s; omega
            | succ f ih =>
              intro s sR sL sm sp
              have sb2 := r1 s sR
              rcases (r4 s sR).mp sL with z | ⟨l, l0, l1, l2, l3⟩
              · omega
              · have pcl := (pcI sb2.1 sb2.2 l0 (by omega) (by have := l2.1; omega)).1
                exact ih _ (r2 s l sR l0 l1 l2) l3 (by omega) (by omega)
          exact this 8 _ hR2 l3 (by omega) (by have := pc_b (b at_ + 2 ^ l.toNat); omega)
      have eu : updC at_ sum c = (W, m, cpL at_ c.2.2.2 c.2.2.1, c.2.2.2) := by
        unfold updC
        have hn' : c.1 < W ∨ (c.1 = W ∧ m < c.2.1) := hn
        rw [if_pos (by omega), e2, op, hm]
      rw [eu]
      have bl : ∀ j : Nat, (j : Int) < m → cpL at_ c.2.2.2 c.2.2.1 j = q j := fun j hj => by
        rw [cpL_at _ _ _ (by omega), if_pos (by omega)]; exact hl j (by omega)
      have := itr_inv (f := dfF M (fun b => t - b) k at_ used sum by_) (n := ((M 147 3).toNat : Int)) (fun i a => 0 ≤ i ∧ a.1 = W ∧ a.2.1 = m ∧ a.2.2.1 = cpL at_ c.2.2.2 c.2.2.1) (fun i a hi ⟨i0, a1, a2, a3⟩ => by
        refine ⟨by omega, ?_⟩
        unfold dfF
        by_cases z : bit used i = 1 ∨ t - by_ < ndV M i
        · rw [if_pos z]; exact ⟨a1, a2, a3⟩
        · rw [if_neg z]
          have hmy := (nd.go (t := t) i0 (by omega)).mp z
          have := dfs_B H' l7 k _ _ _ _ (b at_ + 2 ^ i.toNat) (a.1, a.2.1, a.2.2.1, va_up a.2.2.2 ((at_ : Int)).toNat i) (r2 _ i hR i0 (by omega) hmy) (nd.nx sb.1 sb.2 i0 (by omega) (fun q => z (Or.inl q))) a1 a2
          exact ⟨this.1, this.2.1, this.2.2.trans a3⟩) (M 147 3).toNat 0 (W, m, cpL at_ c.2.2.2 c.2.2.1, c.2.2.2) (by omega) (by omega) ⟨by omega, rfl, rfl, rfl⟩
      refine ⟨this.2.1, this.2.2.1, fun j hj => ?_⟩
      rw [this.2.2.2]; exact bl j hj
    · -- on the way
      have hm2 : (at_ : Int) < m := by omega
      obtain ⟨w1, w2, w3, w4, w5⟩ := wy at_ hm2
      have eu : nOp W m (updC at_ sum c) := by
        unfold updC
        split
        · have := r3 _ hR
          unfold nOp
          show sum < W ∨ (sum = W ∧ m < (at_ : Int))
          omega
        · exact hn
      have := itr_inv (f := dfF M (fun b => t - b) k at_ used sum by_) (n := ((M 147 3).toNat : Int)) (fun i a => 0 ≤ i ∧ (∀ j : Nat, j < at_ → a.2.2.2 j = q j) ∧ (i ≤ q at_ → nOp W m a) ∧ (q at_ < i → a.1 = W ∧ a.2.1 = m ∧ ∀ j : Nat, (j : Int) < m → a.2.2.1 j = q j)) (fun i a hi ⟨i0, a1, a2, a3⟩ => by
        have hln : ∀ j : Nat, j < at_ → (va_up a.2.2.2 ((at_ : Int)).toNat i) j = q j := fun j hj => by rw [up_ne _ _ (by omega)]; exact a1 j hj
        refine ⟨by omega, fun j hj => ?_, fun hq => ?_, fun hq => ?_⟩
        · unfold dfF
          split
          · exact a1 j hj
          · rw [dfs_ln k _ _ _ _ _ (by omega) j (by omega)]; exact hln j hj
        · unfold dfF
          have an := a2 (by omega)
          by_cases z : bit used i = 1 ∨ t - by_ < ndV M i
          · rw [if_pos z]; exact an
          · rw [if_neg z]
            have hmy := (nd.go (t := t) i0 (by omega)).mp z
            exact dfs_A H' l7 k _ _ _ _ (b at_ + 2 ^ i.toNat) (a.1, a.2.1, a.2.2.1, va_up a.2.2.2 ((at_ : Int)).toNat i) (r2 _ i hR i0 (by omega) hmy) (fun q2 => w5 i i0 (by omega) ⟨hmy, q2⟩) (nd.nx sb.1 sb.2 i0 (by omega) (fun q => z (Or.inl q))) an
        · unfold dfF
          by_cases hi2 : i = q at_
          · have hmy : my M t (b at_) i := by rw [hi2]; exact w2
            have z := (nd.go (t := t) i0 (by omega)).mpr hmy
            rw [if_neg z]
            have nd2 := nd.nx sb.1 sb.2 i0 (by omega) (fun q => z (Or.inl q))
            rw [hi2, ← w4] at nd2
            have nd3 : NdH M ((at_ + 1 : Nat) : Int) (used + 2 ^ (q at_).toNat) (sum + M 156 (q at_).toNat) (by_ + weV M (q at_)) (b (at_ + 1)) := nd2
            rw [hi2]
            have hR2 : R (b (at_ + 1)) := by rw [w4]; exact r2 _ _ hR w1.1 w1.2 w2
            have := dfs_C H' l7 wy k (at_ + 1) _ _ _ (a.1, a.2.1, a.2.2.1, va_up a.2.2.2 ((at_ : Int)).toNat (q at_)) (by omega) (by omega) hR2 w3 nd3 (a2 (by omega)) (fun j hj => by
              show va_up a.2.2.2 ((at_ : Int)).toNat (q at_) j = q j
              by_cases jq : j = at_
              · rw [jq, ta, up_eq]
              · rw [up_ne _ _ (by omega)]; exact a1 j (by omega))
            exact this
          · have ao := a3 (by omega)
            by_cases z : bit used i = 1 ∨ t - by_ < ndV M i
            · rw [if_pos z]; exact ao
            · rw [if_neg z]
              have hmy := (nd.go (t := t) i0 (by omega)).mp z
              have := dfs_B H' l7 k _ _ _ _ (b at_ + 2 ^ i.toNat) (a.1, a.2.1, a.2.2.1, va_up a.2.2.2 ((at_ : Int)).toNat i) (r2 _ i hR i0 (by omega) hmy) (nd.nx sb.1 sb.2 i0 (by omega) (fun q => z (Or.inl q))) ao.1 ao.2.1
              exact ⟨this.1, this.2.1, fun j hj => by rw [this.2.2]; exact ao.2.2 j hj⟩) (M 147 3).toNat 0 (updC at_ sum c) (by omega) (by omega) ⟨by omega, fun j hj => by rw [updC_l]; exact hl j hj, fun _ => eu, fun z => absurd z (by omega)⟩
      exact this.2.2.2 (by omega)
/-- the search finds what the class finds -/
theorem crT_is {E : EE} (v : VM M E) (H : CaH M t R L W m) (m0 : 0 ≤ m) (W0 : 0 ≤ W) (h0 : R 0) (hL : L 0) {q b : Nat → Int} (b0 : b 0 = 0) (wy : Way M t R L m q b) : (crT M t).1 = W ∧ (crT M t).2.1 = m ∧ ∀ j : Nat, (j : Int) < m → (crT M t).2.2.1 j = q j := by
  have l7 := v.l
  have ov := v.ov
  have b00 : ∀ l : Int, bit 0 l = 0 := fun l => by unfold bit; rw [Int.zero_ediv]; rfl
  have nd : NdH M ((0 : Nat) : Int) (M 172 132) 0 0 (b 0) := by
    rw [b0]
    refine ⟨by unfold pc; rw [b00, b00, b00, b00, b00, b00, b00]; rfl, (sB_0 _).symm, (sB_0 _).symm, ⟨ov.1, by omega⟩, fun l l0 l1 => ?_⟩
    rw [b00]
    exact ⟨fun z => Or.inl z, fun z => z.elim id (fun w => absurd w (by omega))⟩
  exact dfs_C H l7.2 wy 8 0 (M 172 132) 0 0 (-1, 0, M 178, M 177) (by omega) (by omega) (by rw [b0]; exact h0) (by rw [b0]; exact hL) nd (Or.inl (by show (-1 : Int) < W; omega)) (fun j hj => by omega)
end
