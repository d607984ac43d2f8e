/-! deeds: one more, one less -/
theorem SB.x {M : MM} {r : Nat} {S S' : Nat → Int} (b : SB M r S) (g : ∀ k, k < 144 → S' k = S k) : SB M r S' := by
  obtain ⟨b1, b2, b3, b4, b5, b6⟩ := b
  exact ⟨fun c hc => by rw [g c (by omega), g (60 + c) (by omega)]; exact b1 c hc, fun p hp => by rw [g (120 + p) (by omega), g (126 + p) (by omega)]; exact b2 p hp, by rw [g 132 (by omega)]; exact b3, by rw [g 133 (by omega)]; exact b4, by rw [g 134 (by omega)]; exact b5, fun k h1 h2 => by rw [g k h2]; exact b6 k h1 h2⟩
theorem I3S.x {S S' : Nat → Int} (b : I3S S) (g : ∀ k, k < 144 → S' k = S k) : I3S S' := by
  unfold I3S at b ⊢
  rw [g 135 (by omega), g 136 (by omega), g 137 (by omega)]
  exact b
theorem UnD.x {M : MM} {z : Nat} {S0 S S0' S' : Nat → Int} (u : UnD M z S0 S) (g0 : ∀ k, k < 144 → S0' k = S0 k) (g : ∀ k, k < 144 → S' k = S k) : UnD M z S0' S' := by
  have u' := u.s (S' := S') (fun c hc => g c (by omega))
  obtain ⟨r, r6, u1, u2, u3, u4, u5⟩ := u'
  have ef : fgV r S0' S' = fgV r S0 S' := sm_congr (fun k k0 k1 => by rw [g0 _ (by omega)])
  refine ⟨r, r6, u1, fun j hj => by rw [g0 _ (by omega)]; exact u2 j hj, fun c hc hr => by rw [g0 c (by omega)]; exact u3 c hc hr, by rw [g0 136 (by omega)]; exact u4, ?_⟩
  rcases u5 with ⟨p, p1, p2, p3, p4, p5, p6, p7⟩ | ⟨l, l1, l2, l3, l4, l5, l6⟩
  · exact Or.inl ⟨p, p1, p2, p3, fun j hj => by rw [g0 (120 + j) (by omega)]; exact p4 j hj, by rw [g0 132 (by omega)]; exact p5, by rw [ef, g0 135 (by omega)]; exact p6, by rw [g0 137 (by omega)]; exact p7⟩
  · exact Or.inr ⟨l, l1, l2, fun j hj => by rw [g0 (120 + j) (by omega)]; exact l3 j hj, by rw [g0 132 (by omega)]; exact l4, by rw [g0 135 (by omega)]; exact l5, by rw [ef, g0 137 (by omega)]; exact l6⟩
theorem UnD.z {M N : MM} {z : Nat} {S0 S : Nat → Int} (u : UnD M z S0 S) (h1 : N 131 z = M 131 z) (h2 : N 132 z = M 132 z) (h3 : ∀ j, j < 10 → N 133 (10 * z + j) = M 133 (10 * z + j)) (h7 : N 147 = M 147) : UnD N z S0 S := by
  obtain ⟨r, r6, u1, u2, u3, u4, u5⟩ := u
  refine ⟨r, r6, by rw [h2]; exact u1, fun j hj => by rw [h3 j hj]; exact u2 j hj, u3, u4, ?_⟩
  rw [h1, h7]
  exact u5
theorem DdG.keep {M N : MM} {n : Int} {U U' S S' : Nat → Int} (u : DdG M n U S) (sb : SB M 0 S) (s3 : I3S S) (e7 : N 147 = M 147) (e8 : N 148 = M 148) (h3 : N 130 3 = (M 130 3 + 1) % 20) (h4 : N 130 4 = min (n + 1) 20)
    (ot : ∀ z, z < 20 → z ≠ (M 130 3).toNat → N 131 z = M 131 z ∧ N 132 z = M 132 z ∧ ∀ j, j < 10 → N 133 (10 * z + j) = M 133 (10 * z + j)) (un : UnD N (M 130 3).toNat S S')
    (hU : ∀ i k : Nat, k < 144 → (i : Int) < min (n + 1) 20 → U' (144 * i + k) = if (i : Int) + 1 = min (n + 1) 20 then S k else if n = 20 then U (144 * (i + 1) + k) else U (144 * i + k)) : DdG N (min (n + 1) 20) U' S' := by
  obtain ⟨u1, u2, u3, u4⟩ := u
  refine ⟨h4, by omega, by rw [h3]; omega, fun i hi => ?_⟩
  by_cases z : (i : Int) + 1 = min (n + 1) 20
  · have e : ∀ k, k < 144 → unR U' i k = S k := fun k hk => by
      show U' (144 * i + k) = _
      rw [hU i k hk hi, if_pos z]
    have es : slot (N 130 3) (min (n + 1) 20) i = (M 130 3).toNat := by unfold slot; rw [h3]; congr 1; omega
    rw [if_pos z, es]
    exact ⟨⟨(sb.x e).e e8, s3.x e⟩, un.x e (fun _ _ => rfl)⟩
  · rw [if_neg z]
    by_cases w : n = 20
    · have e : ∀ k, k < 144 → unR U' i k = unR U (i + 1) k := fun k hk => by
        show U' (144 * i + k) = U (144 * (i + 1) + k)
        rw [hU i k hk hi, if_neg z, if_pos w]
      have es : slot (N 130 3) (min (n + 1) 20) i = slot (M 130 3) n (i + 1) := by unfold slot; rw [h3]; congr 1; omega
      have sl : slot (M 130 3) n (i + 1) < 20 ∧ slot (M 130 3) n (i + 1) ≠ (M 130 3).toNat := by unfold slot; omega
      obtain ⟨⟨a1, a2⟩, a3⟩ := u4 (i + 1) (by omega)
      obtain ⟨o1, o2, o3⟩ := ot _ sl.1 sl.2
      rw [es]
      refine ⟨⟨(a1.x e).e e8, a2.x e⟩, (a3.z o1 o2 o3 e7).x e (fun k hk => ?_)⟩
      show U' (144 * (i + 1) + k) = _
      rw [hU (i + 1) k hk (by omega), if_pos w]
      by_cases y : ((i + 1 : Nat) : Int) + 1 = n
      · rw [if_pos y, if_pos (by omega)]
      · rw [if_neg y, if_neg (by omega)]; rfl
    · have e : ∀ k, k < 144 → unR U' i k = unR U i k := fun k hk => by
        show U' (144 * i + k) = U (144 * i + k)
        rw [hU i k hk hi, if_neg z, if_neg w]
      have es : slot (N 130 3) (min (n + 1) 20) i = slot (M 130 3) n i := by unfold slot; rw [h3]; congr 1; omega
      have sl : slot (M 130 3) n i < 20 ∧ slot (M 130 3) n i ≠ (M 130 3).toNat := by unfold slot; omega
      obtain ⟨⟨a1, a2⟩, a3⟩ := u4 i (by omega)
      obtain ⟨o1, o2, o3⟩ := ot _ sl.1 sl.2
      rw [es]
      refine ⟨⟨(a1.x e).e e8, a2.x e⟩, (a3.z o1 o2 o3 e7).x e (fun k hk => ?_)⟩
      show U' (144 * (i + 1) + k) = _
      rw [hU (i + 1) k hk (by omega), if_neg w]
      by_cases y : (i : Int) + 1 = n
      · rw [if_pos y, if_pos (by omega)]
      · rw [if_neg y, if_neg (by omega)]; rfl
/-- the newest deed is gone -/
theorem DdG.back {M N : MM} {n : Int} {U S S' : Nat → Int} (u : DdG M n U S) (n1 : 1 ≤ n) (e : ∀ a, (131 ≤ a ∧ a ≤ 133) ∨ a = 147 ∨ a = 148 → N a = M a) (h3 : N 130 3 = (M 130 3 + 19) % 20) (h4 : N 130 4 = n - 1) (hS : ∀ c, (c < 60 ∨ (120 ≤ c ∧ c < 126) ∨ c = 132 ∨ (135 ≤ c ∧ c < 144)) → S' c = unR U (n - 1).toNat c) : DdG N (n - 1) U S' := by
  obtain ⟨u1, u2, u3, u4⟩ := u
  refine ⟨h4, by omega, by rw [h3]; omega, fun i hi => ?_⟩
  have es : slot (N 130 3) (n - 1) i = slot (M 130 3) n i := by unfold slot; rw [h3]; congr 1; omega
  obtain ⟨⟨a1, a2⟩, a3⟩ := u4 i (by omega)
  rw [es]
  refine ⟨⟨a1.e (e 148 (by omega)), a2⟩, ?_⟩
  rw [if_neg (by omega)] at a3
  have b := a3.z (N := N) (by rw [e 131 (by omega)]) (by rw [e 132 (by omega)]) (fun j _ => by rw [e 133 (by omega)]) (e 147 (by omega))
  by_cases z : (i : Int) + 1 = n - 1
  · rw [if_pos z]
    have ei : (n - 1).toNat = i + 1 := by omega
    rw [ei] at hS
    exact b.s hS
  · rw [if_neg z]
    exact b
/-- what is laid aside -/
theorem kpU_at (M : MM) (d0 : 0 ≤ M 145 44) (d1 : M 145 44 ≤ 20) (i k : Nat) (hk : k < 144) (hi : (i : Int) < min (M 145 44 + 1) 20) : kpU M (144 * i + k) = if (i : Int) + 1 = min (M 145 44 + 1) 20 then M 172 k else if M 145 44 = 20 then M 175 (144 * (i + 1) + k) else M 175 (144 * i + k) := by
  have kn : kpN M = min (M 145 44 + 1) 20 := by unfold kpN; split <;> omega
  unfold kpU
  rw [kn]
  by_cases z : (i : Int) + 1 = min (M 145 44 + 1) 20
  · rw [if_pos z, if_pos (by omega)]
    congr 1; omega
  · rw [if_neg z, if_neg (by omega)]
    by_cases w : M 145 44 = 20
    · rw [if_pos w, if_pos ⟨w, by omega⟩]
      congr 1; omega
    · rw [if_neg w, if_neg (fun q => w q.1)]
