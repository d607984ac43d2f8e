/-! runs without a bound on their steps: each is one step, then a run -/
def Le (o o2 : RS) : Prop := ∀ r, o = some r → o2 = some r
theorem Le.rf (o : RS) : Le o o := fun _ h => h
theorem bV_mono {o o2 : RS} {f f2 : HP → RS} (ho : Le o o2) (hf : ∀ h, Le (f h) (f2 h)) : Le (bV o f) (bV o2 f2) := by
  intro r hr
  match o, ho, hr with
  | none, _, hr => simp [bV] at hr
  | some (.inl x, h), _, hr => simp [bV] at hr
  | some (.inr (.inl _), h), _, hr => simp [bV] at hr
  | some (.inr (.inr (.inl x)), h), ho, hr => rw [ho _ rfl]; exact hf h r hr
  | some (.inr (.inr (.inr _)), h), _, hr => simp [bV] at hr
theorem bI_mono {o o2 : RS} {f f2 : Int → HP → RS} (ho : Le o o2) (hf : ∀ x h, Le (f x h) (f2 x h)) : Le (bI o f) (bI o2 f2) := by
  intro r hr
  match o, ho, hr with
  | none, _, hr => simp [bI] at hr
  | some (.inl x, h), ho, hr => rw [ho _ rfl]; exact hf x h r hr
  | some (.inr _, h), _, hr => simp [bI] at hr
theorem bR_mono {o o2 : RS} {f f2 : Nat → HP → RS} (ho : Le o o2) (hf : ∀ x h, Le (f x h) (f2 x h)) : Le (bR o f) (bR o2 f2) := by
  intro r hr
  match o, ho, hr with
  | none, _, hr => simp [bR] at hr
  | some (.inl x, h), _, hr => simp [bR] at hr
  | some (.inr (.inl _), h), _, hr => simp [bR] at hr
  | some (.inr (.inr (.inl x)), h), ho, hr => rw [ho _ rfl]; exact hf x h r hr
  | some (.inr (.inr (.inr _)), h), _, hr => simp [bR] at hr
theorem bX_mono {o o2 : RS} {f f2 : Int → HP → RS} {g g2 : HP → RS} (ho : Le o o2) (hf : ∀ x h, Le (f x h) (f2 x h)) (hg : ∀ h, Le (g h) (g2 h)) : Le (bX o f g) (bX o2 f2 g2) := by
  intro r hr
  match o, ho, hr with
  | none, _, hr => simp [bX] at hr
  | some (.inl x, h), ho, hr => rw [ho _ rfl]; exact hf x h r hr
  | some (.inr (.inl _), h), _, hr => simp [bX] at hr
  | some (.inr (.inr (.inl x)), h), _, hr => simp [bX] at hr
  | some (.inr (.inr (.inr u)), h), ho, hr => rw [ho _ rfl]; exact hg h r hr
theorem sw_mono {K K2 : KT} (hK : ∀ a b c d, Le (K a b c d) (K2 a b c d)) (x : Int) (s : S4) : ∀ ps, Le (sw K x s ps) (sw K2 x s ps)
  | [] => hK _ _ _ _
  | o :: t => by
    intro r hr
    unfold sw at hr ⊢
    cases hb : decide (x = o.1) with
    | true => rw [hb] at hr; exact hK _ _ _ _ r hr
    | false => rw [hb] at hr; exact sw_mono hK x s t r hr
theorem cal_mono {K K2 : KT} (hK : ∀ a b c d, Le (K a b c d) (K2 a b c d)) {o o2 : RS} (ho : Le o o2) (t pc : Nat) (lv r : List AV) : Le (cal K t o pc lv r) (cal K2 t o2 pc lv r) := by
  unfold cal
  split
  · exact bV_mono ho (fun _ => hK _ _ _ _)
  · exact bI_mono ho (fun _ _ => hK _ _ _ _)
  · exact bR_mono ho (fun _ _ => hK _ _ _ _)
  · exact bX_mono ho (fun _ _ => hK _ _ _ _) (fun _ => hK _ _ _ _)
  · exact Le.rf _
theorem doD_mono {K K2 : KT} {E E2 : ET} (hK : ∀ a b c d, Le (K a b c d) (K2 a b c d)) (hE : ∀ a b c, Le (E a b c) (E2 a b c)) (d : DT) : Le (doD K E d) (doD K2 E2 d) := by
  match d with
  | none => exact Le.rf _
  | some (false, n) => exact Le.rf _
  | some (true, n) =>
    show Le (doN K E n) (doN K2 E2 n)
    match n with
    | .inl (pc, lv, st, h) => exact hK _ _ _ _
    | .inr (.inl (true, (pc, lv, st, h), (pc2, lv2, st2, h2))) => exact hK _ _ _ _
    | .inr (.inl (false, (pc, lv, st, h), (pc2, lv2, st2, h2))) => exact hK _ _ _ _
    | .inr (.inr (.inl (t, c, as, h, pc, lv, r))) => exact cal_mono hK (hE _ _ _) t pc lv r
    | .inr (.inr (.inr (.inl r))) => exact Le.rf _
    | .inr (.inr (.inr (.inr (x, ps, s)))) => exact sw_mono hK x s ps
theorem stp_mono {K K2 : KT} {E E2 : ET} (hK : ∀ a b c d, Le (K a b c d) (K2 a b c d)) (hE : ∀ a b c, Le (E a b c) (E2 a b c)) (M : MD) (pc : Nat) (lv st : List AV) (h : HP) : Le (stp K E M pc lv st h) (stp K2 E2 M pc lv st h) := by
  unfold stp
  split
  · exact Le.rf _
  · exact doD_mono hK hE _
theorem X_mono : ∀ (n d : Nat) (M : MD) (pc : Nat) (lv st : List AV) (h : HP), Le (X n d M pc lv st h) (X (n + 1) d M pc lv st h)
  | 0, _, _, _, _, _, _ => fun r hr => by simp [X] at hr
  | n + 1, d, M, pc, lv, st, h => by
    unfold X
    refine stp_mono (fun a b c e => X_mono n d M a b c e) (fun a b c => ?_) M pc lv st h
    cases d with
    | zero => exact Le.rf _
    | succ d =>
      cases hk : okA a b with
      | true => simp only [hk, cond_true]; exact X_mono n d _ _ _ _ _
      | false => simp only [hk, cond_false]; exact Le.rf _
theorem X_le {n m : Nat} (hnm : n ≤ m) (d : Nat) (M : MD) (pc : Nat) (lv st : List AV) (h : HP) : Le (X n d M pc lv st h) (X m d M pc lv st h) := by
  induction hnm with
  | refl => exact Le.rf _
  | step _ ih => exact fun r hr => X_mono _ d M pc lv st h r (ih r hr)
noncomputable def run (d : Nat) (M : MD) (pc : Nat) (lv st : List AV) (h : HP) : RS :=
  @dite _ (∃ r n, X n d M pc lv st h = some r) (Classical.propDecidable _) (fun H => some (Classical.choose H)) (fun _ => none)
theorem run_some {d : Nat} {M : MD} {pc : Nat} {lv st : List AV} {h : HP} {r : AV × HP} : run d M pc lv st h = some r ↔ ∃ n, X n d M pc lv st h = some r := by
  unfold run
  by_cases H : ∃ r n, X n d M pc lv st h = some r
  · rw [dif_pos H]
    obtain ⟨n, hn⟩ := Classical.choose_spec H
    constructor
    · intro e
      exact ⟨n, by rw [hn]; exact e⟩
    · rintro ⟨m, hm⟩
      have h1 := X_le (Nat.le_max_left n m) d M pc lv st h _ hn
      have h2 := X_le (Nat.le_max_right n m) d M pc lv st h _ hm
      exact h1.symm.trans h2
  · rw [dif_neg H]
    constructor
    · intro e; cases e
    · rintro ⟨m, hm⟩; exact absurd ⟨r, m, hm⟩ H
/-- a method called with d calls deep left to it -/
noncomputable def ev (d k : Nat) (as : List AV) (h : HP) : RS := bif okA k as then run d (meth k) 0 (fil (meth k).2.2.1 (ent as)) [] h else none
noncomputable def evd (d : Nat) : ET := match d with
  | 0 => fun _ _ _ => none
  | d + 1 => fun k as h => ev d k as h
section Lim
variable {K : Nat → KT} {E : Nat → ET} {K2 : KT} {E2 : ET}
abbrev UpK (K : Nat → KT) : Prop := ∀ n m, n ≤ m → ∀ a b c d, Le (K n a b c d) (K m a b c d)
abbrev UpE (E : Nat → ET) : Prop := ∀ n m, n ≤ m → ∀ a b c, Le (E n a b c) (E m a b c)
abbrev LmK (K : Nat → KT) (K2 : KT) : Prop := ∀ a b c d r, K2 a b c d = some r → ∃ n, K n a b c d = some r
abbrev LmE (E : Nat → ET) (E2 : ET) : Prop := ∀ a b c r, E2 a b c = some r → ∃ n, E n a b c = some r
theorem sw_lim (lK : LmK K K2) (x : Int) (s : S4) : ∀ ps r, sw K2 x s ps = some r → ∃ n, sw (K n) x s ps = some r
  | [], r, hr => lK _ _ _ _ r hr
  | o :: t, r, hr => by
    unfold sw at hr ⊢
    cases hb : decide (x = o.1) with
    | true => rw [hb] at hr; exact lK _ _ _ _ r hr
    | false => rw [hb] at hr; exact sw_lim lK x s t r hr
theorem cal_lim (uK : UpK K) (uE : UpE E) (lK : LmK K K2) (lE : LmE E E2) (t c : Nat) (as : List AV) (h : HP) (pc : Nat) (lv q : List AV) (r : AV × HP) (hr : cal K2 t (E2 c as h) pc lv q = some r) : ∃ n, cal (K n) t (E n c as h) pc lv q = some r := by
  cases ho : E2 c as h with
  | none =>
    rw [ho] at hr
    unfold cal at hr
    split at hr <;> simp [bV, bI, bR, bX] at hr
  | some o =>
    obtain ⟨n1, h1⟩ := lE _ _ _ _ ho
    rw [ho] at hr
    have key : ∃ n2, cal (K n2) t (some o) pc lv q = some r := by
      obtain ⟨v, h2⟩ := o
      unfold cal at hr ⊢
      split at hr
      · match v, hr with
        | .inl x, hr => simp [bV] at hr
        | .inr (.inl x), hr => simp [bV] at hr
        | .inr (.inr (.inl x)), hr => exact lK _ _ _ _ r hr
        | .inr (.inr (.inr x)), hr => simp [bV] at hr
      · match v, hr with
        | .inl x, hr => exact lK _ _ _ _ r hr
        | .inr _, hr => simp [bI] at hr
      · match v, hr with
        | .inl x, hr => simp [bR] at hr
        | .inr (.inl x), hr => simp [bR] at hr
        | .inr (.inr (.inl x)), hr => exact lK _ _ _ _ r hr
        | .inr (.inr (.inr x)), hr => simp [bR] at hr
      · match v, hr with
        | .inl x, hr => exact lK _ _ _ _ r hr
        | .inr (.inl x), hr => simp [bX] at hr
        | .inr (.inr (.inl x)), hr => simp [bX] at hr
        | .inr (.inr (.inr x)), hr => exact lK _ _ _ _ r hr
      · cases hr
    obtain ⟨n2, h2⟩ := key
    refine ⟨max n1 n2, ?_⟩
    rw [uE _ _ (Nat.le_max_left n1 n2) _ _ _ _ h1]
    exact cal_mono (uK _ _ (Nat.le_max_right n1 n2)) (Le.rf _) t pc lv q r h2
theorem stp_lim (uK : UpK K) (uE : UpE E) (lK : LmK K K2) (lE : LmE E E2) (M : MD) (pc : Nat) (lv st : List AV) (h : HP) (r : AV × HP) (hr : stp K2 E2 M pc lv st h = some r) : ∃ n, stp (K n) (E n) M pc lv st h = some r := by
  unfold stp at hr
  cases hf : lk M.2.2.2 pc with
  | none => rw [hf] at hr; cases hr
  | some q =>
    obtain ⟨i, len, tgt⟩ := q
    rw [hf] at hr
    have hr : doD K2 E2 (act M.1 M.2.1 i len tgt pc lv st h) = some r := hr
    have goal : ∃ n, doD (K n) (E n) (act M.1 M.2.1 i len tgt pc lv st h) = some r → ∃ n, stp (K n) (E n) M pc lv st h = some r := ⟨0, fun e => ⟨0, by unfold stp; rw [hf]; exact e⟩⟩
    suffices ∃ n, doD (K n) (E n) (act M.1 M.2.1 i len tgt pc lv st h) = some r by
      obtain ⟨n, hn⟩ := this
      exact ⟨n, by unfold stp; rw [hf]; exact hn⟩
    clear goal
    generalize act M.1 M.2.1 i len tgt pc lv st h = dt at hr ⊢
    match dt, hr with
    | none, hr => cases hr
    | some (false, n), hr => cases hr
    | some (true, n), hr =>
      show ∃ m, doN (K m) (E m) n = some r
      have hr : doN K2 E2 n = some r := hr
      match n, hr with
      | .inl (pc, lv, st, h), hr => exact lK _ _ _ _ r hr
      | .inr (.inl (true, (pc, lv, st, h), (pc2, lv2, st2, h2))), hr => exact lK _ _ _ _ r hr
      | .inr (.inl (false, (pc, lv, st, h), (pc2, lv2, st2, h2))), hr => exact lK _ _ _ _ r hr
      | .inr (.inr (.inl (t, c, as, h, pc, lv, q))), hr => exact cal_lim uK uE lK lE t c as h pc lv q r hr
      | .inr (.inr (.inr (.inl r2))), hr => exact ⟨0, hr⟩
      | .inr (.inr (.inr (.inr (x, ps, s)))), hr => exact sw_lim lK x s ps r hr
end Lim
theorem run_step (d : Nat) (M : MD) (pc : Nat) (lv st : List AV) (h : HP) : run d M pc lv st h = stp (run d M) (evd d) M pc lv st h := by
  have key : ∀ r, run d M pc lv st h = some r ↔ stp (run d M) (evd d) M pc lv st h = some r := by
    intro r
    rw [run_some]
    constructor
    · rintro ⟨n, hn⟩
      cases n with
      | zero => simp [X] at hn
      | succ n =>
        unfold X at hn
        refine stp_mono (fun a b c e r hr => run_some.mpr ⟨n, hr⟩) (fun a b c => ?_) M pc lv st h r hn
        cases d with
        | zero => exact Le.rf _
        | succ d =>
          show Le _ (ev d a b c)
          unfold ev
          cases hk : okA a b with
          | true => simp only [cond_true]; exact fun r hr => run_some.mpr ⟨n, hr⟩
          | false => simp only [cond_false]; exact Le.rf _
    · intro hr
      cases d with
      | zero =>
        obtain ⟨n, hn⟩ := stp_lim (K := fun n q l s g => X n 0 M q l s g) (E := fun _ _ _ _ => none) (fun n m hnm a b c e => X_le hnm 0 M a b c e) (fun n m hnm a b c => Le.rf _) (fun a b c e r hr => run_some.mp hr) (fun a b c r hr => absurd hr (by simp [evd])) M pc lv st h r hr
        exact ⟨n + 1, by unfold X; exact hn⟩
      | succ d =>
        obtain ⟨n, hn⟩ := stp_lim (K := fun n q l s g => X n (d + 1) M q l s g) (E := fun n k as g => bif okA k as then X n d (meth k) 0 (fil (meth k).2.2.1 (ent as)) [] g else none) (fun n m hnm a b c e => X_le hnm (d + 1) M a b c e) (fun n m hnm a b c => by
          cases hk : okA a b with
          | true => simp only [hk, cond_true]; exact X_le hnm d _ _ _ _ _
          | false => simp only [hk, cond_false]; exact Le.rf _) (fun a b c e r hr => run_some.mp hr) (fun a b c r hr => by
          have hr : ev d a b c = some r := hr
          unfold ev at hr
          cases hk : okA a b with
          | true => rw [hk] at hr; simp only [hk, cond_true]; exact run_some.mp hr
          | false => rw [hk] at hr; cases hr) M pc lv st h r hr
        exact ⟨n + 1, by unfold X; exact hn⟩
  cases h1 : run d M pc lv st h with
  | some r => exact ((key r).mp h1).symm
  | none =>
    cases h2 : stp (run d M) (evd d) M pc lv st h with
    | none => rfl
    | some r => rw [(key r).mpr h2] at h1; cases h1
/-- a run unfolded n steps far, up to the stops -/
noncomputable def xt (stops : List Nat) : Nat → Nat → MD → Nat → List AV → List AV → HP → RS
  | 0, d, M, pc, lv, st, h => run d M pc lv st h
  | n + 1, d, M, pc, lv, st, h => stp (fun q l s g => bif stops.any (Nat.beq q) then run d M q l s g else xt stops n d M q l s g) (evd d) M pc lv st h
theorem xt_eq (stops : List Nat) : ∀ (n d : Nat) (M : MD) (pc : Nat) (lv st : List AV) (h : HP), run d M pc lv st h = xt stops n d M pc lv st h
  | 0, _, _, _, _, _, _ => rfl
  | n + 1, d, M, pc, lv, st, h => by
    have e : (fun q l s g => bif stops.any (Nat.beq q) then run d M q l s g else xt stops n d M q l s g) = run d M := by
      funext q l s g
      cases stops.any (Nat.beq q) with
      | true => rfl
      | false => exact (xt_eq stops n d M q l s g).symm
    unfold xt
    rw [e]
    exact run_step d M pc lv st h
