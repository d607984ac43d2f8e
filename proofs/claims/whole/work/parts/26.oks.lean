/-! one step, whatever the instruction (written by wip/whole/gen_step.py) -/
def okS (k : Nat) (M : MD) (i : Instr) : Bool := match i with
  | .istore j => decide (j < M.2.2.1)
  | .astore j => decide (j < M.2.2.1)
  | .istore_n j => decide (j.val < M.2.2.1)
  | .astore_n j => decide (j.val < M.2.2.1)
  | .lstore j => decide (j + 1 < M.2.2.1)
  | .lstore_n j => decide (j.val + 1 < M.2.2.1)
  | .ldc j => (match kres M.1 j with
    | some (.inr (.inl _)) => false
    | _ => true)
  | .ldc_w j => (match kres M.1 j with
    | some (.inl _) => true
    | none => true
    | _ => false)
  | .ldc2_w j => (match kres M.1 j with
    | some (.inr (.inl _)) => true
    | none => true
    | _ => false)
  | .putfield j => (match fres M.1 j with
    | some (c, f, _) => decide (c ≤ 9) && (!(TC c f).2.2.2 || (decide ((mN k).name = "<init>") && decide (RC c = oN M.1) && decide (lw_tbl[fld_p M.1 j]? = some (Cond.fieldLink (oN M.1) j (RC c) (TC c f).2.1 (TC c f).2.2.1))))
    | none => true)
  | .getfield j => (match fres M.1 j with
    | some (c, f, t) => decide (c ≤ 9) || ((!decide (c = 20) || ((decide (f = 0) == decide (t = 1)) && decide (t ≠ 2))) && (!decide (c = 23) || ((decide (f = 0) && decide (t = 2)) || (decide (f = 1) && decide (t = 0)))) && decide (lw_tbl[fld_p M.1 j]? = some (Cond.fieldLink (oN M.1) j (nmF c f).1 (nmF c f).2.1 (nmF c f).2.2)))
    | none => true)
  | .invokestatic j => (match mres M.1 j with
    | some (1, ci, _, _, _) => decide (ci < 266) || decide (k = 268)
    | some (3, ci, _, _, _) => decide (ci = 0)
    | some (4, ci, _, _, _) => decide (ci = 0)
    | some (5, ci, _, _, _) => decide (ci = 0)
    | some (6, ci, _, _, _) => decide (ci = 0)
    | none => true
    | _ => false)
  | .invokespecial j => (match mres M.1 j with
    | some (0, ci, _, _, _) => decide (ci = 0)
    | some (2, ci, _, _, _) => decide (ci < 266) && decide ((mN ci).name = "<init>") && decide (mR ci = none)
    | none => true
    | _ => false)
  | .invokevirtual j => (match mres M.1 j with
    | some (2, ci, _, _, _) => decide (ci < 266) && decide ((mN ci).name ≠ "<init>")
    | some (7, _, _, _, _) => decide (k = 266) || decide (k = 267)
    | some (8, _, _, _, _) => true
    | none => true
    | _ => false)
  | _ => true
set_option maxRecDepth 100000 in
theorem okS_0 : (mth_0.all fun q => q.2.2.2.2.all fun e => okS q.1 q.2 e.2.1) = true := by decide +kernel
set_option maxRecDepth 100000 in
theorem okS_1 : (mth_1.all fun q => q.2.2.2.2.all fun e => okS q.1 q.2 e.2.1) = true := by decide +kernel
set_option maxRecDepth 100000 in
theorem okS_2 : (mth_2.all fun q => q.2.2.2.2.all fun e => okS q.1 q.2 e.2.1) = true := by decide +kernel
set_option maxRecDepth 100000 in
theorem okS_3 : (mth_3.all fun q => q.2.2.2.2.all fun e => okS q.1 q.2 e.2.1) = true := by decide +kernel
set_option maxRecDepth 100000 in
theorem okS_4 : (mth_4.all fun q => q.2.2.2.2.all fun e => okS q.1 q.2 e.2.1) = true := by decide +kernel
set_option maxRecDepth 100000 in
theorem okS_5 : (mth_5.all fun q => q.2.2.2.2.all fun e => okS q.1 q.2 e.2.1) = true := by decide +kernel
set_option maxRecDepth 100000 in
theorem okS_6 : (mth_6.all fun q => q.2.2.2.2.all fun e => okS q.1 q.2 e.2.1) = true := by decide +kernel
set_option maxRecDepth 100000 in
theorem okS_7 : (mth_7.all fun q => q.2.2.2.2.all fun e => okS q.1 q.2 e.2.1) = true := by decide +kernel
set_option maxRecDepth 100000 in
theorem okS_8 : (mth_8.all fun q => q.2.2.2.2.all fun e => okS q.1 q.2 e.2.1) = true := by decide +kernel
theorem okS_all : (meths.all fun q => q.2.2.2.2.all fun e => okS q.1 q.2 e.2.1) = true := by
  unfold meths
  simp only [List.all_append, okS_0, okS_1, okS_2, okS_3, okS_4, okS_5, okS_6, okS_7, okS_8, Bool.and_true]
theorem meth_at {k : Nat} (hk : k < 269) : lk meths k = some (meth k) := by
  have h1 := rng_of mdl_in hk
  simp only [Bool.and_eq_true] at h1
  unfold meth
  cases h2 : lk meths k with
  | none => rw [h2] at h1; simp at h1
  | some q => rfl
theorem okS_of {k pc len tgt : Nat} {i : Instr} (hk : k < 269) (hf : lk (meth k).2.2.2 pc = some (i, len, tgt)) : okS k (meth k) i = true := all_of (all_of okS_all (lk_mem _ (meth_at hk))) (lk_mem _ hf)
