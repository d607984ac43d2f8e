/-! statics: the enum's constants 1 .. 35, their array 36, three int rows 37 .. 39, the script 40, a text 41 with its bytes 42 -/
def en_code : List Int := [3396901, 365321, 375050, 1473512789, 47, 237980745, 8529643, 247162, 4351291, 12532058, 3554408, 259868, 10408315, 3379448, 262768, 456887, 99677, 8740238, 6688728, 1758676, 10360367, 129458, 4560413, 279108050, 117481784, 2155739, 10631, 1111, 423, 168984, 7622660, 51270206, 13550, 10792937, 456399]
def en_group : List Int := [0, 0, 0, 0, 0, 0, 0, 0, 0, 0, 1, 1, 1, 1, 0, 2, 2, 3, 3, 3, 3, 4, 4, 4, 4, 4, 0, 0, 0, 5, 5, 5, 5, 5, 5]
def en_number : List Int := [0, 0, 0, 0, 0, 0, 0, 0, 0, 0, 0, 1, 2, 3, 0, 0, 1, 0, 1, 2, 3, 0, 1, 2, 3, 4, 0, 0, 0, 0, 0, 0, 0, 0, 0]
def en_fact : List Int := [-1, -1, -1, 4, -1, -1, -1, -1, 6, 7, -1, -1, -1, -1, -1, -1, -1, -1, -1, -1, -1, -1, -1, -1, -1, -1, -1, -1, -1, 0, 1, 2, 3, 5, 8]
def st_wears : List Int := [1, 2, 1, 0, 3]
def st_facts : List Int := [31, 31, 63, 451]
def st_switch : List Int := [0, 1, 2, 3, 0, 4, 0, 5, 0, 0, 7, 8, 9, 10, 6, 0, 0, 0, 0, 0, 0, 0, 0, 0, 0, 0, 0, 0, 0, 0, 0, 0, 0, 0, 0]
def st_bytes : List Int := [40, 41, 60, 61, 43, 45, 42, 59]
def skd (a : Nat) : Nat := if a = 0 then 99 else if a ≤ 35 then 20 else if a = 36 then 22 else if a ≤ 40 then 21 else if a = 41 then 23 else if a = 42 then 24 else 99
def sln (w : WP) (a : Nat) : Nat := if a = 36 then 35 else if a = 37 then 5 else if a = 38 then 4 else if a = 39 then 35 else if a = 40 then w_L w else if a = 42 then 8 else 0
def smi (w : WP) (a k : Nat) : Int := if a ≤ 35 then (if k = 1 then en_group.getD (a - 1) 0 else if k = 2 then en_number.getD (a - 1) 0 else if k = 3 then en_fact.getD (a - 1) 0 else if k = 4 then ((a : Int) - 1) else 0)
  else if a = 37 then st_wears.getD k 0 else if a = 38 then st_facts.getD k 0 else if a = 39 then st_switch.getD k 0 else if a = 40 then w_xs w k else if a = 42 then st_bytes.getD k 0 else 0
def sml (a : Nat) : Int := if a ≤ 35 then en_code.getD (a - 1) 0 else 0
def smr (a k : Nat) : Nat := if a = 36 then k + 1 else if a = 41 then 42 else 0
/-- the statics as the abstract heap has them -/
def SH (w : WP) (h : HP) : Prop := ∀ a, a < 100 → h_kd h a = skd a ∧ h_ln h a = sln w a ∧ (∀ k, h_mi h a k = smi w a k) ∧ (∀ k, k = 0 → h_ml h a k = sml a) ∧ ∀ k, h_mr h a k = smr a k
/-! dynamic cells -/
def tco (d : String) : Nat := if d = "J" then 1 else if d = "I" then 0 else if d = "Z" then 3 else 2
def fv (w : WP) (h : HP) (a t j : Nat) : Value := match t with
  | 1 => .long (Int64.ofInt (h_ml h a j))
  | 2 => va_rf (ro w (h_mr h a j))
  | _ => .int (Int32.ofInt (h_mi h a j))
def flds (w : WP) (h : HP) (a c : Nat) : List Value := (List.range (NC c)).map (fun k => fv w h a (tco (TC c k).2.2.1) k)
theorem flds_get {w : WP} {h : HP} {a c k : Nat} (hk : k < NC c) : (flds w h a c)[k]? = some (fv w h a (tco (TC c k).2.2.1) k) := by simp [flds, hk]
theorem flds_len (w : WP) (h : HP) (a c : Nat) : (flds w h a c).length = NC c := by simp [flds]
def cellOf (w : WP) (h : HP) (a : Nat) : va_E :=
  if h_kd h a ≤ 9 then .inr (h_kd h a, flds w h a (h_kd h a))
  else if h_kd h a = 12 then .inl (w_cy w 12, h_ln h a, .inr (.inl (fun j => Int64.ofInt (h_ml h a j))))
  else if h_kd h a = 14 then .inl (w_cy w 14, h_ln h a, .inr (.inr (.inr (.inr (fun j => ro w (h_mr h a j))))))
  else .inl (w_cy w (h_kd h a), h_ln h a, .inl (fun j => Int32.ofInt (h_mi h a j)))
def adr (w : WP) (a : Nat) : Nat := w_b w + (a - 100)
def fO (w : WP) (h : HP) (q : Nat) : va_E := cellOf w h (q - w_b w + 100)
def tysL (w : WP) : List (ClassId × FieldType) := [(w_cy w 10, .char), (w_cy w 11, .int), (w_cy w 12, .long), (w_cy w 13, .boolean), (w_cy w 14, .object "IceBridge$Ice")]
def Aw (w : WP) : Nat → Prop := fun q => w_b w ≤ q
def OKr (h : HP) : Prop := (∀ a j, r32 (h_mi h a j)) ∧ (∀ a j, r64 (h_ml h a j)) ∧ (∀ a, h_ln h a ≤ 100000) ∧ ∀ a, 100 ≤ a → h_kd h a ≤ 14 ∨ h_kd h a = 99
def HR (w : WP) (h : HP) (H : Heap) : Prop := H.size = adr w (h_sz h) ∧ 100 ≤ h_sz h ∧ OKr h ∧ SH w h ∧ (∀ a, h_kd h a ≤ 14 → 100 ≤ a ∧ a < h_sz h) ∧
  ∃ L : List Nat, (∀ a, h_kd h a ≤ 14 → adr w a ∈ L) ∧ va_P (w_D w) clsL (va_pl L (fO w h)) H ∧ va_D (Aw w) (va_pl L (fO w h))
theorem fO_adr {w : WP} {h : HP} {a : Nat} (ha : 100 ≤ a) : fO w h (adr w a) = cellOf w h a := by
  unfold fO adr
  rw [show w_b w + (a - 100) - w_b w + 100 = a by omega]
theorem ro_dyn {w : WP} {a : Nat} (ha : 100 ≤ a) : ro w a = some (adr w a) := by
  unfold ro adr
  rw [if_neg (by omega), if_neg (by omega)]
/-- a dynamic cell: its place in the pool -/
theorem HR.get {w : WP} {h : HP} {H : Heap} (hH : HR w h H) {a : Nat} (hk : h_kd h a ≤ 14) : 100 ≤ a ∧ a < h_sz h ∧ ∃ (L : List Nat) (k : Nat), (va_pl L (fO w h))[k]? = some (adr w a, cellOf w h a) ∧ adr w a ∈ L ∧
    (∀ a, h_kd h a ≤ 14 → adr w a ∈ L) ∧ va_P (w_D w) clsL (va_pl L (fO w h)) H ∧ va_D (Aw w) (va_pl L (fO w h)) := by
  obtain ⟨-, -, -, -, hb, L, hL, hP, hD⟩ := hH
  obtain ⟨h1, h2⟩ := hb a hk
  obtain ⟨k, hk2⟩ := va_pl_get (X := []) (f := fO w h) (hL a hk)
  rw [fO_adr h1] at hk2
  exact ⟨h1, h2, L, k, hk2, hL a hk, hL, hP, hD⟩
theorem pl_mem {w : WP} {L : List Nat} {f : Nat → va_E} (hD : va_D (Aw w) (va_pl L f)) {q : Nat} (hq : q ∈ L) : w_b w ≤ q := by
  obtain ⟨k, hk⟩ := va_pl_get (X := []) (f := f) hq
  exact hD.2 k _ hk
/-- the pool behind a change of one cell -/
theorem pl_upd {w : WP} {h h2 : HP} {L : List Nat} {a k : Nat} (hD : va_D (Aw w) (va_pl L (fO w h))) (ha : 100 ≤ a) (hm : adr w a ∈ L) (hk : (va_pl L (fO w h))[k]? = some (adr w a, cellOf w h a))
    (hsame : ∀ b, b ≠ a → cellOf w h2 b = cellOf w h b) : (va_pl L (fO w h)).set k (adr w a, cellOf w h2 a) = va_pl L (fO w h2) := by
  have h1 := va_pl_set (X := []) (f := fO w h) (e := cellOf w h2 a) hD hm (by rw [fO_adr ha]; exact hk)
  refine h1.trans ?_
  show va_pl L _ = va_pl L _
  unfold va_pl
  refine List.map_congr_left fun q hq => ?_
  have hb := pl_mem hD hq
  congr 1
  unfold va_up
  split
  · rename_i e; rw [e, fO_adr ha]
  · rename_i e
    unfold fO
    exact (hsame _ (fun z => e (by unfold adr; omega))).symm
theorem HR.upd {w : WP} {h h2 : HP} {H H2 : Heap} (hH : HR w h H) {a k : Nat} {L : List Nat} (hka : h_kd h a ≤ 14) (hL : ∀ a, h_kd h a ≤ 14 → adr w a ∈ L) (hD : va_D (Aw w) (va_pl L (fO w h))) (hk : (va_pl L (fO w h))[k]? = some (adr w a, cellOf w h a))
    (hsame : ∀ b, b ≠ a → cellOf w h2 b = cellOf w h b) (hkd : h_kd h2 = h_kd h) (hsz : h_sz h2 = h_sz h) (hok : OKr h2) (hsh : SH w h2) (hS : H2.size = H.size)
    (hP2 : va_P (w_D w) clsL ((va_pl L (fO w h)).set k (adr w a, cellOf w h2 a)) H2) (hD2 : va_D (Aw w) ((va_pl L (fO w h)).set k (adr w a, cellOf w h2 a))) : HR w h2 H2 := by
  obtain ⟨g1, g2, g3, g4, g5, -⟩ := hH
  have ha := (g5 a hka).1
  rw [pl_upd hD ha (hL a hka) hk hsame] at hP2 hD2
  exact ⟨by rw [hS, g1, hsz], by rw [hsz]; exact g2, hok, hsh, fun b hb => by rw [hkd] at hb; rw [hsz]; exact g5 b hb, L, fun b hb => hL b (by rw [hkd] at hb; exact hb), hP2, hD2⟩
/-! the setters -/
theorem kd_sI (h : HP) (a k : Nat) (v : Int) : h_kd (sI h a k v) = h_kd h := rfl
theorem kd_sL (h : HP) (a k : Nat) (v : Int) : h_kd (sL h a k v) = h_kd h := rfl
theorem kd_sR (h : HP) (a k v : Nat) : h_kd (sR h a k v) = h_kd h := rfl
theorem kd_sRi (h : HP) (a : Nat) (f : Nat → Int) : h_kd (sRi h a f) = h_kd h := rfl
theorem mi_sRi (h : HP) (a : Nat) (f : Nat → Int) (b : Nat) : h_mi (sRi h a f) b = if b = a then f else h_mi h b := rfl
theorem mi_sI (h : HP) (a k : Nat) (v : Int) (b : Nat) : h_mi (sI h a k v) b = if b = a then va_up (h_mi h a) k v else h_mi h b := rfl
theorem ml_sL (h : HP) (a k : Nat) (v : Int) (b : Nat) : h_ml (sL h a k v) b = if b = a then va_up (h_ml h a) k v else h_ml h b := rfl
theorem mr_sR (h : HP) (a k v : Nat) (b : Nat) : h_mr (sR h a k v) b = if b = a then va_up (h_mr h a) k v else h_mr h b := rfl
theorem cellOf_ne {w : WP} {h h2 : HP} {b : Nat} (h1 : h_kd h2 b = h_kd h b) (h3 : h_ln h2 b = h_ln h b) (h4 : h_mi h2 b = h_mi h b) (h5 : h_ml h2 b = h_ml h b) (h6 : h_mr h2 b = h_mr h b) : cellOf w h2 b = cellOf w h b := by
  have e : ∀ c, flds w h2 b c = flds w h b c := fun c => by
    unfold flds
    refine List.map_congr_left fun k _ => ?_
    unfold fv
    rw [h4, h5, h6]
  unfold cellOf
  rw [h1, h3, h4, h5, h6, e]
