/-! answers hang on the reference's rows alone -/
theorem cellV_rr {M N : MM} (g : ∀ a, 145 ≤ a → a ≤ 180 → N a = M a) (E : EE) (x y what : Int) : cellV N E x y what = cellV M E x y what := by
  unfold cellV
  rw [g 147 (by omega) (by omega), g 172 (by omega) (by omega), g 148 (by omega) (by omega), g 149 (by omega) (by omega), grV_ag (g 149 (by omega) (by omega)) (g 148 (by omega) (by omega))]
theorem pourerV_rr {M N : MM} (g : ∀ a, 145 ≤ a → a ≤ 180 → N a = M a) (p what : Int) : pourerV N p what = pourerV M p what := by
  unfold pourerV
  rw [g 147 (by omega) (by omega), g 151 (by omega) (by omega), g 152 (by omega) (by omega), g 172 (by omega) (by omega)]
theorem loadV_rr {M N : MM} (g : ∀ a, 145 ≤ a → a ≤ 180 → N a = M a) (l what : Int) : loadV N l what = loadV M l what := by
  unfold loadV
  rw [g 147 (by omega) (by omega), g 154 (by omega) (by omega), g 156 (by omega) (by omega), g 172 (by omega) (by omega), ndV_rr (g 154 (by omega) (by omega)) (g 155 (by omega) (by omega))]
theorem tnV_rr {M N : MM} (g : ∀ a, 145 ≤ a → a ≤ 180 → N a = M a) (row : Int) : tnV N row = tnV M row := by
  unfold tnV seeG
  rw [g 148 (by omega) (by omega), g 172 (by omega) (by omega), g 147 (by omega) (by omega)]
theorem thinV_rr {M N : MM} (g : ∀ a, 145 ≤ a → a ≤ 180 → N a = M a) (row : Int) : thinV N row = thinV M row := by
  unfold thinV
  rw [g 147 (by omega) (by omega), tnV_rr g]
theorem tnS_rr {M N : MM} (g : ∀ a, 145 ≤ a → a ≤ 180 → N a = M a) (S : Nat → Int) (row : Int) : tnS N S row = tnS M S row := by
  unfold tnS
  rw [g 148 (by omega) (by omega), g 147 (by omega) (by omega)]
theorem utN_rr {M N : MM} (g : ∀ a, 145 ≤ a → a ≤ 180 → N a = M a) (E : EE) (nd row : Int) : ∀ (k : Nat) (S : Nat → Int), utN N E nd row k S = utN M E nd row k S := by
  intro k
  induction k with
  | zero => intro S; rfl
  | succ k ih =>
    intro S
    show (if nd ≤ tnS N S row then 1 + utN N E nd row k (psS N E S) else 0) = if nd ≤ tnS M S row then 1 + utN M E nd row k (psS M E S) else 0
    rw [tnS_rr g, psS_ag (g 149 (by omega) (by omega)) (g 147 (by omega) (by omega)) (g 153 (by omega) (by omega)), ih]
theorem untilV_rr {M N : MM} (g : ∀ a, 145 ≤ a → a ≤ 180 → N a = M a) (E : EE) (l row : Int) : untilV N E l row = untilV M E l row := by
  unfold untilV
  rw [g 147 (by omega) (by omega), g 172 (by omega) (by omega), utN_rr g, ndV_rr (g 154 (by omega) (by omega)) (g 155 (by omega) (by omega))]
theorem psN_rr {M N : MM} (g : ∀ a, 145 ≤ a → a ≤ 180 → N a = M a) (E : EE) : ∀ (k : Nat) (S : Nat → Int), psN N E k S = psN M E k S := by
  intro k
  induction k with
  | zero => intro S; rfl
  | succ k ih =>
    intro S
    show psN N E k (psS N E S) = psN M E k (psS M E S)
    rw [psS_ag (g 149 (by omega) (by omega)) (g 147 (by omega) (by omega)) (g 153 (by omega) (by omega)), ih]
theorem hoursV_rr {M N : MM} (g : ∀ a, 145 ≤ a → a ≤ 180 → N a = M a) (E : EE) (many : Int) : hoursV N E many = hoursV M E many := by
  unfold hoursV
  rw [psN_rr g, g 172 (by omega) (by omega)]
theorem carriedV_rr {M N : MM} (g : ∀ a, 145 ≤ a → a ≤ 180 → N a = M a) (row what : Int) : carriedV N row what = carriedV M row what := by
  unfold carriedV crT
  rw [g 147 (by omega) (by omega), tnV_rr g, crS_ag (M := M) (N := N) (fun a ha => g a (by omega) (by omega))]
theorem rP_rr {M N : MM} (g : ∀ a, 145 ≤ a → a ≤ 180 → N a = M a) (E : EE) (m row : Int) : rP N E m row = rP M E m row := by
  unfold rP
  rw [rT_rr g, nwI_rr g, nwG_rr g, g 147 (by omega) (by omega)]
theorem builtV_rr {M N : MM} (g : ∀ a, 145 ≤ a → a ≤ 180 → N a = M a) (E : EE) (row m what : Int) : builtV N E row m what = builtV M E row m what := by
  unfold builtV
  rw [g 147 (by omega) (by omega), rT_rr g, rP_rr g]
theorem bestV_rr {M N : MM} (g : ∀ a, 145 ≤ a → a ≤ 180 → N a = M a) (E : EE) (m : Int) : bestV N E m = bestV M E m := by
  unfold bestV
  have e1 : rT N E m = rT M E m := funext (fun r => rT_rr g E m r)
  have e2 : rP N E m = rP M E m := funext (fun r => rP_rr g E m r)
  rw [g 147 (by omega) (by omega), e1, e2]
theorem hfV_rr {M N : MM} (g : ∀ a, 145 ≤ a → a ≤ 180 → N a = M a) (E : EE) (side row : Int) : hfV N E side row = hfV M E side row := by
  unfold hfV
  rw [nwI_rr g, nwG_rr g, g 147 (by omega) (by omega)]
theorem halfV_rr {M N : MM} (g : ∀ a, 145 ≤ a → a ≤ 180 → N a = M a) (E : EE) (side row : Int) : halfV N E side row = halfV M E side row := by
  unfold halfV
  rw [hfV_rr g, g 147 (by omega) (by omega)]
theorem payV_rr {M N : MM} (g : ∀ a, 145 ≤ a → a ≤ 180 → N a = M a) (E : EE) (side mis row other : Int) : payV N E side mis row other = payV M E side mis row other := by
  unfold payV
  rw [hfV_rr g]
theorem irV_rr {M N : MM} (g : ∀ a, 145 ≤ a → a ≤ 180 → N a = M a) (E : EE) (mis w e : Int) : irV N E mis w e = irV M E mis w e := by
  unfold irV
  simp only [payV_rr g]
  rw [g 147 (by omega) (by omega)]
theorem rsS_rr {M N : MM} (g : ∀ a, 145 ≤ a → a ≤ 180 → N a = M a) (E : EE) (mis what w n : Int) : rsS N E mis what w n = rsS M E mis what w n := by
  unfold rsS
  have e : irV N E mis = irV M E mis := funext (fun w => funext (fun e => irV_rr g E mis w e))
  rw [e, g 147 (by omega) (by omega)]
theorem restsV_rr {M N : MM} (g : ∀ a, 145 ≤ a → a ≤ 180 → N a = M a) (E : EE) (mis what : Int) : restsV N E mis what = restsV M E mis what := by
  unfold restsV
  have e : rsS N E mis what = rsS M E mis what := funext (fun w => funext (fun n => rsS_rr g E mis what w n))
  rw [e, g 147 (by omega) (by omega)]
theorem woV_rr {M N : MM} (g : ∀ a, 145 ≤ a → a ≤ 180 → N a = M a) (E : EE) (side row set mis : Int) : woV N E side row set mis = woV M E side row set mis := by
  unfold woV woS
  rw [hfV_rr g, g 147 (by omega) (by omega)]
theorem guS_rr {M N : MM} (g : ∀ a, 145 ≤ a → a ≤ 180 → N a = M a) (E : EE) (side set mis : Int) : guS N E side set mis = guS M E side set mis := by
  unfold guS
  have e : guF N E side set mis = guF M E side set mis := funext (fun r => funext (fun b => by unfold guF; rw [woV_rr g, woV_rr g]))
  rw [e, g 147 (by omega) (by omega)]
theorem guessV_rr {M N : MM} (g : ∀ a, 145 ≤ a → a ≤ 180 → N a = M a) (E : EE) (side set mis what : Int) : guessV N E side set mis what = guessV M E side set mis what := by
  unfold guessV
  rw [guS_rr g, woV_rr g, g 147 (by omega) (by omega)]
theorem nxV_rr {M N : MM} (g : ∀ a, 145 ≤ a → a ≤ 180 → N a = M a) (E : EE) (used : Int) : nxV N E used = nxV M E used := by
  unfold nxV
  have e : nxF N E used = nxF M E used := funext (fun l => funext (fun s => by unfold nxF; rw [rkV_ag (M := M) (N := N) (fun a ha => g a (by omega) (by omega))]))
  rw [e, g 147 (by omega) (by omega)]
theorem quN_rr {M N : MM} (g : ∀ a, 145 ≤ a → a ≤ 180 → N a = M a) (E : EE) (t what : Int) : ∀ (k : Nat) (used cnt sum gone b : Int), quN N E t what k used cnt sum gone b = quN M E t what k used cnt sum gone b := by
  have ew : ∀ l, weV N l = weV M l := fun l => by unfold weV; rw [g 154 (by omega) (by omega)]
  intro k
  induction k with
  | zero => intros; rfl
  | succ k ih =>
    intro used cnt sum gone b
    simp only [quN, nxV_rr g, ndV_rr (g 154 (by omega) (by omega)) (g 155 (by omega) (by omega)), ew, g 156 (by omega) (by omega), ih]
theorem queueV_rr {M N : MM} (g : ∀ a, 145 ≤ a → a ≤ 180 → N a = M a) (E : EE) (row what : Int) : queueV N E row what = queueV M E row what := by
  unfold queueV
  rw [quN_rr g, tnV_rr g, g 147 (by omega) (by omega), g 172 (by omega) (by omega)]
theorem soundV_rr {M N : MM} (g : ∀ a, 145 ≤ a → a ≤ 180 → N a = M a) (E : EE) (x y : Int) : soundV N E x y = soundV M E x y := by
  unfold soundV
  rw [soV_rr g, g 147 (by omega) (by omega), g 148 (by omega) (by omega)]
theorem heardV_rr {M N : MM} (g : ∀ a, 145 ≤ a → a ≤ 180 → N a = M a) (E : EE) (row snd what : Int) : heardV N E row snd what = heardV M E row snd what := by
  unfold heardV heS
  have e : heF N E row snd = heF M E row snd := funext (fun k => funext (fun s => by unfold heF; rw [soV_rr g, g 148 (by omega) (by omega), g 172 (by omega) (by omega)]))
  rw [e, g 147 (by omega) (by omega)]
theorem valueV_rr {M N : MM} (g : ∀ a, 145 ≤ a → a ≤ 180 → N a = M a) (E : EE) (set : Int) : valueV N E set = valueV M E set := by
  unfold valueV
  rw [vsV_rr g, g 147 (by omega) (by omega)]
theorem leavesV_rr {M N : MM} (g : ∀ a, 145 ≤ a → a ≤ 180 → N a = M a) (E : EE) : leavesV N E = leavesV M E := by
  unfold leavesV
  rw [lvF_rr g, g 147 (by omega) (by omega)]
theorem fsV_rr {M N : MM} (g : ∀ a, 145 ≤ a → a ≤ 180 → N a = M a) (E : EE) (c poured seen b : Int) : fsV N E c poured seen b = fsV M E c poured seen b := by
  unfold fsV
  rw [frV_ag (g 149 (by omega) (by omega)), meS_rr (g 149 (by omega) (by omega)), g 172 (by omega) (by omega)]
theorem sltB_rr {M N : MM} (g : ∀ a, 145 ≤ a → a ≤ 180 → N a = M a) (c : Int) : sltB N c = sltB M c := by
  unfold sltB
  rw [g 148 (by omega) (by omega)]
theorem fitsV_rr {M N : MM} (g : ∀ a, 145 ≤ a → a ≤ 180 → N a = M a) (E : EE) (x y poured seen what : Int) : fitsV N E x y poured seen what = fitsV M E x y poured seen what := by
  unfold fitsV
  rw [sltB_rr g, fsV_rr g, g 147 (by omega) (by omega), g 172 (by omega) (by omega)]
theorem saltedV_rr {M N : MM} (g : ∀ a, 145 ≤ a → a ≤ 180 → N a = M a) (E : EE) (row poured seen : Int) : saltedV N E row poured seen = saltedV M E row poured seen := by
  unfold saltedV
  have e : slP N E row poured seen = slP M E row poured seen := funext (fun k => by unfold slP; rw [sltB_rr g, fsV_rr g, fsV_rr g, g 172 (by omega) (by omega)])
  rw [e, g 147 (by omega) (by omega)]
theorem wI_rr {M N : MM} (g : ∀ a, 145 ≤ a → a ≤ 180 → N a = M a) (row : Int) : wI N row = wI M row := by
  funext j
  unfold wI
  rw [g 148 (by omega) (by omega)]
theorem wT_rr {M N : MM} (g : ∀ a, 145 ≤ a → a ≤ 180 → N a = M a) (E : EE) (nt md m row : Int) : wT N E nt md m row = wT M E nt md m row := by
  unfold wT
  rw [wI_rr g, wG_rr (g 148 (by omega) (by omega)) (g 149 (by omega) (by omega)), g 147 (by omega) (by omega)]
theorem wP_rr {M N : MM} (g : ∀ a, 145 ≤ a → a ≤ 180 → N a = M a) (E : EE) (nt md m row : Int) : wP N E nt md m row = wP M E nt md m row := by
  unfold wP
  rw [wT_rr g, wI_rr g, wG_rr (g 148 (by omega) (by omega)) (g 149 (by omega) (by omega)), g 147 (by omega) (by omega)]
theorem wB_rr {M N : MM} (g : ∀ a, 145 ≤ a → a ≤ 180 → N a = M a) (E : EE) (nt md m : Int) : wB N E nt md m = wB M E nt md m := by
  unfold wB
  have e1 : wT N E nt md m = wT M E nt md m := funext (fun r => wT_rr g E nt md m r)
  have e2 : wP N E nt md m = wP M E nt md m := funext (fun r => wP_rr g E nt md m r)
  rw [e1, e2, g 147 (by omega) (by omega)]
theorem wmV_rr {M N : MM} (g : ∀ a, 145 ≤ a → a ≤ 180 → N a = M a) (E : EE) (nt md m hour j : Int) : wmV N E nt md m hour j = wmV M E nt md m hour j := by
  unfold wmV
  rw [wB_rr g, wT_rr g, wI_rr g, wG_rr (g 148 (by omega) (by omega)) (g 149 (by omega) (by omega)), meS_rr (g 149 (by omega) (by omega))]
theorem wiBb_rr {M N : MM} (g : ∀ a, 145 ≤ a → a ≤ 180 → N a = M a) (E : EE) (nt md m hour load : Int) : wiBb N E nt md m hour load = wiBb M E nt md m hour load := by
  unfold wiBb
  simp only [wmV_rr g]
  rw [ndV_rr (g 154 (by omega) (by omega)) (g 155 (by omega) (by omega)), g 147 (by omega) (by omega)]
theorem winterV_rr {M N : MM} (g : ∀ a, 145 ≤ a → a ≤ 180 → N a = M a) (E : EE) (seed nights load hour : Int) : winterV N E seed nights load hour = winterV M E seed nights load hour := by
  have e0 : paS N = paS M := by unfold paS; rw [g 153 (by omega) (by omega), g 147 (by omega) (by omega)]
  have e1 : ∀ x, mdV N x = mdV M x := fun x => by unfold mdV; rw [g 147 (by omega) (by omega)]
  have e : wiF N E (paS N) load hour = wiF M E (paS M) load hour := funext (fun t => funext (fun s => by unfold wiF; rw [e0, e1, g 172 (by omega) (by omega), wiBb_rr g, wB_rr g, wT_rr g]))
  unfold winterV
  rw [e]
theorem wiOk_rr {M N : MM} (g : ∀ a, 145 ≤ a → a ≤ 180 → N a = M a) (seed nights load hour : Int) : wiOk N seed nights load hour = wiOk M seed nights load hour := by
  unfold wiOk
  rw [g 147 (by omega) (by omega)]
theorem tollOk_rr {M N : MM} (g : ∀ a, 145 ≤ a → a ≤ 180 → N a = M a) (l row : Int) : tollOk N l row = tollOk M l row := by
  unfold tollOk
  rw [g 147 (by omega) (by omega), g 172 (by omega) (by omega), ndV_rr (g 154 (by omega) (by omega)) (g 155 (by omega) (by omega)), tnV_rr g]
theorem tollV_rr {M N : MM} (g : ∀ a, 145 ≤ a → a ≤ 180 → N a = M a) (E : EE) (l row : Int) : tollV N E l row = tollV M E l row := by
  have e : tlP N E l row = tlP M E l row := funext (fun k => by unfold tlP tlW seeG weV; rw [g 148 (by omega) (by omega), g 172 (by omega) (by omega), g 154 (by omega) (by omega), grV_ag (g 149 (by omega) (by omega)) (g 148 (by omega) (by omega))])
  unfold tollV
  rw [e, g 147 (by omega) (by omega)]
theorem cntV_rr {M N : MM} (g : ∀ a, 145 ≤ a → a ≤ 180 → N a = M a) (what : Int) : cntV N what = cntV M what := by
  unfold cntV
  rw [g 147 (by omega) (by omega), g 172 (by omega) (by omega), g 145 (by omega) (by omega)]
theorem pourOk_rr {M N : MM} (g : ∀ a, 145 ≤ a → a ≤ 180 → N a = M a) (p x y : Int) : pourOk N p x y = pourOk M p x y := by
  have e : leF N y = leF M y := funext (fun k => funext (fun u => by unfold leF; rw [g 148 (by omega) (by omega), g 172 (by omega) (by omega)]))
  unfold pourOk ldV ldTo ldFrom frmV
  rw [e, g 147 (by omega) (by omega), g 172 (by omega) (by omega), g 148 (by omega) (by omega), g 151 (by omega) (by omega), g 152 (by omega) (by omega)]
theorem shareOk_rr {M N : MM} (g : ∀ a, 145 ≤ a → a ≤ 180 → N a = M a) (p x : Int) : shareOk N p x = shareOk M p x := by
  unfold shareOk
  rw [g 147 (by omega) (by omega)]
theorem stumpOk_rr {M N : MM} (g : ∀ a, 145 ≤ a → a ≤ 180 → N a = M a) (x y v : Int) : stumpOk N x y v = stumpOk M x y v := by
  unfold stumpOk
  rw [g 147 (by omega) (by omega), g 148 (by omega) (by omega)]
