/-! seats by form: which are there, by a window, by the aisle, beside which -/
def pu_in (form k : Nat) : Bool := form == 0 || k == 0 || k == 3 || (form == 1 && k == 2)
def pu_win (k : Nat) : Bool := k == 0 || k == 3
def pu_ais (form k : Nat) : Bool := k == 1 || k == 2 || form == 2 || (form == 1 && k == 0)
def pu_seat (rows form s : Nat) : Bool := decide (s < 4 * rows) && pu_in form (s % 4)
/-- the other of a seat's pair is there -/
def pu_b2 (form s : Nat) : Bool := pu_in form ((s ^^^ 1) % 4)
theorem pu_isIn : ∀ form, form < 3 → ∀ k, k < 4 → f_X0_isIn (nI form) (nI k) = some (pu_bI (pu_in form k)) := by decide +kernel
theorem pu_isSeatOf : ∀ form, form < 3 → ∀ k, k < 4 → f_X12_isSeatOf (nI form) (nI k) = some (pu_bI (pu_in form k)) := by decide +kernel
theorem pu_isWin : ∀ k, k < 4 → f_X0_isWindow (nI k) = some (pu_bI (pu_win k)) := by decide +kernel
theorem pu_isWinM : ∀ k, k < 4 → f_X12_isWindow (nI k) = some (pu_bI (pu_win k)) := by decide +kernel
theorem pu_isAis : ∀ form, form < 3 → ∀ k, k < 4 → f_X0_isAisle (nI form) (nI k) = some (pu_bI (pu_ais form k)) := by decide +kernel
theorem pu_isAisM : ∀ form, form < 3 → ∀ k, k < 4 → f_X12_isAisleOf (nI form) (nI k) = some (pu_bI (pu_ais form k)) := by decide +kernel
theorem pu_isPaired : ∀ form, form < 3 → ∀ k, k < 4 → f_X0_isPaired (nI form) (nI k) = some (pu_bI (pu_in form k && pu_in form (k ^^^ 1))) := by decide +kernel
theorem pu_besM {form s : Nat} (hf : form < 3) (hs : s < 20) : f_X12_besideOf (nI form) (nI s) = some (if pu_b2 form s then nI (s ^^^ 1) else -1) := by
  have h := pu_x20 s hs
  rw [f_X12_besideOf, pu_xor1, pu_and3 (by omega), pu_isSeatOf form hf _ (Nat.mod_lt _ (by omega))]
  rw [pu_sb, pu_ifb]
  unfold pu_b2
  cases pu_in form ((s ^^^ 1) % 4) <;> rfl
theorem pu_b2_sym {form s : Nat} (hs : s < 20) : pu_b2 form (s ^^^ 1) = pu_in form (s % 4) := by
  have h := pu_x20 s hs
  rw [pu_b2, h.2.1]
theorem pu_seat_x {rows form s : Nat} (hs : s < 20) (h : pu_seat rows form s = true) (h2 : pu_b2 form s = true) : pu_seat rows form (s ^^^ 1) = true ∧ pu_b2 form (s ^^^ 1) = true := by
  have e := pu_x20 s hs
  unfold pu_seat at h ⊢
  rw [Bool.and_eq_true, decide_eq_true_iff] at h
  rw [pu_b2_sym hs, Bool.and_eq_true, decide_eq_true_iff]
  unfold pu_b2 at h2
  exact ⟨⟨by omega, h2⟩, h.2⟩
theorem pu_seat_lt {rows form s : Nat} (hr : rows ≤ 5) (h : pu_seat rows form s = true) : s < 20 ∧ s < 4 * rows := by
  unfold pu_seat at h
  rw [Bool.and_eq_true, decide_eq_true_iff] at h
  omega
/-! how far: gap and far -/
theorem pu_gap {a b : Nat} (ha : a < 2 ^ 31) (hb : b < 2 ^ 31) : f_X10_gap (nI a) (nI b) = some (nI (if a < b then b - a else a - b)) := by
  rw [f_X10_gap]
  by_cases h : a < b
  · rw [if_neg (nI_ge h hb), if_pos h, pk_sub (by omega)]
  · rw [if_pos (nI_le (by omega) ha), if_neg h, pk_sub (by omega)]
theorem pu_farE (x y : Int32) : f_X12_far x y = f_X10_gap x y := rfl
/-! the plan: its numbers -/
def vRows (pl : PlanT) : Nat := (cb_rows (pl_cab pl)).toNatClampNeg
def vForm (pl : PlanT) : Nat := (cb_form (pl_cab pl)).toNatClampNeg
def vDoor (pl : PlanT) : Nat := (cb_door (pl_cab pl)).toNatClampNeg
def vPace (pl : PlanT) : Nat := (cb_pace (pl_cab pl)).toNatClampNeg
def vRise (pl : PlanT) : Nat := (cb_rise (pl_cab pl)).toNatClampNeg
def vR (pl : PlanT) : Nat := (pl_ruleCount pl).toNatClampNeg
def vN (pl : PlanT) : Nat := (pl_riderCount pl).toNatClampNeg
def vOn (pl : PlanT) (r : Nat) : Nat := (qr_on (pl_riders pl) r).toNatClampNeg
def vOff (pl : PlanT) (r : Nat) : Nat := (qr_off (pl_riders pl) r).toNatClampNeg
def vRule (pl : PlanT) (r : Nat) : Nat := (qr_rule (pl_riders pl) r).toNatClampNeg
def vAge (pl : PlanT) (r : Nat) : Nat := (qr_age (pl_riders pl) r).toNatClampNeg
def vWays (pl : PlanT) (i : Nat) : Nat := (ru_count (pl_rules pl) i).toNatClampNeg
abbrev vSeat (pl : PlanT) (s : Nat) : Bool := pu_seat (vRows pl) (vForm pl) s
abbrev vB2 (pl : PlanT) (s : Nat) : Bool := pu_b2 (vForm pl) s
def pu_GP (pl : PlanT) : Prop := (cb_rows (pl_cab pl) = nI (vRows pl) ∧ 1 ≤ vRows pl ∧ vRows pl ≤ 5) ∧ (cb_form (pl_cab pl) = nI (vForm pl) ∧ vForm pl < 3) ∧ (cb_door (pl_cab pl) = nI (vDoor pl) ∧ vDoor pl < vRows pl) ∧ (cb_pace (pl_cab pl) = nI (vPace pl) ∧ 1 ≤ vPace pl ∧ vPace pl ≤ 9) ∧ (cb_rise (pl_cab pl) = nI (vRise pl) ∧ vRise pl ≤ 9) ∧ (cb_sun (pl_cab pl) = 0 ∨ cb_sun (pl_cab pl) = 1 ∨ cb_sun (pl_cab pl) = 2) ∧ (cb_seats (pl_cab pl) = pu_mk (vSeat pl) 20) ∧ (∀ s, s < 20 → cb_beside (pl_cab pl) s = if vSeat pl s && vB2 pl s then nI (s ^^^ 1) else -2) ∧ (pl_ruleCount pl = nI (vR pl) ∧ 1 ≤ vR pl ∧ vR pl ≤ 4) ∧ (∀ i, i < vR pl → ru_count (pl_rules pl) i = nI (vWays pl i) ∧ 1 ≤ vWays pl i ∧ vWays pl i ≤ 4) ∧ (∀ i, i < vR pl → ∀ j, j < vWays pl i → ∃ k, k < 9 ∧ ru_wanted (pl_rules pl) i j = nI k) ∧ (pl_riderCount pl = nI (vN pl) ∧ 1 ≤ vN pl ∧ vN pl ≤ 8) ∧ (∀ r, r < vN pl → qr_on (pl_riders pl) r = nI (vOn pl r) ∧ vOn pl r ≤ 10) ∧ (∀ r, r < vN pl → qr_off (pl_riders pl) r = nI (vOff pl r) ∧ vOn pl r < vOff pl r ∧ vOff pl r ≤ 11) ∧ (∀ r, r < vN pl → qr_rule (pl_riders pl) r = nI (vRule pl r) ∧ vRule pl r < vR pl) ∧ (∀ r, r < vN pl → ∃ k, k < 10 ∧ qr_looks (pl_riders pl) r = nI k) ∧ (∀ r, r < vN pl → qr_age (pl_riders pl) r = nI (vAge pl r) ∧ vAge pl r ≤ 99) ∧ (∀ r, r < vN pl → kb_01 (qr_hasBag (pl_riders pl) r)) ∧ (∀ r, r < vN pl → kb_01 (qr_isProud (pl_riders pl) r)) ∧ (∀ r, r < vN pl → qr_held (pl_riders pl) r = -2 ∨ ∃ h, h < 20 ∧ qr_held (pl_riders pl) r = nI h) ∧ (∀ r, r < vN pl → ∀ q, bt (qr_friends (pl_riders pl) r) q = true → q < vN pl)
theorem pu_GP.rows {pl : PlanT} (h : pu_GP pl) : cb_rows (pl_cab pl) = nI (vRows pl) ∧ 1 ≤ vRows pl ∧ vRows pl ≤ 5 := h.1
theorem pu_GP.form {pl : PlanT} (h : pu_GP pl) : cb_form (pl_cab pl) = nI (vForm pl) ∧ vForm pl < 3 := h.2.1
theorem pu_GP.door {pl : PlanT} (h : pu_GP pl) : cb_door (pl_cab pl) = nI (vDoor pl) ∧ vDoor pl < vRows pl := h.2.2.1
theorem pu_GP.pace {pl : PlanT} (h : pu_GP pl) : cb_pace (pl_cab pl) = nI (vPace pl) ∧ 1 ≤ vPace pl ∧ vPace pl ≤ 9 := h.2.2.2.1
theorem pu_GP.rise {pl : PlanT} (h : pu_GP pl) : cb_rise (pl_cab pl) = nI (vRise pl) ∧ vRise pl ≤ 9 := h.2.2.2.2.1
theorem pu_GP.sun {pl : PlanT} (h : pu_GP pl) : cb_sun (pl_cab pl) = 0 ∨ cb_sun (pl_cab pl) = 1 ∨ cb_sun (pl_cab pl) = 2 := h.2.2.2.2.2.1
theorem pu_GP.seats {pl : PlanT} (h : pu_GP pl) : cb_seats (pl_cab pl) = pu_mk (vSeat pl) 20 := h.2.2.2.2.2.2.1
theorem pu_GP.bes {pl : PlanT} (h : pu_GP pl) : ∀ s, s < 20 → cb_beside (pl_cab pl) s = if vSeat pl s && vB2 pl s then nI (s ^^^ 1) else -2 := h.2.2.2.2.2.2.2.1
theorem pu_GP.rules {pl : PlanT} (h : pu_GP pl) : pl_ruleCount pl = nI (vR pl) ∧ 1 ≤ vR pl ∧ vR pl ≤ 4 := h.2.2.2.2.2.2.2.2.1
theorem pu_GP.ways {pl : PlanT} (h : pu_GP pl) : ∀ i, i < vR pl → ru_count (pl_rules pl) i = nI (vWays pl i) ∧ 1 ≤ vWays pl i ∧ vWays pl i ≤ 4 := h.2.2.2.2.2.2.2.2.2.1
theorem pu_GP.want {pl : PlanT} (h : pu_GP pl) : ∀ i, i < vR pl → ∀ j, j < vWays pl i → ∃ k, k < 9 ∧ ru_wanted (pl_rules pl) i j = nI k := h.2.2.2.2.2.2.2.2.2.2.1
theorem pu_GP.riders {pl : PlanT} (h : pu_GP pl) : pl_riderCount pl = nI (vN pl) ∧ 1 ≤ vN pl ∧ vN pl ≤ 8 := h.2.2.2.2.2.2.2.2.2.2.2.1
theorem pu_GP.on {pl : PlanT} (h : pu_GP pl) : ∀ r, r < vN pl → qr_on (pl_riders pl) r = nI (vOn pl r) ∧ vOn pl r ≤ 10 := h.2.2.2.2.2.2.2.2.2.2.2.2.1
theorem pu_GP.off {pl : PlanT} (h : pu_GP pl) : ∀ r, r < vN pl → qr_off (pl_riders pl) r = nI (vOff pl r) ∧ vOn pl r < vOff pl r ∧ vOff pl r ≤ 11 := h.2.2.2.2.2.2.2.2.2.2.2.2.2.1
theorem pu_GP.rule {pl : PlanT} (h : pu_GP pl) : ∀ r, r < vN pl → qr_rule (pl_riders pl) r = nI (vRule pl r) ∧ vRule pl r < vR pl := h.2.2.2.2.2.2.2.2.2.2.2.2.2.2.1
theorem pu_GP.looks {pl : PlanT} (h : pu_GP pl) : ∀ r, r < vN pl → ∃ k, k < 10 ∧ qr_looks (pl_riders pl) r = nI k := h.2.2.2.2.2.2.2.2.2.2.2.2.2.2.2.1
theorem pu_GP.age {pl : PlanT} (h : pu_GP pl) : ∀ r, r < vN pl → qr_age (pl_riders pl) r = nI (vAge pl r) ∧ vAge pl r ≤ 99 := h.2.2.2.2.2.2.2.2.2.2.2.2.2.2.2.2.1
theorem pu_GP.bag {pl : PlanT} (h : pu_GP pl) : ∀ r, r < vN pl → kb_01 (qr_hasBag (pl_riders pl) r) := h.2.2.2.2.2.2.2.2.2.2.2.2.2.2.2.2.2.1
theorem pu_GP.proud {pl : PlanT} (h : pu_GP pl) : ∀ r, r < vN pl → kb_01 (qr_isProud (pl_riders pl) r) := h.2.2.2.2.2.2.2.2.2.2.2.2.2.2.2.2.2.2.1
theorem pu_GP.held {pl : PlanT} (h : pu_GP pl) : ∀ r, r < vN pl → qr_held (pl_riders pl) r = -2 ∨ ∃ h, h < 20 ∧ qr_held (pl_riders pl) r = nI h := h.2.2.2.2.2.2.2.2.2.2.2.2.2.2.2.2.2.2.2.1
theorem pu_GP.fri {pl : PlanT} (h : pu_GP pl) : ∀ r, r < vN pl → ∀ q, bt (qr_friends (pl_riders pl) r) q = true → q < vN pl := h.2.2.2.2.2.2.2.2.2.2.2.2.2.2.2.2.2.2.2.2
def pu_RB (pl : PlanT) (bu : BusT) : Prop := (bu_rows bu = cb_rows (pl_cab pl)) ∧ (bu_form bu = cb_form (pl_cab pl)) ∧ (bu_door bu = cb_door (pl_cab pl)) ∧ (bu_pace bu = cb_pace (pl_cab pl)) ∧ (bu_rise bu = cb_rise (pl_cab pl)) ∧ ((cb_sun (pl_cab pl) = 2 ∧ bu_sun bu = -1) ∨ (cb_sun (pl_cab pl) ≠ 2 ∧ bu_sun bu = cb_sun (pl_cab pl))) ∧ (bu_rules bu = pl_ruleCount pl) ∧ (∀ i, i < vR pl → bu_waysMany bu i = ru_count (pl_rules pl) i) ∧ (∀ i, i < vR pl → ∀ j, j < vWays pl i → bu_way bu (4 * i + j) = ru_wanted (pl_rules pl) i j) ∧ (bu_riders bu = pl_riderCount pl) ∧ (∀ r, r < vN pl → bu_on bu r = qr_on (pl_riders pl) r) ∧ (∀ r, r < vN pl → bu_off bu r = qr_off (pl_riders pl) r) ∧ (∀ r, r < vN pl → bu_rule bu r = qr_rule (pl_riders pl) r) ∧ (∀ r, r < vN pl → bu_looks bu r = qr_looks (pl_riders pl) r) ∧ (∀ r, r < vN pl → bu_age bu r = qr_age (pl_riders pl) r) ∧ (∀ r, r < vN pl → bu_hasBag bu r = qr_hasBag (pl_riders pl) r) ∧ (∀ r, r < vN pl → bu_isProud bu r = qr_isProud (pl_riders pl) r) ∧ (∀ r, r < vN pl → (qr_held (pl_riders pl) r = -2 ∧ bu_holds bu r = -1) ∨ (qr_held (pl_riders pl) r ≠ -2 ∧ bu_holds bu r = qr_held (pl_riders pl) r)) ∧ (∀ r, r < vN pl → ∀ q, q < vN pl → f_X11_areFriends bu (nI r) (nI q) = some (pu_bI (bt (qr_friends (pl_riders pl) r) q))) ∧ (bu_friends bu = pl_friendCount pl) ∧ (bu_holders bu = pl_holderCount pl)
theorem pu_RB.rows {pl : PlanT} {bu : BusT} (h : pu_RB pl bu) : bu_rows bu = cb_rows (pl_cab pl) := h.1
theorem pu_RB.form {pl : PlanT} {bu : BusT} (h : pu_RB pl bu) : bu_form bu = cb_form (pl_cab pl) := h.2.1
theorem pu_RB.door {pl : PlanT} {bu : BusT} (h : pu_RB pl bu) : bu_door bu = cb_door (pl_cab pl) := h.2.2.1
theorem pu_RB.pace {pl : PlanT} {bu : BusT} (h : pu_RB pl bu) : bu_pace bu = cb_pace (pl_cab pl) := h.2.2.2.1
theorem pu_RB.rise {pl : PlanT} {bu : BusT} (h : pu_RB pl bu) : bu_rise bu = cb_rise (pl_cab pl) := h.2.2.2.2.1
theorem pu_RB.sun {pl : PlanT} {bu : BusT} (h : pu_RB pl bu) : (cb_sun (pl_cab pl) = 2 ∧ bu_sun bu = -1) ∨ (cb_sun (pl_cab pl) ≠ 2 ∧ bu_sun bu = cb_sun (pl_cab pl)) := h.2.2.2.2.2.1
theorem pu_RB.rules {pl : PlanT} {bu : BusT} (h : pu_RB pl bu) : bu_rules bu = pl_ruleCount pl := h.2.2.2.2.2.2.1
theorem pu_RB.ways {pl : PlanT} {bu : BusT} (h : pu_RB pl bu) : ∀ i, i < vR pl → bu_waysMany bu i = ru_count (pl_rules pl) i := h.2.2.2.2.2.2.2.1
theorem pu_RB.want {pl : PlanT} {bu : BusT} (h : pu_RB pl bu) : ∀ i, i < vR pl → ∀ j, j < vWays pl i → bu_way bu (4 * i + j) = ru_wanted (pl_rules pl) i j := h.2.2.2.2.2.2.2.2.1
theorem pu_RB.riders {pl : PlanT} {bu : BusT} (h : pu_RB pl bu) : bu_riders bu = pl_riderCount pl := h.2.2.2.2.2.2.2.2.2.1
theorem pu_RB.on {pl : PlanT} {bu : BusT} (h : pu_RB pl bu) : ∀ r, r < vN pl → bu_on bu r = qr_on (pl_riders pl) r := h.2.2.2.2.2.2.2.2.2.2.1
theorem pu_RB.off {pl : PlanT} {bu : BusT} (h : pu_RB pl bu) : ∀ r, r < vN pl → bu_off bu r = qr_off (pl_riders pl) r := h.2.2.2.2.2.2.2.2.2.2.2.1
theorem pu_RB.rule {pl : PlanT} {bu : BusT} (h : pu_RB pl bu) : ∀ r, r < vN pl → bu_rule bu r = qr_rule (pl_riders pl) r := h.2.2.2.2.2.2.2.2.2.2.2.2.1
theorem pu_RB.looks {pl : PlanT} {bu : BusT} (h : pu_RB pl bu) : ∀ r, r < vN pl → bu_looks bu r = qr_looks (pl_riders pl) r := h.2.2.2.2.2.2.2.2.2.2.2.2.2.1
theorem pu_RB.age {pl : PlanT} {bu : BusT} (h : pu_RB pl bu) : ∀ r, r < vN pl → bu_age bu r = qr_age (pl_riders pl) r := h.2.2.2.2.2.2.2.2.2.2.2.2.2.2.1
theorem pu_RB.bag {pl : PlanT} {bu : BusT} (h : pu_RB pl bu) : ∀ r, r < vN pl → bu_hasBag bu r = qr_hasBag (pl_riders pl) r := h.2.2.2.2.2.2.2.2.2.2.2.2.2.2.2.1
theorem pu_RB.proud {pl : PlanT} {bu : BusT} (h : pu_RB pl bu) : ∀ r, r < vN pl → bu_isProud bu r = qr_isProud (pl_riders pl) r := h.2.2.2.2.2.2.2.2.2.2.2.2.2.2.2.2.1
theorem pu_RB.held {pl : PlanT} {bu : BusT} (h : pu_RB pl bu) : ∀ r, r < vN pl → (qr_held (pl_riders pl) r = -2 ∧ bu_holds bu r = -1) ∨ (qr_held (pl_riders pl) r ≠ -2 ∧ bu_holds bu r = qr_held (pl_riders pl) r) := h.2.2.2.2.2.2.2.2.2.2.2.2.2.2.2.2.2.1
theorem pu_RB.fri {pl : PlanT} {bu : BusT} (h : pu_RB pl bu) : ∀ r, r < vN pl → ∀ q, q < vN pl → f_X11_areFriends bu (nI r) (nI q) = some (pu_bI (bt (qr_friends (pl_riders pl) r) q)) := h.2.2.2.2.2.2.2.2.2.2.2.2.2.2.2.2.2.2.1
theorem pu_RB.nfri {pl : PlanT} {bu : BusT} (h : pu_RB pl bu) : bu_friends bu = pl_friendCount pl := h.2.2.2.2.2.2.2.2.2.2.2.2.2.2.2.2.2.2.2.1
theorem pu_RB.nhold {pl : PlanT} {bu : BusT} (h : pu_RB pl bu) : bu_holders bu = pl_holderCount pl := h.2.2.2.2.2.2.2.2.2.2.2.2.2.2.2.2.2.2.2.2
theorem pu_GP.in20 {pl : PlanT} (h : pu_GP pl) {s : Nat} (hs : vSeat pl s = true) : s < 20 ∧ s < 4 * vRows pl := pu_seat_lt h.rows.2.2 hs
theorem pu_GP.n31 {pl : PlanT} (h : pu_GP pl) : vN pl < 9 := by have := h.riders.2.2; omega
/-- 4 * rows -/
theorem pu_GP.rows4 {pl : PlanT} (h : pu_GP pl) : (4 : Int32) * cb_rows (pl_cab pl) = nI (4 * vRows pl) := by rw [h.rows.1]; exact pk_mul 4 _
/-! isSeat of the two -/
theorem pu_isSeatM {pl : PlanT} {bu : BusT} (h : pu_GP pl) (hB : pu_RB pl bu) (mo : MOT) {s : Nat} (hs : s < 2 ^ 30) : f_X12_isSeat mo bu (nI s) = some (pu_bI (vSeat pl s)) := by
  rw [f_X12_isSeat, if_neg (nI_pos (by omega)), hB.rows, h.rows4]
  unfold vSeat pu_seat
  have hr := h.rows.2
  by_cases q : s < 4 * vRows pl
  · rw [if_neg (nI_ge q (by omega)), hB.form, h.form.1, pu_and3 (by omega), pu_isSeatOf _ h.form.2 _ (Nat.mod_lt _ (by omega))]
    rw [pu_sb, pu_ifb, decide_eq_true q, Bool.true_and]
    cases pu_in (vForm pl) (s % 4) <;> rfl
  · rw [if_pos (nI_le (by omega) (by omega)), decide_eq_false q]
    rfl
theorem pu_besideM {pl : PlanT} {bu : BusT} (h : pu_GP pl) (hB : pu_RB pl bu) (mo : MOT) {s : Nat} (hs : s < 20) : f_X12_beside mo bu (nI s) = some (if vB2 pl s then nI (s ^^^ 1) else -1) := by
  rw [f_X12_beside, hB.form, h.form.1, pu_besM h.form.2 hs]
  rfl
theorem pu_allSeatsM {pl : PlanT} {bu : BusT} (h : pu_GP pl) (hB : pu_RB pl bu) (mo : MOT) : f_X12_allSeats mo bu = some (pu_mk (vSeat pl) 20) := by
  have hr := h.rows.2
  have e := pu_mask (fun n i a => f_X12_allSeats_b4 mo bu n a i) some (4 * vRows pl) (vSeat pl) (fun n i a hi => by
    show f_X12_allSeats_b4 mo bu (n + 1) a (nI i) = _
    rw [f_X12_allSeats_b4, hB.rows, h.rows4, if_neg (nI_ge hi (by omega)), pu_isSeatM h hB mo (by omega)]
    rw [pu_sb, pu_ifb, nI_1, Int32.or_zero]
    cases vSeat pl i <;> rfl) (fun n a => by
    show f_X12_allSeats_b4 mo bu (n + 1) a (nI _) = _
    rw [f_X12_allSeats_b4, hB.rows, h.rows4, if_pos (nI_le (Nat.le_refl _) (by omega))]) (fuel := 4096) (by omega)
  rw [f_X12_allSeats]
  refine Eq.trans e ?_
  rw [pu_mk_cut (P := vSeat pl) (N := 4 * vRows pl) (M := 20) (by omega) (fun i h1 h2 => by
    unfold vSeat pu_seat
    rw [decide_eq_false (by omega)]
    rfl)]
/-- besideOf of the class -/
theorem pu_besC {pl : PlanT} (h : pu_GP pl) (sc : SceneT) {s : Nat} (hs : s < 20) (hv : vSeat pl s = true) : f_X9_besideOf sc (pl_cab pl) (nI s) = some (if vB2 pl s then sc_sitter sc (s ^^^ 1) else -2) := by
  have e := pu_x20 s hs
  rw [f_X9_besideOf, if_pos (pu_inn hs (by omega)), nI_clamp (by omega), h.bes s hs, hv, Bool.true_and]
  cases q : vB2 pl s
  · rfl
  · rw [if_pos rfl, if_neg (pu_ne2 (by omega)), if_pos (pu_inn e.1 (by omega)), nI_clamp (by omega)]; rfl
