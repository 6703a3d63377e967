/-! the bus under way: class and reference -/
theorem pu_z (r : Nat) : (0 : Int32) + nI r = nI r := by
  have h := nI_add 0 r
  rw [Nat.zero_add] at h
  exact h
theorem pu_a8 (r : Nat) : (8 : Int32) + nI r = nI (8 + r) := nI_add 8 r
theorem pu_a16 (r : Nat) : (16 : Int32) + nI r = nI (16 + r) := nI_add 16 r
theorem pu_a24 (r : Nat) : (24 : Int32) + nI r = nI (24 + r) := nI_add 24 r
theorem pu_a32 (r : Nat) : (32 : Int32) + nI r = nI (32 + r) := nI_add 32 r
theorem pu_a40 (r : Nat) : (40 : Int32) + nI r = nI (40 + r) := nI_add 40 r
def vSt (sto : Int32) : Nat := sto.toNatClampNeg
def pu_RC (pl : PlanT) (sit pla lug tur spe pas : Nat → Int32) (joi tus gif sto : Int32) (w : Nat → Int32) : Prop := (∀ r, r < vN pl → w r = pla r) ∧ (∀ r, r < vN pl → ∃ p, pla r = nI p ∧ ((p < 20 ∧ vSeat pl p = true) ∨ p = 100 ∨ p = 101 ∨ p = 102)) ∧ (∀ s, s < 20 → (sit s = -2 ∧ ∀ r, r < vN pl → ¬ pla r = nI s) ∨ ∃ r, r < vN pl ∧ sit s = nI r ∧ pla r = nI s) ∧ (∀ r q s, r < vN pl → q < vN pl → s < 20 → pla r = nI s → pla q = nI s → r = q) ∧ (∀ s, s < 20 → (lug s = -2 ∧ ∀ r, r < vN pl → ¬ w (8 + r) = nI s) ∨ ∃ r, r < vN pl ∧ lug s = nI r ∧ w (8 + r) = nI s) ∧ (∀ r, r < vN pl → w (8 + r) = -1 ∨ ∃ p, p < 20 ∧ vSeat pl p = true ∧ vB2 pl p = true ∧ pla r = nI p ∧ w (8 + r) = nI (p ^^^ 1) ∧ sit (p ^^^ 1) = -2) ∧ (∀ r, r < vN pl → w (16 + r) = tur r) ∧ (∀ r, r < vN pl → w (24 + r) = pas r) ∧ (∀ r, r < vN pl → w (32 + r) = pu_bI (bt joi r)) ∧ (∀ s, s < vSt sto → w (40 + s) = spe s) ∧ (w 52 = sto ∧ sto = nI (vSt sto) ∧ vSt sto ≤ 12) ∧ (w 53 = tus) ∧ (w 54 = gif)
theorem pu_RC.pla {pl : PlanT} {sit pla lug tur spe pas : Nat → Int32} {joi tus gif sto : Int32} {w : Nat → Int32} (h : pu_RC pl sit pla lug tur spe pas joi tus gif sto w) : ∀ r, r < vN pl → w r = pla r := h.1
theorem pu_RC.plv {pl : PlanT} {sit pla lug tur spe pas : Nat → Int32} {joi tus gif sto : Int32} {w : Nat → Int32} (h : pu_RC pl sit pla lug tur spe pas joi tus gif sto w) : ∀ r, r < vN pl → ∃ p, pla r = nI p ∧ ((p < 20 ∧ vSeat pl p = true) ∨ p = 100 ∨ p = 101 ∨ p = 102) := h.2.1
theorem pu_RC.sit {pl : PlanT} {sit pla lug tur spe pas : Nat → Int32} {joi tus gif sto : Int32} {w : Nat → Int32} (h : pu_RC pl sit pla lug tur spe pas joi tus gif sto w) : ∀ s, s < 20 → (sit s = -2 ∧ ∀ r, r < vN pl → ¬ pla r = nI s) ∨ ∃ r, r < vN pl ∧ sit s = nI r ∧ pla r = nI s := h.2.2.1
theorem pu_RC.uni {pl : PlanT} {sit pla lug tur spe pas : Nat → Int32} {joi tus gif sto : Int32} {w : Nat → Int32} (h : pu_RC pl sit pla lug tur spe pas joi tus gif sto w) : ∀ r q s, r < vN pl → q < vN pl → s < 20 → pla r = nI s → pla q = nI s → r = q := h.2.2.2.1
theorem pu_RC.lug {pl : PlanT} {sit pla lug tur spe pas : Nat → Int32} {joi tus gif sto : Int32} {w : Nat → Int32} (h : pu_RC pl sit pla lug tur spe pas joi tus gif sto w) : ∀ s, s < 20 → (lug s = -2 ∧ ∀ r, r < vN pl → ¬ w (8 + r) = nI s) ∨ ∃ r, r < vN pl ∧ lug s = nI r ∧ w (8 + r) = nI s := h.2.2.2.2.1
theorem pu_RC.bag {pl : PlanT} {sit pla lug tur spe pas : Nat → Int32} {joi tus gif sto : Int32} {w : Nat → Int32} (h : pu_RC pl sit pla lug tur spe pas joi tus gif sto w) : ∀ r, r < vN pl → w (8 + r) = -1 ∨ ∃ p, p < 20 ∧ vSeat pl p = true ∧ vB2 pl p = true ∧ pla r = nI p ∧ w (8 + r) = nI (p ^^^ 1) ∧ sit (p ^^^ 1) = -2 := h.2.2.2.2.2.1
theorem pu_RC.tur {pl : PlanT} {sit pla lug tur spe pas : Nat → Int32} {joi tus gif sto : Int32} {w : Nat → Int32} (h : pu_RC pl sit pla lug tur spe pas joi tus gif sto w) : ∀ r, r < vN pl → w (16 + r) = tur r := h.2.2.2.2.2.2.1
theorem pu_RC.pas {pl : PlanT} {sit pla lug tur spe pas : Nat → Int32} {joi tus gif sto : Int32} {w : Nat → Int32} (h : pu_RC pl sit pla lug tur spe pas joi tus gif sto w) : ∀ r, r < vN pl → w (24 + r) = pas r := h.2.2.2.2.2.2.2.1
theorem pu_RC.joi {pl : PlanT} {sit pla lug tur spe pas : Nat → Int32} {joi tus gif sto : Int32} {w : Nat → Int32} (h : pu_RC pl sit pla lug tur spe pas joi tus gif sto w) : ∀ r, r < vN pl → w (32 + r) = pu_bI (bt joi r) := h.2.2.2.2.2.2.2.2.1
theorem pu_RC.spe {pl : PlanT} {sit pla lug tur spe pas : Nat → Int32} {joi tus gif sto : Int32} {w : Nat → Int32} (h : pu_RC pl sit pla lug tur spe pas joi tus gif sto w) : ∀ s, s < vSt sto → w (40 + s) = spe s := h.2.2.2.2.2.2.2.2.2.1
theorem pu_RC.sto {pl : PlanT} {sit pla lug tur spe pas : Nat → Int32} {joi tus gif sto : Int32} {w : Nat → Int32} (h : pu_RC pl sit pla lug tur spe pas joi tus gif sto w) : w 52 = sto ∧ sto = nI (vSt sto) ∧ vSt sto ≤ 12 := h.2.2.2.2.2.2.2.2.2.2.1
theorem pu_RC.tus {pl : PlanT} {sit pla lug tur spe pas : Nat → Int32} {joi tus gif sto : Int32} {w : Nat → Int32} (h : pu_RC pl sit pla lug tur spe pas joi tus gif sto w) : w 53 = tus := h.2.2.2.2.2.2.2.2.2.2.2.1
theorem pu_RC.gif {pl : PlanT} {sit pla lug tur spe pas : Nat → Int32} {joi tus gif sto : Int32} {w : Nat → Int32} (h : pu_RC pl sit pla lug tur spe pas joi tus gif sto w) : w 54 = gif := h.2.2.2.2.2.2.2.2.2.2.2.2
abbrev pu_RR (pl : PlanT) (rd : RideT) (w : Nat → Int32) : Prop := pu_RC pl (sc_sitter (rd_scene rd)) (rd_place rd) (rd_luggage rd) (rd_turn rd) (rd_spent rd) (rd_passed rd) (rd_joined rd) (rd_turns rd) (rd_gifts rd) (rd_stops rd) w
/-- looks as dealt: the same on both sides -/
def pu_RL (pl : PlanT) (rd : RideT) (looks : Nat → Int32) : Prop := (∀ r, r < vN pl → looks r = sc_looks (rd_scene rd) r) ∧ sc_looks (rd_scene rd) 8 = 5 ∧ ∀ r, r < vN pl → pu_lk (looks r)
/-- who has not come on yet (of those who come on at this stop: from i on) -/
def pu_ON (pl : PlanT) (rd : RideT) (i : Nat) : Prop := ∀ q, q < vN pl → (vSt (rd_stops rd) < vOn pl q ∨ (vSt (rd_stops rd) = vOn pl q ∧ i ≤ q)) → rd_place rd q = nI 100
section PR
variable {pl : PlanT} {bu : BusT} {rd : RideT} {w : WT}
theorem pu_sitterM (h : pu_GP pl) (hB : pu_RB pl bu) (hR : pu_RR pl rd (yW_r w)) (mo : MOT) {s : Nat} (hs : s < 20) : f_X12_sitter mo w bu (nI s) = some (sc_sitter (rd_scene rd) s) := by
  have hn := h.n31
  have e := pu_find (fun n i => f_X12_sitter_b2 mo w bu n (nI s) i) (vN pl) (fun r => decide (yW_r w r = nI s)) (fun r => some (nI r)) (some (-2)) (fun n i hi => by
    show f_X12_sitter_b2 mo w bu (n + 1) (nI s) (nI i) = _
    rw [f_X12_sitter_b2, hB.riders, h.riders.1, if_neg (nI_ge hi (by omega)), pu_z, if_pos (pu_inn (by omega) (by omega)), nI_clamp (by omega), nI_1]
    by_cases q : yW_r w i = nI s
    · rw [if_pos q, decide_eq_true q]; rfl
    · rw [if_neg q, decide_eq_false q]; rfl) (fun n => by
    show f_X12_sitter_b2 mo w bu (n + 1) (nI s) (nI _) = _
    rw [f_X12_sitter_b2, hB.riders, h.riders.1, if_pos (nI_le (Nat.le_refl _) (by omega))]) (fuel := 4096) (by omega)
  rw [f_X12_sitter]
  refine Eq.trans e ?_
  rcases hR.sit s hs with ⟨a, b⟩ | ⟨r, hr, a, b⟩
  · rw [pu_first_none (fun j hj => decide_eq_false (by rw [hR.pla j hj]; exact b j hj)), if_neg (by omega), a]
  · rw [pu_first_eq hr (decide_eq_true (by rw [hR.pla r hr]; exact b)) (fun j hj => decide_eq_false (fun q => by
      rw [hR.pla j (by omega)] at q
      have := hR.uni j r s (by omega) hr hs q b
      omega)), if_pos hr, a]
theorem pu_bagUni (hR : pu_RR pl rd (yW_r w)) {r q s : Nat} (hr : r < vN pl) (hq : q < vN pl) (hs : s < 20) (e1 : yW_r w (8 + r) = nI s) (e2 : yW_r w (8 + q) = nI s) : r = q := by
  rcases hR.bag r hr with a | ⟨p, hp, _, _, a, b, _⟩
  · rw [a] at e1; exact absurd e1.symm (pu_ne1 (by omega))
  rcases hR.bag q hq with a2 | ⟨p2, hp2, _, _, a2, b2, _⟩
  · rw [a2] at e2; exact absurd e2.symm (pu_ne1 (by omega))
  have x1 := pu_x20 p hp
  have x2 := pu_x20 p2 hp2
  rw [b, nI_eq (by omega) (by omega)] at e1
  rw [b2, nI_eq (by omega) (by omega)] at e2
  have : p = p2 := by rw [← x1.2.1, ← x2.2.1, e1, e2]
  subst this
  exact hR.uni r q p hr hq hp a a2
theorem pu_bagInM (h : pu_GP pl) (hB : pu_RB pl bu) (hR : pu_RR pl rd (yW_r w)) (mo : MOT) {s : Nat} (hs : s < 20) : f_X12_bagIn mo w bu (nI s) = some (rd_luggage rd s) := by
  have hn := h.n31
  have e := pu_find (fun n i => f_X12_bagIn_b2 mo w bu n (nI s) i) (vN pl) (fun r => decide (yW_r w (8 + r) = nI s)) (fun r => some (nI r)) (some (-2)) (fun n i hi => by
    show f_X12_bagIn_b2 mo w bu (n + 1) (nI s) (nI i) = _
    rw [f_X12_bagIn_b2, hB.riders, h.riders.1, if_neg (nI_ge hi (by omega)), pu_a8, if_pos (pu_inn (by omega) (by omega)), nI_clamp (by omega), nI_1]
    by_cases q : yW_r w (8 + i) = nI s
    · rw [if_pos q, decide_eq_true q]; rfl
    · rw [if_neg q, decide_eq_false q]; rfl) (fun n => by
    show f_X12_bagIn_b2 mo w bu (n + 1) (nI s) (nI _) = _
    rw [f_X12_bagIn_b2, hB.riders, h.riders.1, if_pos (nI_le (Nat.le_refl _) (by omega))]) (fuel := 4096) (by omega)
  rw [f_X12_bagIn]
  refine Eq.trans e ?_
  rcases hR.lug s hs with ⟨a, b⟩ | ⟨r, hr, a, b⟩
  · rw [pu_first_none (fun j hj => decide_eq_false (b j hj)), if_neg (by omega), a]
  · rw [pu_first_eq (P := fun r => decide (yW_r w (8 + r) = nI s)) hr (decide_eq_true b) (fun j hj => decide_eq_false (fun q => by
      have := pu_bagUni hR (by omega) hr hs q b
      omega)), if_pos hr, a]
def vSits (rd : RideT) (r : Nat) : Bool := decide (¬ (20 : Int32) ≤ rd_place rd r)
theorem pu_sitsP {p : Nat} (hp : p ≤ 102) {r : Nat} (e : rd_place rd r = nI p) : vSits rd r = decide (p < 20) := by
  unfold vSits
  have e2 : (20 : Int32) ≤ nI p ↔ 20 ≤ p := nI_leI (a := 20) (b := p) (by omega) (by omega)
  rw [e]
  by_cases q : p < 20
  · rw [decide_eq_true q, decide_eq_true (show ¬ (20 : Int32) ≤ nI p from fun z => by rw [e2] at z; omega)]
  · rw [decide_eq_false q, decide_eq_false (show ¬ ¬ (20 : Int32) ≤ nI p from fun z => z (by rw [e2]; omega))]
theorem pu_isSittingM (h : pu_GP pl) (hR : pu_RR pl rd (yW_r w)) (mo : MOT) {r : Nat} (hr : r < vN pl) : f_X12_isSitting mo w (nI r) = some (pu_bI (vSits rd r)) := by
  have hn := h.n31
  rw [f_X12_isSitting, pu_z, if_pos (pu_inn (by omega) (by omega)), nI_clamp (by omega), hR.pla r hr]
  unfold vSits
  by_cases q : (20 : Int32) ≤ rd_place rd r
  · rw [if_pos q, decide_eq_false (fun z => z q)]; rfl
  · rw [if_neg q, decide_eq_true q]; rfl
theorem pu_isFree (rd : RideT) {s : Nat} (hs : s < 20) : f_X6_isFree rd (nI s) = some (pu_bI (decide (sc_sitter (rd_scene rd) s = -2) && decide (rd_luggage rd s = -2))) := by
  rw [f_X6_isFree, if_pos (pu_inn hs (by omega)), if_pos (pu_inn hs (by omega)), nI_clamp (by omega)]
  by_cases q : sc_sitter (rd_scene rd) s = -2
  · rw [if_pos q, decide_eq_true q, Bool.true_and]
    by_cases q2 : rd_luggage rd s = -2
    · rw [if_pos q2, decide_eq_true q2]; rfl
    · rw [if_neg q2, decide_eq_false q2]; rfl
  · rw [if_neg q, decide_eq_false q]; rfl
def vFree (pl : PlanT) (rd : RideT) (s : Nat) : Bool := vSeat pl s && (decide (sc_sitter (rd_scene rd) s = -2) && decide (rd_luggage rd s = -2))
theorem pu_freeC (h : pu_GP pl) (rd : RideT) : f_X6_freeSeats rd pl = some (pu_mk (vFree pl rd) 20) := by
  have e := pu_mask (fun n i a => f_X6_freeSeats_b4 rd pl n a i) some 20 (vFree pl rd) (fun n i a hi => by
    show f_X6_freeSeats_b4 rd pl (n + 1) a (nI i) = _
    rw [f_X6_freeSeats_b4, if_neg (pu_ge20 hi), pu_hb _ (by omega), h.seats, pu_mk_bt _ 20 (by omega), decide_eq_true hi, Bool.true_and, nI_1]
    rw [pu_sb, pu_ifb, pu_isFree rd hi]
    unfold vFree
    cases vSeat pl i
    · rfl
    · show (if pu_bI _ = 0 then _ else _) = _
      rw [pu_ifb]
      cases decide (sc_sitter (rd_scene rd) i = -2) && decide (rd_luggage rd i = -2) <;> rfl) (fun n a => by
    show f_X6_freeSeats_b4 rd pl (n + 1) a (nI 20) = _
    rw [f_X6_freeSeats_b4, if_pos pu_le20]) (fuel := 4096) (by omega)
  exact e
theorem pu_neg2 (x : Int32) : (if x = (-2 : Int32) then true else false) = decide (x = -2) := by
  by_cases q : x = -2
  · rw [if_pos q, decide_eq_true q]
  · rw [if_neg q, decide_eq_false q]
theorem pu_freeM (h : pu_GP pl) (hB : pu_RB pl bu) (hR : pu_RR pl rd (yW_r w)) (mo : MOT) : f_X12_freeSeats mo w bu = some (pu_mk (vFree pl rd) 20) := by
  have hr := h.rows.2
  have e := pu_mask (fun n i a => f_X12_freeSeats_b4 mo w bu n a i) some (4 * vRows pl) (vFree pl rd) (fun n i a hi => by
    show f_X12_freeSeats_b4 mo w bu (n + 1) a (nI i) = _
    rw [f_X12_freeSeats_b4, hB.rows, h.rows4, if_neg (nI_ge hi (by omega)), pu_isSeatM h hB mo (by omega), pu_sitterM h hB hR mo (by omega), pu_bagInM h hB hR mo (by omega)]
    unfold f_X12_freeSeats_b52
    rw [nI_1, Int32.or_zero]
    show (if pu_bI (vSeat pl i) = 0 then _ else if sc_sitter (rd_scene rd) i = (-2 : Int32) then (if rd_luggage rd i = (-2 : Int32) then _ else _) else _) = _
    rw [pu_ifb]
    unfold vFree
    cases vSeat pl i
    · rfl
    · by_cases q : sc_sitter (rd_scene rd) i = -2
      · by_cases q2 : rd_luggage rd i = -2
        · rw [if_pos q, if_pos q2, decide_eq_true q, decide_eq_true q2]; rfl
        · rw [if_pos q, if_neg q2, decide_eq_true q, decide_eq_false q2]; rfl
      · rw [if_neg q, decide_eq_false q]; rfl) (fun n a => by
    show f_X12_freeSeats_b4 mo w bu (n + 1) a (nI _) = _
    rw [f_X12_freeSeats_b4, hB.rows, h.rows4, if_pos (nI_le (Nat.le_refl _) (by omega))]) (fuel := 4096) (by omega)
  rw [f_X12_freeSeats]
  refine Eq.trans e ?_
  rw [pu_mk_cut (P := vFree pl rd) (N := 4 * vRows pl) (M := 20) (by omega) (fun i h1 h2 => by
    unfold vFree vSeat pu_seat
    rw [decide_eq_false (by omega)]
    rfl)]
theorem pu_bagSeats (rd : RideT) : f_X6_bagSeats rd = some (pu_mk (fun s => decide (¬ rd_luggage rd s = -2)) 20) := by
  have e := pu_mask (fun n i a => f_X6_bagSeats_b4 rd n a i) some 20 (fun s => decide (¬ rd_luggage rd s = -2)) (fun n i a hi => by
    show f_X6_bagSeats_b4 rd (n + 1) a (nI i) = _
    rw [f_X6_bagSeats_b4, if_neg (pu_ge20 hi), if_pos (pu_inn hi (by omega)), nI_clamp (by omega), nI_1]
    by_cases q : rd_luggage rd i = -2
    · rw [if_pos q, decide_eq_false (fun z => z q)]; rfl
    · rw [if_neg q, decide_eq_true q]; rfl) (fun n a => by
    show f_X6_bagSeats_b4 rd (n + 1) a (nI 20) = _
    rw [f_X6_bagSeats_b4, if_pos pu_le20]) (fuel := 4096) (by omega)
  exact e
theorem pu_standersC (h : pu_GP pl) (rd : RideT) : f_X6_standers rd pl = some (pu_mk (fun r => decide (rd_place rd r = 101)) (vN pl)) := by
  have hn := h.n31
  exact pu_mask (fun n i a => f_X6_standers_b4 rd pl n a i) some (vN pl) (fun r => decide (rd_place rd r = 101)) (fun n i a hi => by
    show f_X6_standers_b4 rd pl (n + 1) a (nI i) = _
    rw [f_X6_standers_b4, h.riders.1, if_neg (nI_ge hi (by omega)), if_pos (pu_inn (by omega) (by omega)), nI_clamp (by omega), nI_1]
    by_cases q : rd_place rd i = 101
    · rw [if_pos q, decide_eq_true q]; rfl
    · rw [if_neg q, decide_eq_false q]; rfl) (fun n a => by
    show f_X6_standers_b4 rd pl (n + 1) a (nI _) = _
    rw [f_X6_standers_b4, h.riders.1, if_pos (nI_le (Nat.le_refl _) (by omega))]) (fuel := 4096) (by omega)
theorem pu_standersM (h : pu_GP pl) (hB : pu_RB pl bu) (hR : pu_RR pl rd (yW_r w)) (mo : MOT) : f_X12_standers mo w bu = some (pu_mk (fun r => decide (rd_place rd r = 101)) (vN pl)) := by
  have hn := h.n31
  exact pu_mask (fun n i a => f_X12_standers_b4 mo w bu n a i) some (vN pl) (fun r => decide (rd_place rd r = 101)) (fun n i a hi => by
    show f_X12_standers_b4 mo w bu (n + 1) a (nI i) = _
    rw [f_X12_standers_b4, hB.riders, h.riders.1, if_neg (nI_ge hi (by omega)), pu_z, if_pos (pu_inn (by omega) (by omega)), nI_clamp (by omega), nI_1, Int32.or_zero, hR.pla i hi]
    by_cases q : rd_place rd i = 101
    · rw [if_pos q, decide_eq_true q]; rfl
    · rw [if_neg q, decide_eq_false q]; rfl) (fun n a => by
    show f_X12_standers_b4 mo w bu (n + 1) a (nI _) = _
    rw [f_X12_standers_b4, hB.riders, h.riders.1, if_pos (nI_le (Nat.le_refl _) (by omega))]) (fuel := 4096) (by omega)
/-- what the reference sees: the class's scene -/
theorem pu_sees (h : pu_GP pl) (hB : pu_RB pl bu) (hR : pu_RR pl rd (yW_r w)) {looks : LooksT} (hL : pu_RL pl rd (yLooks_r looks)) (mo : MOT) (who : WhoT) (look : LookT) {but : Int32} (hb : ∀ r, r < vN pl → nI r = but → vSits rd r = false) : ∃ who2 look2, f_X12_sees mo w looks who look bu but = some (who2, look2) ∧ pu_RS pl (rd_scene rd) (yWho_r who2) (yLook_r look2) := by
  have hn := h.n31
  rw [f_X12_sees]
  refine pu_for (fun n i (a : WhoT) => f_X12_sees_b2 mo w looks bu n but i a look) 20 (fun i a => ∀ s, s < i → yWho_r a s = -2) (fun o => ∃ who2 look2, o = some (who2, look2) ∧ pu_RS pl (rd_scene rd) (yWho_r who2) (yLook_r look2)) ?_ ?_ 20 0 who 4096 (by omega) (by omega) (fun s hs => absurd hs (by omega))
  · intro n i a hi hI
    refine Or.inl ?_
    show ∃ a', f_X12_sees_b2 mo w looks bu (n + 1) but (nI i) a look = _ ∧ _
    rw [f_X12_sees_b2, if_neg (pu_ge20 hi), if_pos (pu_inn hi (by omega)), nI_clamp (by omega), f_X12_sees_b16, nI_1]
    refine ⟨_, rfl, fun s hs => ?_⟩
    show upd (yWho_r a) i (-2) s = -2
    by_cases q : s = i
    · subst q; exact pk_us
    · rw [pk_un q]; exact hI s (by omega)
  · intro n a hI
    show ∃ who2 look2, f_X12_sees_b2 mo w looks bu (n + 1) but (nI 20) a look = _ ∧ _
    rw [f_X12_sees_b2, if_pos pu_le20]
    refine pu_for (fun n i (a : WhoT × LookT) => f_X12_sees_b24 mo w looks bu n but i a.1 a.2) (vN pl) (fun i a => ∀ s, s < 20 → (yWho_r a.1 s = -2 ∧ ∀ r, r < i → ¬ rd_place rd r = nI s) ∨ ∃ r, r < i ∧ rd_place rd r = nI s ∧ yWho_r a.1 s = nI r ∧ yLook_r a.2 s = yLooks_r looks r) (fun o => ∃ who2 look2, o = some (who2, look2) ∧ pu_RS pl (rd_scene rd) (yWho_r who2) (yLook_r look2)) ?_ ?_ (vN pl) 0 (a, look) 4096 (by omega) (by omega) (fun s hs => Or.inl ⟨hI s hs, fun r hr => absurd hr (by omega)⟩)
    · intro n i a hi hI
      obtain ⟨wh, lk⟩ := a
      refine Or.inl ?_
      show ∃ a', f_X12_sees_b24 mo w looks bu (n + 1) but (nI i) wh lk = _ ∧ _
      obtain ⟨p, ep, hp⟩ := hR.plv i hi
      have skip : vSits rd i = false → ∀ s, s < 20 → (yWho_r wh s = -2 ∧ ∀ r, r < i + 1 → ¬ rd_place rd r = nI s) ∨ ∃ r, r < i + 1 ∧ rd_place rd r = nI s ∧ yWho_r wh s = nI r ∧ yLook_r lk s = yLooks_r looks r := by
        intro hv s hs
        rw [pu_sitsP (by omega) ep, decide_eq_false_iff_not] at hv
        rcases hI s hs with ⟨x, y⟩ | ⟨r, hr, x⟩
        · refine Or.inl ⟨x, fun r hr e => ?_⟩
          rcases Nat.lt_or_ge r i with z | z
          · exact y r z e
          · rw [show r = i by omega, ep, nI_eq (by omega) (by omega)] at e
            omega
        · exact Or.inr ⟨r, by omega, x⟩
      rw [f_X12_sees_b24, hB.riders, h.riders.1, if_neg (nI_ge hi (by omega)), nI_1]
      by_cases q : nI i = but
      · rw [if_pos q]
        exact ⟨(wh, lk), rfl, skip (hb i hi q)⟩
      · rw [if_neg q, pu_isSittingM h hR mo hi]
        cases hv : vSits rd i
        · show ∃ a', f_X12_sees_b84 mo w looks bu _ but (nI i) wh lk = _ ∧ _
          rw [f_X12_sees_b84, nI_1]
          exact ⟨(wh, lk), rfl, skip hv⟩
        · rw [pu_sitsP (by omega) ep, decide_eq_true_iff] at hv
          rw [pu_sb, pu_ifb, pu_tt, pu_z, if_pos (pu_inn (by omega) (by omega)), nI_clamp (by omega), hR.pla i hi, ep, if_pos (pu_inn hv (by omega)), nI_clamp (by omega), f_X12_sees_b65, pu_z, if_pos (pu_inn (by omega) (by omega)), if_pos (pu_inn (by omega) (by omega)), nI_clamp (by omega), hR.pla i hi, ep, if_pos (pu_inn hv (by omega)), nI_clamp (by omega), f_X12_sees_b84, nI_1]
          refine ⟨(_, _), rfl, fun s hs => ?_⟩
          show (upd (yWho_r wh) p (nI i) s = -2 ∧ _) ∨ ∃ r, r < i + 1 ∧ rd_place rd r = nI s ∧ upd (yWho_r wh) p (nI i) s = nI r ∧ upd (yLook_r lk) p (yLooks_r looks i) s = yLooks_r looks r
          by_cases q2 : s = p
          · subst q2
            exact Or.inr ⟨i, by omega, ep, pk_us, pk_us⟩
          · rw [pk_un q2, pk_un q2]
            rcases hI s hs with ⟨x, y⟩ | ⟨r, hr, x⟩
            · refine Or.inl ⟨x, fun r hr e => ?_⟩
              rcases Nat.lt_or_ge r i with z | z
              · exact y r z e
              · rw [show r = i by omega, ep, nI_eq (by omega) (by omega)] at e
                exact q2 e.symm
            · exact Or.inr ⟨r, by omega, x⟩
    · intro n a hI
      obtain ⟨wh, lk⟩ := a
      show ∃ who2 look2, f_X12_sees_b24 mo w looks bu (n + 1) but (nI _) wh lk = _ ∧ _
      rw [f_X12_sees_b24, hB.riders, h.riders.1, if_pos (nI_le (Nat.le_refl _) (by omega))]
      refine ⟨wh, lk, rfl, fun s hs => ?_⟩
      rcases hI s hs with ⟨x, y⟩ | ⟨r, hr, x, y, z⟩
      · rcases hR.sit s hs with ⟨u, v⟩ | ⟨r, hr, u, v⟩
        · exact Or.inl ⟨u, x⟩
        · exact absurd v (y r hr)
      · rcases hR.sit s hs with ⟨u, v⟩ | ⟨r2, hr2, u, v⟩
        · exact absurd x (v r hr)
        · have e := hR.uni r r2 s hr hr2 hs x v
          subst e
          exact Or.inr (Or.inl ⟨r, hr, u, y, by rw [z, hL.1 r hr]⟩)
end PR
