/-! what is seen: seat, rider, way, led, size; doorway; sorted; deals -/
section PX
variable {pl : PlanT} {bu : BusT} {rd : RideT} {w : WT} {tp : TopT}
theorem pu_seat4 (h : pu_GP pl) (hB : pu_RB pl bu) (hb : tp_hasBus tp = 1) (mo : MOT) (x y : Int32) : pu_An tp mo (f_X10_seat tp pl x y) (f_X12_seat mo bu x y) := by
  have hr := h.rows.2
  rw [f_X10_seat, f_X12_seat, f_X12_seat_b5, hb, if_neg pu_10, h.rows4, hB.rows, h.rows4, f_X10_seat_b36, f_X12_seat_b38]
  rcases pk_ix x (n := 4 * vRows pl) (by omega) with q | q | ⟨s, hs, rfl⟩
  · rw [if_pos q, if_pos q]; exact ⟨_, 1, by decide, rfl, rfl⟩
  · by_cases q0 : x < 0
    · rw [if_pos q0, if_pos q0]; exact ⟨_, 1, by decide, rfl, rfl⟩
    · rw [if_neg q0, if_neg q0, if_pos q, if_pos q]; exact ⟨_, 1, by decide, rfl, rfl⟩
  · rw [if_neg (nI_pos (by omega)), if_neg (nI_pos (by omega)), if_neg (nI_ge hs (by omega)), if_neg (nI_ge hs (by omega))]
    have hm : s % 4 < 4 := Nat.mod_lt _ (by omega)
    have ex := pu_x20 s (by omega)
    rcases pu_inM y (n := 3) (by omega) with ⟨⟨k, hk, rfl⟩, e⟩ | ⟨q, e⟩
    · have e' : f_X12_in (nI k) (0 : Int32) (3 : Int32) = some 1 := e
      have e1 : f_X10_isSeat tp pl (nI s) = some (pu_bI (vSeat pl s)) := by
        rw [f_X10_isSeat, hb, if_neg pu_10, if_neg (nI_pos (by omega)), if_neg (pu_ge20 (show s < 20 by omega)), pu_hb _ (by omega), h.seats, pu_mk_bt _ 20 (by omega), decide_eq_true (show s < 20 by omega), Bool.true_and, pu_sb, pu_ifb]
        cases vSeat pl s <;> rfl
      rw [e', pu_sb, if_neg pu_10, if_neg (nI_pos (by omega)), if_pos (show nI k ≤ (3 : Int32) from nI_le (a := k) (b := 3) (by omega) (by omega)), e1, pu_isSeatM h hB _ (by omega), pu_sb]
      rcases (show k = 0 ∨ k = 1 ∨ k = 2 ∨ k = 3 by omega) with rfl | rfl | rfl | rfl
      · rw [if_pos (show nI 0 = 0 from rfl), if_pos (show nI 0 = 0 from rfl), pu_sb, pu_ifb, pu_ifb]
        cases vSeat pl s
        · exact ⟨0, 0, by decide, rfl, rfl⟩
        · exact ⟨1, 0, by decide, rfl, rfl⟩
      · rw [if_neg (show ¬ nI 1 = 0 by decide), if_neg (show ¬ nI 1 = 0 by decide), pu_sb, pu_ifb, pu_ifb]
        cases hv : vSeat pl s
        · exact ⟨_, 1, by decide, rfl, rfl⟩
        · rw [pu_tt, pu_tt, if_pos (show nI 1 = 1 by decide), if_pos (show nI 1 = 1 by decide), pu_rem4 (by omega), pu_and3 (by omega), pu_isWin _ hm, pu_isWinM _ hm, pu_sb, pu_sb, pu_ifb, pu_ifb]
          cases pu_win (s % 4)
          · exact ⟨0, 0, by decide, rfl, rfl⟩
          · exact ⟨1, 0, by decide, rfl, rfl⟩
      · rw [if_neg (show ¬ nI 2 = 0 by decide), if_neg (show ¬ nI 2 = 0 by decide), pu_sb, pu_ifb, pu_ifb]
        cases hv : vSeat pl s
        · exact ⟨_, 1, by decide, rfl, rfl⟩
        · rw [pu_tt, pu_tt, if_neg (show ¬ nI 2 = 1 by decide), if_neg (show ¬ nI 2 = 1 by decide), if_pos (show nI 2 = 2 by decide), if_pos (show nI 2 = 2 by decide), pu_rem4 (by omega), pu_and3 (by omega), hB.form, h.form.1, pu_isAis _ h.form.2 _ hm, pu_isAisM _ h.form.2 _ hm, pu_sb, pu_sb, pu_ifb, pu_ifb]
          cases pu_ais (vForm pl) (s % 4)
          · exact ⟨0, 0, by decide, rfl, rfl⟩
          · exact ⟨1, 0, by decide, rfl, rfl⟩
      · rw [if_neg (show ¬ nI 3 = 0 by decide), if_neg (show ¬ nI 3 = 0 by decide), pu_sb, pu_ifb, pu_ifb]
        cases hv : vSeat pl s
        · exact ⟨_, 1, by decide, rfl, rfl⟩
        · rw [pu_tt, pu_tt, if_neg (show ¬ nI 3 = 1 by decide), if_neg (show ¬ nI 3 = 1 by decide), if_neg (show ¬ nI 3 = 2 by decide), if_neg (show ¬ nI 3 = 2 by decide), if_pos (pu_inn (show s < 20 by omega) (by omega)), nI_clamp (by omega), h.bes s (by omega), hv, Bool.true_and, pu_besideM h hB _ (show s < 20 by omega), pu_sb]
          cases vB2 pl s
          · exact ⟨-2, 0, by decide, rfl, rfl⟩
          · rw [pu_tt, pu_tt, if_neg (pu_ne1 (by omega)), pu_sb]
            exact ⟨nI (s ^^^ 1), 0, by decide, rfl, rfl⟩
    · have e' : f_X12_in y (0 : Int32) (3 : Int32) = some 0 := e
      rw [e', pu_sb, if_pos rfl]
      by_cases c : y < 0
      · rw [if_pos c]; exact ⟨_, 1, by decide, rfl, rfl⟩
      · have q4 : (4 : Int32) ≤ y := q.resolve_left c
        rw [if_neg c, if_neg (fun z => absurd (Int32.le_trans q4 z) (by decide))]
        exact ⟨_, 1, by decide, rfl, rfl⟩
theorem pu_rider (h : pu_GP pl) (hB : pu_RB pl bu) (hb : tp_hasBus tp = 1) (mo : MOT) (x y : Int32) : ∃ v, f_X10_rider tp pl x y = some v ∧ f_X12_rider mo bu x y = some (v, mo_set_thrown mo 0) := by
  have hn := h.n31
  rw [f_X10_rider, f_X12_rider, f_X12_rider_b5]
  rcases pu_riderX h hB hb (mo_set_thrown mo 0) x with ⟨r, hr, rfl, e1, e2⟩ | ⟨e1, e2⟩
  · rw [e1, e2, pu_sb, pu_sb, if_neg pu_10, if_neg pu_10]
    simp only [if_pos (pu_inn (c := r) (N := 8) (by omega) (by omega)), nI_clamp (show r < 2 ^ 31 by omega), hB.on r hr, hB.off r hr, hB.rule r hr, hB.looks r hr, hB.age r hr, hB.bag r hr, hB.proud r hr]
    rcases pu_inM y (n := 7) (by omega) with ⟨⟨k, hk, rfl⟩, e⟩ | ⟨q, e⟩
    · have e' : f_X12_in (nI k) (0 : Int32) (7 : Int32) = some 1 := e
      rw [e', pu_sb, if_neg pu_10]
      rcases (show k = 0 ∨ k = 1 ∨ k = 2 ∨ k = 3 ∨ k = 4 ∨ k = 5 ∨ k = 6 ∨ k = 7 by omega) with rfl | rfl | rfl | rfl | rfl | rfl | rfl | rfl
      · exact ⟨_, rfl, rfl⟩
      · exact ⟨_, rfl, rfl⟩
      · exact ⟨_, rfl, rfl⟩
      · exact ⟨_, rfl, rfl⟩
      · exact ⟨_, rfl, rfl⟩
      · rcases h.bag r hr with z | z
        · rw [z]; exact ⟨0, rfl, rfl⟩
        · rw [z]; exact ⟨1, rfl, rfl⟩
      · rcases h.proud r hr with z | z
        · rw [z]; exact ⟨0, rfl, rfl⟩
        · rw [z]; exact ⟨1, rfl, rfl⟩
      · refine ⟨qr_held (pl_riders pl) r, rfl, ?_⟩
        show (if bu_holds bu r = (-1 : Int32) then some ((-2 : Int32), mo_set_thrown mo 0) else some (bu_holds bu r, mo_set_thrown mo 0)) = _
        rcases hB.held r hr with ⟨a, b⟩ | ⟨a, b⟩
        · rw [if_pos b, a]
        · rw [b]
          rcases h.held r hr with c | ⟨q, hq, c⟩
          · exact absurd c a
          · rw [c, if_neg (pu_ne1 (by omega))]
    · have e' : f_X12_in y (0 : Int32) (7 : Int32) = some 0 := e
      rw [e', pu_sb, if_pos rfl]
      have ny : ∀ k : Nat, k < 8 → ¬ y = nI k := fun k hk ey => by
        rcases q with q | q
        · rw [ey] at q; exact nI_pos (by omega) q
        · rw [ey] at q; exact nI_ge hk (by omega) q
      rw [if_neg (show ¬ y = (0 : Int32) from ny 0 (by omega)), if_neg (show ¬ y = (1 : Int32) from ny 1 (by omega)), if_neg (show ¬ y = (2 : Int32) from ny 2 (by omega)), if_neg (show ¬ y = (3 : Int32) from ny 3 (by omega)), if_neg (show ¬ y = (4 : Int32) from ny 4 (by omega)), if_neg (show ¬ y = (5 : Int32) from ny 5 (by omega)), if_neg (show ¬ y = (6 : Int32) from ny 6 (by omega)), if_neg (show ¬ y = (7 : Int32) from ny 7 (by omega))]
      exact ⟨-1, rfl, rfl⟩
  · rw [e1, e2, pu_sb, pu_sb, if_pos rfl, if_pos rfl]
    exact ⟨-1, rfl, rfl⟩
theorem pu_way (h : pu_GP pl) (hB : pu_RB pl bu) (hb : tp_hasBus tp = 1) (mo : MOT) (x y : Int32) : ∃ v, f_X10_way tp pl x y = some v ∧ f_X12_way mo bu x y = some (v, mo_set_thrown mo 0) := by
  have hR4 := h.rules.2
  rw [f_X10_way, f_X12_way, f_X12_way_b5, f_X10_way_b32, f_X12_way_b46]
  rcases pu_ruleX h hB hb (mo_set_thrown mo 0) x with ⟨r, hr, rfl, e1, e2⟩ | ⟨e1, e2⟩
  · have hw := h.ways r hr
    rw [e1, e2, pu_sb, pu_sb, if_neg pu_10, if_neg pu_10]
    simp only [if_pos (pu_inn (c := r) (N := 4) (by omega) (by omega)), nI_clamp (show r < 2 ^ 31 by omega), hB.ways r hr, hw.1]
    rcases pk_ix y (n := vWays pl r) (by omega) with q | q | ⟨j, hj, rfl⟩
    · rw [if_pos q, if_pos q]; exact ⟨_, rfl, rfl⟩
    · by_cases q0 : y < 0
      · rw [if_pos q0, if_pos q0]; exact ⟨_, rfl, rfl⟩
      · rw [if_neg q0, if_neg q0, if_pos q, if_neg (fun z => Int32.lt_irrefl (fa_trans z q))]
        exact ⟨_, rfl, rfl⟩
    · rw [if_neg (nI_pos (by omega)), if_neg (nI_pos (by omega)), if_pos (nI_lt hj (by omega)), if_neg (nI_ge hj (by omega)), if_pos (pu_inn (by omega) (by omega)), nI_clamp (by omega), show (4 : Int32) * nI r = nI (4 * r) from pk_mul 4 r, nI_add, if_pos (pu_inn (by omega) (by omega)), nI_clamp (by omega), hB.want r hr j hj]
      exact ⟨_, rfl, rfl⟩
  · rw [e1, e2, pu_sb, pu_sb, if_pos rfl, if_pos rfl]
    exact ⟨_, rfl, rfl⟩
/-- led: one who stands, or none -/
theorem pu_led (h : pu_GP pl) (hB : pu_RB pl bu) (hR : pu_RR pl rd (yW_r w)) (mo : MOT) (x : Int32) : (f_X6_standerAt rd pl x = some (-1) ∧ f_X12_led mo w bu x = some (0, mo_set_thrown mo 1)) ∨ ∃ r, r < vN pl ∧ f_X6_standerAt rd pl x = some (nI r) ∧ f_X12_led mo w bu x = some (nI r, mo_set_thrown mo 0) := by
  have hn := h.n31
  rw [f_X6_standerAt, f_X12_led, f_X12_led_b5]
  refine pu_for2 (fun n i (a : Int32) => f_X6_standerAt_b4 rd pl n x a i) (fun n i (c : Int32) => f_X12_led_b9 w bu n x c i (mo_set_thrown mo 0)) (vN pl) (fun _ a c => a = c) (fun o o2 => (o = some (-1) ∧ o2 = some (0, mo_set_thrown mo 1)) ∨ ∃ r, r < vN pl ∧ o = some (nI r) ∧ o2 = some (nI r, mo_set_thrown mo 0)) ?_ ?_ (vN pl) 0 0 0 4096 (by omega) (by omega) rfl
  · intro n i a c hi e
    subst e
    show (∃ a' c', f_X6_standerAt_b4 rd pl (n + 1) x a (nI i) = _ ∧ f_X12_led_b9 w bu (n + 1) x a (nI i) (mo_set_thrown mo 0) = _ ∧ _) ∨ ((f_X6_standerAt_b4 rd pl (n + 1) x a (nI i) = _ ∧ f_X12_led_b9 w bu (n + 1) x a (nI i) (mo_set_thrown mo 0) = _) ∨ ∃ r, _ ∧ f_X6_standerAt_b4 rd pl (n + 1) x a (nI i) = _ ∧ f_X12_led_b9 w bu (n + 1) x a (nI i) (mo_set_thrown mo 0) = _)
    rw [f_X6_standerAt_b4, h.riders.1, if_neg (nI_ge hi (by omega)), if_pos (pu_inn (by omega) (by omega)), nI_clamp (by omega), f_X12_led_b9, hB.riders, h.riders.1, if_neg (nI_ge hi (by omega)), pu_z, if_pos (pu_inn (by omega) (by omega)), nI_clamp (by omega), hR.pla i hi, nI_1]
    by_cases c1 : rd_place rd i = 101
    · rw [if_pos c1, if_pos c1]
      by_cases c2 : a = x
      · rw [if_pos c2, if_pos c2]; exact Or.inr (Or.inr ⟨i, hi, rfl, rfl⟩)
      · rw [if_neg c2, if_neg c2]; exact Or.inl ⟨a + 1, a + 1, rfl, rfl, rfl⟩
    · rw [if_neg c1, if_neg c1]; exact Or.inl ⟨a, a, rfl, rfl, rfl⟩
  · intro n a c e
    subst e
    show (f_X6_standerAt_b4 rd pl (n + 1) x a (nI (vN pl)) = _ ∧ f_X12_led_b9 w bu (n + 1) x a (nI (vN pl)) (mo_set_thrown mo 0) = _) ∨ _
    rw [f_X6_standerAt_b4, h.riders.1, if_pos (nI_le (Nat.le_refl _) (by omega)), f_X12_led_b9, hB.riders, h.riders.1, if_pos (nI_le (Nat.le_refl _) (by omega))]
    exact Or.inl ⟨rfl, rfl⟩
def pu_cc (S0 W0 : Int32) (a b : Bool) (d : Int32) : Bool := if a = true then (if b = true then decide (S0 < 2 * d) else decide (W0 < d)) else (if b = true then decide (2 * d < S0) else decide (d < W0))
/-- by the door, within -/
theorem pu_doorway (h : pu_GP pl) (hB : pu_RB pl bu) (hR : pu_RR pl rd (yW_r w)) (hb : tp_hasBus tp = 1) (mo : MOT) (x y : Int32) : pu_An tp mo (f_X10_doorway tp rd pl x y) (f_X12_doorway mo w bu x y) := by
  have hn := h.n31
  have hs := hR.sto
  rw [f_X10_doorway, f_X12_doorway, f_X12_doorway_b5, f_X10_doorway_b21, f_X12_doorway_b26, f_X10_doorway_b55, f_X12_doorway_b58]
  rcases pu_riderX h hB hb (mo_set_thrown mo 0) x with ⟨r, hr, rfl, e1, e2⟩ | ⟨e1, e2⟩
  · rw [e1, e2, pu_sb, pu_sb, if_neg pu_10, if_neg pu_10]
    rcases pu_riderX h hB hb (mo_set_thrown mo 0) y with ⟨q, hq, rfl, e3, e4⟩ | ⟨e3, e4⟩
    · rw [e3, e4, pu_sb, pu_sb, if_neg pu_10, if_neg pu_10]
      by_cases c0 : nI r = nI q
      · rw [if_pos c0, if_pos c0]; exact ⟨_, 1, by decide, rfl, rfl⟩
      · rw [if_neg c0, if_neg c0]
        simp only [if_pos (pu_inn (c := r) (N := 8) (by omega) (by omega)), nI_clamp (show r < 2 ^ 31 by omega), if_pos (pu_inn (c := q) (N := 8) (by omega) (by omega)), nI_clamp (show q < 2 ^ 31 by omega), pu_z, if_pos (pu_inn (c := r) (N := 56) (by omega) (by omega)), if_pos (pu_inn (c := q) (N := 56) (by omega) (by omega)), hR.pla r hr, hR.pla q hq]
        by_cases c1 : rd_place rd r = 101
        · rw [if_pos c1, if_pos c1]
          by_cases c2 : rd_place rd q = 101
          · rw [if_pos c2, if_pos c2]
            generalize eD : cb_pace (pl_cab pl) * (qr_off (pl_riders pl) r - rd_stops rd + 1) = D
            generalize eE : cb_pace (pl_cab pl) * (qr_off (pl_riders pl) q - rd_stops rd + 1) = E
            generalize eW : cb_pace (pl_cab pl) * ((1 : Int32) + cb_rows (pl_cab pl)) + cb_rise (pl_cab pl) = W0
            generalize eS : W0 + cb_rise (pl_cab pl) = S0
            have bd : f_X10_byDoor tp rd pl (nI r) = some D := by
              rw [f_X10_byDoor, if_pos (pu_inn (by omega) (by omega)), nI_clamp (by omega), eD]
            have be : f_X10_byDoor tp rd pl (nI q) = some E := by
              rw [f_X10_byDoor, if_pos (pu_inn (by omega) (by omega)), nI_clamp (by omega), eE]
            have rests : ∀ (i : Nat) (d : Int32), i < vN pl → cb_pace (pl_cab pl) * (qr_off (pl_riders pl) i - rd_stops rd + 1) = d → ∀ a b : Bool, f_X12_rests (mo_set_thrown mo 0) w bu (nI i) (pu_bI a) (pu_bI b) = some (pu_bI (!pu_cc S0 W0 a b d)) := by
              intro i d hi ed a b
              rw [f_X12_rests, f_X12_doorCost, if_pos (pu_inn (by omega) (by omega)), nI_clamp (by omega), if_pos pu_i52, pu_e52, hs.1, hB.off i hi, hB.pace, ed, f_X12_withinCost, hB.pace, hB.rows, hB.rise, eW, eS, Int32.add_zero, pu_ifb, pu_ifb]
              cases a
              · cases b
                · rw [pu_ff, pu_ff, pu_sb, pu_sb, pu_ifb, pu_ff]
                  show _ = some (pu_bI (!decide (d < W0)))
                  by_cases c : d < W0
                  · rw [if_pos c, decide_eq_true c]; rfl
                  · rw [if_neg c, decide_eq_false c]; rfl
                · rw [pu_tt, pu_tt, pu_sb, pu_sb, pu_ifb, pu_ff]
                  show _ = some (pu_bI (!decide (2 * d < S0)))
                  by_cases c : 2 * d < S0
                  · rw [if_pos c, decide_eq_true c]; rfl
                  · rw [if_neg c, decide_eq_false c]; rfl
              · cases b
                · rw [pu_ff, pu_ff, pu_sb, pu_sb, pu_ifb, pu_tt]
                  show _ = some (pu_bI (!decide (W0 < d)))
                  by_cases c : W0 < d
                  · rw [if_pos c, decide_eq_true c]; rfl
                  · rw [if_neg c, decide_eq_false c]; rfl
                · rw [pu_tt, pu_tt, pu_sb, pu_sb, pu_ifb, pu_tt]
                  show _ = some (pu_bI (!decide (S0 < 2 * d)))
                  by_cases c : S0 < 2 * d
                  · rw [if_pos c, decide_eq_true c]; rfl
                  · rw [if_neg c, decide_eq_false c]; rfl
            -- the reference, pair by pair
            have step : ∀ (k69 : Int32 → Int32 → Int32 → Int32 → MOT → Option (Int32 × MOT)) (v k : Int32) (a b : Bool), f_X12_doorway_b104 w bu k69 (nI r) (nI q) v k (pu_bI a) (pu_bI b) (mo_set_thrown mo 0) = k69 (nI r) (nI q) (if pu_cc S0 W0 a b D = true then v else if pu_cc S0 W0 b a E = true then v else v ||| ((1 : Int32) <<< (k &&& 31))) (k + 1) (mo_set_thrown mo 0) := by
              intro k69 v k a b
              rw [f_X12_doorway_b104, rests r D hr eD a b, pu_sb, pu_ifb, rests q E hq eE b a, pu_sb, pu_ifb]
              cases pu_cc S0 W0 a b D
              · cases pu_cc S0 W0 b a E
                · rfl
                · rfl
              · rfl
            obtain ⟨v0, e0⟩ : ∃ v : Int32, v = if S0 < 2 * D then 0 else if S0 < 2 * E then 0 else (0 : Int32) ||| 1 := ⟨_, rfl⟩
            obtain ⟨v1, e1'⟩ : ∃ v : Int32, v = if W0 < D then v0 else if 2 * E < S0 then v0 else v0 ||| 2 := ⟨_, rfl⟩
            obtain ⟨v2, e2'⟩ : ∃ v : Int32, v = if 2 * D < S0 then v1 else if W0 < E then v1 else v1 ||| 4 := ⟨_, rfl⟩
            obtain ⟨v3, e3'⟩ : ∃ v : Int32, v = if D < W0 then v2 else if E < W0 then v2 else v2 ||| 8 := ⟨_, rfl⟩
            have m0 := step (f_X12_doorway_b69 w bu 4095) 0 0 true true
            have m1 := step (f_X12_doorway_b69 w bu 4094) v0 (0 + 1) true false
            have m2 := step (f_X12_doorway_b69 w bu 4093) v1 (0 + 1 + 1) false true
            have m3 := step (f_X12_doorway_b69 w bu 4092) v2 (0 + 1 + 1 + 1) false false
            simp only [pu_cc, pu_tt, pu_ff, if_true, decide_eq_true_eq] at m0 m1 m2 m3
            have eM : f_X12_doorway_b69 w bu 4096 (nI r) (nI q) 0 0 (mo_set_thrown mo 0) = some (v3, pu_mt mo 0) := by
              have n0 : f_X12_doorway_b69 w bu 4096 (nI r) (nI q) 0 0 (mo_set_thrown mo 0) = f_X12_doorway_b69 w bu 4095 (nI r) (nI q) v0 (0 + 1) (mo_set_thrown mo 0) := by
                rw [f_X12_doorway_b69, if_neg (by decide), if_neg (by decide), f_X12_doorway_b86, if_pos rfl, f_X12_doorway_b99]
                refine Eq.trans m0 ?_
                rw [e0]; rfl
              have n1 : f_X12_doorway_b69 w bu 4095 (nI r) (nI q) v0 (0 + 1) (mo_set_thrown mo 0) = f_X12_doorway_b69 w bu 4094 (nI r) (nI q) v1 (0 + 1 + 1) (mo_set_thrown mo 0) := by
                rw [f_X12_doorway_b69, if_neg (by decide), if_neg (by decide), f_X12_doorway_b86, if_neg (by decide), if_neg (by decide)]
                refine Eq.trans m1 ?_
                rw [e1']; rfl
              have n2 : f_X12_doorway_b69 w bu 4094 (nI r) (nI q) v1 (0 + 1 + 1) (mo_set_thrown mo 0) = f_X12_doorway_b69 w bu 4093 (nI r) (nI q) v2 (0 + 1 + 1 + 1) (mo_set_thrown mo 0) := by
                rw [f_X12_doorway_b69, if_neg (by decide), if_pos (by decide), f_X12_doorway_b86, if_neg (by decide), if_pos (by decide), f_X12_doorway_b99]
                refine Eq.trans m2 ?_
                rw [e2']; rfl
              have n3 : f_X12_doorway_b69 w bu 4093 (nI r) (nI q) v2 (0 + 1 + 1 + 1) (mo_set_thrown mo 0) = f_X12_doorway_b69 w bu 4092 (nI r) (nI q) v3 (0 + 1 + 1 + 1 + 1) (mo_set_thrown mo 0) := by
                rw [f_X12_doorway_b69, if_neg (by decide), if_pos (by decide), f_X12_doorway_b86, if_neg (by decide), if_neg (by decide)]
                refine Eq.trans m3 ?_
                rw [e3']; rfl
              rw [n0, n1, n2, n3, f_X12_doorway_b69, if_pos (by decide)]
              rfl
            have eC : f_X10_rests tp rd pl (nI r) (nI q) = some v3 := by
              have b132 : ∀ v7, f_X10_rests_b132 tp rd pl D E W0 v7 = some (if D < W0 then v7 else if E < W0 then v7 else v7 ||| 8) := fun v7 => by
                rw [f_X10_rests_b132]
                by_cases c : D < W0
                · rw [if_pos c, if_pos c]
                · rw [if_neg c, if_neg c]
                  by_cases c' : E < W0
                  · rw [if_pos c', if_pos c']
                  · rw [if_neg c', if_neg c']
              have b111 : ∀ v7, f_X10_rests_b111 tp rd pl D E W0 S0 v7 = f_X10_rests_b132 tp rd pl D E W0 (if 2 * D < S0 then v7 else if W0 < E then v7 else v7 ||| 4) := fun v7 => by
                rw [f_X10_rests_b111]
                by_cases c : W0 < E
                · rw [if_pos c, if_pos c]
                  by_cases c' : 2 * D < S0
                  · rw [if_pos c']
                  · rw [if_neg c']
                · rw [if_neg c, if_neg c]
                  by_cases c' : 2 * D < S0
                  · rw [if_pos c', if_pos c']
                  · rw [if_neg c', if_neg c']
              have b90 : ∀ v7, f_X10_rests_b90 tp rd pl D E W0 S0 v7 = f_X10_rests_b111 tp rd pl D E W0 S0 (if W0 < D then v7 else if 2 * E < S0 then v7 else v7 ||| 2) := fun v7 => by
                rw [f_X10_rests_b90]
                by_cases c : W0 < D
                · rw [if_pos c, if_pos c]
                · rw [if_neg c, if_neg c]
                  by_cases c' : 2 * E < S0
                  · rw [if_pos c', if_pos c']
                  · rw [if_neg c', if_neg c']
              rw [f_X10_rests, bd, pu_sb, be, pu_sb, eW, eS, b90, b90, b111, b111, b132, b132]
              by_cases c : S0 < 2 * D
              · rw [if_pos c] at e0 ⊢
                rw [e3', e2', e1', e0]
              · rw [if_neg c] at e0 ⊢
                by_cases c' : S0 < 2 * E
                · rw [if_pos c'] at e0 ⊢
                  rw [e3', e2', e1', e0]
                · rw [if_neg c'] at e0 ⊢
                  rw [e3', e2', e1', e0]
            rw [eC, eM, pu_sb]
            exact ⟨v3, 0, by decide, rfl, rfl⟩
          · rw [if_neg c2, if_neg c2]; exact ⟨_, 5, by decide, rfl, rfl⟩
        · rw [if_neg c1, if_neg c1]; exact ⟨_, 5, by decide, rfl, rfl⟩
    · rw [e3, e4, pu_sb, pu_sb, if_pos rfl, if_pos rfl]
      exact ⟨_, 1, by decide, rfl, rfl⟩
  · rw [e1, e2, pu_sb, pu_sb, if_pos rfl, if_pos rfl]
    exact ⟨_, 1, by decide, rfl, rfl⟩
theorem pu_size (h : pu_GP pl) (hB : pu_RB pl bu) (hR : pu_RR pl rd (yW_r w)) (hb : tp_hasBus tp = 1) {mo : MOT} {ps : ParserT} {fm : FilmsT} (hl : ps_length ps = mo_taped mo) (hm : tp_markCount tp = mo_marks mo) (hf : fm_count fm = mo_films mo) (x : Int32) : ∃ v, f_X10_size tp ps pl rd fm x = some v ∧ f_X12_size mo w bu x = some (v, mo_set_thrown mo 0) := by
  obtain ⟨kk, _, k1, k2, _⟩ := pu_count (x := pu_mk (vSeat pl) 20) (fun i hi => by
    rw [pu_mk_bt _ 20 (by omega), Bool.and_eq_true, decide_eq_true_iff] at hi
    exact hi.1)
  rw [f_X10_size, f_X12_size, f_X12_size_b5, hb, hl, hm, hf, h.seats, k1, pu_allSeatsM h hB, pu_sb, pu_sb, k2, pu_sb, if_pos pu_i52, pu_e52, hR.sto.1, hB.riders, hB.rules, hB.nfri, hB.nhold, hB.form]
  rcases pu_inM x (n := 8) (by omega) with ⟨⟨k, hk, rfl⟩, e⟩ | ⟨q, e⟩
  · have e' : f_X12_in (nI k) (0 : Int32) (8 : Int32) = some 1 := e
    rw [e', pu_sb, if_neg pu_10]
    rcases (show k = 0 ∨ k = 1 ∨ k = 2 ∨ k = 3 ∨ k = 4 ∨ k = 5 ∨ k = 6 ∨ k = 7 ∨ k = 8 by omega) with rfl | rfl | rfl | rfl | rfl | rfl | rfl | rfl | rfl <;> exact ⟨_, rfl, rfl⟩
  · have e' : f_X12_in x (0 : Int32) (8 : Int32) = some 0 := e
    rw [e', pu_sb, if_pos rfl]
    have ny : ∀ k : Nat, k < 9 → ¬ x = nI k := fun k hk ey => by
      rcases q with q | q
      · rw [ey] at q; exact nI_pos (by omega) q
      · rw [ey] at q; exact nI_ge hk (by omega) q
    rw [if_neg (show ¬ x = (0 : Int32) from ny 0 (by omega)), if_neg (show ¬ x = (1 : Int32) from ny 1 (by omega)), if_neg (show ¬ x = (2 : Int32) from ny 2 (by omega)), if_neg (show ¬ x = (3 : Int32) from ny 3 (by omega)), if_neg (show ¬ x = (4 : Int32) from ny 4 (by omega)), if_neg (show ¬ x = (5 : Int32) from ny 5 (by omega)), if_neg (show ¬ x = (6 : Int32) from ny 6 (by omega)), if_neg (show ¬ x = (7 : Int32) from ny 7 (by omega)), if_neg (show ¬ x = (8 : Int32) from ny 8 (by omega))]
    by_cases c : x = (9 : Int32)
    · rw [if_pos c, if_pos c]; exact ⟨_, rfl, rfl⟩
    · rw [if_neg c, if_neg c]; exact ⟨_, rfl, rfl⟩
/-! sorted: pair by pair -/
def vPair (pl : PlanT) (rd : RideT) (s : Nat) : Bool := vSeat pl s && (vB2 pl s && (decide (¬ sc_sitter (rd_scene rd) s = -2) && decide (¬ sc_sitter (rd_scene rd) (s ^^^ 1) = -2)))
theorem pu_pairX (h : pu_GP pl) (rd : RideT) {s : Nat} (hs : s < 20) : vPair pl rd (s ^^^ 1) = vPair pl rd s := by
  have ex := pu_x20 s hs
  have key : ∀ t, t < 20 → vPair pl rd t = true → vPair pl rd (t ^^^ 1) = true := by
    intro t ht hv
    have et := pu_x20 t ht
    unfold vPair at hv ⊢
    simp only [Bool.and_eq_true] at hv ⊢
    have hx := pu_seat_x ht hv.1 hv.2.1
    rw [et.2.1]
    exact ⟨hx.1, hx.2, hv.2.2.2, hv.2.2.1⟩
  cases hv : vPair pl rd s
  · cases hv2 : vPair pl rd (s ^^^ 1)
    · rfl
    · have := key _ ex.1 hv2
      rw [ex.2.1, hv] at this
      cases this
  · exact key s hs hv
/-- what a pair counts: s by the window, the other by the aisle -/
def vCount (pl : PlanT) (rd : RideT) (s : Nat) : Int32 := if qr_off (pl_riders pl) (sc_sitter (rd_scene rd) s).toNatClampNeg < qr_off (pl_riders pl) (sc_sitter (rd_scene rd) (s ^^^ 1)).toNatClampNeg then -1 else 1
theorem pu_sortC (h : pu_GP pl) (hR : pu_RR pl rd (yW_r w)) : f_X6_sortedPairs rd pl = some (pu_sum (vCount pl rd) (fun s => pu_win (s % 4) && vPair pl rd s) 20) := by
  have hn := h.n31
  rw [f_X6_sortedPairs]
  refine pu_for (fun n i (a : Int32) => f_X6_sortedPairs_b4 rd pl n a i) 20 (fun i a => a = pu_sum (vCount pl rd) (fun s => pu_win (s % 4) && vPair pl rd s) i) (fun o => o = some (pu_sum (vCount pl rd) (fun s => pu_win (s % 4) && vPair pl rd s) 20)) ?_ ?_ 20 0 0 4096 (by omega) (by omega) rfl
  · intro n i a hi e
    refine Or.inl ?_
    have hm : i % 4 < 4 := Nat.mod_lt _ (by omega)
    have ex := pu_x20 i hi
    show ∃ a', f_X6_sortedPairs_b4 rd pl (n + 1) a (nI i) = _ ∧ a' = (if (pu_win (i % 4) && vPair pl rd i) = true then pu_sum (vCount pl rd) (fun s => pu_win (s % 4) && vPair pl rd s) i + vCount pl rd i else pu_sum (vCount pl rd) (fun s => pu_win (s % 4) && vPair pl rd s) i)
    rw [← e, f_X6_sortedPairs_b4, if_neg (pu_ge20 hi), if_pos (pu_inn hi (by omega)), nI_clamp (by omega)]
    have skip : vPair pl rd i = false → (if (pu_win (i % 4) && vPair pl rd i) = true then a + vCount pl rd i else a) = a := fun hz => by rw [hz, Bool.and_false, pu_ff]
    by_cases c1 : sc_sitter (rd_scene rd) i = -2
    · rw [if_pos c1, f_X6_sortedPairs_b39, if_pos rfl, nI_1]
      refine ⟨a, rfl, (skip ?_).symm⟩
      unfold vPair
      rw [decide_eq_false (show ¬ ¬ sc_sitter (rd_scene rd) i = -2 from fun z => z c1), Bool.false_and, Bool.and_false, Bool.and_false]
    · rcases hR.sit i hi with ⟨x, _⟩ | ⟨r, hr, er, epr⟩
      · exact absurd x c1
      have hsv : vSeat pl i = true := by
        obtain ⟨p, ep, hp⟩ := hR.plv r hr
        rw [epr, nI_eq (by omega) (by omega)] at ep
        subst ep
        rcases hp with hp | hp | hp | hp
        · exact hp.2
        · omega
        · omega
        · omega
      rw [if_neg c1, pu_besC h (rd_scene rd) hi hsv, pu_sb, f_X6_sortedPairs_b39, f_X6_sortedPairs_b91, f_X6_sortedPairs_b91]
      cases c2 : vB2 pl i
      · rw [pu_ff, if_pos rfl, nI_1]
        refine ⟨a, rfl, (skip ?_).symm⟩
        unfold vPair
        rw [c2, Bool.false_and, Bool.and_false]
      · rw [pu_tt]
        by_cases c3 : sc_sitter (rd_scene rd) (i ^^^ 1) = -2
        · rw [if_pos c3, nI_1]
          refine ⟨a, rfl, (skip ?_).symm⟩
          unfold vPair
          rw [decide_eq_false (show ¬ ¬ sc_sitter (rd_scene rd) (i ^^^ 1) = -2 from fun z => z c3), Bool.and_false, Bool.and_false, Bool.and_false]
        · rcases hR.sit (i ^^^ 1) ex.1 with ⟨x, _⟩ | ⟨q, hq, eq, _⟩
          · exact absurd x c3
          have hp : vPair pl rd i = true := by
            unfold vPair
            rw [hsv, c2, decide_eq_true c1, decide_eq_true c3]; rfl
          rw [if_neg c3, pu_rem4 (by omega), pu_isWin _ hm, pu_sb, pu_ifb, hp, Bool.and_true]
          have hcnt : vCount pl rd i = if qr_off (pl_riders pl) r < qr_off (pl_riders pl) q then -1 else 1 := by
            unfold vCount
            rw [er, eq, nI_clamp (by omega), nI_clamp (by omega)]
          rw [hcnt, er, eq, if_pos (pu_inn (c := q) (N := 8) (by omega) (by omega)), if_pos (pu_inn (c := r) (N := 8) (by omega) (by omega)), nI_clamp (by omega), nI_clamp (by omega), nI_1]
          cases pu_win (i % 4)
          · rw [pu_ff, pu_ff]; exact ⟨a, rfl, rfl⟩
          · rw [pu_tt, pu_tt]
            by_cases c4 : qr_off (pl_riders pl) r < qr_off (pl_riders pl) q
            · rw [if_pos c4, if_pos c4]; exact ⟨_, rfl, rfl⟩
            · rw [if_neg c4, if_neg c4]; exact ⟨_, rfl, rfl⟩
  · intro n a e
    show f_X6_sortedPairs_b4 rd pl (n + 1) a (nI 20) = _
    rw [f_X6_sortedPairs_b4, if_pos pu_le20, e]
theorem pu_sortM (h : pu_GP pl) (hB : pu_RB pl bu) (hR : pu_RR pl rd (yW_r w)) (mo : MOT) : f_X12_sorted mo w bu = some (pu_sum (fun s => vCount pl rd (s ^^^ 1)) (fun s => !pu_win (s % 4) && vPair pl rd s) (4 * vRows pl), pu_mt mo 0) := by
  have hn := h.n31
  have hr := h.rows.2
  rw [f_X12_sorted, f_X12_sorted_b5]
  refine pu_for (fun n i (a : Int32) => f_X12_sorted_b22 w bu n a i (mo_set_thrown mo 0)) (4 * vRows pl) (fun i a => a = pu_sum (fun s => vCount pl rd (s ^^^ 1)) (fun s => !pu_win (s % 4) && vPair pl rd s) i) (fun o => o = some (pu_sum (fun s => vCount pl rd (s ^^^ 1)) (fun s => !pu_win (s % 4) && vPair pl rd s) (4 * vRows pl), pu_mt mo 0)) ?_ ?_ (4 * vRows pl) 0 0 4096 (by omega) (by omega) rfl
  · intro n i a hi e
    refine Or.inl ?_
    have hm : i % 4 < 4 := Nat.mod_lt _ (by omega)
    have hi20 : i < 20 := by omega
    have ex := pu_x20 i hi20
    show ∃ a', f_X12_sorted_b22 w bu (n + 1) a (nI i) (mo_set_thrown mo 0) = _ ∧ a' = (if (!pu_win (i % 4) && vPair pl rd i) = true then pu_sum (fun s => vCount pl rd (s ^^^ 1)) (fun s => !pu_win (s % 4) && vPair pl rd s) i + vCount pl rd (i ^^^ 1) else pu_sum (fun s => vCount pl rd (s ^^^ 1)) (fun s => !pu_win (s % 4) && vPair pl rd s) i)
    rw [← e, f_X12_sorted_b22, hB.rows, h.rows4, if_neg (nI_ge hi (by omega)), pu_isSeatM h hB _ (by omega), pu_sb, pu_ifb, pu_and3 (by omega), pu_isWinM _ hm, pu_sb, pu_ifb, pu_besideM h hB _ hi20, pu_sb, pu_sitterM h hB hR _ hi20, pu_sb, nI_1]
    have skip : vPair pl rd i = false → (if (!pu_win (i % 4) && vPair pl rd i) = true then a + vCount pl rd (i ^^^ 1) else a) = a := fun hz => by rw [hz, Bool.and_false, pu_ff]
    cases c0 : vSeat pl i
    · rw [pu_ff]
      refine ⟨a, rfl, (skip ?_).symm⟩
      unfold vPair
      rw [c0, Bool.false_and]
    · rw [pu_tt]
      cases cw : pu_win (i % 4)
      · rw [pu_ff]
        cases c2 : vB2 pl i
        · rw [pu_ff, if_pos rfl]
          refine ⟨a, rfl, ?_⟩
          have := (skip (by unfold vPair; rw [c2, Bool.false_and, Bool.and_false])).symm
          rw [cw] at this
          exact this
        · rw [pu_tt, if_neg (pu_ne1 (by omega)), pu_sb, pu_sitterM h hB hR _ ex.1, pu_sb]
          by_cases c1 : sc_sitter (rd_scene rd) i = -2
          · rw [if_pos c1]
            refine ⟨a, rfl, ?_⟩
            have := (skip (by unfold vPair; rw [decide_eq_false (show ¬ ¬ sc_sitter (rd_scene rd) i = -2 from fun z => z c1), Bool.false_and, Bool.and_false, Bool.and_false])).symm
            rw [cw] at this
            exact this
          · rw [if_neg c1]
            by_cases c3 : sc_sitter (rd_scene rd) (i ^^^ 1) = -2
            · rw [if_pos c3]
              refine ⟨a, rfl, ?_⟩
              have := (skip (by unfold vPair; rw [decide_eq_false (show ¬ ¬ sc_sitter (rd_scene rd) (i ^^^ 1) = -2 from fun z => z c3), Bool.and_false, Bool.and_false, Bool.and_false])).symm
              rw [cw] at this
              exact this
            · rcases hR.sit i hi20 with ⟨x, _⟩ | ⟨r, hr2, er, _⟩
              · exact absurd x c1
              rcases hR.sit (i ^^^ 1) ex.1 with ⟨x, _⟩ | ⟨q, hq, eq, _⟩
              · exact absurd x c3
              have hp : vPair pl rd i = true := by
                unfold vPair
                rw [c0, c2, decide_eq_true c1, decide_eq_true c3]; rfl
              have hcnt : vCount pl rd (i ^^^ 1) = if qr_off (pl_riders pl) q < qr_off (pl_riders pl) r then -1 else 1 := by
                unfold vCount
                rw [ex.2.1, er, eq, nI_clamp (by omega), nI_clamp (by omega)]
              rw [if_neg c3, hp, hcnt, er, eq, if_pos (pu_inn (c := r) (N := 8) (by omega) (by omega)), if_pos (pu_inn (c := q) (N := 8) (by omega) (by omega)), nI_clamp (by omega), nI_clamp (by omega), hB.off q hq, hB.off r hr2, f_X12_sorted_b122, f_X12_sorted_b122, nI_1]
              by_cases c4 : qr_off (pl_riders pl) q < qr_off (pl_riders pl) r
              · rw [if_pos c4, if_pos c4]; exact ⟨_, rfl, rfl⟩
              · rw [if_neg c4, if_neg c4]; exact ⟨_, rfl, rfl⟩
      · rw [pu_tt]
        exact ⟨a, rfl, rfl⟩
  · intro n a e
    show f_X12_sorted_b22 w bu (n + 1) a (nI _) (mo_set_thrown mo 0) = _
    rw [f_X12_sorted_b22, hB.rows, h.rows4, if_pos (nI_le (Nat.le_refl _) (by omega)), e]
    rfl
theorem pu_sum_cut {f : Nat → Int32} {P : Nat → Bool} {N : Nat} : ∀ {M : Nat}, N ≤ M → (∀ i, N ≤ i → i < M → P i = false) → pu_sum f P M = pu_sum f P N
  | 0, h, _ => by rw [show N = 0 by omega]
  | m + 1, h, hz => by
    by_cases e : N = m + 1
    · rw [e]
    · rw [pu_sum, if_neg (by rw [hz m (by omega) (by omega)]; decide)]
      exact pu_sum_cut (by omega) (fun i h1 h2 => hz i h1 (by omega))
theorem pu_sorted (h : pu_GP pl) (hB : pu_RB pl bu) (hR : pu_RR pl rd (yW_r w)) (hb : tp_hasBus tp = 1) (mo : MOT) : pu_An tp mo (f_X10_sorted tp rd pl) (f_X12_sorted mo w bu) := by
  have hr := h.rows.2
  have four : ∀ k, k ≤ 5 → pu_sum (vCount pl rd) (fun s => pu_win (s % 4) && vPair pl rd s) (4 * k) = pu_sum (fun s => vCount pl rd (s ^^^ 1)) (fun s => !pu_win (s % 4) && vPair pl rd s) (4 * k) := by
    intro k
    induction k with
    | zero => intro _; rfl
    | succ k ih =>
      intro hk
      have ih := ih (by omega)
      have m0 : 4 * k % 4 = 0 := by omega
      have m1 : (4 * k + 1) % 4 = 1 := by omega
      have m2 : (4 * k + 2) % 4 = 2 := by omega
      have m3 : (4 * k + 3) % 4 = 3 := by omega
      have x1 : ∀ k, k < 5 → (4 * k + 1) ^^^ 1 = 4 * k ∧ (4 * k + 2) ^^^ 1 = 4 * k + 3 := by decide
      have x1 := x1 k (by omega)
      have p1 : vPair pl rd (4 * k + 1) = vPair pl rd (4 * k) := by
        have := pu_pairX h rd (s := 4 * k + 1) (by omega)
        rw [x1.1] at this
        exact this.symm
      have p2 : vPair pl rd (4 * k + 2) = vPair pl rd (4 * k + 3) := by
        have := pu_pairX h rd (s := 4 * k + 2) (by omega)
        rw [x1.2] at this
        exact this.symm
      show pu_sum (vCount pl rd) (fun s => pu_win (s % 4) && vPair pl rd s) (4 * k + 1 + 1 + 1 + 1) = pu_sum (fun s => vCount pl rd (s ^^^ 1)) (fun s => !pu_win (s % 4) && vPair pl rd s) (4 * k + 1 + 1 + 1 + 1)
      simp only [pu_sum, m0, m1, m2, m3, x1.1, x1.2, p1, p2, ih]
      simp [pu_win]
  have e : pu_sum (vCount pl rd) (fun s => pu_win (s % 4) && vPair pl rd s) 20 = pu_sum (fun s => vCount pl rd (s ^^^ 1)) (fun s => !pu_win (s % 4) && vPair pl rd s) (4 * vRows pl) := by
    rw [pu_sum_cut (N := 4 * vRows pl) (by omega) (fun i h1 h2 => by
      show (pu_win (i % 4) && vPair pl rd i) = false
      unfold vPair vSeat pu_seat
      rw [decide_eq_false (show ¬ i < 4 * vRows pl by omega), Bool.false_and, Bool.false_and, Bool.and_false])]
    exact four _ hr.2
  rw [f_X10_sorted, hb, if_neg pu_10, pu_sortC h hR, pu_sb, pu_sortM h hB hR mo, e]
  exact ⟨_, 0, by decide, rfl, rfl⟩
theorem pu_fact (h : pu_GP pl) (hB : pu_RB pl bu) (mo : MOT) (hn6 : vN pl ≤ 6) : ∃ k, k ≤ 720 ∧ f_X1_howMany (nI (vN pl)) = some (nI k) ∧ f_X12_factorial mo bu = some (nI k) ∧ k = [1, 1, 2, 6, 24, 120, 720].getD (vN pl) 0 := by
  have h1 := h.riders.2.1
  have t : ∀ n, n < 7 → 1 ≤ n → f_X1_howMany (nI n) = some (nI ([1, 1, 2, 6, 24, 120, 720].getD n 0)) ∧ [1, 1, 2, 6, 24, 120, 720].getD n 0 ≤ 720 := by decide +kernel
  have e : ∀ n v i, f_X12_factorial_b4 mo bu n v i = f_X1_howMany_b4 n (nI (vN pl)) v i := by
    intro n
    induction n with
    | zero => intro v i; rfl
    | succ n ih =>
      intro v i
      rw [f_X12_factorial_b4, f_X1_howMany_b4, hB.riders, h.riders.1, ih]
  refine ⟨_, (t (vN pl) (by omega) h1).2, (t (vN pl) (by omega) h1).1, ?_, rfl⟩
  rw [f_X12_factorial, e]
  exact (t (vN pl) (by omega) h1).1
theorem pu_deals (h : pu_GP pl) (hB : pu_RB pl bu) (hb : tp_hasBus tp = 1) (mo : MOT) : pu_An tp mo (f_X10_deals tp pl) (f_X12_deals mo bu) := by
  have hn := h.n31
  rw [f_X10_deals, f_X12_deals, f_X12_deals_b5, hb, if_neg pu_10, hB.riders, h.riders.1]
  have e6 : (nI (vN pl) ≤ (6 : Int32)) ↔ vN pl ≤ 6 := nI_leI (a := vN pl) (b := 6) (by omega) (by omega)
  by_cases c : vN pl ≤ 6
  · obtain ⟨k, _, k1, k2, _⟩ := pu_fact h hB (mo_set_thrown mo 0) c
    rw [if_pos (e6.mpr c), if_pos (e6.mpr c), k1, k2, pu_sb, pu_sb]
    exact ⟨_, 0, by decide, rfl, rfl⟩
  · rw [if_neg (fun z => c (e6.mp z)), if_neg (fun z => c (e6.mp z))]
    exact ⟨_, 3, by decide, rfl, rfl⟩
end PX
