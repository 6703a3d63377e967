/-! no bus yet: what both answer -/
section QI
variable {tp : TopT}
theorem pu_nRi (hb : tp_hasBus tp = 0) (pl : PlanT) (x : Int32) : f_X10_isRider tp pl x = some 0 := by rw [f_X10_isRider, if_pos hb]; rfl
theorem pu_nSe (hb : tp_hasBus tp = 0) (pl : PlanT) (x : Int32) : f_X10_isSeat tp pl x = some 0 := by rw [f_X10_isSeat, if_pos hb]; rfl
theorem pu_nRu (hb : tp_hasBus tp = 0) (pl : PlanT) (x : Int32) : f_X10_isRule tp pl x = some 0 := by rw [f_X10_isRule, if_pos hb]; rfl
theorem pu_n_stop (hb : tp_hasBus tp = 0) (mo : MOT) (rd : RideT) (pl : PlanT) : f_X10_stop tp rd pl = some (-1, tp_set_latestTrouble tp 1, rd) ∧ f_X12_stop_n mo = some (-1, pu_mt mo 1) := ⟨by rw [f_X10_stop, if_pos hb]; rfl, rfl⟩
theorem pu_n_run (hb : tp_hasBus tp = 0) (mo : MOT) (rd : RideT) (pl : PlanT) : f_X10_run tp rd pl = some (-1, tp_set_latestTrouble tp 1, rd) ∧ f_X12_run_n mo = some (-1, pu_mt mo 1) := ⟨by rw [f_X10_run, if_pos hb]; rfl, rfl⟩
theorem pu_n_seconds (hb : tp_hasBus tp = 0) (mo : MOT) (rd : RideT) (pl : PlanT) (x : Int32) : f_X10_seconds tp rd pl x = some (-1, tp_set_latestTrouble tp 1) ∧ f_X12_seconds_n mo x = some (-1, pu_mt mo 1) := ⟨by rw [f_X10_seconds, if_pos hb]; rfl, rfl⟩
theorem pu_n_at (hb : tp_hasBus tp = 0) (mo : MOT) (rd : RideT) (pl : PlanT) (w : WT) (x : Int32) : f_X10_at tp rd pl x = some (-1, tp_set_latestTrouble tp 1) ∧ f_X12_at_n mo w x = some (-1, pu_mt mo 1) := ⟨by rw [f_X10_at, pu_nRi hb, pu_sb, if_pos rfl]; rfl, rfl⟩
theorem pu_n_sits (hb : tp_hasBus tp = 0) (mo : MOT) (rd : RideT) (pl : PlanT) (x : Int32) : f_X10_sits tp rd pl x = some (-1, tp_set_latestTrouble tp 1) ∧ f_X12_sits_n mo x = some (-1, pu_mt mo 1) := ⟨by rw [f_X10_sits, pu_nSe hb, pu_sb, if_pos rfl]; rfl, rfl⟩
theorem pu_n_bag (hb : tp_hasBus tp = 0) (mo : MOT) (rd : RideT) (pl : PlanT) (x : Int32) : f_X10_bag tp rd pl x = some (-1, tp_set_latestTrouble tp 1) ∧ f_X12_bag_n mo x = some (-1, pu_mt mo 1) := ⟨by rw [f_X10_bag, pu_nSe hb, pu_sb, if_pos rfl]; rfl, rfl⟩
theorem pu_n_standing (hb : tp_hasBus tp = 0) (mo : MOT) (rd : RideT) (pl : PlanT) : f_X10_standing tp rd pl = some (-1, tp_set_latestTrouble tp 1) ∧ f_X12_standing_n mo = some (-1, pu_mt mo 1) := ⟨by rw [f_X10_standing, if_pos hb]; rfl, rfl⟩
theorem pu_n_free (hb : tp_hasBus tp = 0) (mo : MOT) (rd : RideT) (pl : PlanT) : f_X10_free tp rd pl = some (-1, tp_set_latestTrouble tp 1) ∧ f_X12_free_n mo = some (-1, pu_mt mo 1) := ⟨by rw [f_X10_free, if_pos hb]; rfl, rfl⟩
theorem pu_n_order (hb : tp_hasBus tp = 0) (mo : MOT) (rd : RideT) (pl : PlanT) (w : WT) (x : Int32) : f_X10_order tp rd pl x = some (-1, tp_set_latestTrouble tp 1) ∧ f_X12_order_n mo w x = some (-1, pu_mt mo 1) := ⟨by rw [f_X10_order, pu_nRi hb, pu_sb, if_pos rfl]; rfl, rfl⟩
theorem pu_n_shunned (hb : tp_hasBus tp = 0) (mo : MOT) (rd : RideT) (pl : PlanT) (w : WT) (x : Int32) : f_X10_shunned tp rd pl x = some (-1, tp_set_latestTrouble tp 1) ∧ f_X12_shunned_n mo w x = some (-1, pu_mt mo 1) := ⟨by rw [f_X10_shunned, pu_nRi hb, pu_sb, if_pos rfl]; rfl, rfl⟩
theorem pu_n_given (hb : tp_hasBus tp = 0) (mo : MOT) (rd : RideT) (pl : PlanT) : f_X10_given tp rd pl = some (-1, tp_set_latestTrouble tp 1) ∧ f_X12_given_n mo = some (-1, pu_mt mo 1) := ⟨by rw [f_X10_given, if_pos hb]; rfl, rfl⟩
theorem pu_n_sorted (hb : tp_hasBus tp = 0) (mo : MOT) (rd : RideT) (pl : PlanT) : f_X10_sorted tp rd pl = some (-1000, tp_set_latestTrouble tp 1) ∧ f_X12_sorted_n mo = some (-1000, pu_mt mo 1) := ⟨by rw [f_X10_sorted, if_pos hb], rfl⟩
theorem pu_n_mark (hb : tp_hasBus tp = 0) (mo : MOT) : f_X10_mark_r tp = some (-1, tp_set_latestTrouble tp 1) ∧ f_X12_mark_n mo = some (-1, pu_mt mo 1) := ⟨by rw [f_X10_mark_r, if_pos hb]; rfl, rfl⟩
theorem pu_n_back (hm : tp_markCount tp = 0) (mo : MOT) (x : Int32) : f_X10_back_r tp x = some (0, tp_set_latestTrouble tp 1) ∧ f_X12_back_n mo x = some (0, pu_mt mo 1) := by
  refine ⟨?_, rfl⟩
  rw [f_X10_back_r, hm]
  by_cases q : x < 0
  · rw [if_pos q]; rfl
  · rw [if_neg q, if_neg q]; rfl
theorem pu_n_trb (hb : tp_hasBus tp = 0) (rd : RideT) (pl : PlanT) (x : Int32) : f_X10_choosingTrouble tp rd pl x = some 1 := by rw [f_X10_choosingTrouble, pu_nRi hb, pu_sb, if_pos rfl]
theorem pu_n_choice (hb : tp_hasBus tp = 0) (mo : MOT) (rd : RideT) (pl : PlanT) (w : WT) (x : Int32) : f_X10_choice tp rd pl x = some (-1, tp_set_latestTrouble tp 1) ∧ f_X12_choice_n mo w x = some (-1, pu_mt mo 1) := by
  refine ⟨by rw [f_X10_choice, pu_n_trb hb, pu_sb, if_neg (show ¬ (1 : Int32) = 0 by decide)]; rfl, ?_⟩
  rw [f_X12_choice_n, f_X12_choice_n_b5, show f_X12_refusesChoice_n (mo_set_thrown mo 0) w x = some 1 from rfl, pu_sb, if_neg (show ¬ (1 : Int32) ≤ 0 by decide)]; rfl
theorem pu_n_ties (hb : tp_hasBus tp = 0) (mo : MOT) (rd : RideT) (pl : PlanT) (w : WT) (x : Int32) : f_X10_ties tp rd pl x = some (-1, tp_set_latestTrouble tp 1) ∧ f_X12_ties_n mo w x = some (-1, pu_mt mo 1) := by
  refine ⟨by rw [f_X10_ties, pu_n_trb hb, pu_sb, if_neg (show ¬ (1 : Int32) = 0 by decide)]; rfl, ?_⟩
  rw [f_X12_ties_n, f_X12_ties_n_b5, show f_X12_refusesChoice_n (mo_set_thrown mo 0) w x = some 1 from rfl, pu_sb, if_neg (show ¬ (1 : Int32) ≤ 0 by decide)]; rfl
theorem pu_n_odds (hb : tp_hasBus tp = 0) (mo : MOT) (rd : RideT) (pl : PlanT) (od : OddsT) (q4 : Rides4T) (r0 r1 r2 r3 : RideT) (x y : Int32) : f_X10_odds tp rd pl od q4 r0 r1 r2 r3 x y = some ((-1 : Int32).toInt64, tp_set_latestTrouble tp 1, od, r0, r1, r2, r3) ∧ f_X12_odds_n mo x y = some ((-1 : Int32).toInt64, pu_mt mo 1) := ⟨by rw [f_X10_odds, pu_nRi hb, pu_sb, if_pos rfl]; rfl, rfl⟩
theorem pu_n_ways (hb : tp_hasBus tp = 0) (mo : MOT) (rd : RideT) (pl : PlanT) (od : OddsT) : f_X10_ways tp rd pl od = some ((-1 : Int32).toInt64, tp_set_latestTrouble tp 1, od) ∧ f_X12_ways_n mo = some ((-1 : Int32).toInt64, pu_mt mo 1) := ⟨by rw [f_X10_ways, if_pos hb]; rfl, rfl⟩
theorem pu_n_monday (hb : tp_hasBus tp = 0) (mo : MOT) (rd : RideT) (pl : PlanT) (sn : SceneT) (x : Int32) : f_X10_monday tp rd pl sn x = some (-1, tp_set_latestTrouble tp 1, sn) ∧ f_X12_monday_n mo x = some (-1, pu_mt mo 1) := ⟨by rw [f_X10_monday, pu_nSe hb, pu_sb, if_pos rfl]; rfl, rfl⟩
theorem pu_n_doorway (hb : tp_hasBus tp = 0) (mo : MOT) (rd : RideT) (pl : PlanT) (w : WT) (x y : Int32) : f_X10_doorway tp rd pl x y = some (-1, tp_set_latestTrouble tp 1) ∧ f_X12_doorway_n mo w x y = some (-1, pu_mt mo 1) := ⟨by rw [f_X10_doorway, pu_nRi hb, pu_sb, if_pos rfl]; rfl, rfl⟩
theorem pu_n_film (hb : tp_hasBus tp = 0) (mo : MOT) (pl : PlanT) (fm : FilmsT) (x y : Int32) : f_X10_film tp pl fm x y = some (-1, tp_set_latestTrouble tp 1, fm) ∧ f_X12_film_n mo x y = some (-1, pu_mt mo 1) := ⟨by rw [f_X10_film, pu_nSe hb, pu_sb, if_pos rfl]; rfl, rfl⟩
theorem pu_n_agrees (hb : tp_hasBus tp = 0) (mo : MOT) (pl : PlanT) (fm : FilmsT) (sn : SceneT) (x : Int32) : f_X10_agrees tp pl fm sn x = some (-1, tp_set_latestTrouble tp 1, sn) ∧ f_X12_agrees_n mo x = some (-1, pu_mt mo 1) := ⟨by rw [f_X10_agrees, pu_nRu hb, pu_sb, if_pos rfl]; rfl, rfl⟩
theorem pu_n_likely (hb : tp_hasBus tp = 0) (mo : MOT) (pl : PlanT) (fm : FilmsT) (sn : SceneT) : f_X10_likely tp pl fm sn = some (-1, tp_set_latestTrouble tp 1, sn) ∧ f_X12_likely_n mo = some (-1, pu_mt mo 1) := ⟨by rw [f_X10_likely, if_pos hb]; rfl, rfl⟩
theorem pu_n_dealt (hb : tp_hasBus tp = 0) (mo : MOT) (pl : PlanT) (de : DealsT) (rd : RideT) (x : Int32) : f_X10_dealt tp pl de rd x = some (-1, tp_set_latestTrouble tp 1, de, rd) ∧ f_X12_dealt_n mo x = some (-1, pu_mt mo 1) := ⟨by rw [f_X10_dealt, pu_nRi hb, pu_sb, if_pos rfl]; rfl, rfl⟩
theorem pu_n_deals (hb : tp_hasBus tp = 0) (mo : MOT) (pl : PlanT) : f_X10_deals tp pl = some (-1, tp_set_latestTrouble tp 1) ∧ f_X12_deals_n mo = some (-1, pu_mt mo 1) := ⟨by rw [f_X10_deals, if_pos hb]; rfl, rfl⟩
theorem pu_n_layout (hb : tp_hasBus tp = 0) (mo : MOT) (pl : PlanT) (x y : Int32) : f_X10_layout tp pl x y = some (-1, tp_set_latestTrouble tp 1) ∧ f_X12_layout_n mo x y = some (-1, pu_mt mo 1) := ⟨by rw [f_X10_layout, if_pos hb]; rfl, rfl⟩
theorem pu_n_beats (hb : tp_hasBus tp = 0) (mo : MOT) (pl : PlanT) (x y : Int32) : f_X10_beats tp pl x y = some (-1, tp_set_latestTrouble tp 1) ∧ f_X12_beats_n mo x y = some (-1, pu_mt mo 1) := ⟨by rw [f_X10_beats, if_pos hb]; rfl, rfl⟩
theorem pu_n_unbeaten (hb : tp_hasBus tp = 0) (mo : MOT) (pl : PlanT) : f_X10_unbeaten tp pl = some (-1, tp_set_latestTrouble tp 1) ∧ f_X12_unbeaten_n mo = some (-1, pu_mt mo 1) := ⟨by rw [f_X10_unbeaten, if_pos hb]; rfl, rfl⟩
theorem pu_n_seat (hb : tp_hasBus tp = 0) (mo : MOT) (pl : PlanT) (x y : Int32) : f_X10_seat tp pl x y = some (-1, tp_set_latestTrouble tp 1) ∧ f_X12_seat_n mo x y = some (-1, pu_mt mo 1) := ⟨by rw [f_X10_seat, if_pos hb]; rfl, rfl⟩
theorem pu_n_rider (hb : tp_hasBus tp = 0) (mo : MOT) (pl : PlanT) (x y : Int32) : f_X10_rider tp pl x y = some (-1) ∧ f_X12_rider_n mo x y = some (-1, mo_set_thrown mo 0) := ⟨by rw [f_X10_rider, pu_nRi hb, pu_sb, if_pos rfl], rfl⟩
theorem pu_n_way (hb : tp_hasBus tp = 0) (mo : MOT) (pl : PlanT) (x y : Int32) : f_X10_way tp pl x y = some (-1) ∧ f_X12_way_n mo x y = some (-1, mo_set_thrown mo 0) := ⟨by rw [f_X10_way, pu_nRu hb, pu_sb, if_pos rfl], rfl⟩
theorem pu_n_led (mo : MOT) (x : Int32) : f_X12_led_n mo x = some (0, mo_set_thrown mo 1) := rfl
theorem pu_n_size (hb : tp_hasBus tp = 0) (hm : tp_markCount tp = 0) {mo : MOT} {ps : ParserT} {fm : FilmsT} (hf : fm_count fm = 0) (hl : ps_length ps = mo_taped mo) (pl : PlanT) (rd : RideT) (x : Int32) : ∃ v, f_X10_size tp ps pl rd fm x = some v ∧ f_X12_size_n mo x = some (v, mo_set_thrown mo 0) := by
  have i0 : ∀ k, k < 9 → f_X12_in (nI k) 0 8 = some 1 := by decide +kernel
  rw [f_X12_size_n, f_X12_size_n_b5, show mo_taped (mo_set_thrown mo 0) = mo_taped mo from rfl]
  rw [f_X10_size]
  simp only [hb, hm, hf, hl, if_true]
  by_cases q9 : x = 9
  · subst q9
    exact ⟨mo_taped mo, rfl, rfl⟩
  rw [if_neg q9]
  by_cases q : ∃ k, k < 9 ∧ x = nI k
  · obtain ⟨k, hk, rfl⟩ := q
    refine ⟨0, ?_, by rw [if_neg q9, i0 k hk]; rfl⟩
    have : k = 0 ∨ k = 1 ∨ k = 2 ∨ k = 3 ∨ k = 4 ∨ k = 5 ∨ k = 6 ∨ k = 7 ∨ k = 8 := by omega
    rcases this with rfl | rfl | rfl | rfl | rfl | rfl | rfl | rfl | rfl <;> rfl
  · refine ⟨-1, ?_, ?_⟩
    · have n : ∀ k, k < 9 → ¬ x = nI k := fun k hk e => q ⟨k, hk, e⟩
      rw [if_neg (show ¬ x = 0 from n 0 (by omega)), if_neg (show ¬ x = 1 from n 1 (by omega)), if_neg (show ¬ x = 2 from n 2 (by omega)), if_neg (show ¬ x = 3 from n 3 (by omega)), if_neg (show ¬ x = 4 from n 4 (by omega)), if_neg (show ¬ x = 5 from n 5 (by omega)), if_neg (show ¬ x = 6 from n 6 (by omega)), if_neg (show ¬ x = 7 from n 7 (by omega)), if_neg (show ¬ x = 8 from n 8 (by omega))]
    · have e : f_X12_in x 0 8 = some 0 := by
        rw [f_X12_in]
        rcases pk_ix x (n := 9) (by omega) with z | z | ⟨k, hk, z⟩
        · rw [if_pos z]; rfl
        · have z1 : ¬ x < 0 := fun w => by
            rw [Int32.lt_iff_toInt_lt] at w; rw [Int32.le_iff_toInt_le, nI_toInt (by omega)] at z
            have e0 : (0 : Int32).toInt = 0 := rfl
            omega
          have z2 : (8 : Int32) < x := by
            rw [Int32.lt_iff_toInt_lt]; rw [Int32.le_iff_toInt_le, nI_toInt (by omega)] at z
            have e8 : (8 : Int32).toInt = 8 := rfl
            omega
          rw [if_neg z1, if_pos z2]; rfl
        · exact absurd ⟨k, hk, z⟩ q
      rw [if_neg q9, e]; rfl
end QI
