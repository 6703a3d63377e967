/-! the face: what a call answers, and the trouble behind it (there is a bus) -/
def pu_mt (mo : MOT) (t : Int32) : MOT := mo_set_where (mo_set_trouble (mo_set_thrown mo 0) t) (-1)
def pu_An (tp : TopT) (mo : MOT) (o : Option (Int32 × TopT)) (o2 : Option (Int32 × MOT)) : Prop := ∃ v t, ¬ t = (4 : Int32) ∧ o = some (v, tp_set_latestTrouble tp t) ∧ o2 = some (v, pu_mt mo t)
theorem pu_10 : ¬ (1 : Int32) = 0 := by decide
theorem pu_i52 : kb_in? (52 : Int32) 56 := by decide
theorem pu_e52 : ((52 : Int32)).toNatClampNeg = 52 := by decide
section PF
variable {pl : PlanT} {bu : BusT} {rd : RideT} {w : WT} {tp : TopT}
theorem pu_riderX (h : pu_GP pl) (hB : pu_RB pl bu) (hb : tp_hasBus tp = 1) (mo : MOT) (x : Int32) : (∃ r, r < vN pl ∧ x = nI r ∧ f_X10_isRider tp pl x = some 1 ∧ f_X12_isRider mo bu x = some 1) ∨ (f_X10_isRider tp pl x = some 0 ∧ f_X12_isRider mo bu x = some 0) := by
  have hn := h.n31
  rw [f_X10_isRider, f_X12_isRider, hb, if_neg pu_10, hB.riders, h.riders.1]
  rcases pk_ix x (n := vN pl) (by omega) with q | q | ⟨r, hr, rfl⟩
  · rw [if_pos q, if_pos q]; exact Or.inr ⟨rfl, rfl⟩
  · by_cases q0 : x < 0
    · rw [if_pos q0, if_pos q0]; exact Or.inr ⟨rfl, rfl⟩
    · rw [if_neg q0, if_neg q0, if_pos q, if_pos q]; exact Or.inr ⟨rfl, rfl⟩
  · rw [if_neg (nI_pos (by omega)), if_neg (nI_pos (by omega)), if_neg (nI_ge hr (by omega)), if_neg (nI_ge hr (by omega))]
    exact Or.inl ⟨r, hr, rfl, rfl, rfl⟩
theorem pu_ruleX (h : pu_GP pl) (hB : pu_RB pl bu) (hb : tp_hasBus tp = 1) (mo : MOT) (x : Int32) : (∃ r, r < vR pl ∧ x = nI r ∧ f_X10_isRule tp pl x = some 1 ∧ f_X12_isRule mo bu x = some 1) ∨ (f_X10_isRule tp pl x = some 0 ∧ f_X12_isRule mo bu x = some 0) := by
  have hn := h.rules.2
  rw [f_X10_isRule, f_X12_isRule, hb, if_neg pu_10, hB.rules, h.rules.1]
  rcases pk_ix x (n := vR pl) (by omega) with q | q | ⟨r, hr, rfl⟩
  · rw [if_pos q, if_pos q]; exact Or.inr ⟨rfl, rfl⟩
  · by_cases q0 : x < 0
    · rw [if_pos q0, if_pos q0]; exact Or.inr ⟨rfl, rfl⟩
    · rw [if_neg q0, if_neg q0, if_pos q, if_pos q]; exact Or.inr ⟨rfl, rfl⟩
  · rw [if_neg (nI_pos (by omega)), if_neg (nI_pos (by omega)), if_neg (nI_ge hr (by omega)), if_neg (nI_ge hr (by omega))]
    exact Or.inl ⟨r, hr, rfl, rfl, rfl⟩
theorem pu_seatX (h : pu_GP pl) (hB : pu_RB pl bu) (hb : tp_hasBus tp = 1) (mo : MOT) (x : Int32) : (∃ s, s < 20 ∧ x = nI s ∧ vSeat pl s = true ∧ f_X10_isSeat tp pl x = some 1 ∧ f_X12_isSeat mo bu x = some 1) ∨ (f_X10_isSeat tp pl x = some 0 ∧ f_X12_isSeat mo bu x = some 0) := by
  have hr := h.rows.2
  rcases pk_ix x (n := 20) (by omega) with q | q | ⟨s, hs, rfl⟩
  · rw [f_X10_isSeat, f_X12_isSeat, hb, if_neg pu_10, if_pos q, if_pos q]; exact Or.inr ⟨rfl, rfl⟩
  · have q20 : (20 : Int32) ≤ x := q
    have q4 : nI (4 * vRows pl) ≤ x := Int32.le_trans (nI_le (a := 4 * vRows pl) (b := 20) (by omega) (by omega)) q
    rw [f_X10_isSeat, f_X12_isSeat, hb, if_neg pu_10, hB.rows, h.rows4]
    by_cases q0 : x < 0
    · rw [if_pos q0, if_pos q0]; exact Or.inr ⟨rfl, rfl⟩
    · rw [if_neg q0, if_neg q0, if_pos q20, if_pos q4]; exact Or.inr ⟨rfl, rfl⟩
  · rw [pu_isSeatM h hB mo (by omega), f_X10_isSeat, hb, if_neg pu_10, if_neg (nI_pos (by omega)), if_neg (pu_ge20 hs), pu_hb _ (by omega), h.seats, pu_mk_bt _ 20 (by omega), decide_eq_true hs, Bool.true_and, pu_sb, pu_ifb]
    cases q : vSeat pl s
    · exact Or.inr ⟨rfl, rfl⟩
    · exact Or.inl ⟨s, hs, rfl, q, rfl, rfl⟩
theorem pu_at (h : pu_GP pl) (hB : pu_RB pl bu) (hR : pu_RR pl rd (yW_r w)) (hb : tp_hasBus tp = 1) (mo : MOT) (x : Int32) : pu_An tp mo (f_X10_at tp rd pl x) (f_X12_at mo w bu x) := by
  have hn := h.n31
  rw [f_X10_at, f_X12_at, f_X12_at_b5]
  rcases pu_riderX h hB hb (mo_set_thrown mo 0) x with ⟨r, hr, rfl, e1, e2⟩ | ⟨e1, e2⟩
  · rw [e1, e2, pu_sb, pu_sb, if_neg pu_10, if_neg pu_10, if_pos (pu_inn (by omega) (by omega)), nI_clamp (by omega), pu_z, if_pos (pu_inn (by omega) (by omega)), nI_clamp (by omega), hR.pla r hr]
    exact ⟨_, 0, by decide, rfl, rfl⟩
  · rw [e1, e2, pu_sb, pu_sb, if_pos rfl, if_pos rfl]
    exact ⟨_, 1, by decide, rfl, rfl⟩
theorem pu_sits (h : pu_GP pl) (hB : pu_RB pl bu) (hR : pu_RR pl rd (yW_r w)) (hb : tp_hasBus tp = 1) (mo : MOT) (x : Int32) : pu_An tp mo (f_X10_sits tp rd pl x) (f_X12_sits mo w bu x) := by
  rw [f_X10_sits, f_X12_sits, f_X12_sits_b5]
  rcases pu_seatX h hB hb (mo_set_thrown mo 0) x with ⟨s, hs, rfl, hv, e1, e2⟩ | ⟨e1, e2⟩
  · rw [e1, e2, pu_sb, pu_sb, if_neg pu_10, if_neg pu_10, if_pos (pu_inn (by omega) (by omega)), nI_clamp (by omega), pu_sitterM h hB hR _ hs, pu_sb]
    exact ⟨_, 0, by decide, rfl, rfl⟩
  · rw [e1, e2, pu_sb, pu_sb, if_pos rfl, if_pos rfl]
    exact ⟨_, 1, by decide, rfl, rfl⟩
theorem pu_bag (h : pu_GP pl) (hB : pu_RB pl bu) (hR : pu_RR pl rd (yW_r w)) (hb : tp_hasBus tp = 1) (mo : MOT) (x : Int32) : pu_An tp mo (f_X10_bag tp rd pl x) (f_X12_bag mo w bu x) := by
  rw [f_X10_bag, f_X12_bag, f_X12_bag_b5]
  rcases pu_seatX h hB hb (mo_set_thrown mo 0) x with ⟨s, hs, rfl, hv, e1, e2⟩ | ⟨e1, e2⟩
  · rw [e1, e2, pu_sb, pu_sb, if_neg pu_10, if_neg pu_10, if_pos (pu_inn (by omega) (by omega)), nI_clamp (by omega), pu_bagInM h hB hR _ hs, pu_sb]
    exact ⟨_, 0, by decide, rfl, rfl⟩
  · rw [e1, e2, pu_sb, pu_sb, if_pos rfl, if_pos rfl]
    exact ⟨_, 1, by decide, rfl, rfl⟩
theorem pu_standing (h : pu_GP pl) (hB : pu_RB pl bu) (hR : pu_RR pl rd (yW_r w)) (hb : tp_hasBus tp = 1) (mo : MOT) : pu_An tp mo (f_X10_standing tp rd pl) (f_X12_standing mo w bu) := by
  rw [f_X10_standing, f_X12_standing, f_X12_standing_b5, hb, if_neg pu_10, pu_standersC h rd, pu_standersM h hB hR, pu_sb, pu_sb]
  exact ⟨_, 0, by decide, rfl, rfl⟩
theorem pu_free (h : pu_GP pl) (hB : pu_RB pl bu) (hR : pu_RR pl rd (yW_r w)) (hb : tp_hasBus tp = 1) (mo : MOT) : pu_An tp mo (f_X10_free tp rd pl) (f_X12_free mo w bu) := by
  rw [f_X10_free, f_X12_free, f_X12_free_b5, hb, if_neg pu_10, pu_freeC h rd, pu_freeM h hB hR, pu_sb, pu_sb]
  exact ⟨_, 0, by decide, rfl, rfl⟩
theorem pu_order (h : pu_GP pl) (hB : pu_RB pl bu) (hR : pu_RR pl rd (yW_r w)) (hb : tp_hasBus tp = 1) (mo : MOT) (x : Int32) : pu_An tp mo (f_X10_order tp rd pl x) (f_X12_order mo w bu x) := by
  have hn := h.n31
  rw [f_X10_order, f_X12_order, f_X12_order_b5]
  rcases pu_riderX h hB hb (mo_set_thrown mo 0) x with ⟨r, hr, rfl, e1, e2⟩ | ⟨e1, e2⟩
  · rw [e1, e2, pu_sb, pu_sb, if_neg pu_10, if_neg pu_10]
    simp only [if_pos (pu_inn (c := r) (N := 8) (by omega) (by omega)), nI_clamp (show r < 2 ^ 31 by omega), pu_a16, if_pos (pu_inn (c := 16 + r) (N := 56) (by omega) (by omega)), nI_clamp (show 16 + r < 2 ^ 31 by omega), hR.tur r hr]
    by_cases c : rd_turn rd r = 0
    · rw [if_pos c, if_pos c]; exact ⟨_, 6, by decide, rfl, rfl⟩
    · rw [if_neg c, if_neg c]; exact ⟨_, 0, by decide, rfl, rfl⟩
  · rw [e1, e2, pu_sb, pu_sb, if_pos rfl, if_pos rfl]
    exact ⟨_, 1, by decide, rfl, rfl⟩
theorem pu_shunC (h : pu_GP pl) (rd : RideT) {r : Nat} (hr : r < vN pl) : f_X6_shunning rd (nI r) = some (if bt (rd_joined rd) r then rd_passed rd r else 99) := by
  have hn := h.n31
  rw [f_X6_shunning, pu_hb _ (by omega), pu_sb, pu_ifb, if_pos (pu_inn (by omega) (by omega)), nI_clamp (by omega)]
  cases bt (rd_joined rd) r <;> rfl
theorem pu_shunM (h : pu_GP pl) (hR : pu_RR pl rd (yW_r w)) (mo : MOT) {r : Nat} (hr : r < vN pl) : f_X12_shunnedNow mo w (nI r) = some (if bt (rd_joined rd) r then rd_passed rd r else 99) := by
  have hn := h.n31
  rw [f_X12_shunnedNow, pu_a32, if_pos (pu_inn (by omega) (by omega)), nI_clamp (by omega), hR.joi r hr, pu_a24, if_pos (pu_inn (by omega) (by omega)), nI_clamp (by omega), hR.pas r hr]
  cases bt (rd_joined rd) r <;> rfl
theorem pu_shunned (h : pu_GP pl) (hB : pu_RB pl bu) (hR : pu_RR pl rd (yW_r w)) (hb : tp_hasBus tp = 1) (mo : MOT) (x : Int32) : pu_An tp mo (f_X10_shunned tp rd pl x) (f_X12_shunned mo w bu x) := by
  have hn := h.n31
  rw [f_X10_shunned, f_X12_shunned, f_X12_shunned_b5]
  rcases pu_riderX h hB hb (mo_set_thrown mo 0) x with ⟨r, hr, rfl, e1, e2⟩ | ⟨e1, e2⟩
  · rw [e1, e2, pu_sb, pu_sb, if_neg pu_10, if_neg pu_10]
    simp only [if_pos (pu_inn (c := r) (N := 8) (by omega) (by omega)), nI_clamp (show r < 2 ^ 31 by omega), pu_a16, if_pos (pu_inn (c := 16 + r) (N := 56) (by omega) (by omega)), nI_clamp (show 16 + r < 2 ^ 31 by omega), hR.tur r hr, pu_shunC h rd hr, pu_shunM h hR _ hr, pu_sb]
    by_cases c : rd_turn rd r = 0
    · rw [if_pos c, if_pos c]; exact ⟨_, 6, by decide, rfl, rfl⟩
    · rw [if_neg c, if_neg c]; exact ⟨_, 0, by decide, rfl, rfl⟩
  · rw [e1, e2, pu_sb, pu_sb, if_pos rfl, if_pos rfl]
    exact ⟨_, 1, by decide, rfl, rfl⟩
theorem pu_given (hR : pu_RR pl rd (yW_r w)) (hb : tp_hasBus tp = 1) (mo : MOT) : pu_An tp mo (f_X10_given tp rd pl) (f_X12_given mo w) := by
  have e54 : ((54 : Int32)).toNatClampNeg = 54 := by decide
  have i54 : kb_in? (54 : Int32) 56 := by decide
  rw [f_X10_given, f_X12_given, f_X12_given_b5, hb, if_neg pu_10, if_pos i54, e54, hR.gif]
  exact ⟨_, 0, by decide, rfl, rfl⟩
theorem pu_seconds (hR : pu_RR pl rd (yW_r w)) (hb : tp_hasBus tp = 1) (mo : MOT) (x : Int32) : pu_An tp mo (f_X10_seconds tp rd pl x) (f_X12_seconds mo w x) := by
  have hs := hR.sto
  rw [f_X10_seconds, f_X12_seconds, f_X12_seconds_b5, hb, if_neg pu_10, f_X10_seconds_b22, f_X12_seconds_b43, if_pos pu_i52, pu_e52, hs.1, hs.2.1]
  rcases pk_ix x (n := vSt (rd_stops rd)) (by omega) with q | q | ⟨s, hx, rfl⟩
  · rw [if_pos q, if_pos q]; exact ⟨_, 1, by decide, rfl, rfl⟩
  · by_cases q0 : x < 0
    · rw [if_pos q0, if_pos q0]; exact ⟨_, 1, by decide, rfl, rfl⟩
    · rw [if_neg q0, if_neg q0, if_pos q, if_neg (fun z => Int32.lt_irrefl (fa_trans z q))]
      exact ⟨_, 1, by decide, rfl, rfl⟩
  · rw [if_neg (nI_pos (by omega)), if_neg (nI_pos (by omega)), if_pos (nI_lt hx (by omega)), if_neg (nI_ge hx (by omega)), if_pos (pu_inn (by omega) (by omega)), nI_clamp (by omega), pu_a40, if_pos (pu_inn (by omega) (by omega)), nI_clamp (by omega), hR.spe s hx]
    exact ⟨_, 0, by decide, rfl, rfl⟩
/-! choice, ties -/
theorem pu_chTr (h : pu_GP pl) (hB : pu_RB pl bu) (hR : pu_RR pl rd (yW_r w)) (hb : tp_hasBus tp = 1) (mo : MOT) (x : Int32) : (∃ r, r < vN pl ∧ x = nI r ∧ vSits rd r = false ∧ f_X10_choosingTrouble tp rd pl x = some 0 ∧ f_X12_refusesChoice mo w bu x = some 0) ∨ ∃ t, (t = 1 ∨ t = 5) ∧ f_X10_choosingTrouble tp rd pl x = some t ∧ f_X12_refusesChoice mo w bu x = some t := by
  have hn := h.n31
  rw [f_X10_choosingTrouble, f_X12_refusesChoice]
  rcases pu_riderX h hB hb mo x with ⟨r, hr, rfl, e1, e2⟩ | ⟨e1, e2⟩
  · obtain ⟨p, ep, hp⟩ := hR.plv r hr
    rw [e1, e2, pu_sb, pu_sb, if_neg pu_10, if_neg pu_10, pu_isSittingM h hR mo hr, pu_sb, pu_ifb, pu_sitsP (by omega) ep, if_pos (pu_inn (by omega) (by omega)), nI_clamp (by omega), pu_z, if_pos (pu_inn (by omega) (by omega)), nI_clamp (by omega), hR.pla r hr, ep]
    have ne : ∀ a b : Nat, a ≤ 102 → b ≤ 102 → a ≠ b → ¬ nI a = nI b := fun a b ha hb2 hne e => by
      rw [nI_eq (by omega) (by omega)] at e; exact hne e
    rcases hp with ⟨hp, _⟩ | rfl | rfl | rfl
    · rw [decide_eq_true hp, pu_tt, if_neg (show ¬ nI p = (100 : Int32) from ne p 100 (by omega) (by omega) (by omega)), if_neg (show ¬ nI p = (101 : Int32) from ne p 101 (by omega) (by omega) (by omega))]
      exact Or.inr ⟨5, Or.inr rfl, rfl, rfl⟩
    · exact Or.inl ⟨r, hr, rfl, (by rw [pu_sitsP (by omega) ep]; rfl), rfl, rfl⟩
    · exact Or.inl ⟨r, hr, rfl, (by rw [pu_sitsP (by omega) ep]; rfl), rfl, rfl⟩
    · exact Or.inr ⟨5, Or.inr rfl, rfl, rfl⟩
  · rw [e1, e2, pu_sb, pu_sb, if_pos rfl, if_pos rfl]
    exact Or.inr ⟨1, Or.inl rfl, rfl, rfl⟩
theorem pu_choice (h : pu_GP pl) (hB : pu_RB pl bu) (hR : pu_RR pl rd (yW_r w)) {looks : LooksT} (hL : pu_RL pl rd (yLooks_r looks)) (hb : tp_hasBus tp = 1) (mo : MOT) (who : WhoT) (look : LookT) (x : Int32) : ∃ v t who2 look2, ¬ t = (4 : Int32) ∧ f_X10_choice tp rd pl x = some (v, tp_set_latestTrouble tp t) ∧ f_X12_choice mo w looks who look bu x = some (v, pu_mt mo t, who2, look2) := by
  rw [f_X10_choice, f_X12_choice, f_X12_choice_b5]
  rcases pu_chTr h hB hR hb (mo_set_thrown mo 0) x with ⟨r, hr, rfl, hv, e1, e2⟩ | ⟨t, ht, e1, e2⟩
  · obtain ⟨m, c, who2, look2, c1, c2, c3, c4, _⟩ := pu_chosen h hB hR hL (mo_set_thrown mo 0) who look hr hv
    rw [e1, e2, pu_sb, pu_sb, if_pos rfl, if_pos (by decide), c1, pu_sb, c2, pu_sb, c4, pu_sb]
    exact ⟨c, 0, who2, look2, by decide, rfl, rfl⟩
  · rw [e1, e2, pu_sb, pu_sb]
    rcases ht with rfl | rfl
    · rw [if_neg (by decide), if_neg (by decide)]
      exact ⟨_, 1, who, look, by decide, rfl, rfl⟩
    · rw [if_neg (by decide), if_neg (by decide)]
      exact ⟨_, 5, who, look, by decide, rfl, rfl⟩
theorem pu_tied (rd : RideT) (pl : PlanT) (r m : Int32) {c : Int32} (hc : f_X6_chosen rd pl r m = some c) : f_X6_tied rd pl r m = some (if c = -2 then 0 else m) := by
  rw [f_X6_tied, hc, pu_sb]
  by_cases e : c = -2
  · rw [if_pos e, if_pos e]
  · rw [if_neg e, if_neg e]
theorem pu_ties (h : pu_GP pl) (hB : pu_RB pl bu) (hR : pu_RR pl rd (yW_r w)) {looks : LooksT} (hL : pu_RL pl rd (yLooks_r looks)) (hb : tp_hasBus tp = 1) (mo : MOT) (who : WhoT) (look : LookT) (x : Int32) : ∃ v t who2 look2, ¬ t = (4 : Int32) ∧ f_X10_ties tp rd pl x = some (v, tp_set_latestTrouble tp t) ∧ f_X12_ties mo w looks who look bu x = some (v, pu_mt mo t, who2, look2) := by
  rw [f_X10_ties, f_X12_ties, f_X12_ties_b5]
  rcases pu_chTr h hB hR hb (mo_set_thrown mo 0) x with ⟨r, hr, rfl, hv, e1, e2⟩ | ⟨t, ht, e1, e2⟩
  · obtain ⟨m, c, who2, look2, c1, c2, c3, c4, c5, c6⟩ := pu_chosen h hB hR hL (mo_set_thrown mo 0) who look hr hv
    rw [e1, e2, pu_sb, pu_sb, if_pos rfl, if_pos (by decide), c1, pu_sb, pu_tied rd pl _ _ c2, pu_sb, c4, pu_sb]
    by_cases ec : c = -2
    · subst ec
      rw [if_pos rfl]
      rw [if_pos (show (-2 : Int32) = -2 from rfl)]
      exact ⟨0, 0, who2, look2, by decide, rfl, rfl⟩
    · obtain ⟨m2, who3, look3, d1, d2, d3⟩ := pu_might h hB hR hL (mo_set_thrown mo 0) who2 look2 hr hv
      obtain ⟨k, hk, k1, k2, _⟩ := pu_count (x := m) (fun i hi => (c6 i hi).1)
      have em : m2 = m := Option.some.inj (d1.symm.trans c1)
      subst em
      rw [if_neg ec, k1, pu_sb]
      rw [if_neg ec, d2, pu_sb, k2, pu_sb]
      exact ⟨_, 0, who3, look3, by decide, rfl, rfl⟩
  · rw [e1, e2, pu_sb, pu_sb]
    rcases ht with rfl | rfl
    · rw [if_neg (by decide), if_neg (by decide)]
      exact ⟨_, 1, who, look, by decide, rfl, rfl⟩
    · rw [if_neg (by decide), if_neg (by decide)]
      exact ⟨_, 5, who, look, by decide, rfl, rfl⟩
/-! stop, run -/
theorem pu_stop (h : pu_GP pl) (hB : pu_RB pl bu) (hR : pu_RR pl rd (yW_r w)) {looks : LooksT} (hL : pu_RL pl rd (yLooks_r looks)) (hO : pu_ON pl rd 0) (hb : tp_hasBus tp = 1) (mo : MOT) (who : WhoT) (look : LookT) : ∃ v t rd2 w2 who2 look2, ¬ t = (4 : Int32) ∧ f_X10_stop tp rd pl = some (v, tp_set_latestTrouble tp t, rd2) ∧ f_X12_stop mo w looks who look bu = some (v, pu_mt mo t, w2, who2, look2) ∧ pu_RR pl rd2 (yW_r w2) ∧ pu_RL pl rd2 (yLooks_r looks) ∧ pu_ON pl rd2 0 := by
  have hs := hR.sto
  rw [f_X10_stop, f_X12_stop, f_X12_stop_b5, hb, if_neg pu_10, if_pos pu_i52, pu_e52, hs.1]
  by_cases c : vSt (rd_stops rd) < 12
  · have e12 : rd_stops rd < (12 : Int32) := by
      rw [hs.2.1, show (12 : Int32) = nI 12 from rfl, nI_ltI (by omega) (by omega)]; exact c
    have n12 : ¬ rd_stops rd = (12 : Int32) := fun e => by rw [e] at e12; exact absurd e12 (by decide)
    obtain ⟨took, rd1, rd2, w2, who2, look2, a1, a2, a3, a4, a5, a6, a7, a8⟩ := pu_pass h hB hR hL hO (mo_set_thrown mo 0) who look c
    rw [if_pos e12, if_neg n12, a1, pu_sb, a2, pu_sb, a3, pu_sb, f_X10_stop_b47, f_X12_stop_b41, if_pos pu_i52, pu_e52, a4.sto.1, a7, show (40 : Int32) + nI (vSt (rd_stops rd) + 1) - 1 = nI (40 + vSt (rd_stops rd)) from (by rw [pu_a40]; exact nI_pred _), if_pos (pu_inn (by omega) (by omega)), nI_clamp (by omega), a8]
    exact ⟨took, 0, rd2, w2, who2, look2, by decide, rfl, rfl, a4, a5, a6⟩
  · have e12 : rd_stops rd = (12 : Int32) := by
      rw [hs.2.1, show vSt (rd_stops rd) = 12 by omega]; rfl
    rw [if_neg (by rw [e12]; decide), if_pos e12]
    exact ⟨_, 6, rd, w, who, look, by decide, rfl, rfl, hR, hL, hO⟩
/-- from here to the end -/
theorem pu_runs (h : pu_GP pl) (hB : pu_RB pl bu) (mo : MOT) (looks : LooksT) : ∀ (k : Nat) (rd : RideT) (w : WT) (who : WhoT) (look : LookT) (v : Int32) (tp : TopT) (f1 f2 : Nat), pu_RR pl rd (yW_r w) → pu_RL pl rd (yLooks_r looks) → pu_ON pl rd 0 → vSt (rd_stops rd) + k = 12 → k < f1 → k < f2 → ∃ v2 rd2 w2 who2 look2, f_X10_run_b23 pl f1 v (rd_stops rd) tp rd = some (v2, tp_set_latestTrouble tp 0, rd2) ∧ f_X12_runs_b2 mo looks bu f2 v w who look = some (v2, w2, who2, look2) ∧ pu_RR pl rd2 (yW_r w2) ∧ pu_RL pl rd2 (yLooks_r looks) ∧ pu_ON pl rd2 0 ∧ rd_stops rd2 = 12
  | _, _, _, _, _, _, _, 0, _, _, _, _, _, hf, _ => absurd hf (by omega)
  | _, _, _, _, _, _, _, _, 0, _, _, _, _, _, hf => absurd hf (by omega)
  | 0, rd, w, who, look, v, tp, f1 + 1, f2 + 1, hR, hL, hO, hk, _, _ => by
    have hs := hR.sto
    have e12 : rd_stops rd = (12 : Int32) := by
      rw [hs.2.1, show vSt (rd_stops rd) = 12 by omega]; rfl
    rw [f_X10_run_b23, f_X12_runs_b2, if_pos pu_i52, pu_e52, hs.1, e12, if_pos (by decide), if_pos (by decide)]
    exact ⟨v, rd, w, who, look, rfl, rfl, hR, hL, hO, e12⟩
  | k + 1, rd, w, who, look, v, tp, f1 + 1, f2 + 1, hR, hL, hO, hk, h1, h2 => by
    have hs := hR.sto
    have n12 : ¬ (12 : Int32) ≤ rd_stops rd := by
      rw [hs.2.1, show (12 : Int32) = nI 12 from rfl, nI_leI (by omega) (by omega)]; omega
    obtain ⟨took, rd1, rd2, w2, who2, look2, a1, a2, a3, a4, a5, a6, a7, a8⟩ := pu_pass h hB hR hL hO mo who look (by omega)
    have v2 : vSt (rd_stops rd2) = vSt (rd_stops rd) + 1 := by rw [a7]; exact nI_clamp (by omega)
    have e9 : rd_stops rd + 1 = rd_stops rd2 := by rw [a7]; exact Eq.trans (congrArg (fun x => x + 1) hs.2.1) (nI_1 _)
    obtain ⟨v3, rd3, w3, who3, look3, b1, b2, b3⟩ := pu_runs h hB mo looks k rd2 w2 who2 look2 (v + took) tp f1 f2 a4 a5 a6 (by omega) (by omega) (by omega)
    refine ⟨v3, rd3, w3, who3, look3, ?_, ?_, b3⟩
    · rw [f_X10_run_b23, if_neg n12, a1, pu_sb, a2, pu_sb, f_X10_run_b46, e9]
      exact b1
    · rw [f_X12_runs_b2, if_pos pu_i52, pu_e52, hs.1, if_neg n12, a3, pu_sb, f_X12_runs_b18, if_pos pu_i52, pu_e52, a4.sto.1, a7, show (40 : Int32) + nI (vSt (rd_stops rd) + 1) - 1 = nI (40 + vSt (rd_stops rd)) from (by rw [pu_a40]; exact nI_pred _), if_pos (pu_inn (by omega) (by omega)), nI_clamp (by omega), a8]
      exact b2
theorem pu_run (h : pu_GP pl) (hB : pu_RB pl bu) (hR : pu_RR pl rd (yW_r w)) {looks : LooksT} (hL : pu_RL pl rd (yLooks_r looks)) (hO : pu_ON pl rd 0) (hb : tp_hasBus tp = 1) (mo : MOT) (who : WhoT) (look : LookT) : ∃ v t rd2 w2 who2 look2, ¬ t = (4 : Int32) ∧ f_X10_run tp rd pl = some (v, tp_set_latestTrouble tp t, rd2) ∧ f_X12_run mo w looks who look bu = some (v, pu_mt mo t, w2, who2, look2) ∧ pu_RR pl rd2 (yW_r w2) ∧ pu_RL pl rd2 (yLooks_r looks) ∧ pu_ON pl rd2 0 := by
  have hs := hR.sto
  obtain ⟨v, rd2, w2, who2, look2, a1, a2, a3, a4, a5, _⟩ := pu_runs h hB (mo_set_thrown mo 0) looks (12 - vSt (rd_stops rd)) rd w who look 0 tp 4096 4096 hR hL hO (by omega) (by omega) (by omega)
  rw [f_X10_run, f_X12_run, f_X12_run_b5, f_X12_runs, hb, if_neg pu_10, a1, a2, pu_sb]
  exact ⟨v, 0, rd2, w2, who2, look2, by decide, rfl, rfl, a3, a4, a5⟩
end PF
