/-! choosing -/
section PC
variable {pl : PlanT} {bu : BusT} {rd : RideT} {w : WT}
/-- what a rider that doesn't sit might choose -/
theorem pu_might (h : pu_GP pl) (hB : pu_RB pl bu) (hR : pu_RR pl rd (yW_r w)) {looks : LooksT} (hL : pu_RL pl rd (yLooks_r looks)) (mo : MOT) (who : WhoT) (look : LookT) {r : Nat} (hr : r < vN pl) (hv : vSits rd r = false) :
    ∃ m who2 look2, f_X6_bestSeats rd pl (nI r) = some m ∧ f_X12_mightChoose mo w looks who look bu (nI r) = some (m, who2, look2) ∧ ∀ s, bt m s = true → s < 20 ∧ vSeat pl s = true ∧ sc_sitter (rd_scene rd) s = -2 := by
  have hn := h.n31
  have hri := h.rule r hr
  have hR4 := h.rules.2
  have hrw := h.rows.2
  have free : ∀ s, bt (pu_mk (vFree pl rd) 20) s = true → s < 20 ∧ vSeat pl s = true ∧ sc_sitter (rd_scene rd) s = -2 := fun s hs => by
    rw [pu_mk_bt _ 20 (by omega), Bool.and_eq_true, decide_eq_true_iff] at hs
    have h2 := hs.2
    unfold vFree at h2
    rw [Bool.and_eq_true, Bool.and_eq_true, decide_eq_true_iff, decide_eq_true_iff] at h2
    exact ⟨hs.1, h2.1, h2.2.1⟩
  -- by the ways, of those seats
  have byWays : ∀ lf : Int32, (∀ s, bt lf s = true → s < 20 ∧ vSeat pl s = true ∧ sc_sitter (rd_scene rd) s = -2) → ∃ m who2 look2, f_X6_bestSeats_b51 rd pl (nI r) r lf = some m ∧ f_X12_mightChoose_b78 mo w looks bu (nI r) lf who look = some (m, who2, look2) ∧ ∀ s, bt m s = true → s < 20 ∧ vSeat pl s = true ∧ sc_sitter (rd_scene rd) s = -2 := by
    intro lf hl
    obtain ⟨who2, look2, e, hS⟩ := pu_sees h hB hR hL mo who look (but := nI r) (fun q hq e => by
      rw [nI_eq (by omega) (by omega)] at e
      rw [e]; exact hv)
    obtain ⟨m, e1, e2, e3, _⟩ := pu_best h hB mo hS (pu_LSof hS hn hL.2.1 (fun q hq => by rw [← hL.1 q hq]; exact hL.2.2 q hq)) (rider := nI r) (fr := qr_friends (pl_riders pl) r) (Or.inl ⟨r, hr, rfl, rfl⟩) (yLooks_r looks r) (hL.2.2 r hr) hri.2 (lf := lf) (fun s hs => (hl s hs).2.1)
    refine ⟨m, who2, look2, ?_, ?_, fun s hs => hl s (e3 s hs)⟩
    · rw [f_X6_bestSeats_b51, hri.1, if_pos (pu_inn (by omega) (by omega)), if_pos (pu_inn (by omega) (by omega)), nI_clamp (by omega), nI_clamp (by omega), ← hL.1 r hr, e1]
      rfl
    · rw [f_X12_mightChoose_b78, e]
      show f_X12_mightChoose_b83 mo w looks bu (nI r) lf who2 look2 = _
      rw [f_X12_mightChoose_b83, if_pos (pu_inn (by omega) (by omega)), if_pos (pu_inn (by omega) (by omega)), nI_clamp (by omega), hB.rule r hr, hri.1, e2]
      rfl
  -- when none is held that is free
  have rest : ∃ m who2 look2, f_X6_bestSeats_b42 rd pl (nI r) r (pu_mk (vFree pl rd) 20) = some m ∧ (if pu_mk (vFree pl rd) 20 = 0 then f_X12_mightChoose_b31 mo w looks bu 4096 (nI r) (pu_mk (vFree pl rd) 20) (0 : Int32) who look else f_X12_mightChoose_b78 mo w looks bu (nI r) (pu_mk (vFree pl rd) 20) who look) = some (m, who2, look2) ∧ ∀ s, bt m s = true → s < 20 ∧ vSeat pl s = true ∧ sc_sitter (rd_scene rd) s = -2 := by
    by_cases hz : pu_mk (vFree pl rd) 20 = 0
    · have hz2 := hz
      rw [pu_mk0 (by omega)] at hz2
      -- the seats with a bag are just those that nobody sits in
      have eb : pu_mk (fun s => decide (¬ rd_luggage rd s = -2)) 20 = pu_mk (fun s => vSeat pl s && decide (sc_sitter (rd_scene rd) s = -2)) 20 := by
        refine pu_mk_ext (fun s hs => ?_)
        have hf := hz2 s hs
        unfold vFree at hf
        rcases hR.lug s hs with ⟨a, _⟩ | ⟨q, hq, a, b⟩
        · rw [a] at hf ⊢
          rw [decide_eq_true (rfl : (-2 : Int32) = -2), Bool.and_true] at hf
          rw [hf, decide_eq_false (fun z => z rfl)]
        · rcases hR.bag q hq with c | ⟨p, hp, s1, s2, _, c, d⟩
          · rw [c] at b; exact absurd b.symm (pu_ne1 (by omega))
          · have x := pu_x20 p hp
            rw [c, nI_eq (by omega) (by omega)] at b
            subst b
            rw [a, show vSeat pl (p ^^^ 1) = true from (pu_seat_x hp s1 s2).1, d, decide_eq_true (pu_ne2 (by omega)), decide_eq_true rfl]
            rfl
      obtain ⟨m, who2, look2, e1, e2, e3⟩ := byWays (pu_mk (fun s => vSeat pl s && decide (sc_sitter (rd_scene rd) s = -2)) 20) (fun s hs => by
        rw [pu_mk_bt _ 20 (by omega), Bool.and_eq_true, Bool.and_eq_true, decide_eq_true_iff, decide_eq_true_iff] at hs
        exact ⟨hs.1, hs.2.1, hs.2.2⟩)
      refine ⟨m, who2, look2, ?_, ?_, e3⟩
      · rw [f_X6_bestSeats_b42, if_pos hz, pu_bagSeats, eb]
        exact e1
      · rw [if_pos hz, hz]
        have e := pu_mask (fun n i a => f_X12_mightChoose_b31 mo w looks bu n (nI r) a i who look) (fun a => f_X12_mightChoose_b78 mo w looks bu (nI r) a who look) (4 * vRows pl) (fun s => vSeat pl s && decide (sc_sitter (rd_scene rd) s = -2)) (fun n i a hi => by
          show f_X12_mightChoose_b31 mo w looks bu (n + 1) (nI r) a (nI i) who look = _
          rw [f_X12_mightChoose_b31, hB.rows, h.rows4, if_neg (nI_ge hi (by omega)), pu_isSeatM h hB mo (by omega), pu_sitterM h hB hR mo (by omega)]
          unfold f_X12_mightChoose_b69
          rw [nI_1, Int32.or_zero]
          show (if pu_bI (vSeat pl i) = 0 then _ else if sc_sitter (rd_scene rd) i = (-2 : Int32) then _ else _) = _
          rw [pu_ifb]
          cases vSeat pl i
          · rfl
          · by_cases q : sc_sitter (rd_scene rd) i = -2
            · rw [if_pos q, decide_eq_true q]; rfl
            · rw [if_neg q, decide_eq_false q]; rfl) (fun n a => by
          show f_X12_mightChoose_b31 mo w looks bu (n + 1) (nI r) a (nI _) who look = _
          rw [f_X12_mightChoose_b31, hB.rows, h.rows4, if_pos (nI_le (Nat.le_refl _) (by omega))]) (fuel := 4096) (by omega)
        refine Eq.trans e ?_
        rw [← pu_mk_cut (P := fun s => vSeat pl s && decide (sc_sitter (rd_scene rd) s = -2)) (N := 4 * vRows pl) (M := 20) (by omega) (fun i h1 h2 => by
          show (pu_seat (vRows pl) (vForm pl) i && _) = false
          unfold pu_seat
          rw [decide_eq_false (by omega)]
          rfl)]
        exact e2
    · obtain ⟨m, who2, look2, e1, e2, e3⟩ := byWays (pu_mk (vFree pl rd) 20) free
      refine ⟨m, who2, look2, ?_, ?_, e3⟩
      · rw [f_X6_bestSeats_b42, if_neg hz]; exact e1
      · rw [if_neg hz]; exact e2
  rw [f_X6_bestSeats, f_X12_mightChoose, f_X12_holdsFree]
  simp only [if_pos (pu_inn (c := r) (N := 8) (by omega) (by omega)), nI_clamp (show r < 2 ^ 31 by omega), pu_freeC h rd, pu_freeM h hB hR mo, pu_sb]
  rcases hB.held r hr with ⟨a, b⟩ | ⟨a, b⟩
  · rw [if_pos a, if_pos b, f_X12_holdsFree_b36, pu_sb, if_pos rfl]
    exact rest
  · rcases h.held r hr with c | ⟨hh, c1, c⟩
    · exact absurd c a
    rw [if_neg a, b, c, if_neg (pu_ne1 (by omega)), pu_hb _ (by omega), pu_has _ (by omega), pu_sb, pu_sb]
    cases q : bt (pu_mk (vFree pl rd) 20) hh
    · exact rest
    · refine ⟨(1 : Int32) <<< (nI hh &&& 31), who, look, rfl, rfl, fun s hs => ?_⟩
      · rw [pu_sh1 hh (by omega), decide_eq_true_iff] at hs
        subst hs
        exact free s q
theorem pu_heldEq (h : pu_GP pl) (hB : pu_RB pl bu) {r s : Nat} (hr : r < vN pl) (hs : s < 20) : (bu_holds bu r = nI s) = (qr_held (pl_riders pl) r = nI s) := by
  rcases hB.held r hr with ⟨a, b⟩ | ⟨a, b⟩
  · rw [a, b]
    exact propext ⟨fun e => absurd e.symm (pu_ne1 (by omega)), fun e => absurd e.symm (pu_ne2 (by omega))⟩
  · rw [b]
/-- which it takes of them, or none -/
theorem pu_take (h : pu_GP pl) (hB : pu_RB pl bu) (hR : pu_RR pl rd (yW_r w)) (looks : LooksT) (mo : MOT) (who : WhoT) (look : LookT) {r : Nat} (hr : r < vN pl) {m : Int32} (hm : ∀ s, bt m s = true → s < 20 ∧ vSeat pl s = true ∧ sc_sitter (rd_scene rd) s = -2) :
    ∃ c, f_X6_chosen rd pl (nI r) m = some c ∧ f_X12_chosen_b6 mo w looks bu (nI r) m who look = some (c, who, look) ∧ (c = -2 ∨ ∃ s, s < 20 ∧ c = nI s ∧ vSeat pl s = true ∧ sc_sitter (rd_scene rd) s = -2 ∧ bt m s = true) := by
  have hn := h.n31
  rw [f_X6_chosen, pu_lb]
  by_cases hf : fa_first (bt m) 20 < 20
  · have hy := fa_first_yes (bt m) 20 hf
    rw [if_pos hf]
    have hfst := pu_fst m (N := 20) (by omega) hf
    generalize fa_first (bt m) 20 = s at hf hy hfst ⊢
    obtain ⟨_, hsv, hsn⟩ := hm s hy
    have hmz : ¬ m = 0 := fun e => by rw [e, b_0] at hy; cases hy
    have ex := pu_x20 s hf
    show ∃ c, (if nI s = (-2 : Int32) then _ else if kb_in? (nI r) 8 then (if qr_isProud (pl_riders pl) (nI r).toNatClampNeg = 0 then _ else if qr_held (pl_riders pl) (nI r).toNatClampNeg = nI s then _ else (f_X9_besideOf (rd_scene rd) (pl_cab pl) (nI s)).bind _) else none) = _ ∧ _
    rw [if_neg (pu_ne2 (by omega)), if_pos (pu_inn (by omega) (by omega)), nI_clamp (by omega), pu_besC h (rd_scene rd) hf hsv, f_X12_chosen_b6, if_neg hmz, hfst]
    show ∃ c, _ ∧ ((f_X12_spurns mo w bu (nI r) (nI s)).bind _) = _ ∧ _
    rw [f_X12_spurns]
    simp only [if_pos (pu_inn (c := r) (N := 8) (by omega) (by omega)), nI_clamp (show r < 2 ^ 31 by omega), hB.proud r hr, pu_heldEq h hB hr hf, pu_besideM h hB mo hf, pu_sb]
    have yes : ∃ s2, s2 < 20 ∧ nI s = nI s2 ∧ vSeat pl s2 = true ∧ sc_sitter (rd_scene rd) s2 = -2 ∧ bt m s2 = true := ⟨s, hf, rfl, hsv, hsn, hy⟩
    by_cases hp : qr_isProud (pl_riders pl) r = 0
    · rw [if_pos hp, if_pos hp, f_X6_chosen_b59, f_X6_chosen_b60]
      exact ⟨nI s, rfl, rfl, Or.inr yes⟩
    · rw [if_neg hp, if_neg hp]
      by_cases hh : qr_held (pl_riders pl) r = nI s
      · rw [if_pos hh, if_pos hh, f_X6_chosen_b59, f_X6_chosen_b60]
        exact ⟨nI s, rfl, rfl, Or.inr yes⟩
      · rw [if_neg hh, if_neg hh]
        cases q : vB2 pl s
        · exact ⟨nI s, rfl, rfl, Or.inr yes⟩
        · show ∃ c, (if sc_sitter (rd_scene rd) (s ^^^ 1) = (-2 : Int32) then _ else _) = _ ∧ ((if nI (s ^^^ 1) = (-1 : Int32) then _ else ((f_X12_sitter mo w bu (nI (s ^^^ 1))).bind _)).bind _) = _ ∧ _
          rw [if_neg (pu_ne1 (by omega)), pu_sitterM h hB hR mo ex.1, pu_sb]
          by_cases hz : sc_sitter (rd_scene rd) (s ^^^ 1) = -2
          · rw [if_pos hz, if_pos hz]
            exact ⟨nI s, rfl, rfl, Or.inr yes⟩
          · rw [if_neg hz, if_neg hz]
            exact ⟨-2, rfl, rfl, Or.inl rfl⟩
  · rw [if_neg hf]
    have hmz : m = 0 := b_ext fun i hi => by
      rw [b_0]
      cases hb : bt m i
      · rfl
      · exact absurd (pu_first_some (hm i hb).1 hb) hf
    subst hmz
    exact ⟨-2, rfl, rfl, Or.inl rfl⟩
theorem pu_chosen (h : pu_GP pl) (hB : pu_RB pl bu) (hR : pu_RR pl rd (yW_r w)) {looks : LooksT} (hL : pu_RL pl rd (yLooks_r looks)) (mo : MOT) (who : WhoT) (look : LookT) {r : Nat} (hr : r < vN pl) (hv : vSits rd r = false) :
    ∃ m c who2 look2, f_X6_bestSeats rd pl (nI r) = some m ∧ f_X6_chosen rd pl (nI r) m = some c ∧ f_X12_mightChoose mo w looks who look bu (nI r) = some (m, who2, look2) ∧ f_X12_chosen mo w looks who look bu (nI r) = some (c, who2, look2) ∧ (c = -2 ∨ ∃ s, s < 20 ∧ c = nI s ∧ vSeat pl s = true ∧ sc_sitter (rd_scene rd) s = -2 ∧ bt m s = true) ∧ ∀ s, bt m s = true → s < 20 ∧ vSeat pl s = true ∧ sc_sitter (rd_scene rd) s = -2 := by
  obtain ⟨m, who2, look2, e1, e2, e3⟩ := pu_might h hB hR hL mo who look hr hv
  obtain ⟨c, e4, e5, e6⟩ := pu_take h hB hR looks mo who2 look2 hr e3
  refine ⟨m, c, who2, look2, e1, e4, e2, ?_, e6, e3⟩
  rw [f_X12_chosen, e2]
  exact e5
end PC
