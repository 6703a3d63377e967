/-! odds -/
section PJ
variable {pl : PlanT} {bu : BusT} {looks : LooksT} {rd : RideT} {w : WT} {tp : TopT}
theorem pu_oddsOf {co : ComingT} {m : Nat} {mo : MOT} (hm : 0 < m) (hm4 : m ≤ 4) (em : mo_comers mo = nI m) {q s : Int32} {z1 : WT} {v : Int64} (hD : pu_DF mo looks co bu q s m 0 (yW_r z1) v) (who : WhoT) (look : LookT) (ahead : AheadT) (left : LeftT) (times : TimesT) (part : PartT) :
    ∃ z' who' look' ahead' left' times' part', f_X12_oddsOf mo z1 looks who look co ahead left times part bu q s = some (v, z', who', look', ahead', left', times', part') := by
  obtain ⟨z2, who2, look2, a2, l2, t2, p2, c2, x1, _, _, _, x2⟩ := hD z1 who look ahead left (yTimes_set_r times (vp_updL (yTimes_r times) 0 1)) part 0 (fun _ _ => rfl)
  have cost : pu_co m ≤ 30000 := by
    rcases (show m = 1 ∨ m = 2 ∨ m = 3 ∨ m = 4 by omega) with rfl | rfl | rfl | rfl <;> decide
  obtain ⟨F, hF⟩ : ∃ F : Nat, F = 100000 := ⟨_, rfl⟩
  have e := x2 (F - c2)
  rw [show F - c2 + c2 = F by omega, pu_out mo q s 0 (by omega) _ _ _ _ _ _ l2 _ _ (fun j hj => by omega) (by omega), show yTimes_r (yTimes_set_r times (vp_updL (yTimes_r times) 0 1)) 0 = 1 from pk_uLs (f := yTimes_r times) (k := 0) (x := 1), Int64.one_mul, Int64.zero_add, f_X12_oddsOf_b44, pu_m11, em, if_neg (nI_ge hm (by omega))] at e
  refine ⟨z2, who2, look2, a2, l2, t2, p2, ?_⟩
  rw [f_X12_oddsOf, if_pos (by decide), f_X12_oddsOf_b9, ← hF]
  exact e
theorem pu_odds (h : pu_GP pl) (hB : pu_RB pl bu) (hR : pu_RR pl rd (yW_r w)) (hL : pu_RL pl rd (yLooks_r looks)) (hO : pu_ON pl rd 0) (hb : tp_hasBus tp = 1) (mo : MOT) (od : OddsT) (q4 : Rides4T) (rd0 rd1 rd2 rd3 : RideT) (who : WhoT) (look : LookT) (co : ComingT) (ahead : AheadT) (left : LeftT) (times : TimesT) (part : PartT) (other : WT) (x y : Int32) :
    ∃ v t od' r0 r1 r2 r3 mo' who' look' co' ahead' left' times' part' other', ¬ t = (4 : Int32) ∧ (mo' = pu_mt mo t ∨ ∃ c, mo' = pu_mc mo c t) ∧ f_X10_odds tp rd pl od q4 rd0 rd1 rd2 rd3 x y = some (v, tp_set_latestTrouble tp t, od', r0, r1, r2, r3) ∧ f_X12_odds mo w looks who look co ahead left times part bu other x y = some (v, mo', who', look', co', ahead', left', times', part', other') := by
  have hn := h.n31
  have hs := hR.sto
  rw [f_X10_odds, f_X12_odds, f_X12_odds_b5]
  rcases pu_riderX h hB hb (mo_set_thrown mo 0) x with ⟨r, hr, rfl, e1, e2⟩ | ⟨e1, e2⟩
  rotate_left
  · rw [e1, e2, pu_sb, pu_sb, if_pos rfl, if_pos rfl]
    exact ⟨_, 1, od, rd0, rd1, rd2, rd3, pu_mt mo 1, who, look, co, ahead, left, times, part, other, by decide, Or.inl rfl, rfl, rfl⟩
  rw [e1, e2, pu_sb, pu_sb, if_neg pu_10, if_neg pu_10]
  rcases pu_seatX h hB hb (mo_set_thrown mo 0) y with ⟨s, hs20, rfl, hsv, e3, e4⟩ | ⟨e3, e4⟩
  rotate_left
  · rw [e3, e4, pu_sb, pu_sb, if_pos rfl, if_pos rfl]
    exact ⟨_, 1, od, rd0, rd1, rd2, rd3, pu_mt mo 1, who, look, co, ahead, left, times, part, other, by decide, Or.inl rfl, rfl, rfl⟩
  rw [e3, e4, pu_sb, pu_sb, if_neg pu_10, if_neg pu_10]
  obtain ⟨c, b, od', co', hc, g1, g2, g3, g4, g5, g6⟩ := pu_comers h hB hR (mo_set_thrown mo 0) od co
  have e4' : (nI c ≤ (4 : Int32)) ↔ c ≤ 4 := nI_leI (a := c) (b := 4) (by omega) (by omega)
  rw [g1, g4, pu_sb, pu_sb]
  show ∃ v t od'' r0 r1 r2 r3 mo' who' look' co'' ahead' left' times' part' other', ¬ t = (4 : Int32) ∧ (mo' = pu_mt mo t ∨ ∃ c, mo' = pu_mc mo c t) ∧ f_X10_odds_b42 rd pl q4 (nI r) (nI s) (nI c) tp od' rd0 rd1 rd2 rd3 = some (v, tp_set_latestTrouble tp t, od'', r0, r1, r2, r3) ∧ f_X12_odds_b32 w looks bu (nI r) (nI s) (mo_set_comers (mo_set_thrown mo 0) (nI c)) who look co' ahead left times part other = some (v, mo', who', look', co'', ahead', left', times', part', other')
  rw [f_X10_odds_b42, f_X12_odds_b32, show mo_comers (mo_set_comers (mo_set_thrown mo 0) (nI c)) = nI c from rfl]
  by_cases c4 : c ≤ 4
  rotate_left
  · rw [if_neg (fun e => c4 (e4'.mp e)), if_neg (fun e => c4 (e4'.mp e))]
    exact ⟨_, 3, od', rd0, rd1, rd2, rd3, pu_mc mo (nI c) 3, who, look, co', ahead, left, times, part, other, by decide, Or.inr ⟨nI c, rfl⟩, rfl, rfl⟩
  rw [if_pos (e4'.mpr c4), if_pos (e4'.mpr c4)]
  simp only [if_pos (pu_inn (c := r) (N := 8) (by omega) (by omega)), nI_clamp (show r < 2 ^ 31 by omega), if_pos pu_i52, pu_e52, hB.on r hr, hs.1]
  by_cases on : qr_on (pl_riders pl) r = rd_stops rd
  rotate_left
  · rw [if_neg on, if_neg on]
    exact ⟨_, 5, od', rd0, rd1, rd2, rd3, pu_mc mo (nI c) 5, who, look, co', ahead, left, times, part, other, by decide, Or.inr ⟨nI c, rfl⟩, rfl, rfl⟩
  rw [if_pos on, if_pos on]
  have von : vOn pl r = vSt (rd_stops rd) := by
    have a := h.on r hr
    have o := on
    rw [a.1, hs.2.1] at o
    have o2 := (nI_eq (a := vOn pl r) (b := vSt (rd_stops rd)) (by omega) (by omega)).mp o
    exact o2
  have st12 : vSt (rd_stops rd) < 12 := by have := (h.on r hr).2; omega
  obtain ⟨j, hj, ej⟩ := g6.all r hr von
  obtain ⟨rc, k1, k2, k3, k4, k5⟩ := pu_copy h rd0 (ro := rd)
  obtain ⟨o1, _, o3⟩ := pu_copyO h k3 k4 k5
  -- the reference's own copy
  have cpy : ∃ z11 : WT, (∀ k, k < 56 → yW_r z11 k = yW_r w k) ∧ f_X12_odds_b75 w looks bu 4096 (nI r) (nI s) 0 (mo_set_comers (mo_set_thrown mo 0) (nI c)) who look co' ahead left times part other = (f_X12_beforeGettingOn (mo_set_comers (mo_set_thrown mo 0) (nI c)) z11 looks who look bu (rd_stops rd)).bind fun r13 => f_X12_odds_b118 w looks bu (nI r) (nI s) (mo_set_comers (mo_set_thrown mo 0) (nI c)) r13.2.1 r13.2.2 co' ahead left times part r13.1 := by
    refine pu_for (fun n i z => f_X12_odds_b75 w looks bu n (nI r) (nI s) i (mo_set_comers (mo_set_thrown mo 0) (nI c)) who look co' ahead left times part z) 56 (fun i z => ∀ k, k < i → yW_r z k = yW_r w k) (fun o => ∃ z11 : WT, (∀ k, k < 56 → yW_r z11 k = yW_r w k) ∧ o = (f_X12_beforeGettingOn (mo_set_comers (mo_set_thrown mo 0) (nI c)) z11 looks who look bu (rd_stops rd)).bind fun r13 => f_X12_odds_b118 w looks bu (nI r) (nI s) (mo_set_comers (mo_set_thrown mo 0) (nI c)) r13.2.1 r13.2.2 co' ahead left times part r13.1) ?_ ?_ 56 0 other 4096 (by omega) (by omega) (fun k hk => by omega)
    · intro n i z hi a
      refine Or.inl ⟨yW_set_r z (upd (yW_r z) i (yW_r w i)), ?_, ?_⟩
      · show f_X12_odds_b75 w looks bu (n + 1) (nI r) (nI s) (nI i) _ who look co' ahead left times part z = _
        rw [f_X12_odds_b75, if_neg (show ¬ (56 : Int32) ≤ nI i from nI_ge (a := i) (b := 56) hi (by omega)), if_pos (pu_inn hi (by omega)), if_pos (pu_inn hi (by omega)), nI_clamp (by omega), f_X12_odds_b93, nI_1]
      · exact pu_upI (P := fun k x => x = yW_r w k) rfl a
    · intro n z a
      refine ⟨z, a, ?_⟩
      show f_X12_odds_b75 w looks bu (n + 1) (nI r) (nI s) (nI 56) _ who look co' ahead left times part z = _
      rw [f_X12_odds_b75, if_pos (show (56 : Int32) ≤ nI 56 by decide), if_pos pu_i52, pu_e52, a 52 (by omega), hs.1]
  obtain ⟨z11, z1, z2⟩ := cpy
  have hRc : pu_RR pl rc (yW_r z11) := k2 (yW_r w) (yW_r z11) hR z1
  obtain ⟨took, rh, wh, who2, look2, t1, t2, t3, t4, t5, t6, _, _⟩ := pu_halt h hB hRc (o3 _ hL) (o1 0 hO) (mo_set_comers (mo_set_thrown mo 0) (nI c)) who look (by rw [k5]; exact st12)
  rw [k5] at t2 t6
  have hX : pu_RX pl looks rh (yW_r wh) := ⟨rd_place rh, fun q => Or.inl rfl, t3, t4⟩
  have hpl : ∀ j, 0 ≤ j → j < c → rd_place rh (b j) = 100 := fun j _ hj => t5 (b j) (g6.lt j hj) (Or.inr ⟨by rw [t6]; exact (g6.on j hj).symm, Nat.zero_le _⟩)
  obtain ⟨v, l1, l2⟩ := pu_L0 (bu := bu) (q4 := q4) (mo := mo_set_comers (mo_set_thrown mo 0) (nI c)) (r := r) h hB c4 (by omega) rfl g5 g2 g3 g6 hs20 ⟨j, Nat.zero_le _, hj, ej⟩ rh (yW_r wh) hX hpl
  obtain ⟨u1, u2, u3, l3⟩ := l1 rd1 rd2 rd3
  rw [Nat.sub_zero] at l2
  obtain ⟨z', who', look', ahead', left', times', part', l4⟩ := pu_oddsOf (show 0 < c by omega) c4 rfl l2 who2 look2 ahead left times part
  refine ⟨v, 0, od', rh, u1, u2, u3, pu_mc mo (nI c) 0, who', look', co', ahead', left', times', part', z', by decide, Or.inr ⟨nI c, rfl⟩, ?_, ?_⟩
  · rw [f_X10_odds_b88, f_X3_sharesOf, k1, pu_sb, f_X3_sharesOf_b10, t1, pu_sb, f_X3_sharesOf_b20, l3]
    rfl
  · show f_X12_odds_b75 w looks bu 4096 (nI r) (nI s) 0 (mo_set_comers (mo_set_thrown mo 0) (nI c)) who look co' ahead left times part other = _
    rw [z2, t2, pu_sb, f_X12_odds_b118, l4, pu_sb, f_X12_odds_b125]
    rfl
end PJ
