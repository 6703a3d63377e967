/-! getting off: seconds -/
section PO
variable {pl : PlanT} {bu : BusT} {rd : RideT} {w : WT}
def vPast (pl : PlanT) (rd : RideT) (p : Nat) : Bool := decide (¬ sc_sitter (rd_scene rd) (p ^^^ 1) = -2) && decide (¬ qr_off (pl_riders pl) (sc_sitter (rd_scene rd) (p ^^^ 1)).toNatClampNeg = rd_stops rd)
def vWalk (pl : PlanT) (p : Nat) : Int32 := cb_pace (pl_cab pl) * ((1 : Int32) + nI (if p / 4 < vDoor pl then vDoor pl - p / 4 else p / 4 - vDoor pl))
def vSec (pl : PlanT) (rd : RideT) (r : Nat) : Int32 := if (rd_place rd r).toNatClampNeg < 20 then (if !pu_ais (vForm pl) ((rd_place rd r).toNatClampNeg % 4) && vB2 pl (rd_place rd r).toNatClampNeg && vPast pl rd (rd_place rd r).toNatClampNeg then vWalk pl (rd_place rd r).toNatClampNeg + cb_rise (pl_cab pl) else vWalk pl (rd_place rd r).toNatClampNeg) else cb_pace (pl_cab pl)
theorem pu_walk (h : pu_GP pl) {p : Nat} (hp : p < 20) : f_X0_walk (pl_cab pl) (nI p) = some (vWalk pl p) := by
  have hr := h.rows.2
  have hd := h.door
  rw [f_X0_walk, pu_div4 (by omega), hd.1, pu_gap (by omega) (by omega)]
  rfl
theorem pu_shut : ∀ form, form < 3 → ∀ k, k < 4 → (pu_win k && !pu_ais form k) = !pu_ais form k := by decide
theorem pu_shutIn (h : pu_GP pl) {p : Nat} (hp : p < 20) : f_X0_isShutIn (pl_cab pl) (nI p) = some (pu_bI (!pu_ais (vForm pl) (p % 4))) := by
  have hm : p % 4 < 4 := Nat.mod_lt _ (by omega)
  rw [f_X0_isShutIn, pu_rem4 (by omega), pu_isWin _ hm, h.form.1, ← pu_shut _ h.form.2 _ hm]
  show (if pu_bI _ = 0 then _ else (f_X0_isAisle (nI (vForm pl)) (nI (p % 4))).bind _) = _
  rw [pu_ifb, pu_isAis _ h.form.2 _ hm]
  cases pu_win (p % 4)
  · rfl
  · show (if pu_bI _ = 0 then _ else _) = _
    rw [pu_ifb]
    cases pu_ais (vForm pl) (p % 4) <;> rfl
/-- what the places and sitters must be for the seconds to be told: of class and reference alike -/
theorem pu_secC (h : pu_GP pl) (hR : pu_RR pl rd (yW_r w)) {r : Nat} (hr : r < vN pl) : f_X6_secondsOf rd pl (nI r) = some (vSec pl rd r) := by
  have hn := h.n31
  obtain ⟨p, ep, hp⟩ := hR.plv r hr
  have e20 : (nI p < (20 : Int32)) = (p < 20) := by
    show (nI p < nI 20) = _
    rw [nI_ltI (by omega) (by omega)]
  unfold vSec
  rw [f_X6_secondsOf, if_pos (pu_inn (by omega) (by omega)), nI_clamp (by omega), ep, nI_clamp (by omega)]
  simp only [e20]
  by_cases c : p < 20
  · have hsv : vSeat pl p = true := by
      rcases hp with hp | hp | hp | hp
      · exact hp.2
      · omega
      · omega
      · omega
    have ex := pu_x20 p c
    have b62 : f_X6_secondsOf_b62 rd pl (nI p) = some (vWalk pl p) := by
      rw [f_X6_secondsOf_b62, f_X6_secondsOf_b63, pu_walk h c]
      show f_X6_secondsOf_b108 rd pl (vWalk pl p) = _
      rw [f_X6_secondsOf_b108, Int32.add_zero]
    rw [if_pos c, if_pos c, pu_besC h (rd_scene rd) c hsv]
    cases c2 : vB2 pl p
    · rw [pu_ff, pu_sb, if_pos rfl, b62, Bool.and_false, Bool.false_and, pu_ff]
    · rw [pu_tt, pu_sb]
      unfold vPast
      by_cases c3 : sc_sitter (rd_scene rd) (p ^^^ 1) = -2
      · rw [if_pos c3, b62, decide_eq_false (fun z => z c3), Bool.false_and, Bool.and_false]
        rfl
      · rcases hR.sit (p ^^^ 1) ex.1 with ⟨a, _⟩ | ⟨q, hq, a, _⟩
        · exact absurd a c3
        rw [if_neg c3, decide_eq_true c3, Bool.true_and, a, if_pos (pu_inn (by omega) (by omega)), nI_clamp (by omega), Bool.and_true]
        by_cases c4 : qr_off (pl_riders pl) q = rd_stops rd
        · rw [if_pos c4, b62, decide_eq_false (fun z => z c4), Bool.and_false]
          rfl
        · rw [if_neg c4, decide_eq_true c4, Bool.and_true, f_X6_secondsOf_b63, pu_walk h c, pu_sb, if_neg (show ¬ (1 : Int32) = 0 by decide), pu_shutIn h c, pu_sb, pu_ifb, f_X6_secondsOf_b108, Int32.add_zero]
          cases pu_ais (vForm pl) (p % 4) <;> rfl
  · rw [if_neg c, if_neg c]
theorem pu_secM (h : pu_GP pl) (hB : pu_RB pl bu) (hR : pu_RR pl rd (yW_r w)) (mo : MOT) {r : Nat} (hr : r < vN pl) : f_X12_secondsOf mo w bu (nI r) (rd_stops rd) = some (vSec pl rd r) := by
  have hn := h.n31
  obtain ⟨p, ep, hp⟩ := hR.plv r hr
  unfold vSec
  rw [f_X12_secondsOf, pu_isSittingM h hR mo hr, pu_sitsP (by omega) ep]
  rw [pu_sb, pu_ifb, pu_z, if_pos (pu_inn (by omega) (by omega)), nI_clamp (by omega), hR.pla r hr, ep, nI_clamp (by omega)]
  by_cases c : p < 20
  · have hsv : vSeat pl p = true := by
      rcases hp with hp | hp | hp | hp
      · exact hp.2
      · omega
      · omega
      · omega
    have hrw := h.rows.2
    have hd := h.door
    have hm : p % 4 < 4 := Nat.mod_lt _ (by omega)
    have ex := pu_x20 p c
    rw [decide_eq_true c, pu_tt, if_pos c, pu_shr2 (by omega), hB.door, hd.1, pu_farE, pu_gap (by omega) (by omega), pu_besideM h hB mo c, hB.form, h.form.1, pu_and3 (by omega), pu_isAisM _ h.form.2 _ hm]
    show (if pu_bI (pu_ais (vForm pl) (p % 4)) = 0 then (if (if vB2 pl p then nI (p ^^^ 1) else (-1 : Int32)) = (-1 : Int32) then some (bu_pace bu * _) else _) else some (bu_pace bu * _)) = _
    rw [pu_ifb, hB.pace, hB.rise]
    cases c1 : pu_ais (vForm pl) (p % 4)
    · rw [pu_ff]
      cases c2 : vB2 pl p
      · rfl
      · show (if nI (p ^^^ 1) = (-1 : Int32) then _ else (f_X12_sitter mo w bu (nI (p ^^^ 1))).bind _) = _
        rw [if_neg (pu_ne1 (by omega)), pu_sitterM h hB hR mo ex.1]
        show (if sc_sitter (rd_scene rd) (p ^^^ 1) = (-2 : Int32) then _ else _) = _
        unfold vPast
        by_cases c3 : sc_sitter (rd_scene rd) (p ^^^ 1) = -2
        · rw [if_pos c3, decide_eq_false (fun z => z c3)]
          rfl
        · rcases hR.sit (p ^^^ 1) ex.1 with ⟨a, _⟩ | ⟨q, hq, a, _⟩
          · exact absurd a c3
          rw [if_neg c3, decide_eq_true c3, a, if_pos (pu_inn (by omega) (by omega)), nI_clamp (by omega), hB.off q hq]
          by_cases c4 : qr_off (pl_riders pl) q = rd_stops rd
          · rw [if_pos c4, decide_eq_false (fun z => z c4)]
            rfl
          · rw [if_neg c4, decide_eq_true c4]
            rfl
    · rfl
  · rw [decide_eq_false c, pu_ff, if_neg c, hB.pace]
/-- sums and counts below i of those with P -/
def pu_sum (f : Nat → Int32) (P : Nat → Bool) : Nat → Int32
  | 0 => 0
  | n + 1 => if P n then pu_sum f P n + f n else pu_sum f P n
theorem pu_sum_none {f : Nat → Int32} {P : Nat → Bool} : ∀ {n : Nat}, (∀ i, i < n → P i = false) → pu_sum f P n = 0
  | 0, _ => rfl
  | n + 1, h => by rw [pu_sum, if_neg (by rw [h n (by omega)]; decide), pu_sum_none (fun i hi => h i (by omega))]
/-- the stop's getting off -/
theorem pu_letOff (h : pu_GP pl) (hB : pu_RB pl bu) (hR : pu_RR pl rd (yW_r w)) (hO : pu_ON pl rd 0) (mo : MOT) (hst : vSt (rd_stops rd) < 12) :
    ∃ took rd2 w2, f_X6_letOff rd pl = some (took, rd2) ∧ f_X12_getOff mo w bu (rd_stops rd) = some w2 ∧ yW_r w2 (40 + vSt (rd_stops rd)) = took ∧ (∀ f, (∀ s, s < vSt (rd_stops rd) → f s = rd_spent rd s) → pu_RR pl (rd_set_spent rd2 f) (yW_r w2)) ∧ pu_ON pl rd2 0 ∧ rd_stops rd2 = rd_stops rd ∧ sc_looks (rd_scene rd2) = sc_looks (rd_scene rd) ∧ rd_spent rd2 = rd_spent rd := by
  have hn := h.n31
  have hs0 := hR.sto
  generalize eP : (fun r => decide (qr_off (pl_riders pl) r = rd_stops rd)) = P
  have hP : ∀ r, P r = decide (qr_off (pl_riders pl) r = rd_stops rd) := fun r => by rw [← eP]
  -- the reference's seconds
  have e7 : f_X12_getOff mo w bu (rd_stops rd) = f_X12_getOff_b58 mo bu 4096 (rd_stops rd) (pu_sum (vSec pl rd) P (vN pl)) (nI (fa_cnt P (vN pl))) 0 w := by
    rw [f_X12_getOff]
    refine pu_for (fun n i (a : Int32 × Int32) => f_X12_getOff_b7 mo bu n (rd_stops rd) a.1 a.2 i w) (vN pl) (fun i a => a = (pu_sum (vSec pl rd) P i, nI (fa_cnt P i))) (fun o => o = f_X12_getOff_b58 mo bu 4096 (rd_stops rd) (pu_sum (vSec pl rd) P (vN pl)) (nI (fa_cnt P (vN pl))) 0 w) ?_ ?_ (vN pl) 0 (0, 0) 4096 (by omega) (by omega) rfl
    · intro n i a hi e
      subst e
      refine Or.inl ?_
      show ∃ a', f_X12_getOff_b7 mo bu (n + 1) (rd_stops rd) (pu_sum (vSec pl rd) P i) (nI (fa_cnt P i)) (nI i) w = _ ∧ _
      rw [f_X12_getOff_b7, hB.riders, h.riders.1, if_neg (nI_ge hi (by omega)), if_pos (pu_inn (by omega) (by omega)), nI_clamp (by omega), hB.off i hi]
      simp only [nI_1, pu_secM h hB hR mo hi, pu_sb]
      by_cases c : qr_off (pl_riders pl) i = rd_stops rd
      · have hp : P i = true := by rw [hP, decide_eq_true c]
        rw [if_pos c]
        refine ⟨(pu_sum (vSec pl rd) P i + vSec pl rd i, nI (fa_cnt P i + 1)), rfl, ?_⟩
        rw [fa_cnt_yes hp, pu_sum, if_pos hp]
      · have hp : P i = false := by rw [hP, decide_eq_false c]
        rw [if_neg c]
        refine ⟨(pu_sum (vSec pl rd) P i, nI (fa_cnt P i)), rfl, ?_⟩
        rw [fa_cnt_no hp, pu_sum, if_neg (by rw [hp]; decide)]
    · intro n a e
      subst e
      show f_X12_getOff_b7 mo bu (n + 1) (rd_stops rd) _ _ (nI (vN pl)) w = _
      rw [f_X12_getOff_b7, hB.riders, h.riders.1, if_pos (nI_le (Nat.le_refl _) (by omega))]
  generalize eS : (fun r => decide (rd_place rd r = 101) && !P r) = S
  have hS : ∀ r, S r = (decide (rd_place rd r = 101) && !P r) := fun r => by rw [← eS]
  -- class and the reference's getting up, side by side
  have e58 : ∃ took rd2 w2, f_X6_letOff rd pl = some (took, rd2) ∧ f_X12_getOff_b58 mo bu 4096 (rd_stops rd) (pu_sum (vSec pl rd) P (vN pl)) (nI (fa_cnt P (vN pl))) 0 w = f_X12_getOff_b101 mo bu 4096 (rd_stops rd) (pu_sum (vSec pl rd) P (vN pl)) (nI (fa_cnt P (vN pl))) 0 w2 ∧ took = (if fa_cnt P (vN pl) = 0 then 0 else pu_sum (vSec pl rd) P (vN pl) + nI (fa_cnt S (vN pl))) ∧ pu_RR pl rd2 (yW_r w2) ∧ (∀ q, q < vN pl → rd_place rd2 q = if P q then nI 102 else rd_place rd q) ∧ rd_stops rd2 = rd_stops rd ∧ sc_looks (rd_scene rd2) = sc_looks (rd_scene rd) ∧ rd_spent rd2 = rd_spent rd := by
    rw [f_X6_letOff]
    refine pu_for2 (fun n i (a : Int32 × Int32 × Int32 × RideT) => f_X6_letOff_b9 pl n a.1 a.2.1 a.2.2.1 i a.2.2.2) (fun n i (c : WT) => f_X12_getOff_b58 mo bu n (rd_stops rd) (pu_sum (vSec pl rd) P (vN pl)) (nI (fa_cnt P (vN pl))) i c) (vN pl)
      (fun i a c => a.1 = pu_sum (vSec pl rd) P i ∧ a.2.1 = nI (fa_cnt S i) ∧ a.2.2.1 = pu_bI (decide (¬ fa_cnt P i = 0)) ∧ pu_RR pl a.2.2.2 (yW_r c) ∧ (∀ q, q < vN pl → rd_place a.2.2.2 q = if decide (q < i) && P q then nI 102 else rd_place rd q) ∧ rd_stops a.2.2.2 = rd_stops rd ∧ sc_looks (rd_scene a.2.2.2) = sc_looks (rd_scene rd) ∧ rd_spent a.2.2.2 = rd_spent rd ∧ (∀ s, s < 20 → sc_sitter (rd_scene a.2.2.2) s = sc_sitter (rd_scene rd) s ∨ (sc_sitter (rd_scene a.2.2.2) s = -2 ∧ ∃ q, q < vN pl ∧ sc_sitter (rd_scene rd) s = nI q ∧ P q = true)))
      (fun o o2 => ∃ took rd2 w2, o = some (took, rd2) ∧ o2 = f_X12_getOff_b101 mo bu 4096 (rd_stops rd) (pu_sum (vSec pl rd) P (vN pl)) (nI (fa_cnt P (vN pl))) 0 w2 ∧ took = (if fa_cnt P (vN pl) = 0 then 0 else pu_sum (vSec pl rd) P (vN pl) + nI (fa_cnt S (vN pl))) ∧ pu_RR pl rd2 (yW_r w2) ∧ (∀ q, q < vN pl → rd_place rd2 q = if P q then nI 102 else rd_place rd q) ∧ rd_stops rd2 = rd_stops rd ∧ sc_looks (rd_scene rd2) = sc_looks (rd_scene rd) ∧ rd_spent rd2 = rd_spent rd) ?_ ?_ (vN pl) 0 (0, 0, 0, rd) w 4096 (by omega) (by omega) ⟨rfl, rfl, rfl, hR, fun q hq => by rw [decide_eq_false (by omega)]; rfl, rfl, rfl, rfl, fun s hs => Or.inl rfl⟩
    · intro n i a c hi hI
      obtain ⟨v1, v2, v3, z0⟩ := a
      obtain ⟨i1, i2, i3, i4, i5, i6, i7, i8, i9⟩ := hI
      have i1 : v1 = _ := i1
      have i2 : v2 = _ := i2
      have i3 : v3 = _ := i3
      have i4 : pu_RR pl z0 (yW_r c) := i4
      have i5 : ∀ q, q < vN pl → rd_place z0 q = if decide (q < i) && P q then nI 102 else rd_place rd q := i5
      have i6 : rd_stops z0 = rd_stops rd := i6
      have i9 : ∀ s, s < 20 → sc_sitter (rd_scene z0) s = sc_sitter (rd_scene rd) s ∨ (sc_sitter (rd_scene z0) s = -2 ∧ ∃ q, q < vN pl ∧ sc_sitter (rd_scene rd) s = nI q ∧ P q = true) := i9
      subst i1; subst i2; subst i3
      refine Or.inl ?_
      have epi : rd_place z0 i = rd_place rd i := by rw [i5 i hi, decide_eq_false (by omega)]; rfl
      show ∃ a' c', f_X6_letOff_b9 pl (n + 1) (pu_sum (vSec pl rd) P i) (nI (fa_cnt S i)) (pu_bI (decide (¬ fa_cnt P i = 0))) (nI i) z0 = _ ∧ f_X12_getOff_b58 mo bu (n + 1) (rd_stops rd) _ _ (nI i) c = _ ∧ _
      rw [f_X6_letOff_b9, h.riders.1, if_neg (nI_ge hi (by omega)), f_X12_getOff_b58, hB.riders, h.riders.1, if_neg (nI_ge hi (by omega))]
      simp only [if_pos (pu_inn (c := i) (N := 8) (by omega) (by omega)), nI_clamp (show i < 2 ^ 31 by omega), i6, hB.off i hi, nI_1]
      by_cases c1 : qr_off (pl_riders pl) i = rd_stops rd
      · have hp : P i = true := by rw [hP, decide_eq_true c1]
        have hsN : S i = false := by rw [hS, hp]; simp
        rw [if_pos c1, if_pos c1, pu_secC h i4 hi]
        obtain ⟨rd2, w2, u1, u2, u3, u4, u5, u6, u7, u8, u9, u10⟩ := pu_up h i4 hi (Or.inr rfl : (102 : Nat) = 101 ∨ 102 = 102) mo
        have u2 : f_X12_getsUp mo c (nI i) (102 : Int32) = some w2 := u2
        rw [u1, u2]
        have esec : vSec pl z0 i = vSec pl rd i := by
          unfold vSec
          rw [epi]
          obtain ⟨p, ep, hp2⟩ := hR.plv i hi
          rw [ep, nI_clamp (by omega)]
          by_cases c2 : p < 20
          · rw [if_pos c2, if_pos c2]
            have ex := pu_x20 p c2
            have : vPast pl z0 p = vPast pl rd p := by
              unfold vPast
              rw [i6]
              rcases i9 (p ^^^ 1) ex.1 with e | ⟨e, q, hq, e2, e3⟩
              · rw [e]
              · rw [hP, decide_eq_true_iff] at e3
                rw [e, e2, nI_clamp (show q < 2 ^ 31 by omega), decide_eq_false (show ¬ ¬ (-2 : Int32) = -2 from fun z => z rfl), Bool.false_and, decide_eq_false (show ¬ ¬ qr_off (pl_riders pl) q = rd_stops rd from fun z => z e3), Bool.and_false]
            rw [this]
          · rw [if_neg c2, if_neg c2]
        show ∃ a' c', f_X6_letOff_b67 pl _ (pu_sum (vSec pl rd) P i + vSec pl z0 i) (nI (fa_cnt S i)) 1 (nI i) (rd_set_place rd2 (upd (rd_place rd2) i (102 : Int32))) = _ ∧ f_X12_getOff_b92 mo bu _ (rd_stops rd) _ _ (nI i) w2 = _ ∧ _
        rw [f_X6_letOff_b67, f_X12_getOff_b92, nI_1, esec]
        refine ⟨(pu_sum (vSec pl rd) P i + vSec pl rd i, nI (fa_cnt S i), 1, rd_set_place rd2 (upd (rd_place rd2) i (102 : Int32))), w2, rfl, rfl, ?_, ?_, ?_, u3, ?_, ?_, ?_, ?_, ?_⟩
        · show _ = pu_sum (vSec pl rd) P (i + 1)
          rw [pu_sum, if_pos hp]
        · rw [fa_cnt_no hsN]
        · rw [fa_cnt_yes hp, decide_eq_true (by omega)]; rfl
        · intro q hq
          show upd (rd_place rd2) i (nI 102) q = _
          rw [u4]
          by_cases e : q = i
          · subst e; rw [pk_us, decide_eq_true (by omega), hp]; rfl
          · rw [pk_un e, i5 q hq]
            by_cases e2 : q < i
            · rw [decide_eq_true e2, decide_eq_true (show q < i + 1 by omega)]
            · rw [decide_eq_false e2, decide_eq_false (show ¬ q < i + 1 by omega)]
        · exact u5.trans i6
        · exact u6.trans i7
        · exact u7.trans i8
        · intro s hs
          show sc_sitter (rd_scene rd2) s = _ ∨ (sc_sitter (rd_scene rd2) s = -2 ∧ _)
          by_cases e : rd_place z0 i = nI s
          · rw [u9 s hs e]
            refine Or.inr ⟨rfl, ?_⟩
            rw [epi] at e
            rcases hR.sit s hs with ⟨_, b⟩ | ⟨q, hq, a, b⟩
            · exact absurd e (b i hi)
            · have := hR.uni q i s hq hi hs b e
              subst this
              exact ⟨q, hq, a, hp⟩
          · rw [u10 s hs e]; exact i9 s hs
      · have hp : P i = false := by rw [hP, decide_eq_false c1]
        rw [if_neg c1, if_neg c1, epi]
        have keep : ∀ q, q < vN pl → rd_place z0 q = if decide (q < i + 1) && P q then nI 102 else rd_place rd q := fun q hq => by
          rw [i5 q hq]
          by_cases e : q = i
          · subst e; rw [hp, Bool.and_false, Bool.and_false]
          · by_cases e2 : q < i
            · rw [decide_eq_true e2, decide_eq_true (show q < i + 1 by omega)]
            · rw [decide_eq_false e2, decide_eq_false (show ¬ q < i + 1 by omega)]
        have s1 : pu_sum (vSec pl rd) P i = pu_sum (vSec pl rd) P (i + 1) := by rw [pu_sum, if_neg (by rw [hp]; decide)]
        have s3 : pu_bI (decide (¬ fa_cnt P i = 0)) = pu_bI (decide (¬ fa_cnt P (i + 1) = 0)) := by rw [fa_cnt_no hp]
        by_cases c2 : rd_place rd i = 101
        · rw [if_pos c2]
          exact ⟨(pu_sum (vSec pl rd) P i, nI (fa_cnt S i + 1), pu_bI (decide (¬ fa_cnt P i = 0)), z0), c, rfl, rfl, s1, by rw [fa_cnt_yes (show S i = true by rw [hS, decide_eq_true c2, hp]; rfl)], s3, i4, keep, i6, i7, i8, i9⟩
        · rw [if_neg c2]
          exact ⟨(pu_sum (vSec pl rd) P i, nI (fa_cnt S i), pu_bI (decide (¬ fa_cnt P i = 0)), z0), c, rfl, rfl, s1, by rw [fa_cnt_no (show S i = false by rw [hS, decide_eq_false c2]; rfl)], s3, i4, keep, i6, i7, i8, i9⟩
    · intro n a c hI
      obtain ⟨v1, v2, v3, z0⟩ := a
      obtain ⟨i1, i2, i3, i4, i5, i6, i7, i8, i9⟩ := hI
      have i1 : v1 = _ := i1
      have i2 : v2 = _ := i2
      have i3 : v3 = _ := i3
      subst i1; subst i2; subst i3
      show ∃ took rd2 w2, f_X6_letOff_b9 pl (n + 1) (pu_sum (vSec pl rd) P (vN pl)) (nI (fa_cnt S (vN pl))) (pu_bI (decide (¬ fa_cnt P (vN pl) = 0))) (nI (vN pl)) z0 = _ ∧ f_X12_getOff_b58 mo bu (n + 1) (rd_stops rd) _ _ (nI (vN pl)) c = _ ∧ _
      rw [f_X6_letOff_b9, h.riders.1, if_pos (nI_le (Nat.le_refl _) (by omega)), f_X12_getOff_b58, hB.riders, h.riders.1, if_pos (nI_le (Nat.le_refl _) (by omega)), pu_ifb]
      have i5' : ∀ q, q < vN pl → rd_place z0 q = if P q then nI 102 else rd_place rd q := fun q hq => by
        have := i5 q hq
        rw [decide_eq_true hq, Bool.true_and] at this
        exact this
      by_cases c1 : fa_cnt P (vN pl) = 0
      · rw [decide_eq_false (fun z => z c1), if_neg (by decide), if_pos c1]
        exact ⟨_, z0, c, rfl, rfl, rfl, i4, i5', i6, i7, i8⟩
      · rw [decide_eq_true c1, if_pos rfl, if_neg c1]
        exact ⟨_, z0, c, rfl, rfl, rfl, i4, i5', i6, i7, i8⟩
  obtain ⟨took, rd2, w2, f1, f2, f3, f4, f5, f6, f7, f8⟩ := e58
  -- the reference counts those who stand
  have cS : ∀ q, q < vN pl → decide (rd_place rd2 q = 101) = S q := fun q hq => by
    rw [f5 q hq, hS]
    cases P q
    · simp
    · simp
      decide
  have hP0 : fa_cnt P (vN pl) ≤ vN pl := fa_cnt_le P (vN pl)
  have e101 : f_X12_getOff_b101 mo bu 4096 (rd_stops rd) (pu_sum (vSec pl rd) P (vN pl)) (nI (fa_cnt P (vN pl))) 0 w2 = some (yW_set_r w2 (upd (yW_r w2) (40 + vSt (rd_stops rd)) took)) := by
    refine pu_for (fun n i (a : Int32) => f_X12_getOff_b101 mo bu n (rd_stops rd) a (nI (fa_cnt P (vN pl))) i w2) (vN pl) (fun i a => a = if fa_cnt P (vN pl) = 0 then pu_sum (vSec pl rd) P (vN pl) else pu_sum (vSec pl rd) P (vN pl) + nI (fa_cnt S i)) (fun o => o = some (yW_set_r w2 (upd (yW_r w2) (40 + vSt (rd_stops rd)) took))) ?_ ?_ (vN pl) 0 (pu_sum (vSec pl rd) P (vN pl)) 4096 (by omega) (by omega) (by
      by_cases c1 : fa_cnt P (vN pl) = 0
      · rw [if_pos c1]
      · rw [if_neg c1]; exact (Int32.add_zero _).symm)
    · intro n i a hi e
      refine Or.inl ?_
      show ∃ a', f_X12_getOff_b101 mo bu (n + 1) (rd_stops rd) a (nI (fa_cnt P (vN pl))) (nI i) w2 = _ ∧ _
      rw [f_X12_getOff_b101, hB.riders, h.riders.1, if_neg (nI_ge hi (by omega)), pu_z, if_pos (pu_inn (by omega) (by omega)), nI_clamp (by omega), f4.pla i hi, nI_1]
      have e0 : (nI (fa_cnt P (vN pl)) ≤ (0 : Int32)) = (fa_cnt P (vN pl) = 0) := by
        show (nI (fa_cnt P (vN pl)) ≤ nI 0) = _
        rw [nI_leI (by omega) (by omega)]
        exact propext (by omega)
      simp only [e0]
      unfold f_X12_getOff_b136
      rw [nI_1, Int32.add_zero]
      by_cases c1 : fa_cnt P (vN pl) = 0
      · rw [if_pos c1] at e ⊢
        exact ⟨_, rfl, by rw [if_pos c1]; exact e⟩
      · rw [if_neg c1] at e ⊢
        have hc := cS i hi
        by_cases c2 : rd_place rd2 i = 101
        · rw [decide_eq_true c2] at hc
          rw [if_pos c2]
          refine ⟨_, rfl, ?_⟩
          rw [if_neg c1, fa_cnt_yes hc.symm, e, ← nI_1, Int32.add_assoc]
        · rw [decide_eq_false c2] at hc
          rw [if_neg c2]
          refine ⟨_, rfl, ?_⟩
          rw [if_neg c1, fa_cnt_no hc.symm, e]
    · intro n a e
      show f_X12_getOff_b101 mo bu (n + 1) (rd_stops rd) a (nI (fa_cnt P (vN pl))) (nI (vN pl)) w2 = _
      rw [f_X12_getOff_b101, hB.riders, h.riders.1, if_pos (nI_le (Nat.le_refl _) (by omega))]
      have ea : a = took := by
        rw [e, f3]
        by_cases c1 : fa_cnt P (vN pl) = 0
        · rw [if_pos c1, if_pos c1]
          refine pu_sum_none (fun i hi => ?_)
          cases hh : P i
          · rfl
          · exfalso
            have : ∀ m, i < m → 1 ≤ fa_cnt P m := by
              intro m hm
              induction m with
              | zero => omega
              | succ k ih =>
                by_cases e : i = k
                · subst e; rw [fa_cnt_yes hh]; omega
                · have := ih (by omega)
                  unfold fa_cnt
                  omega
            have := this _ hi
            omega
        · rw [if_neg c1, if_neg c1]
      have es := hs0.2.1
      generalize rd_stops rd = st at es hst ⊢
      rw [es, pu_a40, if_pos (pu_inn (by omega) (by omega)), nI_clamp (by omega), ea, f_X12_getOff_b155]
      rw [← es]
  refine ⟨took, rd2, yW_set_r w2 (upd (yW_r w2) (40 + vSt (rd_stops rd)) took), f1, by rw [e7, f2, e101], ?_, ?_, ?_, f6, f7, f8⟩
  · show upd (yW_r w2) (40 + vSt (rd_stops rd)) took (40 + vSt (rd_stops rd)) = took
    exact pk_us
  · intro f hf
    have g : ∀ k, k ≠ 40 + vSt (rd_stops rd) → upd (yW_r w2) (40 + vSt (rd_stops rd)) took k = yW_r w2 k := fun k e => pk_un e
    have f4s := f4.sto
    refine ⟨fun q hq => ?_, f4.plv, f4.sit, f4.uni, fun s hs => ?_, fun q hq => ?_, fun q hq => ?_, fun q hq => ?_, fun q hq => ?_, fun s hs => ?_, ?_, ?_, ?_⟩
    · show upd (yW_r w2) _ took q = _
      rw [g _ (by omega)]; exact f4.pla q hq
    · rcases f4.lug s hs with ⟨a, b⟩ | ⟨q, hq, a, b⟩
      · refine Or.inl ⟨a, fun q hq => ?_⟩
        show ¬ upd (yW_r w2) _ took (8 + q) = _
        rw [g _ (by omega)]; exact b q hq
      · refine Or.inr ⟨q, hq, a, ?_⟩
        show upd (yW_r w2) _ took (8 + q) = _
        rw [g _ (by omega)]; exact b
    · show upd (yW_r w2) _ took (8 + q) = _ ∨ ∃ p, p < 20 ∧ _ ∧ _ ∧ _ ∧ upd (yW_r w2) _ took (8 + q) = _ ∧ _
      rw [g _ (by omega)]; exact f4.bag q hq
    · show upd (yW_r w2) _ took (16 + q) = _
      rw [g _ (by omega)]; exact f4.tur q hq
    · show upd (yW_r w2) _ took (24 + q) = _
      rw [g _ (by omega)]; exact f4.pas q hq
    · show upd (yW_r w2) _ took (32 + q) = _
      rw [g _ (by omega)]; exact f4.joi q hq
    · show upd (yW_r w2) _ took (40 + s) = f s
      have hs' : s < vSt (rd_stops rd) := by rw [← f6]; exact hs
      rw [g _ (by omega), hf s hs', f4.spe s hs, f8]
    · show upd (yW_r w2) _ took 52 = _ ∧ _
      rw [g _ (by omega)]; exact f4s
    · show upd (yW_r w2) _ took 53 = _
      rw [g _ (by omega)]; exact f4.tus
    · show upd (yW_r w2) _ took 54 = _
      rw [g _ (by omega)]; exact f4.gif
  · intro q hq hc
    rw [f6] at hc
    have ho := h.off q hq
    rw [f5 q hq]
    have : P q = false := by
      rw [hP, decide_eq_false]
      intro e
      rw [ho.1, hs0.2.1, nI_eq (by omega) (by omega)] at e
      omega
    rw [this]
    exact hO q hq hc
end PO
