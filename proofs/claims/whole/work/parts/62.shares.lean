/-! odds: shares, level by level, of both -/
theorem pu_st_const (P : Nat → Bool) (x : Int64) : ∀ e i, pu_st P (fun _ => x) i e = lN (pu_ct P i e) * x := by
  intro e
  induction e with
  | zero => intro i; rw [pu_st, pu_ct, show lN 0 = 0 from rfl, Int64.zero_mul]
  | succ e ih =>
    intro i
    rw [pu_st, pu_ct, ih (i + 1), ← lN_add, Int64.add_mul]
    cases P i
    · rw [pu_ff, pu_ff, show lN 0 = 0 from rfl, Int64.zero_mul]
    · rw [pu_tt, pu_tt, show lN 1 = 1 from rfl, Int64.one_mul]
theorem pu_st_one (P : Nat → Bool) (x : Int64) (s : Nat) : ∀ e i, pu_st P (fun j => if j = s then x else 0) i e = if (decide (i ≤ s) && decide (s < i + e) && P s) = true then x else 0 := by
  intro e
  induction e with
  | zero =>
    intro i
    rw [pu_st]
    by_cases c : i ≤ s
    · rw [decide_eq_false (show ¬ s < i + 0 by omega), Bool.and_false, Bool.false_and, pu_ff]
    · rw [decide_eq_false c, Bool.false_and, Bool.false_and, pu_ff]
  | succ e ih =>
    intro i
    rw [pu_st, ih (i + 1)]
    by_cases c : i = s
    · subst c
      rw [if_pos rfl, decide_eq_false (show ¬ i + 1 ≤ i by omega), Bool.false_and, Bool.false_and, pu_ff, Int64.add_zero, decide_eq_true (Nat.le_refl i), decide_eq_true (show i < i + (e + 1) by omega), Bool.true_and, Bool.true_and]
    · rw [if_neg c, ite_self, Int64.zero_add, show decide (i + 1 ≤ s) = decide (i ≤ s) from decide_eq_decide.mpr (by omega), show decide (s < i + 1 + e) = decide (s < i + (e + 1)) from decide_eq_decide.mpr (by omega)]
section PH
variable {pl : PlanT} {bu : BusT} {looks : LooksT} {co : ComingT}
/-- run out -/
theorem pu_out (mo : MOT) (q s : Int32) : ∀ k, k ≤ 4 → ∀ (fuel : Nat) (tot : Int64) (z1 : WT) (who : WhoT) (look : LookT) (ahead : AheadT) (left : LeftT) (times : TimesT) (part : PartT), (∀ j, j < k → yLeft_r left j = 0) → k < fuel → f_X12_oddsOf_b17 mo looks co bu fuel q s tot (nI k + (-1)) z1 who look ahead left times part = some (tot, z1, who, look, ahead, left, times, part) := by
  intro k
  induction k with
  | zero => intro _ fuel tot z1 who look ahead left times part _ hf; cases fuel with
    | zero => omega
    | succ fuel => rw [f_X12_oddsOf_b17, if_pos (show nI 0 + (-1 : Int32) < 0 by decide)]
  | succ k ih => intro hk fuel tot z1 who look ahead left times part hl hf; cases fuel with
    | zero => omega
    | succ fuel =>
      rw [pk_m1, f_X12_oddsOf_b17, if_neg (nI_pos (by omega)), if_pos (pu_inn (by omega) (by omega)), nI_clamp (by omega), hl k (by omega), if_pos rfl]
      exact ih (by omega) fuel tot z1 who look ahead left times part (fun j hj => hl j (by omega)) (by omega)
theorem pu_DFu (mo : MOT) (q s : Int32) {d k : Nat} (hk : k ≤ 4) {w : Nat → Int32} {v v' : Int64} (h1 : pu_DF mo looks co bu q s d k w v) (h2 : pu_DF mo looks co bu q s d k w v') : v = v' := by
  have dWho : WhoT := fun _ => 0
  have dLook : LookT := fun _ => 0
  have dA : AheadT := fun _ => 0
  have dP : PartT := fun _ => 0
  obtain ⟨z1, who1, look1, a1, l1, t1, p1, c1, _, _, x1, _, y1⟩ := h1 w dWho dLook dA (fun _ => 0 : Nat → Int32) (fun _ => 1 : Nat → Int64) dP 0 (fun _ _ => rfl)
  obtain ⟨z2, who2, look2, a2, l2, t2, p2, c2, _, _, x2, _, y2⟩ := h2 w dWho dLook dA (fun _ => 0 : Nat → Int32) (fun _ => 1 : Nat → Int64) dP 0 (fun _ _ => rfl)
  have e1 := y1 (10 + c2)
  have e2 := y2 (10 + c1)
  rw [show 10 + c1 + c2 = 10 + c2 + c1 by omega, e1] at e2
  rw [pu_out mo q s k hk _ _ _ _ _ _ l1 _ _ (fun j hj => (x1 j hj).1) (by omega), pu_out mo q s k hk _ _ _ _ _ _ l2 _ _ (fun j hj => (x2 j hj).1) (by omega)] at e2
  have e3 := congrArg (fun o => (o.map Prod.fst)) e2
  have e4 : (0 : Int64) + 1 * v = 0 + 1 * v' := Option.some.inj e3
  rw [Int64.one_mul, Int64.one_mul, Int64.zero_add, Int64.zero_add] at e4
  exact e4
theorem pu_RXv {rd : RideT} {w : Nat → Int32} (hX : pu_RX pl looks rd w) {r : Nat} (hv : rd_place rd r = 100) : ∃ p, pu_RR pl (rd_set_place rd p) w ∧ pu_RL pl (rd_set_place rd p) (yLooks_r looks) ∧ vSits (rd_set_place rd p) r = false := by
  obtain ⟨p, h1, h2, h3⟩ := hX
  refine ⟨p, h2, h3, ?_⟩
  unfold vSits
  show decide (¬ (20 : Int32) ≤ p r) = false
  rcases h1 r with e | ⟨_, e⟩
  · rw [e, hv]; decide
  · rw [e]; decide
variable {m : Nat} {b : Nat → Nat} {mo : MOT}
/-- who has chosen already -/
theorem pu_placed (h : pu_GP pl) (hB : pu_RB pl bu) (hm : m ≤ 4) (em : mo_comers mo = nI m) (hco : ∀ j, j < m → yComing_r co j = nI (b j)) {st : Nat} (hb : pu_CO pl st m b) {r : Nat} (hr : r < vN pl) (s : Int32) : ∀ d k, k + d = m → ∀ (rd : RideT) (w : Nat → Int32), pu_RX pl looks rd w → (∀ j, k ≤ j → j < m → rd_place rd (b j) = 100) → (∀ j, k ≤ j → j < m → b j ≠ r) → pu_DF mo looks co bu (nI r) s d k w (if w r = s then pu_pw d else 0) := by
  have h8 := h.riders.2.2
  intro d
  induction d with
  | zero =>
    intro k hk rd w _ _ _
    have e : k = m := by omega
    subst e
    exact pu_leaf mo looks co bu s hm em (by omega) w
  | succ d ih =>
    intro k hk rd w hX hpl hne
    have hbk := hb.lt k (by omega)
    have inc : ∀ j, k + 1 ≤ j → j < m → b j ≠ b k := fun j h1 h2 => by have := hb.inc k j (by omega) h2; omega
    obtain ⟨p, x1, x2, x3⟩ := pu_RXv hX (hpl k (by omega) (by omega))
    obtain ⟨M, t, e1, e2, e3, e4, e5⟩ := pu_DFs (co := co) h hB x1 x2 mo (nI r) s (d := d) (k := k) (r := b k) (m := m) (by omega) (by omega) hm em hbk (hco k (by omega)) x3
    have ht : ∀ i, bt t i = true → i < 20 := fun i hi => (e3 i hi).1
    by_cases t0 : t = 0
    · have := e4 t0 (if w r = s then pu_pw d else 0) (fun z hz => by
        have y := ih (k + 1) (by omega) rd (upd (yW_r z) (b k) 101) (pu_RXst h (pu_RXc h hX hz) hbk (hpl k (by omega) (by omega))) (fun j h1 h2 => hpl j (by omega) h2) (fun j h1 h2 => hne j (by omega) h2)
        rw [pu_upN _ _ (fun e => hne k (by omega) (by omega) e.symm), hz r (by omega)] at y
        exact y)
      by_cases c : w r = s
      · rw [if_pos c] at this ⊢
        rw [pu_pw, Int64.mul_comm]; exact this
      · rw [if_neg c] at this ⊢
        rw [Int64.mul_zero] at this; exact this
    · have := e5 t0 (fun _ => if w r = s then pu_pw d else 0) (fun i hi z hz => by
        have hi2 := e3 i (pu_FT_lt hi).2
        obtain ⟨rd2, w2, y1, y2, y3, y4, y5, y6⟩ := pu_RXsit h hB (w := z) (pu_RXc h hX hz) mo hbk hi2.1 hi2.2.1 hi2.2.2 (hpl k (by omega) (by omega))
        have y := ih (k + 1) (by omega) rd2 (yW_r w2) y3 (fun j h1 h2 => by rw [y4, pu_upN _ _ (inc j h1 h2)]; exact hpl j (by omega) h2) (fun j h1 h2 => hne j (by omega) h2)
        rw [y5 r hr (fun e => hne k (by omega) (by omega) e.symm), hz r (by omega)] at y
        exact ⟨w2, y2, y⟩)
      have l := pu_LC1 ht
      have lc : pu_ct (bt (pu_FT t)) 0 20 = pu_LC t := by
        unfold pu_LC
        rw [if_neg t0, pu_ct_cn]
        exact pu_cn_ext (fun i _ => by rw [Nat.zero_add])
      have pr := (pu_27720 (pu_LC t) (by omega) l.1).2.2.1
      rw [pu_st_const, lc, ← Int64.mul_assoc, lN_mul, Nat.mul_comm, pr, show lN 27720 = 27720 from rfl] at this
      by_cases c : w r = s
      · rw [if_pos c] at this ⊢
        rw [pu_pw, Int64.mul_comm]; exact this
      · rw [if_neg c] at this ⊢
        rw [Int64.mul_zero] at this; exact this
/-- its own turn -/
theorem pu_own (h : pu_GP pl) (hB : pu_RB pl bu) (hm : m ≤ 4) (em : mo_comers mo = nI m) (hco : ∀ j, j < m → yComing_r co j = nI (b j)) {st : Nat} (hb : pu_CO pl st m b) {d k s : Nat} (hs : s < 20) (hd : k + 1 + d = m) {rd : RideT} {w : Nat → Int32} (hX : pu_RX pl looks rd w) (hpl : ∀ j, k ≤ j → j < m → rd_place rd (b j) = 100) :
    ∃ M t, f_X6_bestSeats rd pl (nI (b k)) = some M ∧ f_X6_tied rd pl (nI (b k)) M = some t ∧ (∀ i, bt t i = true → i < 20) ∧ pu_DF mo looks co bu (nI (b k)) (nI s) (d + 1) k w (if bt (pu_FT t) s = true then lN (27720 / pu_LC t) * pu_pw d else 0) := by
  have h8 := h.riders.2.2
  have hbk := hb.lt k (by omega)
  have inc : ∀ j, k + 1 ≤ j → j < m → b j ≠ b k := fun j h1 h2 => by have := hb.inc k j (by omega) h2; omega
  obtain ⟨p, x1, x2, x3⟩ := pu_RXv hX (hpl k (by omega) (by omega))
  obtain ⟨M, t, e1, e2, e3, e4, e5⟩ := pu_DFs (co := co) h hB x1 x2 mo (nI (b k)) (nI s) (d := d) (k := k) (r := b k) (m := m) (by omega) (by omega) hm em hbk (hco k (by omega)) x3
  rw [pu_bestP] at e1
  rw [pu_tiedP] at e2
  refine ⟨M, t, e1, e2, fun i hi => (e3 i hi).1, ?_⟩
  by_cases t0 : t = 0
  · have := e4 t0 0 (fun z hz => by
      have y := pu_placed (looks := looks) (bu := bu) h hB hm em hco hb hbk (nI s) d (k + 1) (by omega) rd (upd (yW_r z) (b k) 101) (pu_RXst h (pu_RXc h hX hz) hbk (hpl k (by omega) (by omega))) (fun j h1 h2 => hpl j (by omega) h2) inc
      rw [pu_upS, if_neg (show ¬ (101 : Int32) = nI s from fun e => by
        have := (nI_eq (a := 101) (b := s) (by omega) (by omega)).mp e
        omega)] at y
      exact y)
    rw [t0, pu_FT0, b_0, pu_ff]
    rw [Int64.mul_zero] at this
    exact this
  · have := e5 t0 (fun j => if j = s then pu_pw d else 0) (fun i hi z hz => by
      have hi2 := e3 i (pu_FT_lt hi).2
      obtain ⟨rd2, w2, y1, y2, y3, y4, y5, y6⟩ := pu_RXsit h hB (w := z) (pu_RXc h hX hz) mo hbk hi2.1 hi2.2.1 hi2.2.2 (hpl k (by omega) (by omega))
      have y := pu_placed (looks := looks) (bu := bu) h hB hm em hco hb hbk (nI s) d (k + 1) (by omega) rd2 (yW_r w2) y3 (fun j h1 h2 => by rw [y4, pu_upN _ _ (inc j h1 h2)]; exact hpl j (by omega) h2) inc
      rw [y6] at y
      refine ⟨w2, y2, ?_⟩
      by_cases c : i = s
      · rw [if_pos (by rw [c])] at y
        show pu_DF mo looks co bu (nI (b k)) (nI s) d (k + 1) (yW_r w2) (if i = s then pu_pw d else 0)
        rw [if_pos c]; exact y
      · rw [if_neg (fun e => c ((nI_eq (by omega) (by omega)).mp e))] at y
        show pu_DF mo looks co bu (nI (b k)) (nI s) d (k + 1) (yW_r w2) (if i = s then pu_pw d else 0)
        rw [if_neg c]; exact y)
    rw [pu_st_one, decide_eq_true (Nat.zero_le s), decide_eq_true (show s < 0 + 20 by omega), Bool.true_and, Bool.true_and] at this
    cases hb : bt (pu_FT t) s
    · rw [hb, pu_ff, Int64.mul_zero] at this
      rw [pu_ff]; exact this
    · rw [hb, pu_tt] at this
      rw [pu_tt]; exact this
/-- another's turn -/
theorem pu_oth (h : pu_GP pl) (hB : pu_RB pl bu) (hm : m ≤ 4) (em : mo_comers mo = nI m) (hco : ∀ j, j < m → yComing_r co j = nI (b j)) {st : Nat} (hb : pu_CO pl st m b) {r : Nat} {s : Int32} {d k : Nat} (hd : k + 1 + d = m) {C : RideT → Int64 → Prop} (hC : ∀ rd v v', C rd v → C rd v' → v = v')
    (IH : ∀ (rd : RideT) (w : Nat → Int32), pu_RX pl looks rd w → (∀ j, k + 1 ≤ j → j < m → rd_place rd (b j) = 100) → ∃ v, C rd v ∧ pu_DF mo looks co bu (nI r) s d (k + 1) w v)
    {rd : RideT} {w : Nat → Int32} (hX : pu_RX pl looks rd w) (hpl : ∀ j, k ≤ j → j < m → rd_place rd (b j) = 100) :
    ∃ M t, f_X6_bestSeats rd pl (nI (b k)) = some M ∧ f_X6_tied rd pl (nI (b k)) M = some t ∧ (∀ i, bt t i = true → i < 20) ∧
      (t = 0 → ∃ v1, (∀ z3, ∃ rd', f_X6_copyFrom z3 rd = some rd' ∧ C rd' v1) ∧ pu_DF mo looks co bu (nI r) s (d + 1) k w ((27720 : Int64) * v1)) ∧
      (¬ t = 0 → ∃ v : Nat → Int64, (∀ i, bt (pu_FT t) i = true → ∀ z3, ∃ rd' y, f_X6_copyFrom z3 rd = some rd' ∧ f_X6_sitDown rd' pl (nI (b k)) (nI i) = some y ∧ C y (v i)) ∧ pu_DF mo looks co bu (nI r) s (d + 1) k w (lN (27720 / pu_LC t) * pu_st (bt (pu_FT t)) v 0 20)) := by
  have h8 := h.riders.2.2
  have hbk := hb.lt k (by omega)
  have hp100 := hpl k (by omega) (by omega)
  have inc : ∀ j, k + 1 ≤ j → j < m → b j ≠ b k := fun j h1 h2 => by have := hb.inc k j (by omega) h2; omega
  obtain ⟨p, x1, x2, x3⟩ := pu_RXv hX hp100
  obtain ⟨M, t, e1, e2, e3, e4, e5⟩ := pu_DFs (co := co) h hB x1 x2 mo (nI r) s (d := d) (k := k) (r := b k) (m := m) (by omega) (by omega) hm em hbk (hco k (by omega)) x3
  rw [pu_bestP] at e1
  rw [pu_tiedP] at e2
  refine ⟨M, t, e1, e2, fun i hi => (e3 i hi).1, fun t0 => ?_, fun t0 => ?_⟩
  · have wst : ∀ z : WT, (∀ j, j < 56 → yW_r z j = w j) → pu_RX pl looks rd (upd (yW_r z) (b k) 101) := fun z hz => pu_RXst h (pu_RXc h hX hz) hbk hp100
    obtain ⟨rd0, c1, c2, c3⟩ := pu_RXcopy h rd (wst w (fun _ _ => rfl))
    obtain ⟨v1, k1, k2⟩ := IH rd0 _ c2 (fun j h1 h2 => by rw [c3 _ (by have := hb.lt j h2; omega)]; exact hpl j (by omega) h2)
    refine ⟨v1, fun z3 => ?_, e4 t0 v1 (fun z hz => ?_)⟩
    · obtain ⟨rd', d1, d2, d3⟩ := pu_RXcopy h z3 (wst w (fun _ _ => rfl))
      obtain ⟨v2, k3, k4⟩ := IH rd' _ d2 (fun j h1 h2 => by rw [d3 _ (by have := hb.lt j h2; omega)]; exact hpl j (by omega) h2)
      rw [pu_DFu mo (nI r) s (by omega) k2 k4]
      exact ⟨rd', d1, k3⟩
    · have hx : pu_RX pl looks rd0 (upd (yW_r z) (b k) 101) := pu_RXc h c2 (fun j hj => by
        show upd (yW_r z) (b k) 101 j = upd w (b k) 101 j
        by_cases c : j = b k
        · subst c; rw [pu_upS, pu_upS]
        · rw [pu_upN _ _ c, pu_upN _ _ c]; exact hz j hj)
      obtain ⟨v2, k3, k4⟩ := IH rd0 _ hx (fun j h1 h2 => by rw [c3 _ (by have := hb.lt j h2; omega)]; exact hpl j (by omega) h2)
      rw [hC _ _ _ k1 k3]
      exact k4
  · have one : ∀ i, bt (pu_FT t) i = true → ∀ (z3 : RideT) (z : WT), (∀ j, j < 56 → yW_r z j = w j) → ∃ rd' y w2 v, f_X6_copyFrom z3 rd = some rd' ∧ f_X6_sitDown rd' pl (nI (b k)) (nI i) = some y ∧ f_X12_sitsDown mo z bu (nI (b k)) (nI i) = some w2 ∧ C y v ∧ pu_DF mo looks co bu (nI r) s d (k + 1) (yW_r w2) v := by
      intro i hi z3 z hz
      have hi2 := e3 i (pu_FT_lt hi).2
      obtain ⟨rd', d1, d2, d3⟩ := pu_RXcopy h z3 (pu_RXc h hX hz)
      have dsc : sc_sitter (rd_scene rd') i = -2 := by
        have : rd' = _ := (Option.some.inj d1).symm
        rw [this]
        exact (pu_cp hi2.1).trans hi2.2.2
      obtain ⟨y, w2, y1, y2, y3, y4, _, _⟩ := pu_RXsit h hB (w := z) d2 mo hbk hi2.1 hi2.2.1 dsc (by rw [d3 _ (by omega)]; exact hp100)
      obtain ⟨v, k1, k2⟩ := IH y (yW_r w2) y3 (fun j h1 h2 => by rw [y4, pu_upN _ _ (inc j h1 h2), d3 _ (by have := hb.lt j h2; omega)]; exact hpl j (by omega) h2)
      exact ⟨rd', y, w2, v, d1, y1, y2, k1, k2⟩
    have H : ∀ i, ∃ v, bt (pu_FT t) i = true → ∃ rd' y w2, f_X6_copyFrom rd rd = some rd' ∧ f_X6_sitDown rd' pl (nI (b k)) (nI i) = some y ∧ f_X12_sitsDown mo w bu (nI (b k)) (nI i) = some w2 ∧ C y v ∧ pu_DF mo looks co bu (nI r) s d (k + 1) (yW_r w2) v := by
      intro i
      by_cases c : bt (pu_FT t) i = true
      · obtain ⟨rd', y, w2, v, k1, k2, k3, k4, k5⟩ := one i c rd w (fun _ _ => rfl)
        exact ⟨v, fun _ => ⟨rd', y, w2, k1, k2, k3, k4, k5⟩⟩
      · exact ⟨0, fun z => absurd z c⟩
    obtain ⟨v, hv⟩ := Classical.skolem.mp H
    refine ⟨v, fun i hi z3 => ?_, e5 t0 v (fun i hi z hz => ?_)⟩
    · obtain ⟨rd', y, w2, k1, k2, k3, k4, k5⟩ := hv i hi
      obtain ⟨rd3, y3, w3, v3, j1, j2, j3, j4, j5⟩ := one i hi z3 w (fun _ _ => rfl)
      have ew : w2 = w3 := Option.some.inj (k3.symm.trans j3)
      subst ew
      rw [pu_DFu mo (nI r) s (by omega) k5 j5]
      exact ⟨rd3, y3, j1, j2, j4⟩
    · obtain ⟨rd', y, w2, k1, k2, k3, k4, k5⟩ := hv i hi
      obtain ⟨rd3, y3, w3, v3, j1, j2, j3, j4, j5⟩ := one i hi rd z hz
      have er : rd' = rd3 := Option.some.inj (k1.symm.trans j1)
      subst er
      have ey : y = y3 := Option.some.inj (k2.symm.trans j2)
      subst ey
      rw [hC _ _ _ k4 j4]
      exact ⟨w3, j3, j5⟩
end PH
