/-! odds: the class's levels, one for each depth (written by gen63.py) -/
section PI
variable {pl : PlanT} {bu : BusT} {looks : LooksT} {co : ComingT} {od : OddsT} {q4 : Rides4T} {m : Nat} {b : Nat → Nat} {mo : MOT} {r s : Nat}
def pu_Cv3 (od : OddsT) (q4 : Rides4T) (pl : PlanT) (x1 x2 : Int32) (rd : RideT) (v : Int64) : Prop := f_X3_sharesFrom_d3 od q4 rd pl x1 x2 = some v
theorem pu_Cv3f {x1 x2 : Int32} (rd : RideT) (v v' : Int64) (h1 : pu_Cv3 od q4 pl x1 x2 rd v) (h2 : pu_Cv3 od q4 pl x1 x2 rd v') : v = v' := Option.some.inj (h1.symm.trans h2)
theorem pu_L3 (h : pu_GP pl) (hB : pu_RB pl bu) (hm : m ≤ 4) (hk : 3 < m) (em : mo_comers mo = nI m) (hco : ∀ j, j < m → yComing_r co j = nI (b j)) (eo : od_count od = nI m) (ho : ∀ j, j < m → od_boarding od j = nI (b j)) {st : Nat} (hb : pu_CO pl st m b) (hs : s < 20) (hj : ∃ j, 3 ≤ j ∧ j < m ∧ b j = r) (rd : RideT) (w : Nat → Int32) (hX : pu_RX pl looks rd w) (hpl : ∀ j, 3 ≤ j → j < m → rd_place rd (b j) = 100) : ∃ v, pu_Cv3 od q4 pl (nI r) (nI s) rd v ∧ pu_DF mo looks co bu (nI r) (nI s) (m - 3) 3 w v := by
  have h8 := h.riders.2.2
  have hbk := hb.lt 3 (by omega)
  have hcnt : ¬ nI m ≤ (3 : Int32) := nI_ge (a := 3) (b := m) (by omega) (by omega)
  have hin : kb_in? (3 : Int32) 8 := by decide
  have hcl : ((3 : Int32)).toNatClampNeg = 3 := by decide
  have hsub : nI m - (3 : Int32) - (1 : Int32) = nI (m - 3 - 1) := by
    rw [show nI m - (3 : Int32) = nI (m - 3) from pk_sub (a := m) (b := 3) (by omega)]
    exact pk_sub (a := m - 3) (b := 1) (by omega)
  by_cases own : b 3 = r
  · obtain ⟨M, t, e1, e2, e3, e4⟩ := pu_own (looks := looks) (bu := bu) h hB hm em hco hb (d := m - 3 - 1) (k := 3) hs (by omega) hX hpl
    rw [show m - 3 - 1 + 1 = m - 3 by omega, own] at e4
    refine ⟨_, ?_, e4⟩
    have cn := pu_countN (x := pu_FT t) (fun i hi => (pu_FT_lt hi).1)
    have c12 := pu_FT_cn t
    show f_X3_sharesFrom_d3 od q4 rd pl (nI r) (nI s) = some _
    rw [f_X3_sharesFrom_d3, eo, if_neg hcnt, if_pos hin, hcl, ho 3 hk, e1, pu_sb, e2, pu_sb, pu_firstTies, pu_sb, cn.1, pu_sb, if_pos (by rw [own])]
    have le0 : (nI (pu_cn (bt (pu_FT t)) 20) ≤ 0) ↔ pu_cn (bt (pu_FT t)) 20 ≤ 0 := nI_leI (a := pu_cn (bt (pu_FT t)) 20) (b := 0) (by omega) (by omega)
    cases hbs : bt (pu_FT t) s
    · rw [pu_ff, pu_hb _ (show s < 32 by omega), hbs, pu_sb, if_pos (show pu_bI false = 0 from rfl), ite_self, f_X3_sharesFrom_d3_b85, f_X3_sharesFrom_d3_b86, if_pos rfl]
    · have nz : ¬ pu_cn (bt (pu_FT t)) 20 = 0 := fun e => by
        rw [cn.2.2.mp e, b_0] at hbs; cases hbs
      have t0 : ¬ t = 0 := fun e => by
        rw [e, pu_FT0, b_0] at hbs; cases hbs
      have lc : pu_LC t = pu_cn (bt (pu_FT t)) 20 := by unfold pu_LC; rw [if_neg t0]
      have p := pu_27720 (pu_cn (bt (pu_FT t)) 20) (by omega) (by omega)
      rw [pu_tt, lc, if_neg (fun e => nz (by have := le0.mp e; omega)), pu_hb _ (show s < 32 by omega), hbs, pu_sb, if_neg (show ¬ pu_bI true = 0 by decide), f_X3_sharesFrom_d3_b86, if_neg (show ¬ (1 : Int32) = 0 by decide), if_pos p.2.2.2, p.2.1, eo, hsub, pu_sharesOfAll (by omega), pu_sb]
  · obtain ⟨j, j1, j2, j3⟩ := hj
    exact absurd (show b 3 = r by rw [← j3, show j = 3 by omega]) own
def pu_Cv2 (od : OddsT) (q4 : Rides4T) (pl : PlanT) (x1 x2 : Int32) (rd : RideT) (v : Int64) : Prop := ∀ u1 : RideT, ∃ u1' : RideT, f_X3_sharesFrom_d2 od q4 rd u1 pl x1 x2 = some (v, u1')
theorem pu_Cv2f {x1 x2 : Int32} (rd : RideT) (v v' : Int64) (h1 : pu_Cv2 od q4 pl x1 x2 rd v) (h2 : pu_Cv2 od q4 pl x1 x2 rd v') : v = v' := by
  obtain ⟨_, e1⟩ := h1 rd
  obtain ⟨_, e2⟩ := h2 rd
  exact congrArg Prod.fst (Option.some.inj (e1.symm.trans e2))
theorem pu_lp2 {x1 x2 : Int32} {rd : RideT} {T : Int32} {c k : Nat} (h1 : 1 ≤ c) (h12 : c ≤ 12) {v : Nat → Int64} (hch : ∀ i, bt T i = true → ∀ z3, ∃ rd' y, f_X6_copyFrom z3 rd = some rd' ∧ f_X6_sitDown rd' pl (nI k) (nI i) = some y ∧ pu_Cv3 od q4 pl x1 x2 y (v i)) : ∀ e0 i, i + e0 = 20 → ∀ (fuel : Nat) (v9 : Int64) (u1 : RideT), e0 < fuel → ∃ u1' : RideT, f_X3_sharesFrom_d2_b172 od q4 rd pl fuel x1 x2 (nI k) T (nI c) v9 (nI i) u1 = some (lN (27720 / c) * (v9 + pu_st (bt T) v i e0), u1') := by
  have p := pu_27720 c (by omega) h1
  intro e0
  induction e0 with
  | zero => intro i hi fuel v9 u1 hf; cases fuel with
    | zero => omega
    | succ fuel =>
      have e : i = 20 := by omega
      subst e
      refine ⟨u1, ?_⟩
      rw [f_X3_sharesFrom_d2_b172, if_pos pu_le20, if_pos p.2.2.2, p.2.1, pu_st, Int64.add_zero]
  | succ e0 ih => intro i hi fuel v9 u1 hf; cases fuel with
    | zero => omega
    | succ fuel =>
      rw [f_X3_sharesFrom_d2_b172, if_neg (pu_ge20 (show i < 20 by omega)), pu_hb _ (by omega), pu_sb, pu_ifb, nI_1, pu_st]
      cases hb : bt T i
      · rw [pu_ff, pu_ff, Int64.zero_add]
        exact ih (i + 1) (by omega) fuel v9 u1 (by omega)
      · obtain ⟨rd', y, d1, d2, d3⟩ := hch i hb u1
        have d4 : f_X3_sharesFrom_d3 od q4 y pl x1 x2 = some (v i) := d3
        obtain ⟨n1, k1⟩ := ih (i + 1) (by omega) fuel (v9 + v i) y (by omega)
        refine ⟨n1, ?_⟩
        rw [pu_tt, pu_tt, d1, pu_sb, f_X3_sharesFrom_d2_b196, d2, pu_sb, f_X3_sharesFrom_d2_b205, d4, pu_sb, nI_1, k1, Int64.add_assoc]
theorem pu_L2 (h : pu_GP pl) (hB : pu_RB pl bu) (hm : m ≤ 4) (hk : 2 < m) (em : mo_comers mo = nI m) (hco : ∀ j, j < m → yComing_r co j = nI (b j)) (eo : od_count od = nI m) (ho : ∀ j, j < m → od_boarding od j = nI (b j)) {st : Nat} (hb : pu_CO pl st m b) (hs : s < 20) (hj : ∃ j, 2 ≤ j ∧ j < m ∧ b j = r) (rd : RideT) (w : Nat → Int32) (hX : pu_RX pl looks rd w) (hpl : ∀ j, 2 ≤ j → j < m → rd_place rd (b j) = 100) : ∃ v, pu_Cv2 od q4 pl (nI r) (nI s) rd v ∧ pu_DF mo looks co bu (nI r) (nI s) (m - 2) 2 w v := by
  have h8 := h.riders.2.2
  have hbk := hb.lt 2 (by omega)
  have hcnt : ¬ nI m ≤ (2 : Int32) := nI_ge (a := 2) (b := m) (by omega) (by omega)
  have hin : kb_in? (2 : Int32) 8 := by decide
  have hcl : ((2 : Int32)).toNatClampNeg = 2 := by decide
  have hsub : nI m - (2 : Int32) - (1 : Int32) = nI (m - 2 - 1) := by
    rw [show nI m - (2 : Int32) = nI (m - 2) from pk_sub (a := m) (b := 2) (by omega)]
    exact pk_sub (a := m - 2) (b := 1) (by omega)
  by_cases own : b 2 = r
  · obtain ⟨M, t, e1, e2, e3, e4⟩ := pu_own (looks := looks) (bu := bu) h hB hm em hco hb (d := m - 2 - 1) (k := 2) hs (by omega) hX hpl
    rw [show m - 2 - 1 + 1 = m - 2 by omega, own] at e4
    refine ⟨_, ?_, e4⟩
    have cn := pu_countN (x := pu_FT t) (fun i hi => (pu_FT_lt hi).1)
    have c12 := pu_FT_cn t
    intro u1
    refine ⟨u1, ?_⟩
    rw [f_X3_sharesFrom_d2, eo, if_neg hcnt, if_pos hin, hcl, ho 2 hk, e1, pu_sb, e2, pu_sb, pu_firstTies, pu_sb, cn.1, pu_sb, if_pos (by rw [own])]
    have le0 : (nI (pu_cn (bt (pu_FT t)) 20) ≤ 0) ↔ pu_cn (bt (pu_FT t)) 20 ≤ 0 := nI_leI (a := pu_cn (bt (pu_FT t)) 20) (b := 0) (by omega) (by omega)
    cases hbs : bt (pu_FT t) s
    · rw [pu_ff, pu_hb _ (show s < 32 by omega), hbs, pu_sb, if_pos (show pu_bI false = 0 from rfl), ite_self, f_X3_sharesFrom_d2_b85, f_X3_sharesFrom_d2_b86, if_pos rfl]
    · have nz : ¬ pu_cn (bt (pu_FT t)) 20 = 0 := fun e => by
        rw [cn.2.2.mp e, b_0] at hbs; cases hbs
      have t0 : ¬ t = 0 := fun e => by
        rw [e, pu_FT0, b_0] at hbs; cases hbs
      have lc : pu_LC t = pu_cn (bt (pu_FT t)) 20 := by unfold pu_LC; rw [if_neg t0]
      have p := pu_27720 (pu_cn (bt (pu_FT t)) 20) (by omega) (by omega)
      rw [pu_tt, lc, if_neg (fun e => nz (by have := le0.mp e; omega)), pu_hb _ (show s < 32 by omega), hbs, pu_sb, if_neg (show ¬ pu_bI true = 0 by decide), f_X3_sharesFrom_d2_b86, if_neg (show ¬ (1 : Int32) = 0 by decide), if_pos p.2.2.2, p.2.1, eo, hsub, pu_sharesOfAll (by omega), pu_sb]
  · have hj2 : ∃ j, 3 ≤ j ∧ j < m ∧ b j = r := by
      obtain ⟨j, j1, j2, j3⟩ := hj
      rcases Nat.lt_or_ge 2 j with q | q
      · exact ⟨j, q, j2, j3⟩
      · exact absurd (show b 2 = r by rw [← j3, show j = 2 by omega]) own
    have hk2 : 3 < m := by obtain ⟨j, j1, j2, _⟩ := hj2; omega
    have nown : ¬ nI (b 2) = nI r := fun e => own ((nI_eq (by omega) (by obtain ⟨j, _, j2, j3⟩ := hj2; have := hb.lt j j2; omega)).mp e)
    obtain ⟨M, t, e1, e2, e3, e4, e5⟩ := pu_oth (looks := looks) (bu := bu) h hB hm em hco hb (r := r) (s := nI s) (d := m - 2 - 1) (k := 2) (by omega) (C := pu_Cv3 od q4 pl (nI r) (nI s)) pu_Cv3f (fun rd w hX hpl => by
      have := pu_L3 (q4 := q4) h hB hm hk2 em hco eo ho hb hs hj2 rd w hX hpl
      rw [show m - 3 = m - 2 - 1 by omega] at this
      exact this) hX hpl
    rw [show m - 2 - 1 + 1 = m - 2 by omega] at e4 e5
    have cn := pu_countN (x := pu_FT t) (fun i hi => (pu_FT_lt hi).1)
    have c12 := pu_FT_cn t
    by_cases t0 : t = 0
    · obtain ⟨v1, k1, k2⟩ := e4 t0
      refine ⟨_, ?_, k2⟩
      intro u1
      obtain ⟨rd', d1, d2⟩ := k1 u1
      have d4 : f_X3_sharesFrom_d3 od q4 rd' pl (nI r) (nI s) = some v1 := d2
      refine ⟨rd', ?_⟩
      rw [f_X3_sharesFrom_d2, eo, if_neg hcnt, if_pos hin, hcl, ho 2 (by omega), e1, pu_sb, e2, pu_sb, pu_firstTies, pu_sb, cn.1, pu_sb, if_neg nown, if_pos (by rw [cn.2.2.mpr (by rw [t0]; exact pu_FT0)]; rfl), d1, pu_sb, f_X3_sharesFrom_d2_b152, d4, pu_sb]
    · obtain ⟨v, k1, k2⟩ := e5 t0
      refine ⟨_, ?_, k2⟩
      intro u1
      have nz : ¬ pu_cn (bt (pu_FT t)) 20 = 0 := fun e => t0 ((pu_FT_ne e3).mp (cn.2.2.mp e))
      have lc : pu_LC t = pu_cn (bt (pu_FT t)) 20 := by unfold pu_LC; rw [if_neg t0]
      obtain ⟨u1b, l1⟩ := pu_lp2 (od := od) (q4 := q4) (x1 := nI r) (x2 := nI s) (c := pu_cn (bt (pu_FT t)) 20) (k := b 2) (by omega) c12 k1 20 0 rfl 4096 0 u1 (by omega)
      refine ⟨u1b, ?_⟩
      rw [f_X3_sharesFrom_d2, eo, if_neg hcnt, if_pos hin, hcl, ho 2 (by omega), e1, pu_sb, e2, pu_sb, pu_firstTies, pu_sb, cn.1, pu_sb, if_neg nown, if_neg (nI_ne0 (by omega) (by omega)), lc]
      rw [Int64.zero_add] at l1
      exact l1
def pu_Cv1 (od : OddsT) (q4 : Rides4T) (pl : PlanT) (x1 x2 : Int32) (rd : RideT) (v : Int64) : Prop := ∀ u1 u2 : RideT, ∃ u1' u2' : RideT, f_X3_sharesFrom_d1 od q4 rd u1 u2 pl x1 x2 = some (v, u1', u2')
theorem pu_Cv1f {x1 x2 : Int32} (rd : RideT) (v v' : Int64) (h1 : pu_Cv1 od q4 pl x1 x2 rd v) (h2 : pu_Cv1 od q4 pl x1 x2 rd v') : v = v' := by
  obtain ⟨_, _, e1⟩ := h1 rd rd
  obtain ⟨_, _, e2⟩ := h2 rd rd
  exact congrArg Prod.fst (Option.some.inj (e1.symm.trans e2))
theorem pu_lp1 {x1 x2 : Int32} {rd : RideT} {T : Int32} {c k : Nat} (h1 : 1 ≤ c) (h12 : c ≤ 12) {v : Nat → Int64} (hch : ∀ i, bt T i = true → ∀ z3, ∃ rd' y, f_X6_copyFrom z3 rd = some rd' ∧ f_X6_sitDown rd' pl (nI k) (nI i) = some y ∧ pu_Cv2 od q4 pl x1 x2 y (v i)) : ∀ e0 i, i + e0 = 20 → ∀ (fuel : Nat) (v9 : Int64) (u1 u2 : RideT), e0 < fuel → ∃ u1' u2' : RideT, f_X3_sharesFrom_d1_b172 od q4 rd pl fuel x1 x2 (nI k) T (nI c) v9 (nI i) u1 u2 = some (lN (27720 / c) * (v9 + pu_st (bt T) v i e0), u1', u2') := by
  have p := pu_27720 c (by omega) h1
  intro e0
  induction e0 with
  | zero => intro i hi fuel v9 u1 u2 hf; cases fuel with
    | zero => omega
    | succ fuel =>
      have e : i = 20 := by omega
      subst e
      refine ⟨u1, u2, ?_⟩
      rw [f_X3_sharesFrom_d1_b172, if_pos pu_le20, if_pos p.2.2.2, p.2.1, pu_st, Int64.add_zero]
  | succ e0 ih => intro i hi fuel v9 u1 u2 hf; cases fuel with
    | zero => omega
    | succ fuel =>
      rw [f_X3_sharesFrom_d1_b172, if_neg (pu_ge20 (show i < 20 by omega)), pu_hb _ (by omega), pu_sb, pu_ifb, nI_1, pu_st]
      cases hb : bt T i
      · rw [pu_ff, pu_ff, Int64.zero_add]
        exact ih (i + 1) (by omega) fuel v9 u1 u2 (by omega)
      · obtain ⟨rd', y, d1, d2, d3⟩ := hch i hb u1
        obtain ⟨u2b, d4⟩ := d3 u2
        obtain ⟨u1d, u2d, k1⟩ := ih (i + 1) (by omega) fuel (v9 + v i) y u2b (by omega)
        refine ⟨u1d, u2d, ?_⟩
        rw [pu_tt, pu_tt, d1, pu_sb, f_X3_sharesFrom_d1_b196, d2, pu_sb, f_X3_sharesFrom_d1_b205, d4, pu_sb, f_X3_sharesFrom_d1_b219]
        show f_X3_sharesFrom_d1_b172 od q4 rd pl fuel x1 x2 (nI k) T (nI c) (v9 + v i) (nI i + 1) y u2b = _
        rw [nI_1, k1, Int64.add_assoc]
theorem pu_L1 (h : pu_GP pl) (hB : pu_RB pl bu) (hm : m ≤ 4) (hk : 1 < m) (em : mo_comers mo = nI m) (hco : ∀ j, j < m → yComing_r co j = nI (b j)) (eo : od_count od = nI m) (ho : ∀ j, j < m → od_boarding od j = nI (b j)) {st : Nat} (hb : pu_CO pl st m b) (hs : s < 20) (hj : ∃ j, 1 ≤ j ∧ j < m ∧ b j = r) (rd : RideT) (w : Nat → Int32) (hX : pu_RX pl looks rd w) (hpl : ∀ j, 1 ≤ j → j < m → rd_place rd (b j) = 100) : ∃ v, pu_Cv1 od q4 pl (nI r) (nI s) rd v ∧ pu_DF mo looks co bu (nI r) (nI s) (m - 1) 1 w v := by
  have h8 := h.riders.2.2
  have hbk := hb.lt 1 (by omega)
  have hcnt : ¬ nI m ≤ (1 : Int32) := nI_ge (a := 1) (b := m) (by omega) (by omega)
  have hin : kb_in? (1 : Int32) 8 := by decide
  have hcl : ((1 : Int32)).toNatClampNeg = 1 := by decide
  have hsub : nI m - (1 : Int32) - (1 : Int32) = nI (m - 1 - 1) := by
    rw [show nI m - (1 : Int32) = nI (m - 1) from pk_sub (a := m) (b := 1) (by omega)]
    exact pk_sub (a := m - 1) (b := 1) (by omega)
  by_cases own : b 1 = r
  · obtain ⟨M, t, e1, e2, e3, e4⟩ := pu_own (looks := looks) (bu := bu) h hB hm em hco hb (d := m - 1 - 1) (k := 1) hs (by omega) hX hpl
    rw [show m - 1 - 1 + 1 = m - 1 by omega, own] at e4
    refine ⟨_, ?_, e4⟩
    have cn := pu_countN (x := pu_FT t) (fun i hi => (pu_FT_lt hi).1)
    have c12 := pu_FT_cn t
    intro u1 u2
    refine ⟨u1, u2, ?_⟩
    rw [f_X3_sharesFrom_d1, eo, if_neg hcnt, if_pos hin, hcl, ho 1 hk, e1, pu_sb, e2, pu_sb, pu_firstTies, pu_sb, cn.1, pu_sb, if_pos (by rw [own])]
    have le0 : (nI (pu_cn (bt (pu_FT t)) 20) ≤ 0) ↔ pu_cn (bt (pu_FT t)) 20 ≤ 0 := nI_leI (a := pu_cn (bt (pu_FT t)) 20) (b := 0) (by omega) (by omega)
    cases hbs : bt (pu_FT t) s
    · rw [pu_ff, pu_hb _ (show s < 32 by omega), hbs, pu_sb, if_pos (show pu_bI false = 0 from rfl), ite_self, f_X3_sharesFrom_d1_b85, f_X3_sharesFrom_d1_b86, if_pos rfl]
    · have nz : ¬ pu_cn (bt (pu_FT t)) 20 = 0 := fun e => by
        rw [cn.2.2.mp e, b_0] at hbs; cases hbs
      have t0 : ¬ t = 0 := fun e => by
        rw [e, pu_FT0, b_0] at hbs; cases hbs
      have lc : pu_LC t = pu_cn (bt (pu_FT t)) 20 := by unfold pu_LC; rw [if_neg t0]
      have p := pu_27720 (pu_cn (bt (pu_FT t)) 20) (by omega) (by omega)
      rw [pu_tt, lc, if_neg (fun e => nz (by have := le0.mp e; omega)), pu_hb _ (show s < 32 by omega), hbs, pu_sb, if_neg (show ¬ pu_bI true = 0 by decide), f_X3_sharesFrom_d1_b86, if_neg (show ¬ (1 : Int32) = 0 by decide), if_pos p.2.2.2, p.2.1, eo, hsub, pu_sharesOfAll (by omega), pu_sb]
  · have hj2 : ∃ j, 2 ≤ j ∧ j < m ∧ b j = r := by
      obtain ⟨j, j1, j2, j3⟩ := hj
      rcases Nat.lt_or_ge 1 j with q | q
      · exact ⟨j, q, j2, j3⟩
      · exact absurd (show b 1 = r by rw [← j3, show j = 1 by omega]) own
    have hk2 : 2 < m := by obtain ⟨j, j1, j2, _⟩ := hj2; omega
    have nown : ¬ nI (b 1) = nI r := fun e => own ((nI_eq (by omega) (by obtain ⟨j, _, j2, j3⟩ := hj2; have := hb.lt j j2; omega)).mp e)
    obtain ⟨M, t, e1, e2, e3, e4, e5⟩ := pu_oth (looks := looks) (bu := bu) h hB hm em hco hb (r := r) (s := nI s) (d := m - 1 - 1) (k := 1) (by omega) (C := pu_Cv2 od q4 pl (nI r) (nI s)) pu_Cv2f (fun rd w hX hpl => by
      have := pu_L2 (q4 := q4) h hB hm hk2 em hco eo ho hb hs hj2 rd w hX hpl
      rw [show m - 2 = m - 1 - 1 by omega] at this
      exact this) hX hpl
    rw [show m - 1 - 1 + 1 = m - 1 by omega] at e4 e5
    have cn := pu_countN (x := pu_FT t) (fun i hi => (pu_FT_lt hi).1)
    have c12 := pu_FT_cn t
    by_cases t0 : t = 0
    · obtain ⟨v1, k1, k2⟩ := e4 t0
      refine ⟨_, ?_, k2⟩
      intro u1 u2
      obtain ⟨rd', d1, d2⟩ := k1 u1
      obtain ⟨u2b, d4⟩ := d2 u2
      refine ⟨rd', u2b, ?_⟩
      rw [f_X3_sharesFrom_d1, eo, if_neg hcnt, if_pos hin, hcl, ho 1 (by omega), e1, pu_sb, e2, pu_sb, pu_firstTies, pu_sb, cn.1, pu_sb, if_neg nown, if_pos (by rw [cn.2.2.mpr (by rw [t0]; exact pu_FT0)]; rfl), d1, pu_sb, f_X3_sharesFrom_d1_b152, d4, pu_sb]
    · obtain ⟨v, k1, k2⟩ := e5 t0
      refine ⟨_, ?_, k2⟩
      intro u1 u2
      have nz : ¬ pu_cn (bt (pu_FT t)) 20 = 0 := fun e => t0 ((pu_FT_ne e3).mp (cn.2.2.mp e))
      have lc : pu_LC t = pu_cn (bt (pu_FT t)) 20 := by unfold pu_LC; rw [if_neg t0]
      obtain ⟨u1b, u2b, l1⟩ := pu_lp1 (od := od) (q4 := q4) (x1 := nI r) (x2 := nI s) (c := pu_cn (bt (pu_FT t)) 20) (k := b 1) (by omega) c12 k1 20 0 rfl 4096 0 u1 u2 (by omega)
      refine ⟨u1b, u2b, ?_⟩
      rw [f_X3_sharesFrom_d1, eo, if_neg hcnt, if_pos hin, hcl, ho 1 (by omega), e1, pu_sb, e2, pu_sb, pu_firstTies, pu_sb, cn.1, pu_sb, if_neg nown, if_neg (nI_ne0 (by omega) (by omega)), lc]
      rw [Int64.zero_add] at l1
      exact l1
def pu_Cv0 (od : OddsT) (q4 : Rides4T) (pl : PlanT) (x1 x2 : Int32) (rd : RideT) (v : Int64) : Prop := ∀ u1 u2 u3 : RideT, ∃ u1' u2' u3' : RideT, f_X3_sharesFrom_d0 od q4 rd u1 u2 u3 pl x1 x2 = some (v, u1', u2', u3')
theorem pu_Cv0f {x1 x2 : Int32} (rd : RideT) (v v' : Int64) (h1 : pu_Cv0 od q4 pl x1 x2 rd v) (h2 : pu_Cv0 od q4 pl x1 x2 rd v') : v = v' := by
  obtain ⟨_, _, _, e1⟩ := h1 rd rd rd
  obtain ⟨_, _, _, e2⟩ := h2 rd rd rd
  exact congrArg Prod.fst (Option.some.inj (e1.symm.trans e2))
theorem pu_lp0 {x1 x2 : Int32} {rd : RideT} {T : Int32} {c k : Nat} (h1 : 1 ≤ c) (h12 : c ≤ 12) {v : Nat → Int64} (hch : ∀ i, bt T i = true → ∀ z3, ∃ rd' y, f_X6_copyFrom z3 rd = some rd' ∧ f_X6_sitDown rd' pl (nI k) (nI i) = some y ∧ pu_Cv1 od q4 pl x1 x2 y (v i)) : ∀ e0 i, i + e0 = 20 → ∀ (fuel : Nat) (v9 : Int64) (u1 u2 u3 : RideT), e0 < fuel → ∃ u1' u2' u3' : RideT, f_X3_sharesFrom_d0_b172 od q4 rd pl fuel x1 x2 (nI k) T (nI c) v9 (nI i) u1 u2 u3 = some (lN (27720 / c) * (v9 + pu_st (bt T) v i e0), u1', u2', u3') := by
  have p := pu_27720 c (by omega) h1
  intro e0
  induction e0 with
  | zero => intro i hi fuel v9 u1 u2 u3 hf; cases fuel with
    | zero => omega
    | succ fuel =>
      have e : i = 20 := by omega
      subst e
      refine ⟨u1, u2, u3, ?_⟩
      rw [f_X3_sharesFrom_d0_b172, if_pos pu_le20, if_pos p.2.2.2, p.2.1, pu_st, Int64.add_zero]
  | succ e0 ih => intro i hi fuel v9 u1 u2 u3 hf; cases fuel with
    | zero => omega
    | succ fuel =>
      rw [f_X3_sharesFrom_d0_b172, if_neg (pu_ge20 (show i < 20 by omega)), pu_hb _ (by omega), pu_sb, pu_ifb, nI_1, pu_st]
      cases hb : bt T i
      · rw [pu_ff, pu_ff, Int64.zero_add]
        exact ih (i + 1) (by omega) fuel v9 u1 u2 u3 (by omega)
      · obtain ⟨rd', y, d1, d2, d3⟩ := hch i hb u1
        obtain ⟨u2b, u3b, d4⟩ := d3 u2 u3
        obtain ⟨u1d, u2d, u3d, k1⟩ := ih (i + 1) (by omega) fuel (v9 + v i) y u2b u3b (by omega)
        refine ⟨u1d, u2d, u3d, ?_⟩
        rw [pu_tt, pu_tt, d1, pu_sb, f_X3_sharesFrom_d0_b196, d2, pu_sb, f_X3_sharesFrom_d0_b205, d4, pu_sb, f_X3_sharesFrom_d0_b219]
        show f_X3_sharesFrom_d0_b172 od q4 rd pl fuel x1 x2 (nI k) T (nI c) (v9 + v i) (nI i + 1) y u2b u3b = _
        rw [nI_1, k1, Int64.add_assoc]
theorem pu_L0 (h : pu_GP pl) (hB : pu_RB pl bu) (hm : m ≤ 4) (hk : 0 < m) (em : mo_comers mo = nI m) (hco : ∀ j, j < m → yComing_r co j = nI (b j)) (eo : od_count od = nI m) (ho : ∀ j, j < m → od_boarding od j = nI (b j)) {st : Nat} (hb : pu_CO pl st m b) (hs : s < 20) (hj : ∃ j, 0 ≤ j ∧ j < m ∧ b j = r) (rd : RideT) (w : Nat → Int32) (hX : pu_RX pl looks rd w) (hpl : ∀ j, 0 ≤ j → j < m → rd_place rd (b j) = 100) : ∃ v, pu_Cv0 od q4 pl (nI r) (nI s) rd v ∧ pu_DF mo looks co bu (nI r) (nI s) (m - 0) 0 w v := by
  have h8 := h.riders.2.2
  have hbk := hb.lt 0 (by omega)
  have hcnt : ¬ nI m ≤ (0 : Int32) := nI_ge (a := 0) (b := m) (by omega) (by omega)
  have hin : kb_in? (0 : Int32) 8 := by decide
  have hcl : ((0 : Int32)).toNatClampNeg = 0 := by decide
  have hsub : nI m - (0 : Int32) - (1 : Int32) = nI (m - 0 - 1) := by
    rw [show nI m - (0 : Int32) = nI (m - 0) from pk_sub (a := m) (b := 0) (by omega)]
    exact pk_sub (a := m - 0) (b := 1) (by omega)
  by_cases own : b 0 = r
  · obtain ⟨M, t, e1, e2, e3, e4⟩ := pu_own (looks := looks) (bu := bu) h hB hm em hco hb (d := m - 0 - 1) (k := 0) hs (by omega) hX hpl
    rw [show m - 0 - 1 + 1 = m - 0 by omega, own] at e4
    refine ⟨_, ?_, e4⟩
    have cn := pu_countN (x := pu_FT t) (fun i hi => (pu_FT_lt hi).1)
    have c12 := pu_FT_cn t
    intro u1 u2 u3
    refine ⟨u1, u2, u3, ?_⟩
    rw [f_X3_sharesFrom_d0, eo, if_neg hcnt, if_pos hin, hcl, ho 0 hk, e1, pu_sb, e2, pu_sb, pu_firstTies, pu_sb, cn.1, pu_sb, if_pos (by rw [own])]
    have le0 : (nI (pu_cn (bt (pu_FT t)) 20) ≤ 0) ↔ pu_cn (bt (pu_FT t)) 20 ≤ 0 := nI_leI (a := pu_cn (bt (pu_FT t)) 20) (b := 0) (by omega) (by omega)
    cases hbs : bt (pu_FT t) s
    · rw [pu_ff, pu_hb _ (show s < 32 by omega), hbs, pu_sb, if_pos (show pu_bI false = 0 from rfl), ite_self, f_X3_sharesFrom_d0_b85, f_X3_sharesFrom_d0_b86, if_pos rfl]
    · have nz : ¬ pu_cn (bt (pu_FT t)) 20 = 0 := fun e => by
        rw [cn.2.2.mp e, b_0] at hbs; cases hbs
      have t0 : ¬ t = 0 := fun e => by
        rw [e, pu_FT0, b_0] at hbs; cases hbs
      have lc : pu_LC t = pu_cn (bt (pu_FT t)) 20 := by unfold pu_LC; rw [if_neg t0]
      have p := pu_27720 (pu_cn (bt (pu_FT t)) 20) (by omega) (by omega)
      rw [pu_tt, lc, if_neg (fun e => nz (by have := le0.mp e; omega)), pu_hb _ (show s < 32 by omega), hbs, pu_sb, if_neg (show ¬ pu_bI true = 0 by decide), f_X3_sharesFrom_d0_b86, if_neg (show ¬ (1 : Int32) = 0 by decide), if_pos p.2.2.2, p.2.1, eo, hsub, pu_sharesOfAll (by omega), pu_sb]
  · have hj2 : ∃ j, 1 ≤ j ∧ j < m ∧ b j = r := by
      obtain ⟨j, j1, j2, j3⟩ := hj
      rcases Nat.lt_or_ge 0 j with q | q
      · exact ⟨j, q, j2, j3⟩
      · exact absurd (show b 0 = r by rw [← j3, show j = 0 by omega]) own
    have hk2 : 1 < m := by obtain ⟨j, j1, j2, _⟩ := hj2; omega
    have nown : ¬ nI (b 0) = nI r := fun e => own ((nI_eq (by omega) (by obtain ⟨j, _, j2, j3⟩ := hj2; have := hb.lt j j2; omega)).mp e)
    obtain ⟨M, t, e1, e2, e3, e4, e5⟩ := pu_oth (looks := looks) (bu := bu) h hB hm em hco hb (r := r) (s := nI s) (d := m - 0 - 1) (k := 0) (by omega) (C := pu_Cv1 od q4 pl (nI r) (nI s)) pu_Cv1f (fun rd w hX hpl => by
      have := pu_L1 (q4 := q4) h hB hm hk2 em hco eo ho hb hs hj2 rd w hX hpl
      rw [show m - 1 = m - 0 - 1 by omega] at this
      exact this) hX hpl
    rw [show m - 0 - 1 + 1 = m - 0 by omega] at e4 e5
    have cn := pu_countN (x := pu_FT t) (fun i hi => (pu_FT_lt hi).1)
    have c12 := pu_FT_cn t
    by_cases t0 : t = 0
    · obtain ⟨v1, k1, k2⟩ := e4 t0
      refine ⟨_, ?_, k2⟩
      intro u1 u2 u3
      obtain ⟨rd', d1, d2⟩ := k1 u1
      obtain ⟨u2b, u3b, d4⟩ := d2 u2 u3
      refine ⟨rd', u2b, u3b, ?_⟩
      rw [f_X3_sharesFrom_d0, eo, if_neg hcnt, if_pos hin, hcl, ho 0 (by omega), e1, pu_sb, e2, pu_sb, pu_firstTies, pu_sb, cn.1, pu_sb, if_neg nown, if_pos (by rw [cn.2.2.mpr (by rw [t0]; exact pu_FT0)]; rfl), d1, pu_sb, f_X3_sharesFrom_d0_b152, d4, pu_sb]
    · obtain ⟨v, k1, k2⟩ := e5 t0
      refine ⟨_, ?_, k2⟩
      intro u1 u2 u3
      have nz : ¬ pu_cn (bt (pu_FT t)) 20 = 0 := fun e => t0 ((pu_FT_ne e3).mp (cn.2.2.mp e))
      have lc : pu_LC t = pu_cn (bt (pu_FT t)) 20 := by unfold pu_LC; rw [if_neg t0]
      obtain ⟨u1b, u2b, u3b, l1⟩ := pu_lp0 (od := od) (q4 := q4) (x1 := nI r) (x2 := nI s) (c := pu_cn (bt (pu_FT t)) 20) (k := b 0) (by omega) c12 k1 20 0 rfl 4096 0 u1 u2 u3 (by omega)
      refine ⟨u1b, u2b, u3b, ?_⟩
      rw [f_X3_sharesFrom_d0, eo, if_neg hcnt, if_pos hin, hcl, ho 0 (by omega), e1, pu_sb, e2, pu_sb, pu_firstTies, pu_sb, cn.1, pu_sb, if_neg nown, if_neg (nI_ne0 (by omega) (by omega)), lc]
      rw [Int64.zero_add] at l1
      exact l1
end PI
