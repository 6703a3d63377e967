/-! the line of the bus -/
section PY
variable {c : Nat → Nat} {n : Nat} {tape : TapeT} {s e : Nat} {ps : ParserT} {mo : MOT} {pl : PlanT} {bu : BusT} {R N F H : Nat}
/-- what a line comes to -/
def pu_LR (c : Nat → Nat) (n s : Nat) (ps : ParserT) (mo : MOT) (o : Option (Int32 × ParserT × PlanT)) (o2 : Option (MOT × BusT)) : Prop :=
  (∃ q mq pl' bu' R N F H, o = some (1, q, pl') ∧ o2 = some (mq, bu') ∧ pu_GO c n s ps mo q mq ∧ pu_RD pl' bu' R N F H) ∨ (∃ q mq pl' bu', o = some (0, q, pl') ∧ o2 = some (mq, bu') ∧ pu_ER ps mo q mq)
theorem pu_RD.cabin {pl' : PlanT} {bu' : BusT} (h : pu_RD pl bu R N F H) (f : pu_PFc pl pl') (g : pu_BFc bu bu') (k : (pl_hasCabin pl' = 0 ∧ bu_rows bu' = 0) ∨ (pl_hasCabin pl' = 1 ∧ pu_CB (pl_cab pl') bu')) : pu_RD pl' bu' R N F H := by
  refine ⟨k, ?_, ?_, ?_, ?_, ?_, ?_, ?_, ?_, ?_, ?_, ?_, ?_, ?_, ?_⟩
  · rw [f.fruleCount, g.frules]; exact h.rc
  · rw [f.friderCount, g.friders]; exact h.nc
  · rw [f.ffriendCount, g.ffriends]; exact h.fc
  · rw [f.fholderCount, g.fholders]; exact h.hc
  · rw [g.fnames]; exact h.nm
  · rw [f.frules, g.fwaysMany, g.fway]; exact h.wy
  · intro r hr
    have := h.rd r hr
    unfold pu_R1 at this ⊢
    rw [f.friders, g.fon, g.foff, g.frule, g.flooks, g.fage, g.fhasBag, g.fisProud, g.fholds]; exact this
  · rw [f.friders]; exact h.fb
  · rw [g.ffriendA, g.ffriendB]; exact h.fr
  · rw [f.friders, g.ffriendA, g.ffriendB]; exact h.ff
  · rw [f.frules, g.fname, g.fnameSort, g.fnameNumber]; exact h.n1
  · rw [f.friders, g.fname, g.fnameSort, g.fnameNumber]; exact h.n2
  · rw [f.frules, f.friders, g.fname, g.fnameSort, g.fnameNumber]; exact h.n3
  · rw [g.fname]; exact h.n4
/-! over -/
theorem pu_o1_157 (ov : mo_sort mo = 5) (v w : Int32) (bu : BusT) : f_X12_readOne_b157 tape v w mo bu = some (mo, bu) := by rw [f_X12_readOne_b157, if_pos ov]
theorem pu_o1_153 (ov : mo_sort mo = 5) (v w : Int32) (bu : BusT) : f_X12_readOne_b153 tape v w mo bu = some (mo, bu) := by rw [f_X12_readOne_b153, pu_oGo ov, pu_sb, pu_o1_157 ov]
theorem pu_o1_103 (ov : mo_sort mo = 5) (v : Int32) (bu : BusT) : f_X12_readOne_b103 tape v mo bu = some (mo, bu) := by rw [f_X12_readOne_b103, pu_oIs ov, pu_sb, if_pos rfl, pu_oIs ov, pu_sb, if_pos rfl, f_X12_readOne_b132, if_pos rfl, pu_oIs ov, pu_sb, if_pos rfl, pu_oWr ov, pu_sb, pu_o1_153 ov]
theorem pu_o1_96 (ov : mo_sort mo = 5) (v : Int32) (bu : BusT) : ∃ b, f_X12_readOne_b96 tape v mo bu = some (mo, b) := ⟨_, by rw [f_X12_readOne_b96, pu_oNe ov, pu_sb, pu_o1_103 ov]⟩
theorem pu_o1_79 (ov : mo_sort mo = 5) (v : Int32) (bu : BusT) : ∃ b, f_X12_readOne_b79 tape v mo bu = some (mo, b) := by
  rw [f_X12_readOne_b79, pu_oRp ov, pu_sb]; exact pu_o1_96 ov _ _
theorem pu_o1_62 (ov : mo_sort mo = 5) (v : Int32) (bu : BusT) : ∃ b, f_X12_readOne_b62 tape v mo bu = some (mo, b) := by
  rw [f_X12_readOne_b62, pu_oRp ov, pu_sb]; exact pu_o1_79 ov _ _
theorem pu_o1_44 (ov : mo_sort mo = 5) (v : Int32) (bu : BusT) : ∃ b, f_X12_readOne_b44 tape v mo bu = some (mo, b) := by
  rw [f_X12_readOne_b44, pu_oRp ov, pu_sb]; exact pu_o1_62 ov _ _
theorem pu_o1_28 (ov : mo_sort mo = 5) (v : Int32) (bu : BusT) : ∃ b, f_X12_readOne_b28 tape v mo bu = some (mo, b) := by
  rw [f_X12_readOne_b28, pu_oRp ov, pu_sb]; exact pu_o1_44 ov _ _
theorem pu_o1_15 (ov : mo_sort mo = 5) (bu : BusT) : ∃ b, f_X12_readOne_b15 tape mo bu = some (mo, b) := by
  rw [f_X12_readOne_b15, pu_oGo ov, pu_sb, f_X12_readOne_b19, pu_oRp ov, pu_sb]; exact pu_o1_28 ov _ _
theorem pu_f1_117 (fz : ¬ ps_fault ps = 0) (pl : PlanT) : f_X4_readBus_b117 ps pl = some (0, ps, pl) := by rw [f_X4_readBus_b117, if_neg fz]
theorem pu_f1_97 (fz : ¬ ps_fault ps = 0) (pl : PlanT) : f_X4_readBus_b97 ps pl = some (0, ps, pl) := by rw [f_X4_readBus_b97, if_neg fz, pu_f1_117 fz]
theorem pu_f1_77 (fz : ¬ ps_fault ps = 0) (pl : PlanT) : f_X4_readBus_b77 ps pl = some (0, ps, pl) := by rw [f_X4_readBus_b77, if_neg fz, pu_f1_97 fz]
theorem pu_f1_53 (fz : ¬ ps_fault ps = 0) (pl : PlanT) : f_X4_readBus_b53 ps pl = some (0, ps, pl) := by rw [f_X4_readBus_b53, if_neg fz, pu_f1_77 fz]
theorem pu_f1_34 (fz : ¬ ps_fault ps = 0) (pl : PlanT) : f_X4_readBus_b34 ps pl = some (0, ps, pl) := by rw [f_X4_readBus_b34, if_neg fz, pu_f1_53 fz]
theorem pu_lo {v a : Nat} (hv : v < 1000) (ha : a < 1000) (h : ¬ nI v < nI a) : a ≤ v := by
  have := (nI_ltI (a := v) (b := a) (by omega) (by omega))
  exact Nat.le_of_not_lt (fun q => h (this.mpr q))
theorem pu_hi {v a : Nat} (hv : v < 1000) (ha : a < 1000) (h : nI v ≤ nI a) : v ≤ a := (nI_leI (a := v) (b := a) (by omega) (by omega)).mp h
/-- the end of the line: the sun -/
theorem pu_side (t : pu_TX c n ps tape mo) (h : pu_PK c n s e ps mo) (v : Int32) (cb : CabT) (bu : BusT) : (∃ q mq cb' sc sm, f_X4_readSide ps cb = some (1, q, cb') ∧ cb' = cb_set_sun cb sc ∧ f_X12_readOne_b103 tape v mo bu = some (mq, bu_set_rows (bu_set_sun bu sm) v) ∧ ((sc = 0 ∧ sm = 0) ∨ (sc = 1 ∧ sm = 1) ∨ (sc = 2 ∧ sm = -1)) ∧ pu_GO c n s ps mo q mq) ∨ ∃ q mq cb', f_X4_readSide ps cb = some (0, q, cb') ∧ f_X12_readOne_b103 tape v mo bu = some (mq, bu) ∧ pu_ER ps mo q mq := by
  obtain ⟨b7, x7, y7, k7⟩ := pu_isw t h (ix := 7) (by omega)
  obtain ⟨b8, x8, y8, k8⟩ := pu_isw t h (ix := 8) (by omega)
  obtain ⟨b9, x9, y9, k9⟩ := pu_isw t h (ix := 9) (by omega)
  have good : ∀ (sc sm : Int32), ps_kind ps = 1 → ∃ q mq, f_X4_readSide_b57 ps (cb_set_sun cb sc) = some (1, q, cb_set_sun cb sc) ∧ f_X12_readOne_b153 tape v sm mo bu = some (mq, bu_set_rows (bu_set_sun bu sm) v) ∧ pu_GO c n s ps mo q mq := by
    intro sc sm hk
    obtain ⟨s', e', q, mq, d1, d2, d3, d4, d5, d6⟩ := pu_adv t h (by rw [hk]; decide) (by rw [hk]; decide)
    refine ⟨q, mq, ?_, ?_, s', e', d3, d4, d5, d6⟩
    · rw [f_X4_readSide_b57, d1, pu_sb]
    · rw [f_X12_readOne_b153, d2, pu_sb, f_X12_readOne_b157, if_neg d5.sort5]; rfl
  rw [f_X4_readSide, f_X12_readOne_b103, x7, y7, pu_sb, pu_sb, pu_ifb, pu_ifb]
  cases b7
  rotate_left
  · obtain ⟨q, mq, g1, g2, g3⟩ := good 0 0 (k7 rfl)
    refine Or.inl ⟨q, mq, _, 0, 0, ?_, rfl, ?_, Or.inl ⟨rfl, rfl⟩, g3⟩
    · rw [pu_tt]; exact g1
    · rw [pu_tt, f_X12_readOne_b132, if_neg (show ¬ (0 : Int32) = -1 by decide)]; exact g2
  rw [pu_ff, pu_ff, x8, y8, pu_sb, pu_sb, pu_ifb, pu_ifb]
  cases b8
  rotate_left
  · obtain ⟨q, mq, g1, g2, g3⟩ := good 1 1 (k8 rfl)
    refine Or.inl ⟨q, mq, _, 1, 1, ?_, rfl, ?_, Or.inr (Or.inl ⟨rfl, rfl⟩), g3⟩
    · rw [pu_tt]; exact g1
    · rw [pu_tt, f_X12_readOne_b132, if_neg (show ¬ (1 : Int32) = -1 by decide)]; exact g2
  rw [pu_ff, pu_ff, f_X12_readOne_b132, if_pos rfl, x9, y9, pu_sb, pu_sb, pu_ifb, pu_ifb]
  cases b9
  · rw [pu_ff, pu_ff]
    obtain ⟨q, mq, f1, f2, f3⟩ := pu_fail h (k := 1) (by decide)
    refine Or.inr ⟨q, mq, cb, ?_, ?_, f3⟩
    · rw [f1, pu_sb, if_pos (Or.inl rfl)]
    · rw [f2, pu_sb, pu_o1_153 f3.so]
  · obtain ⟨q, mq, g1, g2, g3⟩ := good 2 (-1) (k9 rfl)
    refine Or.inl ⟨q, mq, _, 2, -1, ?_, rfl, ?_, Or.inr (Or.inr ⟨rfl, rfl⟩), g3⟩
    · rw [pu_tt]; exact g1
    · rw [pu_tt]; exact g2
theorem pu_lineB (t : pu_TX c n ps tape mo) (h : pu_PK c n s e ps mo) (hk : ps_kind ps = 1) (hz : ps_fault ps = 0) (hD : pu_RD pl bu R N F H) : pu_LR c n s ps mo (f_X4_readBus ps pl) (f_X12_readOne mo tape bu) := by
  rw [f_X4_readBus, f_X12_readOne]
  rcases hD.cab with ⟨c1, c2⟩ | ⟨c1, c2⟩
  rotate_left
  · obtain ⟨x, x1, _, _, x4⟩ := c2.rows
    rw [if_neg (show ¬ pl_hasCabin pl = 0 by rw [c1]; decide), x4, if_neg (nI_nle (by omega) (by omega))]
    obtain ⟨q, mq, f1, f2, f3⟩ := pu_fail h (k := 3) (by decide)
    obtain ⟨b, hb⟩ := pu_o1_15 (tape := tape) f3.so bu
    refine Or.inr ⟨q, mq, pl, b, ?_, ?_, f3⟩
    · rw [f1, pu_sb, if_pos (Or.inl rfl)]
    · rw [f2, pu_sb, hb]
  rw [if_pos c1, c2, if_pos (by decide), f_X12_readOne_b15]
  obtain ⟨s0, e0, q0, m0, a1, a2, a3, a4, a5, a6⟩ := pu_adv t h (by rw [hk]; decide) (by rw [hk]; decide)
  rw [a1, a2, pu_sb, pu_sb, f_X12_readOne_b19]
  have t0 := t.fr a3 a4
  -- rows
  rcases pu_num t0 a5 (ix := 1) (by omega) (1 : Int32) (5 : Int32) with ⟨x, q1, m1, v1, l1, l2, g1, g2, g3⟩ | ⟨v, v2, q1, m1, g1, g2, g3⟩
  rotate_left
  · rw [g1, g2, pu_sb, pu_sb, pu_f1_34 g3.nz]
    obtain ⟨b, hb⟩ := pu_o1_28 (tape := tape) g3.so v2 bu
    exact Or.inr ⟨q1, m1, _, b, rfl, hb, g3.pre a3 a4⟩
  have x1 : 1 ≤ x := pu_lo v1 (by omega) l1
  have x5 : x ≤ 5 := pu_hi v1 (by omega) l2
  rw [g1, g2, pu_sb, pu_sb]
  obtain ⟨s1, e1, p3, p4, p5, p6⟩ := g3
  have p3' := pu_FP.tr a3 p3
  have p4' := pu_FO.trr a4 p4
  have t1 := t.fr p3' p4'
  have z1 : ps_fault q1 = 0 := p3'.fa.trans hz
  generalize hpl1 : pl_set_cab pl (cb_set_rows (pl_cab pl) (nI x)) = pl1
  have F1 : pu_PFc pl pl1 := by rw [← hpl1]; exact ⟨rfl, rfl, rfl, rfl, rfl, rfl⟩
  have R1 : cb_rows (pl_cab pl1) = nI x := by rw [← hpl1]; rfl
  -- form
  rw [f_X4_readBus_b34, if_pos z1, f_X12_readOne_b28]
  rcases pu_num t1 p5 (ix := 2) (by omega) (0 : Int32) (2 : Int32) with ⟨fo, q2, m2, v2, l3, l4, g4, g5, g6⟩ | ⟨v, v2, q2, m2, g4, g5, g6⟩
  rotate_left
  · rw [g4, g5, pu_sb, pu_sb, pu_f1_53 g6.nz]
    obtain ⟨b, hb⟩ := pu_o1_44 (tape := tape) g6.so (nI x) (bu_set_form bu v2)
    exact Or.inr ⟨q2, m2, _, b, rfl, hb, g6.pre p3' p4'⟩
  have fo3 : fo ≤ 2 := pu_hi v2 (by omega) l4
  rw [g4, g5, pu_sb, pu_sb]
  obtain ⟨s2, e2, r3, r4, r5, r6⟩ := g6
  have r3' := pu_FP.tr p3' r3
  have r4' := pu_FO.trr p4' r4
  have t2 := t.fr r3' r4'
  have z2 : ps_fault q2 = 0 := r3'.fa.trans hz
  generalize hpl2 : pl_set_cab pl1 (cb_set_form (pl_cab pl1) (nI fo)) = pl2
  have F2 : pu_PFc pl pl2 := F1.trans (by rw [← hpl2]; exact ⟨rfl, rfl, rfl, rfl, rfl, rfl⟩)
  have R2 : cb_rows (pl_cab pl2) = nI x := by rw [← hpl2]; exact R1
  have O2 : cb_form (pl_cab pl2) = nI fo := by rw [← hpl2]; rfl
  generalize hb2 : bu_set_form bu (nI fo) = b2
  have G2 : pu_BFc bu b2 := by rw [← hb2]; exact ⟨rfl, rfl, rfl, rfl, rfl, rfl, rfl, rfl, rfl, rfl, rfl, rfl, rfl, rfl, rfl, rfl, rfl, rfl, rfl, rfl⟩
  have B2 : bu_form b2 = nI fo := by rw [← hb2]; rfl
  -- door
  rw [f_X4_readBus_b53, if_pos z2, f_X12_readOne_b44, R2]
  have ex1 : nI x - (1 : Int32) = nI (x - 1) := by rw [show (1 : Int32) = nI 1 from rfl, pk_sub x1]
  rw [ex1]
  rcases pu_num t2 r5 (ix := 3) (by omega) (0 : Int32) (nI (x - 1)) with ⟨d, q3, m3, v3, l5, l6, g7, g8, g9⟩ | ⟨v, v2, q3, m3, g7, g8, g9⟩
  rotate_left
  · rw [g7, g8, pu_sb, pu_sb, pu_f1_77 g9.nz]
    obtain ⟨b, hb⟩ := pu_o1_62 (tape := tape) g9.so (nI x) (bu_set_door b2 v2)
    exact Or.inr ⟨q3, m3, _, b, rfl, hb, g9.pre r3' r4'⟩
  have d1 : d ≤ x - 1 := pu_hi v3 (by omega) l6
  rw [g7, g8, pu_sb, pu_sb]
  obtain ⟨s3, e3, u3, u4, u5, u6⟩ := g9
  have u3' := pu_FP.tr r3' u3
  have u4' := pu_FO.trr r4' u4
  have t3 := t.fr u3' u4'
  have z3 : ps_fault q3 = 0 := u3'.fa.trans hz
  generalize hpl3 : pl_set_cab pl2 (cb_set_door (pl_cab pl2) (nI d)) = pl3
  have F3 : pu_PFc pl pl3 := F2.trans (by rw [← hpl3]; exact ⟨rfl, rfl, rfl, rfl, rfl, rfl⟩)
  have R3 : cb_rows (pl_cab pl3) = nI x := by rw [← hpl3]; exact R2
  have O3 : cb_form (pl_cab pl3) = nI fo := by rw [← hpl3]; exact O2
  have D3 : cb_door (pl_cab pl3) = nI d := by rw [← hpl3]; rfl
  generalize hb3 : bu_set_door b2 (nI d) = b3
  have G3 : pu_BFc bu b3 := G2.trans (by rw [← hb3]; exact ⟨rfl, rfl, rfl, rfl, rfl, rfl, rfl, rfl, rfl, rfl, rfl, rfl, rfl, rfl, rfl, rfl, rfl, rfl, rfl, rfl⟩)
  have B3 : bu_form b3 = nI fo ∧ bu_door b3 = nI d := by rw [← hb3]; exact ⟨B2, rfl⟩
  -- pace
  rw [f_X4_readBus_b77, if_pos z3, f_X12_readOne_b62]
  rcases pu_num t3 u5 (ix := 4) (by omega) (1 : Int32) (9 : Int32) with ⟨pa, q4, m4, v4, l7, l8, h1, h2, h3⟩ | ⟨v, v2, q4, m4, h1, h2, h3⟩
  rotate_left
  · rw [h1, h2, pu_sb, pu_sb, pu_f1_97 h3.nz]
    obtain ⟨b, hb⟩ := pu_o1_79 (tape := tape) h3.so (nI x) (bu_set_pace b3 v2)
    exact Or.inr ⟨q4, m4, _, b, rfl, hb, h3.pre u3' u4'⟩
  have pa1 : 1 ≤ pa := pu_lo v4 (by omega) l7
  have pa9 : pa ≤ 9 := pu_hi v4 (by omega) l8
  rw [h1, h2, pu_sb, pu_sb]
  obtain ⟨s4, e4, w3, w4, w5, w6⟩ := h3
  have w3' := pu_FP.tr u3' w3
  have w4' := pu_FO.trr u4' w4
  have t4 := t.fr w3' w4'
  have z4 : ps_fault q4 = 0 := w3'.fa.trans hz
  generalize hpl4 : pl_set_cab pl3 (cb_set_pace (pl_cab pl3) (nI pa)) = pl4
  have F4 : pu_PFc pl pl4 := F3.trans (by rw [← hpl4]; exact ⟨rfl, rfl, rfl, rfl, rfl, rfl⟩)
  have R4 : cb_rows (pl_cab pl4) = nI x := by rw [← hpl4]; exact R3
  have O4 : cb_form (pl_cab pl4) = nI fo := by rw [← hpl4]; exact O3
  have D4 : cb_door (pl_cab pl4) = nI d := by rw [← hpl4]; exact D3
  have P4 : cb_pace (pl_cab pl4) = nI pa := by rw [← hpl4]; rfl
  generalize hb4 : bu_set_pace b3 (nI pa) = b4
  have G4 : pu_BFc bu b4 := G3.trans (by rw [← hb4]; exact ⟨rfl, rfl, rfl, rfl, rfl, rfl, rfl, rfl, rfl, rfl, rfl, rfl, rfl, rfl, rfl, rfl, rfl, rfl, rfl, rfl⟩)
  have B4 : bu_form b4 = nI fo ∧ bu_door b4 = nI d ∧ bu_pace b4 = nI pa := by rw [← hb4]; exact ⟨B3.1, B3.2, rfl⟩
  -- rise
  rw [f_X4_readBus_b97, if_pos z4, f_X12_readOne_b79]
  rcases pu_num t4 w5 (ix := 5) (by omega) (0 : Int32) (9 : Int32) with ⟨ri, q5, m5, v5, l9, l10, h4, h5, h6⟩ | ⟨v, v2, q5, m5, h4, h5, h6⟩
  rotate_left
  · rw [h4, h5, pu_sb, pu_sb, pu_f1_117 h6.nz]
    obtain ⟨b, hb⟩ := pu_o1_96 (tape := tape) h6.so (nI x) (bu_set_rise b4 v2)
    exact Or.inr ⟨q5, m5, _, b, rfl, hb, h6.pre w3' w4'⟩
  have ri9 : ri ≤ 9 := pu_hi v5 (by omega) l10
  rw [h4, h5, pu_sb, pu_sb]
  obtain ⟨s5, e5, y3, y4, y5, y6⟩ := h6
  have y3' := pu_FP.tr w3' y3
  have y4' := pu_FO.trr w4' y4
  have t5 := t.fr y3' y4'
  have z5 : ps_fault q5 = 0 := y3'.fa.trans hz
  generalize hpl5 : pl_set_cab pl4 (cb_set_rise (pl_cab pl4) (nI ri)) = pl5
  have F5 : pu_PFc pl pl5 := F4.trans (by rw [← hpl5]; exact ⟨rfl, rfl, rfl, rfl, rfl, rfl⟩)
  have R5 : cb_rows (pl_cab pl5) = nI x := by rw [← hpl5]; exact R4
  have O5 : cb_form (pl_cab pl5) = nI fo := by rw [← hpl5]; exact O4
  have D5 : cb_door (pl_cab pl5) = nI d := by rw [← hpl5]; exact D4
  have P5 : cb_pace (pl_cab pl5) = nI pa := by rw [← hpl5]; exact P4
  have I5 : cb_rise (pl_cab pl5) = nI ri := by rw [← hpl5]; rfl
  generalize hb5 : bu_set_rise b4 (nI ri) = b5
  have G5 : pu_BFc bu b5 := G4.trans (by rw [← hb5]; exact ⟨rfl, rfl, rfl, rfl, rfl, rfl, rfl, rfl, rfl, rfl, rfl, rfl, rfl, rfl, rfl, rfl, rfl, rfl, rfl, rfl⟩)
  have B5 : bu_form b5 = nI fo ∧ bu_door b5 = nI d ∧ bu_pace b5 = nI pa ∧ bu_rise b5 = nI ri := by rw [← hb5]; exact ⟨B4.1, B4.2.1, B4.2.2, rfl⟩
  -- sun
  rw [f_X4_readBus_b117, if_pos z5, f_X12_readOne_b96]
  rcases pu_need t5 y5 (ix := 6) (by omega) with ⟨q6, m6, h7, h8, h9⟩ | ⟨q6, m6, h7, h8, h9⟩
  rotate_left
  · rw [h7, h8, pu_sb, pu_sb, if_pos rfl, pu_o1_103 h9.so]
    exact Or.inr ⟨q6, m6, _, _, rfl, rfl, h9.pre y3' y4'⟩
  rw [h7, h8, pu_sb, pu_sb, if_neg (show ¬ (1 : Int32) = 0 by decide)]
  obtain ⟨s6, e6, j3, j4, j5, j6⟩ := h9
  have j3' := pu_FP.tr y3' j3
  have j4' := pu_FO.trr y4' j4
  have t6 := t.fr j3' j4'
  rcases pu_side t6 j5 (nI x) (pl_cab pl5) b5 with ⟨q7, m7, cb7, sc, sm, k1, k2, k3, k4, k5⟩ | ⟨q7, m7, cb7, k1, k2, k3⟩
  rotate_left
  · rw [k1, k2, pu_sb, if_pos rfl]
    exact Or.inr ⟨q7, m7, _, _, rfl, rfl, k3.pre j3' j4'⟩
  rw [k1, k3, pu_sb, if_neg (show ¬ (1 : Int32) = 0 by decide)]
  obtain ⟨s7, e7, n3, n4, n5, n6⟩ := k5
  have rc7 : cb_rows cb7 = nI x := by rw [k2]; exact R5
  have fc7 : cb_form cb7 = nI fo := by rw [k2]; exact O5
  obtain ⟨cb8, o1, o2, o3, o4, o5, o6, o7, o8, o9⟩ := pu_place rc7 x5 fc7 (by omega)
  rw [show f_X0_placeSeats (pl_cab (pl_set_cab pl5 cb7)) = some cb8 from o1, pu_sb, f_X4_readBus_b152]
  refine Or.inl ⟨q7, m7, _, _, R, N, F, H, rfl, rfl, ⟨s7, e7, pu_FP.tr j3' n3, pu_FO.trr j4' n4, n5, by omega⟩, ?_⟩
  refine hD.cabin (F5.trans ⟨rfl, rfl, rfl, rfl, rfl, rfl⟩) (G5.trans ⟨rfl, rfl, rfl, rfl, rfl, rfl, rfl, rfl, rfl, rfl, rfl, rfl, rfl, rfl, rfl, rfl, rfl, rfl, rfl, rfl⟩) (Or.inr ⟨rfl, ?_⟩)
  have eR : cb_rows cb8 = nI x := o4.trans rc7
  have eF : cb_form cb8 = nI fo := o5.trans fc7
  have cR : (cb_rows cb8).toNatClampNeg = x := by rw [eR]; exact nI_clamp (by omega)
  have cF : (cb_form cb8).toNatClampNeg = fo := by rw [eF]; exact nI_clamp (by omega)
  show pu_CB cb8 _
  refine ⟨⟨x, x1, x5, eR, rfl⟩, ⟨fo, by omega, eF, B5.1⟩, ⟨d, by rw [cR]; omega, ?_, B5.2.1⟩, ⟨pa, pa1, pa9, ?_, B5.2.2.1⟩, ⟨ri, ri9, ?_, B5.2.2.2⟩, ?_, ?_, ?_⟩
  · rw [o6, k2]; exact D5
  · rw [o7, k2]; exact P5
  · rw [o8, k2]; exact I5
  · show (cb_sun cb8 = 0 ∧ sm = 0) ∨ (cb_sun cb8 = 1 ∧ sm = 1) ∨ (cb_sun cb8 = 2 ∧ sm = -1)
    rw [o9, k2]
    exact k4
  · rw [cR, cF]; exact o2
  · rw [cR, cF]; exact o3
end PY
