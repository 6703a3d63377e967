/-! all lines -/
section QF
variable {c : Nat → Nat} {n : Nat} {tape : TapeT} {s e : Nat} {ps : ParserT} {mo : MOT} {pl : PlanT} {bu : BusT} {R N F H : Nat}
theorem pu_eta2 {α β : Type} (x : Option (α × β)) : (x.bind fun r => some (r.1, r.2)) = x := by cases x <;> rfl
theorem pu_line (t : pu_TX c n ps tape mo) (h : pu_PK c n s e ps mo) (hz : ps_fault ps = 0) (hD : pu_RD pl bu R N F H) {v : Nat} (hv : v ≤ s) (f : Nat) : ∃ o o2, pu_LR c n s ps mo o o2 ∧ f_X4_read_b37 (f + 1) (nI v) ps pl = (o.bind fun r => f_X4_read_b135 (f_X4_read_b37 f) (nI v) r.1 r.2.1 r.2.2) ∧ f_X12_readLine mo tape bu = o2 := by
  have h9 := t.n9
  have sn : s ≤ n := Nat.le_trans h.1 h.2.1
  rw [f_X4_read_b37, t.en, if_neg (nI_nlt (a := n) (b := v) (by omega) (by omega)), f_X12_readLine]
  obtain ⟨b0, x0, y0, k0⟩ := pu_isw t h (ix := 0) (by omega)
  rw [x0, y0, pu_sb, pu_sb, pu_ifb, pu_ifb]
  cases b0
  rotate_left
  · refine ⟨_, _, pu_lineB t h (k0 rfl) hz hD, rfl, ?_⟩
    exact pu_eta2 _
  rw [pu_ff, pu_ff]
  obtain ⟨b1, x1, y1, k1⟩ := pu_isw t h (ix := 10) (by omega)
  rw [x1, y1, pu_sb, pu_sb, pu_ifb, pu_ifb]
  cases b1
  rotate_left
  · refine ⟨_, _, pu_lineR t h (k1 rfl) hD, rfl, ?_⟩
    exact pu_eta2 _
  rw [pu_ff, pu_ff]
  obtain ⟨b2, x2, y2, k2⟩ := pu_isw t h (ix := 20) (by omega)
  rw [x2, y2, pu_sb, pu_sb, pu_ifb, pu_ifb]
  cases b2
  rotate_left
  · refine ⟨_, _, pu_lineQ t h (k2 rfl) hz hD, rfl, ?_⟩
    exact pu_eta2 _
  rw [pu_ff, pu_ff]
  obtain ⟨b3, x3, y3, k3⟩ := pu_isw t h (ix := 21) (by omega)
  rw [x3, y3, pu_sb, pu_sb, pu_ifb, pu_ifb]
  cases b3
  rotate_left
  · refine ⟨_, _, pu_lineF t h (k3 rfl) hD, rfl, ?_⟩
    exact pu_eta2 _
  rw [pu_ff, pu_ff]
  obtain ⟨b4, x4, y4, k4⟩ := pu_isw t h (ix := 22) (by omega)
  rw [x4, y4, pu_sb, pu_sb, pu_ifb, pu_ifb]
  cases b4
  rotate_left
  · refine ⟨_, _, pu_lineH t h (k4 rfl) hz hD, rfl, ?_⟩
    exact pu_eta2 _
  rw [pu_ff, pu_ff]
  obtain ⟨q, mq, f1, f2, f3⟩ := pu_fail h (k := 1) (by decide)
  refine ⟨some (0, q, pl), some (mq, bu), Or.inr ⟨q, mq, pl, bu, rfl, rfl, f3⟩, ?_, ?_⟩
  · rw [f1, pu_sb, pu_sb]
  · rw [f2, pu_sb, f_X12_readLine_b85]
theorem pu_o33 (ov : mo_sort mo = 5) (b : BusT) : f_X12_readBus_b33 tape mo b = some (mo, b) := by
  have e63 : f_X12_readBus_b63 tape mo b = some (mo, b) := by rw [f_X12_readBus_b63, pu_oWr ov, pu_sb, f_X12_readBus_b69]
  rw [f_X12_readBus_b33, e63, f_X12_readBus_b69]
  by_cases q1 : bu_rows b = 0
  · rw [if_pos q1]
  · rw [if_neg q1]
    by_cases q2 : bu_rules b = 0
    · rw [if_pos q2]
    · rw [if_neg q2]
      by_cases q3 : bu_riders b = 0
      · rw [if_pos q3]
      · rw [if_neg q3]
/-- something is lacking -/
theorem pu_lacks (hD : pu_RD pl bu R N F H) : (f_X5_lacksSome pl = some 0 ∧ (∀ mo : MOT, f_X12_readBus_b33 tape mo bu = some (mo, bu)) ∧ pl_hasCabin pl = 1 ∧ 1 ≤ R ∧ 1 ≤ N) ∨ (f_X5_lacksSome pl = some 1 ∧ ∀ mo : MOT, f_X12_readBus_b33 tape mo bu = f_X12_readBus_b63 tape mo bu) := by
  obtain ⟨r1, r2, r3⟩ := hD.rc
  obtain ⟨n1, n2, n3⟩ := hD.nc
  rcases hD.cab with ⟨c1, c2⟩ | ⟨c1, c2⟩
  · refine Or.inr ⟨?_, fun mo => ?_⟩
    · rw [f_X5_lacksSome, if_pos c1]; rfl
    · rw [f_X12_readBus_b33, if_pos c2]
  · obtain ⟨x, x1, x2, x3, x4⟩ := c2.rows
    have b0 : ¬ bu_rows bu = 0 := by rw [x4]; exact nI_ne0 (by omega) (by omega)
    have p0 : ¬ pl_hasCabin pl = 0 := by rw [c1]; decide
    by_cases rz : R = 0
    · subst rz
      refine Or.inr ⟨?_, fun mo => ?_⟩
      · rw [f_X5_lacksSome, if_neg p0, if_pos (show pl_ruleCount pl = 0 from r1)]; rfl
      · rw [f_X12_readBus_b33, if_neg b0, if_pos (show bu_rules bu = 0 from r2)]
    · have q1 : ¬ pl_ruleCount pl = 0 := by rw [r1]; exact nI_ne0 (by omega) (by omega)
      have q2 : ¬ bu_rules bu = 0 := by rw [r2]; exact nI_ne0 (by omega) (by omega)
      by_cases nz : N = 0
      · subst nz
        refine Or.inr ⟨?_, fun mo => ?_⟩
        · rw [f_X5_lacksSome, if_neg p0, if_neg q1, if_pos (show pl_riderCount pl = 0 from n1)]; rfl
        · rw [f_X12_readBus_b33, if_neg b0, if_neg q2, if_pos (show bu_riders bu = 0 from n2)]
      · have q3 : ¬ pl_riderCount pl = 0 := by rw [n1]; exact nI_ne0 (by omega) (by omega)
        have q4 : ¬ bu_riders bu = 0 := by rw [n2]; exact nI_ne0 (by omega) (by omega)
        refine Or.inl ⟨?_, fun mo => ?_, c1, by omega, by omega⟩
        · rw [f_X5_lacksSome, if_neg p0, if_neg q1, if_neg q3]
        · rw [f_X12_readBus_b33, if_neg b0, if_neg q2, if_neg q4, f_X12_readBus_b69]
/-- what the reading comes to -/
def pu_RE (ps : ParserT) (mo : MOT) (o : Option (Int32 × ParserT × PlanT)) (o2 : Option (MOT × BusT)) : Prop :=
  (∃ q mq pl' bu' R N F H, o = some (1, q, pl') ∧ o2 = some (mq, bu') ∧ pu_FP ps q ∧ pu_FO mo mq ∧ pu_RD pl' bu' R N F H ∧ pl_hasCabin pl' = 1 ∧ 1 ≤ R ∧ 1 ≤ N) ∨ (∃ q mq pl' bu', o = some (0, q, pl') ∧ o2 = some (mq, bu') ∧ pu_ER ps mo q mq)
theorem pu_RE.pre {ps' : ParserT} {mo' : MOT} {o : Option (Int32 × ParserT × PlanT)} {o2 : Option (MOT × BusT)} (f : pu_FP ps ps') (g : pu_FO mo mo') (h : pu_RE ps' mo' o o2) : pu_RE ps mo o o2 := by
  rcases h with ⟨q, mq, pl', bu', R, N, F, H, a1, a2, a3, a4, a5⟩ | ⟨q, mq, pl', bu', a1, a2, a3⟩
  · exact Or.inl ⟨q, mq, pl', bu', R, N, F, H, a1, a2, pu_FP.tr f a3, pu_FO.trr g a4, a5⟩
  · exact Or.inr ⟨q, mq, pl', bu', a1, a2, a3.pre f g⟩
theorem pu_reads : ∀ (m : Nat) (s e v f1 f2 : Nat) (ps : ParserT) (mo : MOT) (pl : PlanT) (bu : BusT) (R N F H : Nat), s + m = n → m < f1 → m + 1 < f2 → v ≤ s → pu_TX c n ps tape mo → pu_PK c n s e ps mo → ps_fault ps = 0 → pu_RD pl bu R N F H → pu_RE ps mo (f_X4_read_b37 f1 (nI v) ps pl) (f_X12_readBus_b2 tape f2 1 mo bu) := by
  intro m
  induction m using Nat.strongRecOn with
  | ind m ih =>
    intro s e v f1 f2 ps mo pl bu R N F H hm h1 h2 hv t h hz hD
    cases f1 with
    | zero => omega
    | succ f1 => cases f2 with
      | zero => omega
      | succ f2 => cases f2 with
        | zero => omega
        | succ f2 =>
          obtain ⟨o, o2, L, E1, E2⟩ := pu_line t h hz hD hv f1
          rw [E1, f_X12_readBus_b2, if_neg (show ¬ (1 : Int32) = 0 by decide), E2]
          rcases L with ⟨q, mq, pl', bu', R', N', F', H', a1, a2, ⟨s', e', b1, b2, b3, b4⟩, a4⟩ | ⟨q, mq, pl', bu', a1, a2, a3⟩
          rotate_left
          · rw [a1, a2, pu_sb, pu_sb, f_X4_read_b135, if_pos rfl, f_X12_readBus_b10, pu_oEs a3.so, pu_sb, f_X12_readBus_b17, f_X12_readBus_b2, if_pos rfl, if_neg (show ¬ mo_sort mq = 1 by rw [a3.so]; decide), pu_oWr a3.so, pu_sb, pu_o33 a3.so]
            exact Or.inr ⟨q, mq, pl', bu', rfl, rfl, a3⟩
          have t' := t.fr b1 b2
          have sn : s' ≤ n := Nat.le_trans b3.1 b3.2.1
          rw [a1, a2, pu_sb, pu_sb]
          show pu_RE ps mo (f_X4_read_b135 (f_X4_read_b37 f1) (nI v) 1 q pl') (f_X12_readBus_b10 tape (f_X12_readBus_b2 tape (f2 + 1)) mq bu')
          rw [f_X4_read_b135, if_neg (show ¬ (1 : Int32) = 0 by decide), f_X12_readBus_b10]
          have sg := b3.sg.1
          have k0 := b3.k0
          by_cases k3 : ps_kind q = 3
          · obtain ⟨g1, g2⟩ := sg.mp k3
            obtain ⟨s2, e2, q2, m2, d1, d2, d3, d4, d5, d6⟩ := pu_adv t' b3 (by rw [k3]; decide) (by rw [k3]; decide)
            have sn2 : s2 ≤ n := Nat.le_trans d5.1 d5.2.1
            rw [if_neg (show ¬ ps_kind q = 0 by rw [k3]; decide), if_pos k3, d1, pu_sb, nI_1, pu_eat1 g1 g2 d2, pu_sb, f_X12_readBus_b17]
            have w3 := pu_FP.tr b1 d3
            have w4 := pu_FO.trr b2 d4
            exact (ih (n - s2) (by omega) s2 e2 (v + 1) f1 (f2 + 1) q2 m2 pl' bu' R' N' F' H' (by omega) (by omega) (by omega) (by omega) (t.fr w3 w4) d5 (w3.fa.trans hz) a4).pre w3 w4
          have e0 : f_X12_eatsSign mq tape 59 = some (0, mq) := pu_eat0 (fun z => k3 (sg.mpr z))
          rw [e0, pu_sb, f_X12_readBus_b17, f_X12_readBus_b2, if_pos rfl]
          by_cases kz : ps_kind q = 0
          · rw [if_pos kz, if_pos (k0.mp kz)]
            rcases pu_lacks (tape := tape) a4 with ⟨l1, l2, l3, l4, l5⟩ | ⟨l1, l2⟩
            · rw [l1, l2, pu_sb, if_pos rfl, f_X4_read_b167]
              exact Or.inl ⟨q, mq, pl', bu', R', N', F', H', rfl, rfl, b1, b2, a4, l3, l4, l5⟩
            · obtain ⟨q6, m6, f1', f2', f3⟩ := pu_fail b3 (k := 6) (by decide)
              rw [l1, l2, pu_sb, if_neg (show ¬ (1 : Int32) = 0 by decide), f1', pu_sb, if_pos rfl, f_X12_readBus_b63, f2', pu_sb, f_X12_readBus_b69]
              exact Or.inr ⟨q6, m6, pl', bu', rfl, rfl, f3.pre b1 b2⟩
          · obtain ⟨q6, m6, f1', f2', f3⟩ := pu_fail b3 (k := 1) (by decide)
            rw [if_neg kz, if_neg k3, f1', pu_sb, if_pos (Or.inl rfl), if_neg (fun z => kz (k0.mpr z)), f2', pu_sb, pu_o33 f3.so]
            exact Or.inr ⟨q6, m6, pl', bu', rfl, rfl, f3.pre b1 b2⟩
/-- an empty plan, an empty bus -/
def pu_bus0 : BusT := (0, 0, 0, 0, 0, 0, 0, 0, 0, 0, 0, fun _ => 0, fun _ => 0, fun _ => 0, fun _ => 0, fun _ => 0, fun _ => 0, fun _ => 0, fun _ => 0, fun _ => 0, fun _ => 0, fun _ => 0, fun _ => 0, fun _ => 0, fun _ => 0, fun _ => 0)
theorem pu_clear (pd : PlanT) : ∃ p, f_X5_clear pd = some p ∧ pu_RD p pu_bus0 0 0 0 0 := by
  refine ⟨_, rfl, Or.inl ⟨rfl, rfl⟩, ⟨rfl, rfl, by omega⟩, ⟨rfl, rfl, by omega⟩, ⟨rfl, rfl, by omega⟩, ⟨rfl, rfl, by omega⟩, rfl, ?_, ?_, ?_, ?_, ?_, ?_, ?_, ?_, ?_⟩
  all_goals intro x hx
  all_goals exact absurd hx (by omega)
/-- the class's read and the reference's -/
theorem pu_read {ps : ParserT} {mo : MOT} {L k : Nat} (h9 : L ≤ 900) (hk : k ≤ L) (hl : ps_length ps = nI L) (hc : ∀ j, j < k → c j < 256 ∧ ps_text ps j = pu_sg8 (c j) ∧ yTape_r tape j &&& 255 = nI (c j)) (pd : PlanT) {m0 : MOT} (sz : mo_size m0 = nI k) (sp : mo_spot m0 = 0) (so : mo_sort m0 = 0) :
    ∃ ps1 q0 m1, ps_text ps1 = ps_text ps ∧ ps_length ps1 = 0 ∧ f_X12_goesOn m0 tape = some m1 ∧ pu_RE ps1 m0 (f_X4_read ps pd (nI k)) (f_X12_readBus m1 tape pu_bus0) ∧ ps_fault ps1 = 0 ∧ q0 = ps1 := by
  have e0 : (if ps_length ps < nI k then ps_length ps else nI k) = nI k := by rw [hl, if_neg (nI_nlt hk (by omega))]
  obtain ⟨p, c1, c2⟩ := pu_clear pd
  have z : ∀ (a : ParserT) (x y w u : Int32), ps_text (ps_set_fault (ps_set_next (ps_set_length (ps_set_end a x) y) w) u) = ps_text a ∧ ps_end (ps_set_fault (ps_set_next (ps_set_length (ps_set_end a x) y) w) u) = x ∧ ps_length (ps_set_fault (ps_set_next (ps_set_length (ps_set_end a x) y) w) u) = y ∧ ps_next (ps_set_fault (ps_set_next (ps_set_length (ps_set_end a x) y) w) u) = w ∧ ps_fault (ps_set_fault (ps_set_next (ps_set_length (ps_set_end a x) y) w) u) = u := fun a x y w u => ⟨rfl, rfl, rfl, rfl, rfl⟩
  have zz := z ps (nI k) 0 0 0
  have eR : f_X4_read ps pd (nI k) = (f_X4_advance (ps_set_fault (ps_set_next (ps_set_length (ps_set_end ps (nI k)) 0) 0) 0)).bind fun r2 => f_X4_read_b35 r2 p := by
    rw [f_X4_read, e0, c1, pu_sb, f_X4_read_b16, f_X4_read_b26]
  generalize ps_set_fault (ps_set_next (ps_set_length (ps_set_end ps (nI k)) 0) 0) 0 = a at zz eR
  obtain ⟨z1, z2, z3, z4, z5⟩ := zz
  have t : pu_TX c k a tape m0 := ⟨by omega, z2, sz, fun j hj => by rw [z1]; exact hc j hj⟩
  obtain ⟨s, e, q, mq, d1, d2, d3, d4, d5, d6⟩ := pu_adv0 t (p := 0) (by omega) z4 sp (by rw [so]; decide)
  refine ⟨a, a, mq, z1, z3, d2, ?_, z5, rfl⟩
  have sn : s ≤ k := Nat.le_trans d5.1 d5.2.1
  rw [eR, d1, pu_sb, f_X4_read_b35, f_X12_readBus]
  exact (pu_reads (k - s) s e 0 4096 4096 q mq p pu_bus0 0 0 0 0 (by omega) (by omega) (by omega) (by omega) (t.fr d3 d4) d5 (d3.fa.trans z5) c2).pre d3 d4
end QF
