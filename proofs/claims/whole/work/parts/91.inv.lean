/-! the law's invariant: what both hold between two calls -/
section QJ
def pu_CM (L : Nat) (tp : TopT) (ps : ParserT) (tape : TapeT) (mo : MOT) : Prop := (pu_TP L ps tape mo) ∧ (ps_fault ps = mo_fault mo) ∧ (tp_latestTrouble tp = mo_trouble mo) ∧ ((tp_latestTrouble tp = 4 ∧ mo_where mo = ps_place ps) ∨ (¬ tp_latestTrouble tp = 4 ∧ mo_where mo = -1))
theorem pu_CM.tp {L : Nat} {tp : TopT} {ps : ParserT} {tape : TapeT} {mo : MOT} (h : pu_CM L tp ps tape mo) : pu_TP L ps tape mo := h.1
theorem pu_CM.fa {L : Nat} {tp : TopT} {ps : ParserT} {tape : TapeT} {mo : MOT} (h : pu_CM L tp ps tape mo) : ps_fault ps = mo_fault mo := h.2.1
theorem pu_CM.tr {L : Nat} {tp : TopT} {ps : ParserT} {tape : TapeT} {mo : MOT} (h : pu_CM L tp ps tape mo) : tp_latestTrouble tp = mo_trouble mo := h.2.2.1
theorem pu_CM.wh {L : Nat} {tp : TopT} {ps : ParserT} {tape : TapeT} {mo : MOT} (h : pu_CM L tp ps tape mo) : (tp_latestTrouble tp = 4 ∧ mo_where mo = ps_place ps) ∨ (¬ tp_latestTrouble tp = 4 ∧ mo_where mo = -1) := h.2.2.2
def pu_NB (tp : TopT) (fm : FilmsT) (mo : MOT) : Prop := (tp_hasBus tp = 0) ∧ (tp_markCount tp = 0) ∧ (fm_count fm = 0)
theorem pu_NB.hb {tp : TopT} {fm : FilmsT} {mo : MOT} (h : pu_NB tp fm mo) : tp_hasBus tp = 0 := h.1
theorem pu_NB.mc {tp : TopT} {fm : FilmsT} {mo : MOT} (h : pu_NB tp fm mo) : tp_markCount tp = 0 := h.2.1
theorem pu_NB.fc {tp : TopT} {fm : FilmsT} {mo : MOT} (h : pu_NB tp fm mo) : fm_count fm = 0 := h.2.2
/-- the rides that are kept -/
def pu_KP (m : Nat) (pl : PlanT) (rk : Nat → RideT) (kept looks : Nat → Int32) : Prop := ∀ i, i < m → pu_RR pl (rk i) (fun k => kept (56 * i + k)) ∧ pu_RL pl (rk i) looks ∧ pu_ON pl (rk i) 0
def pu_YB (m : Nat) (tp : TopT) (pl : PlanT) (bu : BusT) (rd : RideT) (w : WT) (looks : LooksT) (fm : FilmsT) (de : DealsT) (mo : MOT) (kept : KeptT) (ft : FTakenT) (fs : FSeatT) (rk : Nat → RideT) : Prop := (tp_hasBus tp = 1) ∧ (pu_BT pl bu rd w looks) ∧ (m ≤ 4) ∧ (tp_markCount tp = nI m) ∧ (mo_marks mo = nI m) ∧ (pu_KP m pl rk (yKept_r kept) (yLooks_r looks)) ∧ (pu_RM pl fm mo (yFTaken_r ft) (yFSeat_r fs)) ∧ (pu_DC pl bu de)
theorem pu_YB.hb {m : Nat} {tp : TopT} {pl : PlanT} {bu : BusT} {rd : RideT} {w : WT} {looks : LooksT} {fm : FilmsT} {de : DealsT} {mo : MOT} {kept : KeptT} {ft : FTakenT} {fs : FSeatT} {rk : Nat → RideT} (h : pu_YB m tp pl bu rd w looks fm de mo kept ft fs rk) : tp_hasBus tp = 1 := h.1
theorem pu_YB.bt {m : Nat} {tp : TopT} {pl : PlanT} {bu : BusT} {rd : RideT} {w : WT} {looks : LooksT} {fm : FilmsT} {de : DealsT} {mo : MOT} {kept : KeptT} {ft : FTakenT} {fs : FSeatT} {rk : Nat → RideT} (h : pu_YB m tp pl bu rd w looks fm de mo kept ft fs rk) : pu_BT pl bu rd w looks := h.2.1
theorem pu_YB.m4 {m : Nat} {tp : TopT} {pl : PlanT} {bu : BusT} {rd : RideT} {w : WT} {looks : LooksT} {fm : FilmsT} {de : DealsT} {mo : MOT} {kept : KeptT} {ft : FTakenT} {fs : FSeatT} {rk : Nat → RideT} (h : pu_YB m tp pl bu rd w looks fm de mo kept ft fs rk) : m ≤ 4 := h.2.2.1
theorem pu_YB.mc {m : Nat} {tp : TopT} {pl : PlanT} {bu : BusT} {rd : RideT} {w : WT} {looks : LooksT} {fm : FilmsT} {de : DealsT} {mo : MOT} {kept : KeptT} {ft : FTakenT} {fs : FSeatT} {rk : Nat → RideT} (h : pu_YB m tp pl bu rd w looks fm de mo kept ft fs rk) : tp_markCount tp = nI m := h.2.2.2.1
theorem pu_YB.mm {m : Nat} {tp : TopT} {pl : PlanT} {bu : BusT} {rd : RideT} {w : WT} {looks : LooksT} {fm : FilmsT} {de : DealsT} {mo : MOT} {kept : KeptT} {ft : FTakenT} {fs : FSeatT} {rk : Nat → RideT} (h : pu_YB m tp pl bu rd w looks fm de mo kept ft fs rk) : mo_marks mo = nI m := h.2.2.2.2.1
theorem pu_YB.kp {m : Nat} {tp : TopT} {pl : PlanT} {bu : BusT} {rd : RideT} {w : WT} {looks : LooksT} {fm : FilmsT} {de : DealsT} {mo : MOT} {kept : KeptT} {ft : FTakenT} {fs : FSeatT} {rk : Nat → RideT} (h : pu_YB m tp pl bu rd w looks fm de mo kept ft fs rk) : pu_KP m pl rk (yKept_r kept) (yLooks_r looks) := h.2.2.2.2.2.1
theorem pu_YB.rm {m : Nat} {tp : TopT} {pl : PlanT} {bu : BusT} {rd : RideT} {w : WT} {looks : LooksT} {fm : FilmsT} {de : DealsT} {mo : MOT} {kept : KeptT} {ft : FTakenT} {fs : FSeatT} {rk : Nat → RideT} (h : pu_YB m tp pl bu rd w looks fm de mo kept ft fs rk) : pu_RM pl fm mo (yFTaken_r ft) (yFSeat_r fs) := h.2.2.2.2.2.2.1
theorem pu_YB.dc {m : Nat} {tp : TopT} {pl : PlanT} {bu : BusT} {rd : RideT} {w : WT} {looks : LooksT} {fm : FilmsT} {de : DealsT} {mo : MOT} {kept : KeptT} {ft : FTakenT} {fs : FSeatT} {rk : Nat → RideT} (h : pu_YB m tp pl bu rd w looks fm de mo kept ft fs rk) : pu_DC pl bu de := h.2.2.2.2.2.2.2
variable {L m : Nat} {tp tp' : TopT} {ps : ParserT} {tape : TapeT} {mo mo' : MOT} {pl : PlanT} {bu : BusT} {rd : RideT} {w : WT} {looks : LooksT} {fm : FilmsT} {de : DealsT} {kept : KeptT} {ft : FTakenT} {fs : FSeatT} {rk : Nat → RideT}
theorem pu_CM.to (h : pu_CM L tp ps tape mo) {t : Int32} (nt : ¬ t = 4) (e1 : mo_taped mo' = mo_taped mo) (e2 : mo_fault mo' = mo_fault mo) (e3 : mo_trouble mo' = t) (e4 : mo_where mo' = -1) (e5 : tp_latestTrouble tp' = t) : pu_CM L tp' ps tape mo' :=
  ⟨⟨h.tp.l9, h.tp.le, e1.trans h.tp.ta, h.tp.tx⟩, h.fa.trans e2.symm, e5.trans e3.symm, Or.inr ⟨by rw [e5]; exact nt, e4⟩⟩
theorem pu_CM.an (h : pu_CM L tp ps tape mo) {t : Int32} (nt : ¬ t = 4) : pu_CM L (tp_set_latestTrouble tp t) ps tape (pu_mt mo t) := h.to nt rfl rfl rfl rfl rfl
theorem pu_CM.th (h : pu_CM L tp ps tape mo) (x : Int32) : pu_CM L tp ps tape (mo_set_thrown mo x) := ⟨⟨h.tp.l9, h.tp.le, h.tp.ta, h.tp.tx⟩, h.fa, h.tr, h.wh⟩
theorem pu_RM.mq (h : pu_RM pl fm mo (yFTaken_r ft) (yFSeat_r fs)) (e : mo_films mo' = mo_films mo) : pu_RM pl fm mo' (yFTaken_r ft) (yFSeat_r fs) := by
  unfold pu_RM at h ⊢
  rw [e]; exact h
theorem pu_YB.to (h : pu_YB m tp pl bu rd w looks fm de mo kept ft fs rk) (e1 : tp_hasBus tp' = tp_hasBus tp) (e2 : tp_markCount tp' = tp_markCount tp) (e3 : mo_marks mo' = mo_marks mo) (e4 : mo_films mo' = mo_films mo) : pu_YB m tp' pl bu rd w looks fm de mo' kept ft fs rk := ⟨e1.trans h.hb, h.bt, h.m4, e2.trans h.mc, e3.trans h.mm, h.kp, h.rm.mq e4, h.dc⟩
theorem pu_YB.an (h : pu_YB m tp pl bu rd w looks fm de mo kept ft fs rk) (t : Int32) : pu_YB m (tp_set_latestTrouble tp t) pl bu rd w looks fm de (pu_mt mo t) kept ft fs rk := h.to rfl rfl rfl rfl
theorem pu_YB.th (h : pu_YB m tp pl bu rd w looks fm de mo kept ft fs rk) (x : Int32) : pu_YB m tp pl bu rd w looks fm de (mo_set_thrown mo x) kept ft fs rk := h.to rfl rfl rfl rfl
theorem pu_NB.an (h : pu_NB tp fm mo) (t : Int32) : pu_NB (tp_set_latestTrouble tp t) fm (pu_mt mo t) := ⟨h.hb, h.mc, h.fc⟩
theorem pu_NB.th (h : pu_NB tp fm mo) (x : Int32) : pu_NB tp fm (mo_set_thrown mo x) := ⟨h.hb, h.mc, h.fc⟩
/-! fault, where, trouble -/
theorem pu_fault (h : pu_CM L tp ps tape mo) : ∃ v, f_X10_fault tp ps = some v ∧ f_X12_fault mo = some (v, mo_set_thrown mo 0) := ⟨mo_fault mo, by rw [f_X10_fault, h.fa], rfl⟩
theorem pu_where (h : pu_CM L tp ps tape mo) : ∃ v, f_X10_where tp ps = some v ∧ f_X12_where mo = some (v, mo_set_thrown mo 0) := by
  refine ⟨mo_where mo, ?_, rfl⟩
  rw [f_X10_where]
  rcases h.wh with ⟨a, b⟩ | ⟨a, b⟩
  · rw [if_pos a, b]
  · rw [if_neg a, b]
theorem pu_trouble (h : pu_CM L tp ps tape mo) : ∃ v, f_X10_trouble tp = some v ∧ f_X12_trouble mo = some (v, mo_set_thrown mo 0) := ⟨mo_trouble mo, by rw [f_X10_trouble, h.tr], rfl⟩
/-! a stop, a run: the ride goes on -/
theorem pu_BT.go (h : pu_BT pl bu rd w looks) {rd2 : RideT} {w2 : WT} (a : pu_RR pl rd2 (yW_r w2)) (b : pu_RL pl rd2 (yLooks_r looks)) (c : pu_ON pl rd2 0) : pu_BT pl bu rd2 w2 looks := ⟨h.gp, h.rb, a, b, c, fun r hr => by rw [← b.1 r hr, h.rl.1 r hr, h.lk r hr]⟩
theorem pu_YB.go (h : pu_YB m tp pl bu rd w looks fm de mo kept ft fs rk) {rd2 : RideT} {w2 : WT} (a : pu_RR pl rd2 (yW_r w2)) (b : pu_RL pl rd2 (yLooks_r looks)) (c : pu_ON pl rd2 0) : pu_YB m tp pl bu rd2 w2 looks fm de mo kept ft fs rk := ⟨h.hb, h.bt.go a b c, h.m4, h.mc, h.mm, h.kp, h.rm, h.dc⟩
/-- dealt: the looks come back as they were -/
theorem pu_YB.lk (h : pu_YB m tp pl bu rd w looks fm de mo kept ft fs rk) {looks' : LooksT} (a : pu_RL pl rd (yLooks_r looks')) {de' : DealsT} (d : pu_DC pl bu de') : pu_YB m tp pl bu rd w looks' fm de' mo kept ft fs rk := by
  have e : ∀ r, r < vN pl → yLooks_r looks' r = yLooks_r looks r := fun r hr => by rw [a.1 r hr, h.bt.rl.1 r hr]
  refine ⟨h.hb, ⟨h.bt.gp, h.bt.rb, h.bt.rr, a, h.bt.on, h.bt.lk⟩, h.m4, h.mc, h.mm, fun i hi => ?_, h.rm, d⟩
  obtain ⟨k1, k2, k3⟩ := h.kp i hi
  exact ⟨k1, ⟨fun r hr => by rw [e r hr]; exact k2.1 r hr, k2.2.1, a.2.2⟩, k3⟩
theorem pu_RRk (h : pu_GP pl) {rd : RideT} {w w' : Nat → Int32} (hR : pu_RR pl rd w) (e : ∀ k, k < 56 → w' k = w k) : pu_RR pl rd w' := pu_RCc h hR (fun _ _ => rfl) (fun _ _ => rfl) (fun _ _ => rfl) (fun _ _ => rfl) (fun _ _ => rfl) (fun _ _ => rfl) e
/-! marks -/
theorem pu_YB.mark (h : pu_YB m tp pl bu rd w looks fm de mo kept ft fs rk) (hm : m < 4) (ra : RideT) : ∃ rn kept', f_X6_copyFrom ra rd = some rn ∧ f_X12_mark mo w kept = some (nI m, mo_set_where (mo_set_trouble (mo_set_marks (mo_set_thrown mo 0) (nI (m + 1))) 0) (-1), kept') ∧ pu_YB (m + 1) (tp_set_latestTrouble (tp_set_markCount tp (nI (m + 1))) 0) pl bu rd w looks fm de (mo_set_where (mo_set_trouble (mo_set_marks (mo_set_thrown mo 0) (nI (m + 1))) 0) (-1)) kept' ft fs (fun i => if i = m then rn else rk i) := by
  obtain ⟨rn, c1, c2, c3, c4, c5⟩ := pu_copy h.bt.gp ra (ro := rd)
  obtain ⟨o1, _, o3⟩ := pu_copyO h.bt.gp c3 c4 c5
  obtain ⟨kept', d1, d2, d3⟩ := pu_mark mo w kept hm h.mm
  refine ⟨rn, kept', c1, d1, h.hb, h.bt, by omega, rfl, rfl, fun i hi => ?_, h.rm.mq rfl, h.dc⟩
  by_cases ei : i = m
  · subst ei
    show pu_RR pl (if i = i then rn else rk i) _ ∧ pu_RL pl (if i = i then rn else rk i) _ ∧ pu_ON pl (if i = i then rn else rk i) 0
    rw [if_pos rfl]
    exact ⟨c2 _ _ h.bt.rr d2, o3 _ h.bt.rl, o1 0 h.bt.on⟩
  · show pu_RR pl (if i = m then rn else rk i) _ ∧ pu_RL pl (if i = m then rn else rk i) _ ∧ pu_ON pl (if i = m then rn else rk i) 0
    rw [if_neg ei]
    obtain ⟨k1, k2, k3⟩ := h.kp i (by omega)
    refine ⟨?_, k2, k3⟩
    have e : ∀ k, k < 56 → yKept_r kept' (56 * i + k) = yKept_r kept (56 * i + k) := fun k hk => d3 _ (by omega)
    exact pu_RRk h.bt.gp k1 e
theorem pu_YB.back (h : pu_YB m tp pl bu rd w looks fm de mo kept ft fs rk) {i : Nat} (hi : i < m) : ∃ rd' w', f_X6_copyFrom rd (rk i) = some rd' ∧ f_X12_back mo w kept (nI i) = some (1, pu_mt mo 0, w') ∧ pu_YB m (tp_set_latestTrouble tp 0) pl bu rd' w' looks fm de (pu_mt mo 0) kept ft fs rk := by
  obtain ⟨rd', c1, c2, c3, c4, c5⟩ := pu_copy h.bt.gp rd (ro := rk i)
  obtain ⟨o1, _, o3⟩ := pu_copyO h.bt.gp c3 c4 c5
  obtain ⟨w', d1, d2⟩ := pu_back mo w kept h.m4 h.mm hi
  obtain ⟨k1, k2, k3⟩ := h.kp i hi
  exact ⟨rd', w', c1, d1, (h.an 0).go (c2 _ _ k1 d2) (o3 _ k2) (o1 0 k3)⟩
end QJ
