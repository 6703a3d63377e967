/-! bus, of both -/
section QH
variable {tape : TapeT}
/-- the tape of both: L bytes, the same -/
def pu_TP (L : Nat) (ps : ParserT) (tape : TapeT) (mo : MOT) : Prop := (L ≤ 900) ∧ (ps_length ps = nI L) ∧ (mo_taped mo = nI L) ∧ (∀ j, j < L → ps_text ps j = yTape_r tape j ∧ (ps_text ps j).toInt8.toInt32 = ps_text ps j)
theorem pu_TP.l9 {L : Nat} {ps : ParserT} {tape : TapeT} {mo : MOT} (h : pu_TP L ps tape mo) : L ≤ 900 := h.1
theorem pu_TP.le {L : Nat} {ps : ParserT} {tape : TapeT} {mo : MOT} (h : pu_TP L ps tape mo) : ps_length ps = nI L := h.2.1
theorem pu_TP.ta {L : Nat} {ps : ParserT} {tape : TapeT} {mo : MOT} (h : pu_TP L ps tape mo) : mo_taped mo = nI L := h.2.2.1
theorem pu_TP.tx {L : Nat} {ps : ParserT} {tape : TapeT} {mo : MOT} (h : pu_TP L ps tape mo) : ∀ j, j < L → ps_text ps j = yTape_r tape j ∧ (ps_text ps j).toInt8.toInt32 = ps_text ps j := h.2.2.2
theorem pu_byC {b : Int32} (h : b.toInt8.toInt32 = b) : ∃ j, j < 256 ∧ b = pu_sg8 j ∧ b &&& 255 = nI j := by
  obtain ⟨j, hj, e⟩ := pk_andE b (m := 255) 8 (by decide)
  exact ⟨j, hj, (sc_eq h hj).mpr e, e⟩
theorem pu_TP.cs {L : Nat} {ps : ParserT} {mo : MOT} (h : pu_TP L ps tape mo) : ∃ c : Nat → Nat, ∀ j, j < L → c j < 256 ∧ ps_text ps j = pu_sg8 (c j) ∧ yTape_r tape j &&& 255 = nI (c j) := by
  refine ⟨fun j => (ps_text ps j &&& 255).toNatClampNeg, fun j hj => ?_⟩
  obtain ⟨e1, e2⟩ := h.tx j hj
  obtain ⟨i, i1, i2, i3⟩ := pu_byC e2
  have e : (ps_text ps j &&& 255).toNatClampNeg = i := by rw [i3]; exact nI_clamp (by omega)
  show (ps_text ps j &&& 255).toNatClampNeg < 256 ∧ ps_text ps j = pu_sg8 (ps_text ps j &&& 255).toNatClampNeg ∧ yTape_r tape j &&& 255 = nI (ps_text ps j &&& 255).toNatClampNeg
  rw [e, ← e1]
  exact ⟨i1, i2, i3⟩
/-- n is none of the tape's -/
theorem pu_busR {L : Nat} {ps : ParserT} {mo : MOT} (h : pu_TP L ps tape mo) (tp : TopT) (pl pd : PlanT) (rd : RideT) (fm : FilmsT) (de : DealsT) {x : Int32} (hx : x < 0 ∨ ¬ x ≤ nI L) : f_X10_bus tp ps pl pd rd fm de x = some (-1, tp_set_latestTrouble tp 2, ps, pd, rd, fm, de, 0) ∧ f_X12_bus_r mo x = some (-1, pu_mt mo 2) := by
  have et : mo_taped (mo_set_thrown mo 0) = nI L := h.ta
  rw [f_X10_bus, f_X12_bus_r, h.le, et]
  by_cases q : x < 0
  · rw [if_pos q, if_pos q]; exact ⟨rfl, rfl⟩
  · rcases hx with hx | hx
    · exact absurd hx q
    · rw [if_neg q, if_neg q, if_neg hx, if_neg hx]; exact ⟨rfl, rfl⟩
/-- what a bus that was taken leaves in both -/
def pu_BT (pl : PlanT) (bu : BusT) (rd : RideT) (w : WT) (looks : LooksT) : Prop := (pu_GP pl) ∧ (pu_RB pl bu) ∧ (pu_RR pl rd (yW_r w)) ∧ (pu_RL pl rd (yLooks_r looks)) ∧ (pu_ON pl rd 0) ∧ (pu_LK pl rd)
theorem pu_BT.gp {pl : PlanT} {bu : BusT} {rd : RideT} {w : WT} {looks : LooksT} (h : pu_BT pl bu rd w looks) : pu_GP pl := h.1
theorem pu_BT.rb {pl : PlanT} {bu : BusT} {rd : RideT} {w : WT} {looks : LooksT} (h : pu_BT pl bu rd w looks) : pu_RB pl bu := h.2.1
theorem pu_BT.rr {pl : PlanT} {bu : BusT} {rd : RideT} {w : WT} {looks : LooksT} (h : pu_BT pl bu rd w looks) : pu_RR pl rd (yW_r w) := h.2.2.1
theorem pu_BT.rl {pl : PlanT} {bu : BusT} {rd : RideT} {w : WT} {looks : LooksT} (h : pu_BT pl bu rd w looks) : pu_RL pl rd (yLooks_r looks) := h.2.2.2.1
theorem pu_BT.on {pl : PlanT} {bu : BusT} {rd : RideT} {w : WT} {looks : LooksT} (h : pu_BT pl bu rd w looks) : pu_ON pl rd 0 := h.2.2.2.2.1
theorem pu_BT.lk {pl : PlanT} {bu : BusT} {rd : RideT} {w : WT} {looks : LooksT} (h : pu_BT pl bu rd w looks) : pu_LK pl rd := h.2.2.2.2.2
theorem pu_looksLoop {pl : PlanT} {bu : BusT} (h : pu_GP pl) (hB : pu_RB pl bu) (z0 : MOT) (w : WT) (looks : LooksT) : ∃ looks', f_X12_bus_b121 tape 4096 0 z0 w looks bu = ((f_X12_done z0 (bu_riders bu)).bind fun r10 => some (r10.1, r10.2, w, looks', bu, 1)) ∧ ∀ r, r < vN pl → yLooks_r looks' r = qr_looks (pl_riders pl) r := by
  have hn := h.n31
  have en : bu_riders bu = nI (vN pl) := Eq.trans hB.riders h.riders.1
  refine pu_for (fun m i a => f_X12_bus_b121 tape m i z0 w a bu) (vN pl) (fun i a => ∀ r, r < i → yLooks_r a r = qr_looks (pl_riders pl) r) (fun o => ∃ looks', o = ((f_X12_done z0 (bu_riders bu)).bind fun r10 => some (r10.1, r10.2, w, looks', bu, 1)) ∧ ∀ r, r < vN pl → yLooks_r looks' r = qr_looks (pl_riders pl) r) ?_ ?_ (vN pl) 0 looks 4096 (by omega) (by omega) (fun r hr => by omega)
  · intro m i a hi hI
    refine Or.inl ⟨yLooks_set_r a (upd (yLooks_r a) i (bu_looks bu i)), ?_, pu_upI (P := fun j x => x = qr_looks (pl_riders pl) j) (hB.looks i hi) hI⟩
    show f_X12_bus_b121 tape (m + 1) (nI i) z0 w a bu = _
    rw [f_X12_bus_b121, en, if_neg (nI_ge hi (by omega)), if_pos (pu_inn (show i < 8 by omega) (by omega)), if_pos (pu_inn (show i < 8 by omega) (by omega)), nI_clamp (by omega), f_X12_bus_b147, nI_1]
  · intro m a hI
    refine ⟨a, ?_, hI⟩
    show f_X12_bus_b121 tape (m + 1) (nI (vN pl)) z0 w a bu = _
    rw [f_X12_bus_b121, en, if_pos (nI_le (Nat.le_refl _) (by omega))]
/-- it is done -/
def pu_dn (mo : MOT) : MOT := mo_set_where (mo_set_trouble mo 0) (-1)
/-- the text is read -/
theorem pu_busT {L : Nat} {ps : ParserT} {mo : MOT} (h : pu_TP L ps tape mo) (tp : TopT) (pl pd : PlanT) (rd : RideT) (fm : FilmsT) (de : DealsT) (w : WT) (looks : LooksT) {k : Nat} (hk : k ≤ L) :
    (∃ q pl' mo' bu', f_X10_bus tp ps pl pd rd fm de (nI k) = some (-1, tp_set_latestTrouble tp 4, q, pl', rd, fm, de, 0) ∧ f_X12_bus mo tape w looks (nI k) = some (-1, mo', w, looks, bu', 0) ∧ pu_TP 0 q tape mo' ∧ mo_thrown mo' = 0 ∧ mo_trouble mo' = 4 ∧ mo_where mo' = ps_place q ∧ mo_fault mo' = ps_fault q ∧ mo_marks mo' = mo_marks mo ∧ mo_films mo' = mo_films mo) ∨
    (∃ q pl' mo' bu' tp' rd' fm' de' w' looks' v, f_X10_bus tp ps pl pd rd fm de (nI k) = some (v, tp', q, pl', rd', fm', de', 1) ∧ f_X12_bus mo tape w looks (nI k) = some (v, mo', w', looks', bu', 1) ∧ pu_TP 0 q tape mo' ∧ pu_BT pl' bu' rd' w' looks' ∧ tp_hasBus tp' = 1 ∧ tp_markCount tp' = 0 ∧ tp_latestTrouble tp' = 0 ∧ fm_count fm' = 0 ∧ de_counted de' = 0 ∧ mo_thrown mo' = 0 ∧ mo_trouble mo' = 0 ∧ mo_where mo' = -1 ∧ mo_fault mo' = ps_fault q ∧ mo_marks mo' = 0 ∧ mo_films mo' = 0) := by
  obtain ⟨c, hc⟩ := h.cs
  have l9 := h.l9
  have et : mo_taped (mo_set_thrown mo 0) = nI L := h.ta
  -- the reference's start
  have ms : ∀ (m : MOT) (a b d e f g : Int32), mo_thrown (mo_set_sort (mo_set_fault (mo_set_spot (mo_set_taped (mo_set_size (mo_set_thrown m a) b) d) e) f) g) = a ∧ mo_size (mo_set_sort (mo_set_fault (mo_set_spot (mo_set_taped (mo_set_size (mo_set_thrown m a) b) d) e) f) g) = b ∧ mo_taped (mo_set_sort (mo_set_fault (mo_set_spot (mo_set_taped (mo_set_size (mo_set_thrown m a) b) d) e) f) g) = d ∧ mo_spot (mo_set_sort (mo_set_fault (mo_set_spot (mo_set_taped (mo_set_size (mo_set_thrown m a) b) d) e) f) g) = e ∧ mo_fault (mo_set_sort (mo_set_fault (mo_set_spot (mo_set_taped (mo_set_size (mo_set_thrown m a) b) d) e) f) g) = f ∧ mo_sort (mo_set_sort (mo_set_fault (mo_set_spot (mo_set_taped (mo_set_size (mo_set_thrown m a) b) d) e) f) g) = g ∧ mo_marks (mo_set_sort (mo_set_fault (mo_set_spot (mo_set_taped (mo_set_size (mo_set_thrown m a) b) d) e) f) g) = mo_marks m ∧ mo_films (mo_set_sort (mo_set_fault (mo_set_spot (mo_set_taped (mo_set_size (mo_set_thrown m a) b) d) e) f) g) = mo_films m := fun m a b d e f g => ⟨rfl, rfl, rfl, rfl, rfl, rfl, rfl, rfl⟩
  have mm := ms mo 0 (nI k) 0 0 0 0
  have eM : f_X12_bus mo tape w looks (nI k) = f_X12_bus_b59 tape (mo_set_sort (mo_set_fault (mo_set_spot (mo_set_taped (mo_set_size (mo_set_thrown mo 0) (nI k)) 0) 0) 0) 0) w looks pu_bus0 := by
    rw [f_X12_bus, if_neg (nI_pos (by omega)), et, if_pos (nI_le hk (by omega))]; rfl
  generalize mo_set_sort (mo_set_fault (mo_set_spot (mo_set_taped (mo_set_size (mo_set_thrown mo 0) (nI k)) 0) 0) 0) 0 = m0 at mm eM
  obtain ⟨t1, t2, t3, t4, t5, t6, t7, t8⟩ := mm
  obtain ⟨ps1, _, m1, p1, p2, g1, RE, p3, _⟩ := pu_read (c := c) (tape := tape) (mo := mo) l9 hk h.le (fun j hj => hc j (by omega)) pd t2 t4 t6
  rw [eM, f_X12_bus_b59, g1, pu_sb, f_X12_bus_b63, f_X10_bus, if_neg (nI_pos (by omega)), h.le, if_pos (nI_le hk (by omega))]
  rcases RE with ⟨q, mq, pl', bu', R, N, F, H, a1, a2, a3, a4, a5, a6, a7, a8⟩ | ⟨q, mq, pl', bu', a1, a2, a3⟩
  rotate_left
  · refine Or.inl ⟨q, pl', mo_set_where (mo_set_trouble mq 4) (mo_wrongAt (mo_set_trouble mq 4)), bu', ?_, ?_, ?_⟩
    · rw [a1, pu_sb, if_pos rfl]; rfl
    · rw [a2, pu_sb, f_X12_bus_b67, if_neg a3.po, f_X12_bus_b79, f_X12_bus_b87]
    · have ws : ∀ (m : MOT) (x y : Int32), mo_thrown (mo_set_where (mo_set_trouble m x) y) = mo_thrown m ∧ mo_taped (mo_set_where (mo_set_trouble m x) y) = mo_taped m ∧ mo_trouble (mo_set_where (mo_set_trouble m x) y) = x ∧ mo_where (mo_set_where (mo_set_trouble m x) y) = y ∧ mo_fault (mo_set_where (mo_set_trouble m x) y) = mo_fault m ∧ mo_marks (mo_set_where (mo_set_trouble m x) y) = mo_marks m ∧ mo_films (mo_set_where (mo_set_trouble m x) y) = mo_films m ∧ mo_wrongAt (mo_set_trouble m x) = mo_wrongAt m := fun m x y => ⟨rfl, rfl, rfl, rfl, rfl, rfl, rfl, rfl⟩
      obtain ⟨w1, w2, w3, w4, w5, w6, w7, w8⟩ := ws mq 4 (mo_wrongAt (mo_set_trouble mq 4))
      generalize mo_set_where (mo_set_trouble mq 4) (mo_wrongAt (mo_set_trouble mq 4)) = m2 at w1 w2 w3 w4 w5 w6 w7
      refine ⟨⟨by omega, a3.le.trans p2, w2.trans (a3.ta.trans t3), fun j hj => by omega⟩, w1.trans (a3.th.trans t1), w3, ?_, w5.trans a3.fa.symm, w6.trans (a3.ma.trans t7), w7.trans (a3.fi.trans t8)⟩
      rw [w4, w8, a3.pl]
  · obtain ⟨gp, rb⟩ := pu_RDgp a5 a6 a7 a8
    have fz : mo_fault mq = 0 := a4.fa.trans t5
    obtain ⟨rd', b1, b2⟩ := pu_begC gp rd
    have fs : ∀ (m : MOT) (x y : Int32), mo_thrown (mo_set_films (mo_set_marks m x) y) = mo_thrown m ∧ mo_taped (mo_set_films (mo_set_marks m x) y) = mo_taped m ∧ mo_fault (mo_set_films (mo_set_marks m x) y) = mo_fault m ∧ mo_marks (mo_set_films (mo_set_marks m x) y) = x ∧ mo_films (mo_set_films (mo_set_marks m x) y) = y := fun m x y => ⟨rfl, rfl, rfl, rfl, rfl⟩
    obtain ⟨f1, f2, f3, f4, f5⟩ := fs mq 0 0
    have eB : f_X12_bus_b67 tape mq w looks bu' = f_X12_bus_b107 tape (mo_set_films (mo_set_marks mq 0) 0) w looks bu' := by
      rw [f_X12_bus_b67, if_pos (show mo_fault mq ≤ 0 by rw [fz]; decide), f_X12_bus_b102]
    generalize mo_set_films (mo_set_marks mq 0) 0 = m2 at f1 f2 f3 f4 f5 eB
    obtain ⟨w', d1, d2, d3⟩ := pu_begM gp rb m2 w
    obtain ⟨y1, y2, y3⟩ := pu_beg gp b2 d2 d3
    obtain ⟨looks', l1, l2⟩ := pu_looksLoop (tape := tape) gp rb m2 w' looks
    refine Or.inr ⟨q, pl', pu_dn m2, bu', tp_set_latestTrouble (tp_set_markCount (tp_set_hasBus tp 1) 0) 0, rd', fm_set_count fm 0, de_set_counted de 0, w', looks', pl_riderCount pl', ?_, ?_, ⟨by omega, a3.le.trans p2, ?_, fun j hj => by omega⟩, ⟨gp, rb, y1, ⟨fun r hr => ?_, b2.l8, fun r hr => (by rw [l2 r hr]; exact gp.looks r hr)⟩, y2, y3⟩, rfl, rfl, rfl, rfl, rfl, ?_, rfl, rfl, ?_, ?_, ?_⟩
    · rw [a1, pu_sb, if_neg (show ¬ (1 : Int32) = 0 by decide), f_X10_takeDraft, f_X10_takeDraft_b23, b1, pu_sb]; rfl
    · rw [a2, pu_sb, eB, f_X12_bus_b107, d1, pu_sb, f_X12_bus_b119, l1, rb.riders]; rfl
    · show mo_taped m2 = 0
      rw [f2]; exact a4.ta.trans t3
    · rw [l2 r hr, b2.looks r hr]
    · show mo_thrown m2 = 0
      rw [f1]; exact a4.th.trans t1
    · show mo_fault m2 = ps_fault q
      rw [f3, fz]; exact (a3.fa.trans p3).symm
    · exact f4
    · exact f5
end QH
