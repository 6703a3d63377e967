/-! giving a seat, choosing, the stop -/
section PT
variable {pl : PlanT} {bu : BusT} {rd : RideT} {w : WT}
theorem pu_K.trans {a b c : Nat → Int32} (h1 : pu_K a b) (h2 : pu_K b c) : pu_K a c := fun k hk => (h1 k hk).trans (h2 k hk)
/-- one who doesn't sit stands -/
theorem pu_stand (h : pu_GP pl) (hR : pu_RR pl rd (yW_r w)) {r : Nat} (hr : r < vN pl) (hv : vSits rd r = false) : pu_RR pl (rd_set_place rd (upd (rd_place rd) r (101 : Int32))) (upd (yW_r w) r (101 : Int32)) := by
  have hn := h.n31
  have hst := hR.sto
  have g : ∀ k, k ≠ r → upd (yW_r w) r (101 : Int32) k = yW_r w k := fun k e => pk_un e
  have rp : ∀ t, t < 20 → ¬ rd_place rd r = nI t := fun t ht e => by
    have e2 := pu_sitsP (by omega) e
    rw [hv, decide_eq_true ht] at e2
    cases e2
  have r1 : ∀ t, t < 20 → ¬ (101 : Int32) = nI t := fun t ht e => by
    rw [show (101 : Int32) = nI 101 from rfl, nI_eq (by omega) (by omega)] at e
    omega
  refine ⟨fun q hq => ?_, fun q hq => ?_, fun s hs => ?_, fun q q2 s hq hq2 hs a b => ?_, fun s hs => ?_, fun q hq => ?_, fun q hq => by rw [g _ (by omega)]; exact hR.tur q hq, fun q hq => by rw [g _ (by omega)]; exact hR.pas q hq, fun q hq => by rw [g _ (by omega)]; exact hR.joi q hq, fun s hs => by rw [g _ (by omega)]; exact hR.spe s hs, by rw [g _ (by omega)]; exact hst, by rw [g _ (by omega)]; exact hR.tus, by rw [g _ (by omega)]; exact hR.gif⟩
  · show upd (yW_r w) r 101 q = upd (rd_place rd) r 101 q
    by_cases e : q = r
    · subst e; rw [pk_us, pk_us]
    · rw [pk_un e, pk_un e]; exact hR.pla q hq
  · show ∃ p, upd (rd_place rd) r 101 q = nI p ∧ _
    by_cases e : q = r
    · subst e; exact ⟨101, pk_us, by omega⟩
    · rw [pk_un e]; exact hR.plv q hq
  · show (sc_sitter (rd_scene rd) s = -2 ∧ ∀ q, q < vN pl → ¬ upd (rd_place rd) r 101 q = nI s) ∨ ∃ q, q < vN pl ∧ sc_sitter (rd_scene rd) s = nI q ∧ upd (rd_place rd) r 101 q = nI s
    rcases hR.sit s hs with ⟨a, b⟩ | ⟨q, hq, a, b⟩
    · refine Or.inl ⟨a, fun q hq z => ?_⟩
      by_cases e : q = r
      · subst e; rw [pk_us] at z; exact r1 s hs z
      · rw [pk_un e] at z; exact b q hq z
    · have e : q ≠ r := fun z => by subst z; exact rp s hs b
      exact Or.inr ⟨q, hq, a, by rw [pk_un e]; exact b⟩
  · have a : upd (rd_place rd) r 101 q = nI s := a
    have b : upd (rd_place rd) r 101 q2 = nI s := b
    by_cases e : q = r
    · subst e; rw [pk_us] at a; exact absurd a (r1 s hs)
    · by_cases e2 : q2 = r
      · subst e2; rw [pk_us] at b; exact absurd b (r1 s hs)
      · rw [pk_un e] at a; rw [pk_un e2] at b
        exact hR.uni q q2 s hq hq2 hs a b
  · rcases hR.lug s hs with ⟨a, b⟩ | ⟨q, hq, a, b⟩
    · exact Or.inl ⟨a, fun q hq => by rw [g _ (by omega)]; exact b q hq⟩
    · exact Or.inr ⟨q, hq, a, by rw [g _ (by omega)]; exact b⟩
  · rw [g _ (by omega)]
    rcases hR.bag q hq with a | ⟨p, hp, v1, v2, a, b, d⟩
    · exact Or.inl a
    · have e : q ≠ r := fun z => by subst z; exact rp p hp a
      exact Or.inr ⟨p, hp, v1, v2, by show upd (rd_place rd) r 101 q = _; rw [pk_un e]; exact a, b, d⟩
/-- choosing now -/
theorem pu_settle (h : pu_GP pl) (hB : pu_RB pl bu) (hR : pu_RR pl rd (yW_r w)) {looks : LooksT} (hL : pu_RL pl rd (yLooks_r looks)) (mo : MOT) (who : WhoT) (look : LookT) {r : Nat} (hr : r < vN pl) (hv : vSits rd r = false) :
    ∃ rd2 w2 who2 look2, f_X6_settle rd pl (nI r) = some rd2 ∧ f_X12_choosesNow mo w looks who look bu (nI r) = some (w2, who2, look2) ∧ pu_RR pl rd2 (yW_r w2) ∧ pu_RL pl rd2 (yLooks_r looks) ∧ rd_stops rd2 = rd_stops rd ∧ rd_spent rd2 = rd_spent rd ∧ pu_K (yW_r w2) (yW_r w) ∧ ∀ q, q ≠ r → rd_place rd2 q = rd_place rd q := by
  have hn := h.n31
  obtain ⟨m, c, who2, look2, e1, e2, e3, e4, e5, e6⟩ := pu_chosen h hB hR hL mo who look hr hv
  rw [f_X6_settle, e1, pu_sb, e2, pu_sb, f_X12_choosesNow, e4, pu_sb, f_X12_choosesNow_b6]
  rcases e5 with rfl | ⟨s, hs, rfl, hsv, hsn, _⟩
  · rw [if_pos rfl, if_pos rfl, if_pos (pu_inn (by omega) (by omega)), nI_clamp (by omega), pu_z, if_pos (pu_inn (by omega) (by omega)), nI_clamp (by omega), f_X12_choosesNow_b22, f_X12_choosesNow_b31]
    refine ⟨_, yW_set_r w (upd (yW_r w) r (101 : Int32)), who2, look2, rfl, rfl, pu_stand h hR hr hv, hL, rfl, rfl, fun k hk => ?_, fun q hq => ?_⟩
    · show upd (yW_r w) r 101 k = _
      exact pk_un (by omega)
    · show upd (rd_place rd) r 101 q = _
      exact pk_un hq
  · rw [if_neg (pu_ne2 (by omega)), if_neg (pu_ne2 (by omega))]
    obtain ⟨rd2, w2, f1, f2, f3, f4, f5, f6, f7, f8⟩ := pu_sitDown h hB hR mo hr hs hsv hsn hv
    rw [f1, f2, pu_sb, pu_sb, f_X12_choosesNow_b31]
    refine ⟨rd2, w2, who2, look2, rfl, rfl, f3, ?_, f5, f7, f8, fun q hq => ?_⟩
    · unfold pu_RL
      rw [f6]; exact hL
    · rw [f4]; exact pk_un hq
/-- a seat given: one more gift -/
theorem pu_gift (h : pu_GP pl) (hR : pu_RR pl rd (yW_r w)) (x : Int32) : pu_RR pl (rd_set_gifts rd (rd_gifts rd + 1)) (upd (upd (yW_r w) 55 x) 54 (yW_r w 54 + 1)) := by
  have hn := h.n31
  have hst := hR.sto
  have g : ∀ k, k < 54 → upd (upd (yW_r w) 55 x) 54 (yW_r w 54 + 1) k = yW_r w k := fun k e => by rw [pk_un (by omega), pk_un (by omega)]
  refine ⟨fun q hq => by rw [g _ (by omega)]; exact hR.pla q hq, hR.plv, hR.sit, hR.uni, fun s hs => ?_, fun q hq => by rw [g _ (by omega)]; exact hR.bag q hq, fun q hq => by rw [g _ (by omega)]; exact hR.tur q hq, fun q hq => by rw [g _ (by omega)]; exact hR.pas q hq, fun q hq => by rw [g _ (by omega)]; exact hR.joi q hq, fun s hs => ?_, by rw [g _ (by omega)]; exact hst, by rw [g _ (by omega)]; exact hR.tus, ?_⟩
  · rcases hR.lug s hs with ⟨a, b⟩ | ⟨q, hq, a, b⟩
    · exact Or.inl ⟨a, fun q hq => by rw [g _ (by omega)]; exact b q hq⟩
    · exact Or.inr ⟨q, hq, a, by rw [g _ (by omega)]; exact b⟩
  · have hs : s < vSt (rd_stops rd) := hs
    rw [g _ (by omega)]; exact hR.spe s hs
  · show upd (upd (yW_r w) 55 x) 54 (yW_r w 54 + 1) 54 = rd_gifts rd + 1
    rw [pk_us, hR.gif]
/-- the youngest who sits, of class and reference -/
theorem pu_young (h : pu_GP pl) (hB : pu_RB pl bu) (hR : pu_RR pl rd (yW_r w)) (mo : MOT) (k10 : Int32 → WT → Option WT) (r : Int32) :
    ∃ g, f_X6_youngest rd pl = some g ∧ ((g = -2 ∧ f_X12_give_b56 mo bu k10 4096 r (-2) 0 w = f_X12_give_b179 mo bu k10 r w) ∨ ∃ q, q < vN pl ∧ g = nI q ∧ vSits rd q = true ∧ f_X12_give_b56 mo bu k10 4096 r (-2) 0 w = (f_X12_getsUp mo w (nI q) (101 : Int32)).bind fun r10 => f_X12_give_b149 mo bu k10 r (nI q) (rd_place rd q) r10) := by
  have hn := h.n31
  rw [f_X6_youngest]
  refine pu_for2 (fun n i (a : Int32 × Int32) => f_X6_youngest_b8 rd pl n a.1 a.2 i) (fun n i (c : Int32) => f_X12_give_b56 mo bu k10 n r c i w) (vN pl) (fun _ a c => (a = (-2, 40) ∧ c = -2) ∨ ∃ q, q < vN pl ∧ a = (nI q, nI (vAge pl q)) ∧ c = nI q ∧ vSits rd q = true ∧ vAge pl q < 40)
    (fun o o2 => ∃ g, o = some g ∧ ((g = -2 ∧ o2 = f_X12_give_b179 mo bu k10 r w) ∨ ∃ q, q < vN pl ∧ g = nI q ∧ vSits rd q = true ∧ o2 = (f_X12_getsUp mo w (nI q) (101 : Int32)).bind fun r10 => f_X12_give_b149 mo bu k10 r (nI q) (rd_place rd q) r10)) ?_ ?_ (vN pl) 0 (-2, 40) (-2) 4096 (by omega) (by omega) (Or.inl ⟨rfl, rfl⟩)
  · intro n i a c hi hI
    refine Or.inl ?_
    have ha := h.age i hi
    have e40 : ((40 : Int32) ≤ nI (vAge pl i)) ↔ 40 ≤ vAge pl i := nI_leI (a := 40) (b := vAge pl i) (by omega) (by omega)
    have eC : ∀ x y : Int32, f_X6_youngest_b8 rd pl (n + 1) x y (nI i) = if (20 : Int32) ≤ rd_place rd i then f_X6_youngest_b8 rd pl n x y (nI (i + 1)) else if y ≤ nI (vAge pl i) then f_X6_youngest_b8 rd pl n x y (nI (i + 1)) else f_X6_youngest_b8 rd pl n (nI i) (nI (vAge pl i)) (nI (i + 1)) := fun x y => by
      rw [f_X6_youngest_b8, h.riders.1, if_neg (nI_ge hi (by omega))]
      simp only [if_pos (pu_inn (c := i) (N := 8) (by omega) (by omega)), nI_clamp (show i < 2 ^ 31 by omega), nI_1, ha.1]
    have eM : ∀ x : Int32, f_X12_give_b56 mo bu k10 (n + 1) r x (nI i) w = if vSits rd i = true then (if (40 : Int32) ≤ nI (vAge pl i) then f_X12_give_b56 mo bu k10 n r x (nI (i + 1)) w else if x = (-2 : Int32) then f_X12_give_b56 mo bu k10 n r (nI i) (nI (i + 1)) w else if kb_in? x 8 then (if bu_age bu x.toNatClampNeg ≤ nI (vAge pl i) then f_X12_give_b56 mo bu k10 n r x (nI (i + 1)) w else f_X12_give_b56 mo bu k10 n r (nI i) (nI (i + 1)) w) else none) else f_X12_give_b56 mo bu k10 n r x (nI (i + 1)) w := fun x => by
      rw [f_X12_give_b56, hB.riders, h.riders.1, if_neg (nI_ge hi (by omega)), pu_isSittingM h hR mo hi, pu_sb, pu_ifb]
      simp only [if_pos (pu_inn (c := i) (N := 8) (by omega) (by omega)), nI_clamp (show i < 2 ^ 31 by omega), nI_1, hB.age i hi, ha.1, f_X12_give_b116]
    show ∃ a' c', f_X6_youngest_b8 rd pl (n + 1) a.1 a.2 (nI i) = _ ∧ f_X12_give_b56 mo bu k10 (n + 1) r c (nI i) w = _ ∧ _
    rw [eC, eM]
    by_cases c1 : (20 : Int32) ≤ rd_place rd i
    · have hv : vSits rd i = false := by unfold vSits; exact decide_eq_false (fun z => z c1)
      rw [if_pos c1, hv, pu_ff]
      exact ⟨a, c, rfl, rfl, hI⟩
    · have hv : vSits rd i = true := by unfold vSits; exact decide_eq_true c1
      rw [if_neg c1, hv, pu_tt]
      rcases hI with ⟨rfl, rfl⟩ | ⟨q, hq, rfl, rfl, hs, h40⟩
      · by_cases c2 : (40 : Int32) ≤ nI (vAge pl i)
        · rw [if_pos c2, if_pos c2]
          exact ⟨(-2, 40), -2, rfl, rfl, Or.inl ⟨rfl, rfl⟩⟩
        · rw [if_neg c2, if_neg c2, if_pos rfl]
          exact ⟨(nI i, nI (vAge pl i)), nI i, rfl, rfl, Or.inr ⟨i, hi, rfl, rfl, hv, by rw [e40] at c2; omega⟩⟩
      · have hq2 := h.age q hq
        have eq : (nI (vAge pl q) ≤ nI (vAge pl i)) ↔ vAge pl q ≤ vAge pl i := nI_leI (by omega) (by omega)
        rw [if_pos (pu_inn (c := q) (N := 8) (by omega) (by omega)), nI_clamp (by omega), hB.age q hq, hq2.1, if_neg (pu_ne2 (n := q) (by omega))]
        by_cases c2 : nI (vAge pl q) ≤ nI (vAge pl i)
        · rw [if_pos c2, if_pos c2]
          refine ⟨(nI q, nI (vAge pl q)), nI q, rfl, ?_, Or.inr ⟨q, hq, rfl, rfl, hs, h40⟩⟩
          by_cases c3 : (40 : Int32) ≤ nI (vAge pl i)
          · rw [if_pos c3]
          · rw [if_neg c3]
        · rw [if_neg c2, if_neg c2]
          have c4 := c2
          rw [eq] at c4
          rw [if_neg (fun z => by rw [e40] at z; omega)]
          exact ⟨(nI i, nI (vAge pl i)), nI i, rfl, rfl, Or.inr ⟨i, hi, rfl, rfl, hv, by omega⟩⟩
  · intro n a c hI
    show ∃ g, f_X6_youngest_b8 rd pl (n + 1) a.1 a.2 (nI (vN pl)) = _ ∧ ((_ ∧ f_X12_give_b56 mo bu k10 (n + 1) r c (nI (vN pl)) w = _) ∨ ∃ q, _ ∧ _ ∧ _ ∧ f_X12_give_b56 mo bu k10 (n + 1) r c (nI (vN pl)) w = _)
    rw [f_X6_youngest_b8, h.riders.1, if_pos (nI_le (Nat.le_refl _) (by omega)), f_X12_give_b56, hB.riders, h.riders.1, if_pos (nI_le (Nat.le_refl _) (by omega))]
    rcases hI with ⟨rfl, rfl⟩ | ⟨q, hq, rfl, rfl, hs, h40⟩
    · rw [if_pos rfl]
      exact ⟨_, rfl, Or.inl ⟨rfl, rfl⟩⟩
    · rw [if_neg (pu_ne2 (by omega)), pu_z, if_pos (pu_inn (by omega) (by omega)), nI_clamp (by omega), hR.pla q hq]
      exact ⟨nI q, rfl, Or.inr ⟨q, hq, rfl, hs, rfl⟩⟩
/-- seats given to the old -/
theorem pu_give (h : pu_GP pl) (hB : pu_RB pl bu) (hR : pu_RR pl rd (yW_r w)) (mo : MOT) :
    ∃ gave rd2 w2, f_X6_giveSeats rd pl = some (gave, rd2) ∧ f_X12_give mo w bu = some w2 ∧ pu_RR pl rd2 (yW_r w2) ∧ yW_r w2 55 = gave ∧ rd_stops rd2 = rd_stops rd ∧ rd_spent rd2 = rd_spent rd ∧ sc_looks (rd_scene rd2) = sc_looks (rd_scene rd) ∧ (∀ k, 40 ≤ k ∧ k ≤ 52 → yW_r w2 k = yW_r w k) ∧ ∀ q, q < vN pl → rd_place rd q = nI 100 → rd_place rd2 q = nI 100 := by
  have hn := h.n31
  have e55 : ((55 : Int32)).toNatClampNeg = 55 := by decide
  have e54 : ((54 : Int32)).toNatClampNeg = 54 := by decide
  have i55 : kb_in? (55 : Int32) 56 := by decide
  have i54 : kb_in? (54 : Int32) 56 := by decide
  have hR0 : pu_RR pl rd (upd (yW_r w) 55 0) := by
    have hst := hR.sto
    have g : ∀ k, k < 55 → upd (yW_r w) 55 0 k = yW_r w k := fun k e => pk_un (by omega)
    refine ⟨fun q hq => by rw [g _ (by omega)]; exact hR.pla q hq, hR.plv, hR.sit, hR.uni, fun s hs => ?_, fun q hq => by rw [g _ (by omega)]; exact hR.bag q hq, fun q hq => by rw [g _ (by omega)]; exact hR.tur q hq, fun q hq => by rw [g _ (by omega)]; exact hR.pas q hq, fun q hq => by rw [g _ (by omega)]; exact hR.joi q hq, fun s hs => by rw [g _ (by omega)]; exact hR.spe s hs, by rw [g _ (by omega)]; exact hst, by rw [g _ (by omega)]; exact hR.tus, by rw [g _ (by omega)]; exact hR.gif⟩
    rcases hR.lug s hs with ⟨a, b⟩ | ⟨q, hq, a, b⟩
    · exact Or.inl ⟨a, fun q hq => by rw [g _ (by omega)]; exact b q hq⟩
    · exact Or.inr ⟨q, hq, a, by rw [g _ (by omega)]; exact b⟩
  rw [f_X6_giveSeats, f_X12_give, if_pos i55, e55, f_X12_give_b8]
  refine pu_for2 (fun n i (a : Int32 × RideT) => f_X6_giveSeats_b4 pl n a.1 i a.2) (fun n i (c : WT) => f_X12_give_b10 mo bu n i c) (vN pl)
    (fun _ a c => pu_RR pl a.2 (yW_r c) ∧ yW_r c 55 = a.1 ∧ rd_stops a.2 = rd_stops rd ∧ rd_spent a.2 = rd_spent rd ∧ sc_looks (rd_scene a.2) = sc_looks (rd_scene rd) ∧ (∀ k, 40 ≤ k ∧ k ≤ 52 → yW_r c k = yW_r w k) ∧ ∀ q, q < vN pl → rd_place rd q = nI 100 → rd_place a.2 q = nI 100)
    (fun o o2 => ∃ gave rd2 w2, o = some (gave, rd2) ∧ o2 = some w2 ∧ pu_RR pl rd2 (yW_r w2) ∧ yW_r w2 55 = gave ∧ rd_stops rd2 = rd_stops rd ∧ rd_spent rd2 = rd_spent rd ∧ sc_looks (rd_scene rd2) = sc_looks (rd_scene rd) ∧ (∀ k, 40 ≤ k ∧ k ≤ 52 → yW_r w2 k = yW_r w k) ∧ ∀ q, q < vN pl → rd_place rd q = nI 100 → rd_place rd2 q = nI 100) ?_ ?_ (vN pl) 0 (0, rd) (yW_set_r w (upd (yW_r w) 55 0)) 4096 (by omega) (by omega) ⟨hR0, (show upd (yW_r w) 55 0 55 = 0 from pk_us), rfl, rfl, rfl, fun k hk => (show upd (yW_r w) 55 0 k = yW_r w k from pk_un (by omega)), fun _ _ e => e⟩
  · intro n i a c hi hI
    obtain ⟨gv, z0⟩ := a
    obtain ⟨i1, i2, i3, i4, i5, i6, i7⟩ := hI
    have i1 : pu_RR pl z0 (yW_r c) := i1
    have i7 : ∀ q, q < vN pl → rd_place rd q = nI 100 → rd_place z0 q = nI 100 := i7
    have ha := h.age i hi
    refine Or.inl ?_
    show ∃ a' c', f_X6_giveSeats_b4 pl (n + 1) gv (nI i) z0 = _ ∧ f_X12_give_b10 mo bu (n + 1) (nI i) c = _ ∧ _
    rw [f_X6_giveSeats_b4, h.riders.1, if_neg (nI_ge hi (by omega)), f_X12_give_b10, hB.riders, h.riders.1, if_neg (nI_ge hi (by omega))]
    simp only [if_pos (pu_inn (c := i) (N := 8) (by omega) (by omega)), if_pos (pu_inn (c := i) (N := 56) (by omega) (by omega)), nI_clamp (show i < 2 ^ 31 by omega), nI_1, pu_z, i1.pla i hi, hB.age i hi, f_X12_give_b179]
    by_cases c1 : rd_place z0 i = 101
    · rw [if_pos c1, if_pos c1]
      by_cases c2 : (65 : Int32) ≤ qr_age (pl_riders pl) i
      · rw [if_pos c2, if_neg (fun z => by
          rw [ha.1] at z c2
          rw [show (65 : Int32) = nI 65 from rfl, nI_ltI (by omega) (by omega)] at z
          rw [show (65 : Int32) = nI 65 from rfl, nI_leI (by omega) (by omega)] at c2
          omega)]
        obtain ⟨g, e1, e2⟩ := pu_young h hB i1 mo (f_X12_give_b10 mo bu n) (nI i)
        rw [e1, pu_sb]
        rcases e2 with ⟨rfl, e2⟩ | ⟨q, hq, rfl, hv, e2⟩
        · rw [if_pos rfl, e2, f_X12_give_b179, nI_1]
          exact ⟨(gv, z0), c, rfl, rfl, i1, i2, i3, i4, i5, i6, i7⟩
        · rw [if_neg (pu_ne2 (by omega)), e2]
          simp only [if_pos (pu_inn (c := q) (N := 8) (by omega) (by omega)), nI_clamp (show q < 2 ^ 31 by omega)]
          obtain ⟨p, ep, hp⟩ := i1.plv q hq
          rw [pu_sitsP (by omega) ep, decide_eq_true_iff] at hv
          have hsv : vSeat pl p = true := by
            rcases hp with hp | hp | hp | hp
            · exact hp.2
            · omega
            · omega
            · omega
          have hqi : i ≠ q := fun z => by
            rw [z, ep, show (101 : Int32) = nI 101 from rfl, nI_eq (by omega) (by omega)] at c1
            omega
          obtain ⟨rd2, w2, u1, u2, u3, u4, u5, u6, u7, u8, u9, u10⟩ := pu_up h i1 hq (Or.inl rfl : (101 : Nat) = 101 ∨ 101 = 102) mo
          have u2 : f_X12_getsUp mo c (nI q) (101 : Int32) = some w2 := u2
          have u3 : pu_RR pl (rd_set_place rd2 (upd (rd_place rd2) q (101 : Int32))) (yW_r w2) := u3
          have hG := pu_gift h u3 (yW_r w2 55 ||| ((1 : Int32) <<< (nI q &&& 31)))
          have hG : pu_RR pl (rd_set_gifts (rd_set_place rd2 (upd (rd_place rd2) q (101 : Int32))) (rd_gifts rd2 + 1)) (yW_r (yW_set_r w2 (upd (upd (yW_r w2) 55 (yW_r w2 55 ||| ((1 : Int32) <<< (nI q &&& 31)))) 54 (yW_r w2 54 + 1)))) := hG
          obtain ⟨rd3, w3, s1, s2, s3, s4, s5, s6, s7, s8⟩ := pu_sitDown h hB hG mo hi hv hsv (u9 p hv ep) (by
            show decide (¬ (20 : Int32) ≤ upd (rd_place rd2) q (101 : Int32) i) = false
            rw [pk_un hqi, u4, c1]; decide)
          rw [u1, u2, pu_sb, pu_sb, f_X12_give_b149, if_pos i55, if_pos i55, e55, f_X12_give_b162, if_pos i54, if_pos i54, e54, f_X12_give_b173]
          have eW : (yW_set_r (yW_set_r w2 (upd (yW_r w2) 55 (yW_r w2 55 ||| ((1 : Int32) <<< (nI q &&& 31))))) (upd (yW_r (yW_set_r w2 (upd (yW_r w2) 55 (yW_r w2 55 ||| ((1 : Int32) <<< (nI q &&& 31)))))) 54 (yW_r (yW_set_r w2 (upd (yW_r w2) 55 (yW_r w2 55 ||| ((1 : Int32) <<< (nI q &&& 31))))) 54 + 1))) = yW_set_r w2 (upd (upd (yW_r w2) 55 (yW_r w2 55 ||| ((1 : Int32) <<< (nI q &&& 31)))) 54 (yW_r w2 54 + 1)) := by
            show upd (upd (yW_r w2) 55 (yW_r w2 55 ||| ((1 : Int32) <<< (nI q &&& 31)))) 54 (upd (yW_r w2) 55 (yW_r w2 55 ||| ((1 : Int32) <<< (nI q &&& 31))) 54 + 1) = upd (upd (yW_r w2) 55 (yW_r w2 55 ||| ((1 : Int32) <<< (nI q &&& 31)))) 54 (yW_r w2 54 + 1)
            rw [pk_un (show (54 : Nat) ≠ 55 by omega)]
          rw [eW, ep, s2, pu_sb, f_X12_give_b179, f_X6_giveSeats_b75]
          have s1' : f_X6_sitDown (rd_set_gifts (rd_set_place rd2 (upd (rd_place rd2) q (101 : Int32))) (rd_gifts (rd_set_place rd2 (upd (rd_place rd2) q (101 : Int32))) + (1 : Int32))) pl (nI i) (nI p) = some rd3 := s1
          rw [s1', pu_sb, f_X6_giveSeats_b98, nI_1]
          have w55 : yW_r w3 55 = gv ||| ((1 : Int32) <<< (nI q &&& 31)) := by
            rw [s8 55 (Or.inr rfl)]
            show upd (upd (yW_r w2) 55 (yW_r w2 55 ||| ((1 : Int32) <<< (nI q &&& 31)))) 54 (yW_r w2 54 + 1) 55 = _
            rw [pk_un (by omega), pk_us, u8 55 (Or.inr rfl)]
            rw [show yW_r c 55 = gv from i2]
          refine ⟨(gv ||| ((1 : Int32) <<< (nI q &&& 31)), rd3), w3, rfl, rfl, s3, w55, s5.trans (u5.trans i3), s7.trans (u7.trans i4), s6.trans (u6.trans i5), fun k hk => ?_, fun t ht e => ?_⟩
          · rw [s8 k (Or.inl hk)]
            show upd (upd (yW_r w2) 55 _) 54 _ k = _
            rw [pk_un (by omega), pk_un (by omega), u8 k (Or.inl hk)]
            exact i6 k hk
          · show rd_place rd3 t = nI 100
            have ez := i7 t ht e
            have ti : t ≠ i := fun z => by
              rw [z, c1, show (101 : Int32) = nI 101 from rfl, nI_eq (by omega) (by omega)] at ez; omega
            have tq : t ≠ q := fun z => by
              rw [z, ep, nI_eq (by omega) (by omega)] at ez; omega
            rw [s4, pk_un ti]
            show upd (rd_place rd2) q 101 t = _
            rw [pk_un tq, u4]; exact ez
      · rw [if_neg c2, if_pos (by
          rw [ha.1] at c2 ⊢
          rw [show (65 : Int32) = nI 65 from rfl, nI_leI (by omega) (by omega)] at c2
          rw [show (65 : Int32) = nI 65 from rfl, nI_ltI (by omega) (by omega)]
          omega)]
        exact ⟨(gv, z0), c, rfl, rfl, i1, i2, i3, i4, i5, i6, i7⟩
    · rw [if_neg c1, if_neg c1]
      exact ⟨(gv, z0), c, rfl, rfl, i1, i2, i3, i4, i5, i6, i7⟩
  · intro n a c hI
    obtain ⟨gv, z0⟩ := a
    show ∃ gave rd2 w2, f_X6_giveSeats_b4 pl (n + 1) gv (nI (vN pl)) z0 = _ ∧ f_X12_give_b10 mo bu (n + 1) (nI (vN pl)) c = _ ∧ _
    rw [f_X6_giveSeats_b4, h.riders.1, if_pos (nI_le (Nat.le_refl _) (by omega)), f_X12_give_b10, hB.riders, h.riders.1, if_pos (nI_le (Nat.le_refl _) (by omega))]
    exact ⟨gv, z0, c, rfl, rfl, hI⟩
/-- a stop up to the point where new riders come on -/
theorem pu_halt (h : pu_GP pl) (hB : pu_RB pl bu) (hR : pu_RR pl rd (yW_r w)) {looks : LooksT} (hL : pu_RL pl rd (yLooks_r looks)) (hO : pu_ON pl rd 0) (mo : MOT) (who : WhoT) (look : LookT) (hst : vSt (rd_stops rd) < 12) :
    ∃ took rd2 w2 who2 look2, f_X6_halt rd pl = some (took, rd2) ∧ f_X12_beforeGettingOn mo w looks who look bu (rd_stops rd) = some (w2, who2, look2) ∧ pu_RR pl rd2 (yW_r w2) ∧ pu_RL pl rd2 (yLooks_r looks) ∧ pu_ON pl rd2 0 ∧ rd_stops rd2 = rd_stops rd ∧ rd_spent rd2 (vSt (rd_stops rd)) = took ∧ yW_r w2 (40 + vSt (rd_stops rd)) = took := by
  have hn := h.n31
  have hs := hR.sto
  have e12 : rd_stops rd < (12 : Int32) := by
    rw [hs.2.1, show (12 : Int32) = nI 12 from rfl, nI_ltI (by omega) (by omega)]
    exact hst
  obtain ⟨took, rd1, w1, a1, a2, a3, a4, a5, a6, a7, a8⟩ := pu_letOff h hB hR hO mo hst
  have hR1 := a4 (upd (rd_spent rd1) (vSt (rd_stops rd)) took) (fun s hs => by rw [pk_un (by omega), a8])
  obtain ⟨gave, rd2, w2, b1, b2, b3, b4, b5, b6, b7, b8, b9⟩ := pu_give h hB hR1 mo
  have b5 : rd_stops rd2 = rd_stops rd := Eq.trans b5 a6
  have b7 : sc_looks (rd_scene rd2) = sc_looks (rd_scene rd) := Eq.trans b7 a7
  have hL2 : pu_RL pl rd2 (yLooks_r looks) := by unfold pu_RL; rw [b7]; exact hL
  have hO2 : pu_ON pl rd2 0 := fun q hq hc => by
    rw [b5] at hc
    exact b9 q hq (a5 q hq (by rw [a6]; exact hc))
  have p2 : rd_spent rd2 (vSt (rd_stops rd)) = took := by
    rw [b6]
    exact pk_us
  rw [f_X6_halt, if_pos e12, a1, pu_sb]
  have e1 : rd_stops rd1 = nI (vSt (rd_stops rd)) := a6.trans hs.2.1
  rw [show rd_stops (took, rd1).2 = nI (vSt (rd_stops rd)) from e1, if_pos (pu_inn hst (by omega)), nI_clamp (by omega), f_X6_halt_b26, b1, pu_sb, f_X12_beforeGettingOn, a2, pu_sb, f_X12_beforeGettingOn_b5, b2, pu_sb, f_X12_beforeGettingOn_b9, f_X12_chooseStanding]
  have key : ∃ rd3 w3 who3 look3, f_X6_halt_b33 pl 4096 took gave 0 rd2 = some (took, rd3) ∧ f_X12_chooseStanding_b2 mo looks bu 4096 0 w2 who look = some (w3, who3, look3) ∧ pu_RR pl rd3 (yW_r w3) ∧ pu_RL pl rd3 (yLooks_r looks) ∧ pu_ON pl rd3 0 ∧ rd_stops rd3 = rd_stops rd ∧ rd_spent rd3 = rd_spent rd2 ∧ pu_K (yW_r w3) (yW_r w2) := by
    refine pu_for2 (fun n i (a : RideT) => f_X6_halt_b33 pl n took gave i a) (fun n i (c : WT × WhoT × LookT) => f_X12_chooseStanding_b2 mo looks bu n i c.1 c.2.1 c.2.2) (vN pl)
      (fun _ a c => pu_RR pl a (yW_r c.1) ∧ pu_RL pl a (yLooks_r looks) ∧ pu_ON pl a 0 ∧ rd_stops a = rd_stops rd ∧ rd_spent a = rd_spent rd2 ∧ pu_K (yW_r c.1) (yW_r w2))
      (fun o o2 => ∃ rd3 w3 who3 look3, o = some (took, rd3) ∧ o2 = some (w3, who3, look3) ∧ pu_RR pl rd3 (yW_r w3) ∧ pu_RL pl rd3 (yLooks_r looks) ∧ pu_ON pl rd3 0 ∧ rd_stops rd3 = rd_stops rd ∧ rd_spent rd3 = rd_spent rd2 ∧ pu_K (yW_r w3) (yW_r w2)) ?_ ?_ (vN pl) 0 rd2 (w2, who, look) 4096 (by omega) (by omega) ⟨b3, hL2, hO2, b5, rfl, fun _ _ => rfl⟩
    · intro n i a c hi hI
      obtain ⟨w9, wh, lk⟩ := c
      obtain ⟨i1, i2, i3, i4, i5, i6⟩ := hI
      have i1 : pu_RR pl a (yW_r w9) := i1
      have i6 : pu_K (yW_r w9) (yW_r w2) := i6
      have e55 : ((55 : Int32)).toNatClampNeg = 55 := by decide
      have i55 : kb_in? (55 : Int32) 56 := by decide
      refine Or.inl ?_
      show ∃ a' c', f_X6_halt_b33 pl (n + 1) took gave (nI i) a = _ ∧ f_X12_chooseStanding_b2 mo looks bu (n + 1) (nI i) w9 wh lk = _ ∧ _
      rw [f_X6_halt_b33, h.riders.1, if_neg (nI_ge hi (by omega)), f_X12_chooseStanding_b2, hB.riders, h.riders.1, if_neg (nI_ge hi (by omega))]
      simp only [if_pos (pu_inn (c := i) (N := 8) (by omega) (by omega)), if_pos (pu_inn (c := i) (N := 56) (by omega) (by omega)), nI_clamp (show i < 2 ^ 31 by omega), nI_1, pu_z, i1.pla i hi, if_pos i55, e55, i6 55 (Or.inr rfl), b4, pu_hb gave (show i < 32 by omega), pu_has gave (show i < 32 by omega), pu_sb, pu_ifb, f_X12_chooseStanding_b45]
      by_cases c1 : rd_place a i = 101
      · rw [if_pos c1, if_pos c1]
        cases c2 : bt gave i
        · rw [pu_ff, pu_ff]
          have hv : vSits a i = false := by unfold vSits; rw [c1]; decide
          obtain ⟨rd3, w3, who3, look3, s1, s2, s3, s4, s5, s6, s7, s8⟩ := pu_settle h hB i1 i2 mo wh lk hi hv
          rw [s1, s2, pu_sb, pu_sb]
          refine ⟨rd3, (w3, who3, look3), rfl, rfl, s3, s4, fun q hq hc => ?_, s5.trans i4, s6.trans i5, s7.trans i6⟩
          rw [s5] at hc
          have ez := i3 q hq hc
          have qi : q ≠ i := fun z => by
            rw [z, c1, show (101 : Int32) = nI 101 from rfl, nI_eq (by omega) (by omega)] at ez; omega
          rw [s8 q qi]; exact ez
        · rw [pu_tt, pu_tt]
          exact ⟨a, (w9, wh, lk), rfl, rfl, i1, i2, i3, i4, i5, i6⟩
      · rw [if_neg c1, if_neg c1]
        exact ⟨a, (w9, wh, lk), rfl, rfl, i1, i2, i3, i4, i5, i6⟩
    · intro n a c hI
      obtain ⟨w9, wh, lk⟩ := c
      show ∃ rd3 w3 who3 look3, f_X6_halt_b33 pl (n + 1) took gave (nI (vN pl)) a = _ ∧ f_X12_chooseStanding_b2 mo looks bu (n + 1) (nI (vN pl)) w9 wh lk = _ ∧ _
      rw [f_X6_halt_b33, h.riders.1, if_pos (nI_le (Nat.le_refl _) (by omega)), f_X12_chooseStanding_b2, hB.riders, h.riders.1, if_pos (nI_le (Nat.le_refl _) (by omega))]
      exact ⟨a, w9, wh, lk, rfl, rfl, hI⟩
  obtain ⟨rd3, w3, who3, look3, k1, k2, k3, k4, k5, k6, k7, k8⟩ := key
  refine ⟨took, rd3, w3, who3, look3, k1, ?_, k3, k4, k5, k6, by rw [k7]; exact p2, ?_⟩
  · rw [k2, pu_sb, f_X12_beforeGettingOn_b13]
  · rw [k8 _ (Or.inl ⟨by omega, by omega⟩), b8 _ ⟨by omega, by omega⟩]
    exact a3
/-- the whole stop -/
theorem pu_pass (h : pu_GP pl) (hB : pu_RB pl bu) (hR : pu_RR pl rd (yW_r w)) {looks : LooksT} (hL : pu_RL pl rd (yLooks_r looks)) (hO : pu_ON pl rd 0) (mo : MOT) (who : WhoT) (look : LookT) (hst : vSt (rd_stops rd) < 12) :
    ∃ took rd1 rd2 w2 who2 look2, f_X6_halt rd pl = some (took, rd1) ∧ f_X6_board rd1 pl = some rd2 ∧ f_X12_passes mo w looks who look bu = some (w2, who2, look2) ∧ pu_RR pl rd2 (yW_r w2) ∧ pu_RL pl rd2 (yLooks_r looks) ∧ pu_ON pl rd2 0 ∧ rd_stops rd2 = nI (vSt (rd_stops rd) + 1) ∧ yW_r w2 (40 + vSt (rd_stops rd)) = took := by
  have hn := h.n31
  have hs := hR.sto
  have e52 : ((52 : Int32)).toNatClampNeg = 52 := by decide
  have i52 : kb_in? (52 : Int32) 56 := by decide
  obtain ⟨took, rd1, w1, who1, look1, a1, a2, a3, a4, a5, a6, a7, a8⟩ := pu_halt h hB hR hL hO mo who look hst
  refine ⟨took, rd1, ?_⟩
  rw [f_X6_board, f_X12_passes, if_pos i52, e52, hs.1, a2, pu_sb, f_X12_passes_b13]
  have key : ∃ rd2 w2 who2 look2, f_X6_board_b2 pl 4096 0 rd1 = some rd2 ∧ f_X12_passes_b15 mo looks bu 4096 (rd_stops rd) 0 w1 who1 look1 = some (w2, who2, look2) ∧ pu_RR pl rd2 (yW_r w2) ∧ pu_RL pl rd2 (yLooks_r looks) ∧ pu_ON pl rd2 0 ∧ rd_stops rd2 = nI (vSt (rd_stops rd) + 1) ∧ yW_r w2 (40 + vSt (rd_stops rd)) = took := by
    refine pu_for2 (fun n i (a : RideT) => f_X6_board_b2 pl n i a) (fun n i (c : WT × WhoT × LookT) => f_X12_passes_b15 mo looks bu n (rd_stops rd) i c.1 c.2.1 c.2.2) (vN pl)
      (fun i a c => pu_RR pl a (yW_r c.1) ∧ pu_RL pl a (yLooks_r looks) ∧ pu_ON pl a i ∧ rd_stops a = rd_stops rd ∧ rd_spent a = rd_spent rd1 ∧ pu_K (yW_r c.1) (yW_r w1))
      (fun o o2 => ∃ rd2 w2 who2 look2, o = some rd2 ∧ o2 = some (w2, who2, look2) ∧ pu_RR pl rd2 (yW_r w2) ∧ pu_RL pl rd2 (yLooks_r looks) ∧ pu_ON pl rd2 0 ∧ rd_stops rd2 = nI (vSt (rd_stops rd) + 1) ∧ yW_r w2 (40 + vSt (rd_stops rd)) = took) ?_ ?_ (vN pl) 0 rd1 (w1, who1, look1) 4096 (by omega) (by omega) ⟨a3, a4, a5, a6, rfl, fun _ _ => rfl⟩
    · intro n i a c hi hI
      obtain ⟨w9, wh, lk⟩ := c
      obtain ⟨i1, i2, i3, i4, i5, i6⟩ := hI
      have i1 : pu_RR pl a (yW_r w9) := i1
      have i6 : pu_K (yW_r w9) (yW_r w1) := i6
      have ho := h.on i hi
      refine Or.inl ?_
      show ∃ a' c', f_X6_board_b2 pl (n + 1) (nI i) a = _ ∧ f_X12_passes_b15 mo looks bu (n + 1) (rd_stops rd) (nI i) w9 wh lk = _ ∧ _
      rw [f_X6_board_b2, h.riders.1, if_neg (nI_ge hi (by omega)), f_X12_passes_b15, hB.riders, h.riders.1, if_neg (nI_ge hi (by omega))]
      simp only [if_pos (pu_inn (c := i) (N := 8) (by omega) (by omega)), nI_clamp (show i < 2 ^ 31 by omega), nI_1, hB.on i hi, i4, f_X12_passes_b44]
      by_cases c1 : qr_on (pl_riders pl) i = rd_stops rd
      · rw [if_pos c1, if_pos c1]
        have ev : vSt (rd_stops rd) = vOn pl i := by
          rw [ho.1, hs.2.1, nI_eq (by omega) (by omega)] at c1
          omega
        have ez : rd_place a i = nI 100 := i3 i hi (Or.inr ⟨by rw [i4]; exact ev, Nat.le_refl _⟩)
        have hv : vSits a i = false := by unfold vSits; rw [ez]; decide
        obtain ⟨rd3, w3, who3, look3, s1, s2, s3, s4, s5, s6, s7, s8⟩ := pu_settle h hB i1 i2 mo wh lk hi hv
        rw [s1, s2, pu_sb, pu_sb]
        refine ⟨rd3, (w3, who3, look3), rfl, rfl, s3, s4, fun q hq hc => ?_, s5.trans i4, s6.trans i5, s7.trans i6⟩
        rw [s5] at hc
        have qi : q ≠ i := fun z => by
          rw [z, i4] at hc
          omega
        rw [s8 q qi]
        exact i3 q hq (by omega)
      · rw [if_neg c1, if_neg c1]
        refine ⟨a, (w9, wh, lk), rfl, rfl, i1, i2, fun q hq hc => ?_, i4, i5, i6⟩
        refine i3 q hq ?_
        rcases hc with hc | hc
        · exact Or.inl hc
        · exact Or.inr ⟨hc.1, by omega⟩
    · intro n a c hI
      obtain ⟨w9, wh, lk⟩ := c
      obtain ⟨i1, i2, i3, i4, i5, i6⟩ := hI
      have i1 : pu_RR pl a (yW_r w9) := i1
      have i6 : pu_K (yW_r w9) (yW_r w1) := i6
      have i4 : rd_stops a = rd_stops rd := i4
      have i5 : rd_spent a = rd_spent rd1 := i5
      have i1s := i1.sto
      have v1 : vSt (nI (vSt (rd_stops rd) + 1)) = vSt (rd_stops rd) + 1 := nI_clamp (by omega)
      have e9 : rd_stops rd + 1 = nI (vSt (rd_stops rd) + 1) := Eq.trans (congrArg (fun x => x + 1) hs.2.1) (nI_1 _)
      show ∃ rd2 w2 who2 look2, f_X6_board_b2 pl (n + 1) (nI (vN pl)) a = _ ∧ f_X12_passes_b15 mo looks bu (n + 1) (rd_stops rd) (nI (vN pl)) w9 wh lk = _ ∧ _
      rw [f_X6_board_b2, h.riders.1, if_pos (nI_le (Nat.le_refl _) (by omega)), f_X12_passes_b15, hB.riders, h.riders.1, if_pos (nI_le (Nat.le_refl _) (by omega)), if_pos i52, if_pos i52, e52, f_X12_passes_b61, i1s.1, i4, e9]
      have w40 : yW_r w9 (40 + vSt (rd_stops rd)) = took := by rw [i6 _ (Or.inl ⟨by omega, by omega⟩)]; exact a8
      have g : ∀ k, k ≠ 52 → upd (yW_r w9) 52 (nI (vSt (rd_stops rd) + 1)) k = yW_r w9 k := fun k e => pk_un e
      refine ⟨rd_set_stops a (nI (vSt (rd_stops rd) + 1)), yW_set_r w9 (upd (yW_r w9) 52 (nI (vSt (rd_stops rd) + 1))), wh, lk, rfl, rfl, ?_, i2, ?_, rfl, ?_⟩
      · refine ⟨fun q hq => ?_, i1.plv, i1.sit, i1.uni, fun s hs => ?_, fun q hq => ?_, fun q hq => ?_, fun q hq => ?_, fun q hq => ?_, fun s hs => ?_, ?_, ?_, ?_⟩
        · show upd (yW_r w9) 52 _ q = _
          rw [g _ (by omega)]; exact i1.pla q hq
        · show (_ ∧ ∀ q, q < vN pl → ¬ upd (yW_r w9) 52 _ (8 + q) = _) ∨ ∃ q, q < vN pl ∧ _ ∧ upd (yW_r w9) 52 _ (8 + q) = _
          rcases i1.lug s hs with ⟨a, b⟩ | ⟨q, hq, a, b⟩
          · exact Or.inl ⟨a, fun q hq => by rw [g _ (by omega)]; exact b q hq⟩
          · exact Or.inr ⟨q, hq, a, by rw [g _ (by omega)]; exact b⟩
        · show upd (yW_r w9) 52 _ (8 + q) = _ ∨ ∃ p, _ ∧ _ ∧ _ ∧ _ ∧ upd (yW_r w9) 52 _ (8 + q) = _ ∧ _
          rw [g _ (by omega)]; exact i1.bag q hq
        · show upd (yW_r w9) 52 _ (16 + q) = _
          rw [g _ (by omega)]; exact i1.tur q hq
        · show upd (yW_r w9) 52 _ (24 + q) = _
          rw [g _ (by omega)]; exact i1.pas q hq
        · show upd (yW_r w9) 52 _ (32 + q) = _
          rw [g _ (by omega)]; exact i1.joi q hq
        · have hs : s < vSt (nI (vSt (rd_stops rd) + 1)) := hs
          rw [v1] at hs
          show upd (yW_r w9) 52 _ (40 + s) = rd_spent a s
          rw [g _ (by omega)]
          by_cases e : s = vSt (rd_stops rd)
          · rw [e, w40, i5, a7]
          · exact i1.spe s (by rw [i4]; omega)
        · refine ⟨(show upd (yW_r w9) 52 (nI (vSt (rd_stops rd) + 1)) 52 = nI (vSt (rd_stops rd) + 1) from pk_us), ?_, ?_⟩
          · show nI (vSt (rd_stops rd) + 1) = nI (vSt (nI (vSt (rd_stops rd) + 1)))
            rw [v1]
          · show vSt (nI (vSt (rd_stops rd) + 1)) ≤ 12
            rw [v1]; omega
        · show upd (yW_r w9) 52 (nI (vSt (rd_stops rd) + 1)) 53 = _
          rw [g _ (by omega)]; exact i1.tus
        · show upd (yW_r w9) 52 (nI (vSt (rd_stops rd) + 1)) 54 = _
          rw [g _ (by omega)]; exact i1.gif
      · intro q hq hc
        have hc : vSt (nI (vSt (rd_stops rd) + 1)) < vOn pl q ∨ (vSt (nI (vSt (rd_stops rd) + 1)) = vOn pl q ∧ 0 ≤ q) := hc
        rw [v1] at hc
        exact i3 q hq (Or.inl (by rw [i4]; omega))
      · show upd (yW_r w9) 52 _ (40 + vSt (rd_stops rd)) = _
        rw [g _ (by omega)]; exact w40
  obtain ⟨rd2, w2, who2, look2, k1, k2, k3, k4, k5, k6, k7⟩ := key
  exact ⟨rd2, w2, who2, look2, a1, k1, k2, k3, k4, k5, k6, k7⟩
end PT
