/-! the class's search leaves one who stands where it was: what it reads of places -/
section PG
variable {pl : PlanT} {bu : BusT}
theorem pu_freeP (rd : RideT) (p : Nat → Int32) (pl : PlanT) : ∀ n v i, f_X6_freeSeats_b4 (rd_set_place rd p) pl n v i = f_X6_freeSeats_b4 rd pl n v i := by
  intro n
  induction n with
  | zero => intro v i; rfl
  | succ n ih =>
    intro v i
    rw [f_X6_freeSeats_b4, f_X6_freeSeats_b4]
    simp only [ih, show f_X6_isFree (rd_set_place rd p) = f_X6_isFree rd from rfl]
theorem pu_bagsP (rd : RideT) (p : Nat → Int32) : ∀ n v i, f_X6_bagSeats_b4 (rd_set_place rd p) n v i = f_X6_bagSeats_b4 rd n v i := by
  intro n
  induction n with
  | zero => intro v i; rfl
  | succ n ih =>
    intro v i
    rw [f_X6_bagSeats_b4, f_X6_bagSeats_b4]
    simp only [ih, show rd_luggage (rd_set_place rd p) = rd_luggage rd from rfl]
theorem pu_bestP (rd : RideT) (p : Nat → Int32) (pl : PlanT) (x : Int32) : f_X6_bestSeats (rd_set_place rd p) pl x = f_X6_bestSeats rd pl x := by
  rw [f_X6_bestSeats, f_X6_bestSeats, f_X6_freeSeats, f_X6_freeSeats, pu_freeP]
  have e : ∀ i v, f_X6_bestSeats_b42 (rd_set_place rd p) pl x i v = f_X6_bestSeats_b42 rd pl x i v := by
    intro i v
    rw [f_X6_bestSeats_b42, f_X6_bestSeats_b42, f_X6_bagSeats, f_X6_bagSeats, pu_bagsP]
    rfl
  simp only [e]
theorem pu_tiedP (rd : RideT) (p : Nat → Int32) (pl : PlanT) (x m : Int32) : f_X6_tied (rd_set_place rd p) pl x m = f_X6_tied rd pl x m := rfl
theorem pu_cS_turn (z : RideT) (p x : Nat → Int32) : rd_set_turn (rd_set_place z p) x = rd_set_place (rd_set_turn z x) p := rfl
theorem pu_cS_passed (z : RideT) (p x : Nat → Int32) : rd_set_passed (rd_set_place z p) x = rd_set_place (rd_set_passed z x) p := rfl
theorem pu_cS_luggage (z : RideT) (p x : Nat → Int32) : rd_set_luggage (rd_set_place z p) x = rd_set_place (rd_set_luggage z x) p := rfl
theorem pu_cS_spent (z : RideT) (p x : Nat → Int32) : rd_set_spent (rd_set_place z p) x = rd_set_place (rd_set_spent z x) p := rfl
theorem pu_cS_turns (z : RideT) (p : Nat → Int32) (x : Int32) : rd_set_turns (rd_set_place z p) x = rd_set_place (rd_set_turns z x) p := rfl
theorem pu_cS_joined (z : RideT) (p : Nat → Int32) (x : Int32) : rd_set_joined (rd_set_place z p) x = rd_set_place (rd_set_joined z x) p := rfl
theorem pu_cS_scene (z : RideT) (p : Nat → Int32) (x : SceneT) : rd_set_scene (rd_set_place z p) x = rd_set_place (rd_set_scene z x) p := rfl
theorem pu_cS_place (z : RideT) (p x : Nat → Int32) : rd_set_place (rd_set_place z p) x = rd_set_place z x := rfl
theorem pu_gS_turn (z : RideT) (p : Nat → Int32) : rd_turn (rd_set_place z p) = rd_turn z := rfl
theorem pu_gS_passed (z : RideT) (p : Nat → Int32) : rd_passed (rd_set_place z p) = rd_passed z := rfl
theorem pu_gS_luggage (z : RideT) (p : Nat → Int32) : rd_luggage (rd_set_place z p) = rd_luggage z := rfl
theorem pu_gS_turns (z : RideT) (p : Nat → Int32) : rd_turns (rd_set_place z p) = rd_turns z := rfl
theorem pu_gS_joined (z : RideT) (p : Nat → Int32) : rd_joined (rd_set_place z p) = rd_joined z := rfl
theorem pu_gS_scene (z : RideT) (p : Nat → Int32) : rd_scene (rd_set_place z p) = rd_scene z := rfl
theorem pu_gS_place (z : RideT) (p : Nat → Int32) : rd_place (rd_set_place z p) = p := rfl
theorem pu_148P (Z : RideT) (P : Nat → Int32) (v1 v3 : Int32) : f_X6_sitDown_b148 pl v1 v3 (rd_set_place Z P) = (f_X6_sitDown_b148 pl v1 v3 Z).map (fun y => rd_set_place y P) := by
  rw [f_X6_sitDown_b148, f_X6_sitDown_b148, show rd_joined (rd_set_place Z P) = rd_joined Z from rfl]
  generalize rd_joined Z &&& (((1 : Int32) <<< (v1 &&& 31)) ^^^ (-1 : Int32)) = J
  rw [show f_X6_isFree (rd_set_joined (rd_set_place Z P) J) v3 = f_X6_isFree (rd_set_joined Z J) v3 from rfl]
  by_cases c1 : kb_in? v1 8
  · rw [if_pos c1, if_pos c1]
    by_cases c2 : qr_hasBag (pl_riders pl) v1.toNatClampNeg = 0
    · rw [if_pos c2, if_pos c2]; rfl
    · rw [if_neg c2, if_neg c2]
      by_cases c3 : v3 = (-2 : Int32)
      · rw [if_pos c3, if_pos c3]; rfl
      · rw [if_neg c3, if_neg c3]
        cases f_X6_isFree (rd_set_joined Z J) v3 with
        | none => rfl
        | some r =>
          rw [pu_sb, pu_sb]
          by_cases c4 : r = 0
          · rw [if_pos c4, if_pos c4]; rfl
          · rw [if_neg c4, if_neg c4]
            by_cases c5 : kb_in? v3 20
            · rw [if_pos c5, if_pos c5]; rfl
            · rw [if_neg c5, if_neg c5]; rfl
  · rw [if_neg c1, if_neg c1]; rfl
theorem pu_131P (Z : RideT) (P : Nat → Int32) (v1 v3 : Int32) : f_X6_sitDown_b131 pl v1 v3 (rd_set_place Z P) = (f_X6_sitDown_b131 pl v1 v3 Z).map (fun y => rd_set_place y P) := by
  rw [f_X6_sitDown_b131, f_X6_sitDown_b131]
  by_cases c1 : kb_in? v1 8
  · rw [if_pos c1, if_pos c1, if_pos c1, if_pos c1]
    simp only [pu_cS_turn, pu_cS_passed, pu_cS_luggage, pu_cS_turns, pu_cS_joined, pu_cS_scene, pu_cS_place, pu_gS_turn, pu_gS_passed, pu_gS_luggage, pu_gS_turns, pu_gS_joined, pu_gS_scene, pu_gS_place]
    exact pu_148P _ P v1 v3
  · rw [if_neg c1, if_neg c1]; rfl
theorem pu_113P (Z : RideT) (P : Nat → Int32) (v1 v2 v3 : Int32) : f_X6_sitDown_b113 pl v1 v2 v3 (rd_set_place Z P) = (f_X6_sitDown_b113 pl v1 v2 v3 Z).map (fun y => rd_set_place y P) := by
  rw [f_X6_sitDown_b113, f_X6_sitDown_b113]
  by_cases c1 : kb_in? v2 20
  · rw [if_pos c1, if_pos c1]
    simp only [pu_cS_turn, pu_cS_passed, pu_cS_luggage, pu_cS_turns, pu_cS_joined, pu_cS_scene, pu_cS_place, pu_gS_turn, pu_gS_passed, pu_gS_luggage, pu_gS_turns, pu_gS_joined, pu_gS_scene, pu_gS_place]
    exact pu_131P _ P v1 v3
  · rw [if_neg c1, if_neg c1]; rfl
theorem pu_16P (p : Nat → Int32) (v1 v2 v3 : Int32) : ∀ n v4 z, (∀ q, (p q = v3 ↔ rd_place z q = v3) ∧ ((20 : Int32) ≤ p q ↔ (20 : Int32) ≤ rd_place z q)) → f_X6_sitDown_b16 pl n v1 v2 v3 v4 (rd_set_place z p) = (f_X6_sitDown_b16 pl n v1 v2 v3 v4 z).map (fun y => rd_set_place y (upd p v1.toNatClampNeg v2)) := by
  intro n
  induction n with
  | zero => intro v4 z _; rfl
  | succ n ih =>
    intro v4 z hE
    rw [f_X6_sitDown_b16, f_X6_sitDown_b16]
    by_cases c1 : pl_riderCount pl ≤ v4
    · rw [if_pos c1, if_pos c1]
      by_cases c2 : kb_in? v1 8
      · rw [if_pos c2, if_pos c2]
        by_cases c3 : kb_in? v2 20
        · rw [if_pos c3, if_pos c3]
          simp only [pu_cS_turn, pu_cS_passed, pu_cS_luggage, pu_cS_turns, pu_cS_joined, pu_cS_scene, pu_cS_place, pu_gS_turn, pu_gS_passed, pu_gS_luggage, pu_gS_turns, pu_gS_joined, pu_gS_scene, pu_gS_place]
          have e := pu_113P (pl := pl) (rd_set_place (rd_set_scene z (sc_set_sitter (rd_scene z) (upd (sc_sitter (rd_scene z)) v2.toNatClampNeg v1))) (upd (rd_place z) v1.toNatClampNeg v2)) (upd p v1.toNatClampNeg v2) v1 v2 v3
          rw [pu_cS_place] at e
          exact e
        · rw [if_neg c3, if_neg c3]; rfl
      · rw [if_neg c2, if_neg c2]; rfl
    · rw [if_neg c1, if_neg c1]
      by_cases c2 : kb_in? v4 8
      · simp only [if_pos c2]
        obtain ⟨e1, e2⟩ := hE v4.toNatClampNeg
        rw [show rd_place (rd_set_place z p) = p from rfl]
        by_cases c3 : rd_place z v4.toNatClampNeg = v3
        · rw [if_pos c3, if_pos (e1.mpr c3)]
          rw [pu_gS_joined, pu_cS_joined]
          exact ih _ (rd_set_joined z (rd_joined z ||| ((1 : Int32) <<< (v4 &&& 31)))) hE
        · rw [if_neg c3, if_neg (fun e => c3 (e1.mp e))]
          by_cases c4 : (20 : Int32) ≤ rd_place z v4.toNatClampNeg
          · rw [if_pos c4, if_pos (e2.mpr c4)]
            exact ih _ z hE
          · rw [if_neg c4, if_neg (fun e => c4 (e2.mp e)), show rd_joined (rd_set_place z p) = rd_joined z from rfl]
            cases f_X10_holdsBit (rd_joined z) v4 with
            | none => rfl
            | some r =>
              rw [pu_sb, pu_sb]
              by_cases c5 : r = 0
              · rw [if_pos c5, if_pos c5]
                rw [pu_gS_passed, pu_cS_passed]
                exact ih _ (rd_set_passed z (upd (rd_passed z) v4.toNatClampNeg (rd_passed z v4.toNatClampNeg + 1))) hE
              · rw [if_neg c5, if_neg c5]
                exact ih _ z hE
      · rw [if_neg c2, if_neg c2]; rfl
/-- places that differ only where one still stands outside -/
def pu_SP (rd : RideT) (p : Nat → Int32) : Prop := ∀ q, p q = rd_place rd q ∨ (rd_place rd q = 100 ∧ p q = 101)
theorem pu_sitP (h : pu_GP pl) {rd : RideT} {p : Nat → Int32} (hp : pu_SP rd p) (r : Int32) {s : Nat} (hs : s < 20) : f_X6_sitDown (rd_set_place rd p) pl r (nI s) = (f_X6_sitDown rd pl r (nI s)).map (fun y => rd_set_place y (upd p r.toNatClampNeg (nI s))) := by
  rw [f_X6_sitDown, f_X6_sitDown, if_pos (pu_inn hs (by omega)), if_pos (pu_inn hs (by omega)), nI_clamp (by omega)]
  have ex := pu_x20 s hs
  have n100 : ∀ t : Int32, t = 100 ∨ t = 101 → ¬ t = cb_beside (pl_cab pl) s := by
    intro t ht
    rw [h.bes s hs]
    cases vSeat pl s && vB2 pl s
    · rw [pu_ff]; rcases ht with rfl | rfl <;> decide
    · rw [pu_tt]
      intro e
      rcases ht with rfl | rfl
      · have := (nI_eq (a := 100) (b := s ^^^ 1) (by omega) (by omega)).mp e
        omega
      · have := (nI_eq (a := 101) (b := s ^^^ 1) (by omega) (by omega)).mp e
        omega
  refine pu_16P p r (nI s) _ 4096 0 rd ?_
  intro q
  rcases hp q with e | ⟨e1, e2⟩
  · rw [e]; exact ⟨Iff.rfl, Iff.rfl⟩
  · rw [e1, e2]
    refine ⟨⟨fun e => absurd e (n100 _ (Or.inr rfl)), fun e => absurd e (n100 _ (Or.inl rfl))⟩, ⟨fun _ => by decide, fun _ => by decide⟩⟩
theorem pu_sitPl (h : pu_GP pl) {rd y : RideT} {r : Int32} {s : Nat} (hs : s < 20) (e : f_X6_sitDown rd pl r (nI s) = some y) : rd_place y = upd (rd_place rd) r.toNatClampNeg (nI s) := by
  have a := pu_sitP h (rd := rd) (p := rd_place rd) (fun q => Or.inl rfl) r hs
  rw [show rd_set_place rd (rd_place rd) = rd from rfl, e] at a
  have b : y = rd_set_place y (upd (rd_place rd) r.toNatClampNeg (nI s)) := Option.some.inj a
  rw [b]
  rfl
/-- class and reference in the search -/
def pu_RX (pl : PlanT) (looks : LooksT) (rd : RideT) (w : Nat → Int32) : Prop := ∃ p, pu_SP rd p ∧ pu_RR pl (rd_set_place rd p) w ∧ pu_RL pl rd (yLooks_r looks)
theorem pu_RXc (h : pu_GP pl) {looks : LooksT} {rd : RideT} {w w' : Nat → Int32} (hX : pu_RX pl looks rd w) (hw : ∀ k, k < 56 → w' k = w k) : pu_RX pl looks rd w' := by
  obtain ⟨p, h1, h2, h3⟩ := hX
  exact ⟨p, h1, pu_RCc h h2 (fun _ _ => rfl) (fun _ _ => rfl) (fun _ _ => rfl) (fun _ _ => rfl) (fun _ _ => rfl) (fun _ _ => rfl) hw, h3⟩
theorem pu_RXcopy (h : pu_GP pl) {looks : LooksT} (z : RideT) {rd : RideT} {w : Nat → Int32} (hX : pu_RX pl looks rd w) : ∃ rd', f_X6_copyFrom z rd = some rd' ∧ pu_RX pl looks rd' w ∧ ∀ r, r < 8 → rd_place rd' r = rd_place rd r := by
  obtain ⟨p, h1, h2, h3⟩ := hX
  obtain ⟨rd', e, _, a2, a3, a4⟩ := pu_copy h z (ro := rd)
  have e' := e
  refine ⟨rd', e, ⟨fun q => if q < 8 then p q else rd_place rd' q, ?_, ?_, ?_⟩, a3⟩
  · intro q
    show (if q < 8 then p q else rd_place rd' q) = _ ∨ _ ∧ (if q < 8 then p q else rd_place rd' q) = _
    by_cases c : q < 8
    · rw [if_pos c, a3 q c]; exact h1 q
    · rw [if_neg c]; exact Or.inl rfl
  · have : rd' = _ := (Option.some.inj e).symm
    rw [this]
    exact pu_RCc h h2 (fun s hs => pu_cp hs) (fun s hs => if_pos hs) (fun s hs => pu_cp hs) (fun s hs => pu_cp hs) (fun s hs => pu_cp hs) (fun s hs => pu_cp hs) (fun _ _ => rfl)
  · exact (pu_copyO h a2 a3 a4).2.2 _ h3
theorem pu_RXsit (h : pu_GP pl) (hB : pu_RB pl bu) {looks : LooksT} {rd : RideT} {w : WT} (hX : pu_RX pl looks rd (yW_r w)) (mo : MOT) {r s : Nat} (hr : r < vN pl) (hs : s < 20) (hsv : vSeat pl s = true) (hsn : sc_sitter (rd_scene rd) s = -2) (hv : rd_place rd r = 100) : ∃ rd2 w2, f_X6_sitDown rd pl (nI r) (nI s) = some rd2 ∧ f_X12_sitsDown mo w bu (nI r) (nI s) = some w2 ∧ pu_RX pl looks rd2 (yW_r w2) ∧ rd_place rd2 = upd (rd_place rd) r (nI s) ∧ (∀ q, q < vN pl → q ≠ r → yW_r w2 q = yW_r w q) ∧ yW_r w2 r = nI s := by
  have hn := h.n31
  obtain ⟨p, h1, h2, h3⟩ := hX
  have v0 : vSits (rd_set_place rd p) r = false := by
    unfold vSits
    show decide (¬ (20 : Int32) ≤ p r) = false
    rcases h1 r with e | ⟨_, e⟩
    · rw [e, hv]; decide
    · rw [e]; decide
  obtain ⟨rd2, w2, e1, e2, e3, e4, e5, e6, _, _⟩ := pu_sitDown h hB h2 mo hr hs hsv hsn v0
  rw [pu_sitP h h1 (nI r) hs, nI_clamp (by omega)] at e1
  cases hy : f_X6_sitDown rd pl (nI r) (nI s) with
  | none => rw [hy] at e1; cases e1
  | some y =>
    rw [hy] at e1
    have ey : rd_set_place y (upd p r (nI s)) = rd2 := Option.some.inj e1
    have epl := pu_sitPl h hs hy
    rw [nI_clamp (by omega)] at epl
    refine ⟨y, w2, rfl, e2, ⟨upd p r (nI s), ?_, ?_, ?_⟩, epl, ?_, ?_⟩
    · intro q
      rw [epl]
      by_cases c : q = r
      · subst c; rw [pu_upS, pu_upS]; exact Or.inl rfl
      · rw [pu_upN _ _ c, pu_upN _ _ c]; exact h1 q
    · rw [ey]; exact e3
    · have el : sc_looks (rd_scene y) = sc_looks (rd_scene rd) := by
        rw [← ey] at e6
        exact e6
      refine ⟨fun q hq => ?_, ?_⟩
      · rw [el]; exact h3.1 q hq
      · rw [el]; exact h3.2
    · intro q hq hne
      rw [e3.pla q hq, e4, h2.pla q hq]
      exact pu_upN _ _ hne
    · rw [e3.pla r hr, e4]
      exact pu_upS _ _ _
/-- one who stands -/
theorem pu_RXst (h : pu_GP pl) {looks : LooksT} {rd : RideT} {w : WT} (hX : pu_RX pl looks rd (yW_r w)) {r : Nat} (hr : r < vN pl) (hv : rd_place rd r = 100) : pu_RX pl looks rd (upd (yW_r w) r 101) := by
  obtain ⟨p, h1, h2, h3⟩ := hX
  have v0 : vSits (rd_set_place rd p) r = false := by
    unfold vSits
    show decide (¬ (20 : Int32) ≤ p r) = false
    rcases h1 r with e | ⟨_, e⟩
    · rw [e, hv]; decide
    · rw [e]; decide
  refine ⟨upd p r 101, ?_, pu_stand h h2 hr v0, h3⟩
  intro q
  by_cases c : q = r
  · subst c; rw [pu_upS]; exact Or.inr ⟨hv, rfl⟩
  · rw [pu_upN _ _ c]; exact h1 q
end PG
