/-! films, mondays: a scene that is only thought of -/
section PN
variable {pl : PlanT} {bu : BusT} {rd : RideT} {w : WT} {tp : TopT}
theorem pu_empty (sc : SceneT) : ∃ sc2, f_X9_empty sc = some sc2 ∧ (∀ s, s < 20 → sc_sitter sc2 s = -2) ∧ sc_looks sc2 = upd (sc_looks sc) 8 5 := by
  rw [f_X9_empty]
  refine pu_for (fun n i (a : SceneT) => f_X9_empty_b7 n i a) 20 (fun i a => (∀ s, s < i → sc_sitter a s = -2) ∧ sc_looks a = sc_looks sc) (fun o => ∃ sc2, o = some sc2 ∧ (∀ s, s < 20 → sc_sitter sc2 s = -2) ∧ sc_looks sc2 = upd (sc_looks sc) 8 5) ?_ ?_ 20 0 sc 4096 (by omega) (by omega) ⟨fun s hs => absurd hs (by omega), rfl⟩
  · intro n i a hi hI
    refine Or.inl ?_
    show ∃ a', f_X9_empty_b7 (n + 1) (nI i) a = _ ∧ _
    rw [f_X9_empty_b7, if_neg (pu_ge20 hi), if_pos (pu_inn hi (by omega)), nI_clamp (by omega), nI_1]
    refine ⟨_, rfl, fun s hs => ?_, hI.2⟩
    show upd (sc_sitter a) i (-2) s = -2
    by_cases q : s = i
    · subst q; exact pk_us
    · rw [pk_un q]; exact hI.1 s (by omega)
  · intro n a hI
    show ∃ sc2, f_X9_empty_b7 (n + 1) (nI 20) a = _ ∧ _
    have e8 : ((8 : Int32)).toNatClampNeg = 8 := by decide
    have i8 : kb_in? (8 : Int32) 9 := by decide
    rw [f_X9_empty_b7, if_pos pu_le20, if_pos i8, e8]
    refine ⟨_, rfl, hI.1, ?_⟩
    show upd (sc_looks a) 8 5 = _
    rw [hI.2]
/-- what was filmed, on both sides -/
def pu_RM (pl : PlanT) (fm : FilmsT) (mo : MOT) (ft fs : Nat → Int32) : Prop := (fm_count fm = mo_films mo ∧ ∃ f, f ≤ 12 ∧ fm_count fm = nI f) ∧ (∀ i f, fm_count fm = nI f → f ≤ 12 → i < f → fm_taken fm i = ft i) ∧ (∀ i f, fm_count fm = nI f → f ≤ 12 → i < f → fm_chosen fm i = fs i ∧ ∃ c, c < 20 ∧ fs i = nI c)
theorem pu_RM.cnt {pl : PlanT} {fm : FilmsT} {mo : MOT} {ft fs : Nat → Int32} (h : pu_RM pl fm mo ft fs) : fm_count fm = mo_films mo ∧ ∃ f, f ≤ 12 ∧ fm_count fm = nI f := h.1
theorem pu_RM.tak {pl : PlanT} {fm : FilmsT} {mo : MOT} {ft fs : Nat → Int32} (h : pu_RM pl fm mo ft fs) : ∀ i f, fm_count fm = nI f → f ≤ 12 → i < f → fm_taken fm i = ft i := h.2.1
theorem pu_RM.cho {pl : PlanT} {fm : FilmsT} {mo : MOT} {ft fs : Nat → Int32} (h : pu_RM pl fm mo ft fs) : ∀ i f, fm_count fm = nI f → f ≤ 12 → i < f → fm_chosen fm i = fs i ∧ ∃ c, c < 20 ∧ fs i = nI c := h.2.2
theorem pu_agreeing (h : pu_GP pl) (hB : pu_RB pl bu) {fm : FilmsT} {mo : MOT} {ft : FTakenT} {fs : FSeatT} (hF : pu_RM pl fm mo (yFTaken_r ft) (yFSeat_r fs)) (sn : SceneT) (who : WhoT) (look : LookT) {ri : Nat} (hri : ri < vR pl) :
    ∃ v sn2 who2 look2, f_X2_agreeing fm (pl_cab pl) (pl_rules pl) sn ri = some (v, sn2) ∧ f_X12_agreeing mo who look ft fs bu (nI ri) = some (v, who2, look2) ∧ ∃ k, k ≤ 12 ∧ v = nI k := by
  obtain ⟨f, hf, ef⟩ := hF.cnt.2
  have em : mo_films mo = nI f := hF.cnt.1.symm.trans ef
  have hR4 := h.rules.2
  rw [f_X2_agreeing, f_X12_agreeing]
  refine pu_for2 (fun n i (a : Int32 × SceneT) => f_X2_agreeing_b6 fm (pl_cab pl) (pl_rules pl) n ri a.1 i a.2) (fun n i (c : Int32 × WhoT × LookT) => f_X12_agreeing_b4 mo ft fs bu n (nI ri) c.1 i c.2.1 c.2.2) f (fun i a c => a.1 = c.1 ∧ ∃ k, k ≤ i ∧ a.1 = nI k)
    (fun o o2 => ∃ v sn2 who2 look2, o = some (v, sn2) ∧ o2 = some (v, who2, look2) ∧ ∃ k, k ≤ 12 ∧ v = nI k) ?_ ?_ f 0 (0, sn) (0, who, look) 4096 (by omega) (by omega) ⟨rfl, 0, Nat.le_refl _, rfl⟩
  · intro n i a c hi hI
    obtain ⟨v, z3⟩ := a
    obtain ⟨v2, wh, lk⟩ := c
    obtain ⟨e, k, hk, ek⟩ := hI
    have e : v = v2 := e
    have ek : v = nI k := ek
    subst e
    refine Or.inl ?_
    obtain ⟨sc0, e0, s1, s2⟩ := pu_empty z3
    have ht := hF.tak i f ef hf hi
    obtain ⟨hc, cc, hcc, ecc⟩ := hF.cho i f ef hf hi
    show ∃ a' c', f_X2_agreeing_b6 fm (pl_cab pl) (pl_rules pl) (n + 1) ri v (nI i) z3 = _ ∧ f_X12_agreeing_b4 mo ft fs bu (n + 1) (nI ri) v (nI i) wh lk = _ ∧ _
    rw [f_X2_agreeing_b6, ef, if_neg (nI_ge hi (by omega)), e0, pu_sb, f_X12_agreeing_b4, em, if_neg (nI_ge hi (by omega))]
    refine pu_for2 (fun m j (a : SceneT) => f_X2_agreeing_b23 fm (pl_cab pl) (pl_rules pl) (f_X2_agreeing_b6 fm (pl_cab pl) (pl_rules pl) n) m ri v (nI i) j a) (fun m j (c : WhoT × LookT) => f_X12_agreeing_b15 mo ft fs bu (f_X12_agreeing_b4 mo ft fs bu n) m (nI ri) v (nI i) j c.1 c.2) 20
      (fun j a c => sc_looks a 8 = 5 ∧ (∀ s, s < 20 → j ≤ s → sc_sitter a s = -2) ∧ ∀ s, s < j → s < 20 → (sc_sitter a s = -2 ∧ yWho_r c.1 s = -2) ∨ (sc_sitter a s = nI 8 ∧ yWho_r c.1 s = nI 99 ∧ yLook_r c.2 s = 5))
      (fun o o2 => ∃ (a' : Int32 × SceneT) (c' : Int32 × WhoT × LookT), o = f_X2_agreeing_b6 fm (pl_cab pl) (pl_rules pl) n ri a'.1 (nI (i + 1)) a'.2 ∧ o2 = f_X12_agreeing_b4 mo ft fs bu n (nI ri) c'.1 (nI (i + 1)) c'.2.1 c'.2.2 ∧ a'.1 = c'.1 ∧ ∃ k, k ≤ i + 1 ∧ a'.1 = nI k) ?_ ?_ 20 0 sc0 (wh, lk) 4096 (by omega) (by omega) ⟨by rw [s2]; exact pk_us, fun s hs _ => s1 s hs, fun s hs => absurd hs (by omega)⟩
    · intro m j a c hj hJ
      obtain ⟨w3, l3⟩ := c
      obtain ⟨j1, j2, j3⟩ := hJ
      refine Or.inl ?_
      show ∃ a' c', f_X2_agreeing_b23 fm (pl_cab pl) (pl_rules pl) _ (m + 1) ri v (nI i) (nI j) a = _ ∧ f_X12_agreeing_b15 mo ft fs bu _ (m + 1) (nI ri) v (nI i) (nI j) w3 l3 = _ ∧ _
      rw [f_X2_agreeing_b23, if_neg (pu_ge20 hj), f_X12_agreeing_b15, if_neg (pu_ge20 hj)]
      simp only [if_pos (pu_inn (c := i) (N := 12) (by omega) (by omega)), nI_clamp (show i < 2 ^ 31 by omega), ht, pu_hb _ (show j < 32 by omega), pu_has _ (show j < 32 by omega), pu_sb, pu_ifb, if_pos (pu_inn (c := j) (N := 20) hj (by omega)), nI_clamp (show j < 2 ^ 31 by omega), f_X12_agreeing_b49, f_X12_agreeing_b50, f_X12_agreeing_b58, nI_1]
      have step : ∀ (a2 : SceneT) (w2 : WhoT), sc_looks a2 8 = 5 → (∀ s, s < 20 → s ≠ j → sc_sitter a2 s = sc_sitter a s) → (∀ s, s < 20 → s ≠ j → yWho_r w2 s = yWho_r w3 s) → ((sc_sitter a2 j = -2 ∧ yWho_r w2 j = -2) ∨ (sc_sitter a2 j = nI 8 ∧ yWho_r w2 j = nI 99)) → sc_looks a2 8 = 5 ∧ (∀ s, s < 20 → j + 1 ≤ s → sc_sitter a2 s = -2) ∧ ∀ s, s < j + 1 → s < 20 → (sc_sitter a2 s = -2 ∧ yWho_r w2 s = -2) ∨ (sc_sitter a2 s = nI 8 ∧ yWho_r w2 s = nI 99 ∧ upd (yLook_r l3) j 5 s = 5) := by
        intro a2 w2 g1 g2 g3 g4
        refine ⟨g1, fun s hs hjs => by rw [g2 s hs (by omega)]; exact j2 s hs (by omega), fun s hs hs2 => ?_⟩
        by_cases e : s = j
        · subst e
          rcases g4 with g4 | g4
          · exact Or.inl g4
          · exact Or.inr ⟨g4.1, g4.2, pk_us⟩
        · rw [g2 s hs2 e, g3 s hs2 e, pk_un e]
          exact j3 s (by omega) hs2
      cases q : bt (yFTaken_r ft i) j
      · rw [pu_ff, pu_ff]
        exact ⟨a, (_, _), rfl, rfl, step a (yWho_set_r w3 (upd (yWho_r w3) j (-2))) j1 (fun _ _ _ => rfl) (fun s _ e => pk_un e) (Or.inl ⟨j2 j hj (Nat.le_refl _), pk_us⟩)⟩
      · rw [pu_tt, pu_tt]
        exact ⟨_, (_, _), rfl, rfl, step (sc_set_sitter a (upd (sc_sitter a) j 8)) (yWho_set_r w3 (upd (yWho_r w3) j 99)) j1 (fun s _ e => pk_un e) (fun s _ e => pk_un e) (Or.inr ⟨pk_us, pk_us⟩)⟩
    · intro m a c hJ
      obtain ⟨w3, l3⟩ := c
      obtain ⟨j1, j2, j3⟩ := hJ
      have hS : pu_RS pl a (yWho_r w3) (yLook_r l3) := fun s hs => by
        rcases j3 s hs hs with x | x
        · exact Or.inl x
        · exact Or.inr (Or.inr ⟨x.1, x.2.1, by rw [x.2.2, j1]⟩)
      have hLS : pu_LS a := fun s hs => by
        rcases j3 s hs hs with x | x
        · exact Or.inl x.1
        · exact Or.inr ⟨8, by omega, x.1, 5, by omega, j1⟩
      obtain ⟨b, b1, b2, b3, _⟩ := pu_best h hB mo hS hLS (rider := -2) (fr := 0) (Or.inr ⟨rfl, rfl⟩) 5 ⟨5, by omega, rfl⟩ hri (lf := cb_seats (pl_cab pl) &&& (yFTaken_r ft i ^^^ (-1 : Int32))) (fun s hs => by
        rw [b_and, h.seats, pu_mk_bt _ 20 (by omega), Bool.and_eq_true, Bool.and_eq_true] at hs
        exact hs.1.2)
      show ∃ (a' : Int32 × SceneT) (c' : Int32 × WhoT × LookT), f_X2_agreeing_b23 fm (pl_cab pl) (pl_rules pl) _ (m + 1) ri v (nI i) (nI 20) a = _ ∧ f_X12_agreeing_b15 mo ft fs bu _ (m + 1) (nI ri) v (nI i) (nI 20) w3 l3 = _ ∧ _
      rw [f_X2_agreeing_b23, if_pos pu_le20, f_X12_agreeing_b15, if_pos pu_le20, pu_allSeatsM h hB mo, ← h.seats]
      simp only [if_pos (pu_inn (c := i) (N := 12) (by omega) (by omega)), nI_clamp (show i < 2 ^ 31 by omega), ht, pu_sb, b1, b2, hc, ecc, pu_hb _ (show cc < 32 by omega), pu_has _ (show cc < 32 by omega), pu_ifb, nI_1, Int32.add_zero]
      cases q : bt b cc
      · rw [pu_ff, pu_ff]
        exact ⟨(v, a), (v, w3, l3), rfl, rfl, rfl, k, by omega, ek⟩
      · rw [pu_tt, pu_tt]
        exact ⟨(v + 1, a), (v + 1, w3, l3), rfl, rfl, rfl, k + 1, by omega, by show v + 1 = _; rw [ek, nI_1]⟩
  · intro n a c hI
    obtain ⟨v, z3⟩ := a
    obtain ⟨v2, wh, lk⟩ := c
    obtain ⟨e, k, hk, ek⟩ := hI
    have e : v = v2 := e
    subst e
    show ∃ v2 sn2 who2 look2, f_X2_agreeing_b6 fm (pl_cab pl) (pl_rules pl) (n + 1) ri v (nI f) z3 = _ ∧ f_X12_agreeing_b4 mo ft fs bu (n + 1) (nI ri) v (nI f) wh lk = _ ∧ _
    rw [f_X2_agreeing_b6, ef, if_pos (nI_le (Nat.le_refl _) (by omega)), f_X12_agreeing_b4, em, if_pos (nI_le (Nat.le_refl _) (by omega))]
    exact ⟨v, z3, wh, lk, rfl, rfl, k, by omega, ek⟩
theorem pu_agrees (h : pu_GP pl) (hB : pu_RB pl bu) {fm : FilmsT} {mo : MOT} {ft : FTakenT} {fs : FSeatT} (hF : pu_RM pl fm mo (yFTaken_r ft) (yFSeat_r fs)) (hb : tp_hasBus tp = 1) (sn : SceneT) (who : WhoT) (look : LookT) (x : Int32) :
    ∃ v t sn2 who2 look2, ¬ t = (4 : Int32) ∧ f_X10_agrees tp pl fm sn x = some (v, tp_set_latestTrouble tp t, sn2) ∧ f_X12_agrees mo who look ft fs bu x = some (v, pu_mt mo t, who2, look2) := by
  have hF' : pu_RM pl fm (mo_set_thrown mo 0) (yFTaken_r ft) (yFSeat_r fs) := hF
  have hR4 := h.rules.2
  rw [f_X10_agrees, f_X12_agrees, f_X12_agrees_b5]
  rcases pu_ruleX h hB hb (mo_set_thrown mo 0) x with ⟨r, hr, rfl, e1, e2⟩ | ⟨e1, e2⟩
  · obtain ⟨v, sn2, who2, look2, a1, a2, _⟩ := pu_agreeing h hB hF' sn who look hr
    rw [e1, e2, pu_sb, pu_sb, if_neg pu_10, if_neg pu_10, if_pos (pu_inn (by omega) (by omega)), nI_clamp (by omega), a1, a2, pu_sb, pu_sb]
    exact ⟨v, 0, sn2, who2, look2, by decide, rfl, rfl⟩
  · rw [e1, e2, pu_sb, pu_sb, if_pos rfl, if_pos rfl]
    exact ⟨_, 1, sn, who, look, by decide, rfl, rfl⟩
/-- how many films a rule agrees with, as a number -/
theorem pu_likely (h : pu_GP pl) (hB : pu_RB pl bu) {fm : FilmsT} {mo : MOT} {ft : FTakenT} {fs : FSeatT} (hF : pu_RM pl fm mo (yFTaken_r ft) (yFSeat_r fs)) (hb : tp_hasBus tp = 1) (sn : SceneT) (who : WhoT) (look : LookT) :
    ∃ v t sn2 who2 look2, ¬ t = (4 : Int32) ∧ f_X10_likely tp pl fm sn = some (v, tp_set_latestTrouble tp t, sn2) ∧ f_X12_likely mo who look ft fs bu = some (v, pu_mt mo t, who2, look2) := by
  have hF' : pu_RM pl fm (mo_set_thrown mo 0) (yFTaken_r ft) (yFSeat_r fs) := hF
  have hR4 := h.rules.2
  rw [f_X10_likely, f_X12_likely, f_X12_likely_b5, hb, if_neg pu_10]
  have ef : mo_films (mo_set_thrown mo 0) = fm_count fm := hF.cnt.1.symm
  rw [ef]
  by_cases c0 : fm_count fm = 0
  · rw [if_pos c0, if_pos c0]
    exact ⟨_, 6, sn, who, look, by decide, rfl, rfl⟩
  · rw [if_neg c0, if_neg c0]
    -- the first rule: above -1
    obtain ⟨v0, sn0, who0, look0, a1, a2, k0, hk0, ek0⟩ := pu_agreeing h hB hF' sn who look (ri := 0) (by omega)
    have first : f_X10_likely_b36 pl fm 4096 (-1) (-1) 0 tp sn = f_X10_likely_b36 pl fm 4095 0 v0 (nI 1) tp sn0 := by
      show f_X10_likely_b36 pl fm (4095 + 1) (-1) (-1) (nI 0) tp sn = _
      rw [f_X10_likely_b36, h.rules.1, if_neg (nI_ge (by omega) (by omega)), if_pos (pu_inn (by omega) (by omega)), nI_clamp (by omega), a1, pu_sb]
      show (if v0 ≤ (-1 : Int32) then _ else _) = _
      rw [if_neg (by
        rw [ek0]
        exact fun z => absurd (Int32.le_trans (nI_pos' (by omega)) z) (by decide)), nI_1]
      rfl
    rw [first]
    -- the others: against the likeliest so far
    have go : ∀ (m i b : Nat) (vb : Int32) (sn1 : SceneT) (who1 : WhoT) (look1 : LookT) (f1 f2 : Nat), i + m = vR pl → m < f1 → m < f2 → b < vR pl → (∀ sn who look, ∃ sn2 who2 look2, f_X2_agreeing fm (pl_cab pl) (pl_rules pl) sn b = some (vb, sn2) ∧ f_X12_agreeing (mo_set_thrown mo 0) who look ft fs bu (nI b) = some (vb, who2, look2)) → ∃ v sn2 who2 look2, f_X10_likely_b36 pl fm f1 (nI b) vb (nI i) tp sn1 = some (v, tp_set_latestTrouble tp 0, sn2) ∧ f_X12_likely_b36 ft fs bu f2 (nI b) (nI i) (mo_set_thrown mo 0) who1 look1 = some (v, pu_mt mo 0, who2, look2) := by
      intro m
      induction m with
      | zero =>
        intro i b vb sn1 who1 look1 f1 f2 hi h1 h2 hbn hg
        obtain ⟨f1, rfl⟩ : ∃ q, f1 = q + 1 := ⟨f1 - 1, by omega⟩
        obtain ⟨f2, rfl⟩ : ∃ q, f2 = q + 1 := ⟨f2 - 1, by omega⟩
        rw [f_X10_likely_b36, f_X12_likely_b36, hB.rules, h.rules.1, if_pos (nI_le (by omega) (by omega)), if_pos (nI_le (by omega) (by omega))]
        exact ⟨nI b, sn1, who1, look1, rfl, rfl⟩
      | succ m ih =>
        intro i b vb sn1 who1 look1 f1 f2 hi h1 h2 hbn hg
        obtain ⟨f1, rfl⟩ : ∃ q, f1 = q + 1 := ⟨f1 - 1, by omega⟩
        obtain ⟨f2, rfl⟩ : ∃ q, f2 = q + 1 := ⟨f2 - 1, by omega⟩
        obtain ⟨v1, sn2, who2, look2, b1, b2, _⟩ := pu_agreeing h hB hF' sn1 who1 look1 (ri := i) (by omega)
        obtain ⟨_, who3, look3, _, d2⟩ := hg sn1 who2 look2
        have always : ∀ sn who look, ∃ sn2 who2 look2, f_X2_agreeing fm (pl_cab pl) (pl_rules pl) sn i = some (v1, sn2) ∧ f_X12_agreeing (mo_set_thrown mo 0) who look ft fs bu (nI i) = some (v1, who2, look2) := by
          intro sn who look
          obtain ⟨va, sna, whoa, looka, x1, x2, _⟩ := pu_agreeing h hB hF' sn1 who look (ri := i) (by omega)
          obtain ⟨vb, snb, whob, lookb, y1, y2, _⟩ := pu_agreeing h hB hF' sn who look (ri := i) (by omega)
          have e1 : v1 = va := congrArg Prod.fst (Option.some.inj (b1.symm.trans x1))
          have e2 : va = vb := congrArg Prod.fst (Option.some.inj (x2.symm.trans y2))
          rw [e1, e2]
          exact ⟨snb, whob, lookb, y1, y2⟩
        rw [f_X10_likely_b36, f_X12_likely_b36, hB.rules, h.rules.1, if_neg (nI_ge (by omega) (by omega)), if_neg (nI_ge (by omega) (by omega)), if_pos (pu_inn (by omega) (by omega)), nI_clamp (by omega), b1, pu_sb, b2, pu_sb, d2, pu_sb, nI_1]
        by_cases c : v1 ≤ vb
        · show ∃ v sn2_ who2_ look2_, (if v1 ≤ vb then _ else _) = some (v, _, sn2_) ∧ (if v1 ≤ vb then _ else _) = some (v, _, who2_, look2_)
          rw [if_pos c, if_pos c]
          exact ih (i + 1) b vb sn2 who3 look3 f1 f2 (by omega) (by omega) (by omega) hbn hg
        · show ∃ v sn2_ who2_ look2_, (if v1 ≤ vb then _ else _) = some (v, _, sn2_) ∧ (if v1 ≤ vb then _ else _) = some (v, _, who2_, look2_)
          rw [if_neg c, if_neg c]
          exact ih (i + 1) i v1 sn2 who3 look3 f1 f2 (by omega) (by omega) (by omega) (by omega) always
    obtain ⟨v, sn2, who2, look2, g1, g2⟩ := go (vR pl - 1) 1 0 v0 sn0 who look 4095 4096 (by omega) (by omega) (by omega) (by omega) (by
      intro sn1 who1 look1
      obtain ⟨va, sna, whoa, looka, x1, x2, _⟩ := pu_agreeing h hB hF' sn who1 look1 (ri := 0) (by omega)
      obtain ⟨vb, snb, whob, lookb, y1, y2, _⟩ := pu_agreeing h hB hF' sn1 who1 look1 (ri := 0) (by omega)
      have e1 : v0 = va := congrArg Prod.fst (Option.some.inj (a1.symm.trans x1))
      have e2 : va = vb := congrArg Prod.fst (Option.some.inj (x2.symm.trans y2))
      rw [e1, e2]
      exact ⟨snb, whob, lookb, y1, y2⟩)
    exact ⟨v, 0, sn2, who2, look2, by decide, g1, g2⟩
end PN
